theorem dX12_thrown_0 : decode cX12_thrown 0 = .ok (.aload_n 0, 1) := by decide +kernel
theorem dX12_thrown_1 : decode cX12_thrown 1 = .ok (.getfield 3, 3) := by decide +kernel
theorem dX12_thrown_4 : decode cX12_thrown 4 = .ok (.ireturn, 1) := by decide +kernel
theorem dX12_throwsIf_0 : decode cX12_throwsIf 0 = .ok (.iload_n 1, 1) := by decide +kernel
theorem dX12_throwsIf_1 : decode cX12_throwsIf 1 = .ok (.ifCond .eq 8, 3) := by decide +kernel
theorem dX12_throwsIf_4 : decode cX12_throwsIf 4 = .ok (.aload_n 0, 1) := by decide +kernel
theorem dX12_throwsIf_5 : decode cX12_throwsIf 5 = .ok (.iload_n 2, 1) := by decide +kernel
theorem dX12_throwsIf_6 : decode cX12_throwsIf 6 = .ok (.putfield 3, 3) := by decide +kernel
theorem dX12_throwsIf_9 : decode cX12_throwsIf 9 = .ok (.iload_n 1, 1) := by decide +kernel
theorem dX12_throwsIf_10 : decode cX12_throwsIf 10 = .ok (.ireturn, 1) := by decide +kernel
theorem dX12_in_0 : decode cX12_in 0 = .ok (.iload_n 0, 1) := by decide +kernel
theorem dX12_in_1 : decode cX12_in 1 = .ok (.iload_n 1, 1) := by decide +kernel
theorem dX12_in_2 : decode cX12_in 2 = .ok (.if_icmp .lt 12, 3) := by decide +kernel
theorem dX12_in_5 : decode cX12_in 5 = .ok (.iload_n 0, 1) := by decide +kernel
theorem dX12_in_6 : decode cX12_in 6 = .ok (.iload_n 2, 1) := by decide +kernel
theorem dX12_in_7 : decode cX12_in 7 = .ok (.if_icmp .gt 7, 3) := by decide +kernel
theorem dX12_in_10 : decode cX12_in 10 = .ok (.iconst 1, 1) := by decide +kernel
theorem dX12_in_11 : decode cX12_in 11 = .ok (.goto 4, 3) := by decide +kernel
theorem dX12_in_14 : decode cX12_in 14 = .ok (.iconst 0, 1) := by decide +kernel
theorem dX12_in_15 : decode cX12_in 15 = .ok (.ireturn, 1) := by decide +kernel
theorem dX12_has_0 : decode cX12_has 0 = .ok (.iload_n 0, 1) := by decide +kernel
theorem dX12_has_1 : decode cX12_has 1 = .ok (.iload_n 1, 1) := by decide +kernel
theorem dX12_has_2 : decode cX12_has 2 = .ok (.ishr, 1) := by decide +kernel
theorem dX12_has_3 : decode cX12_has 3 = .ok (.iconst 1, 1) := by decide +kernel
theorem dX12_has_4 : decode cX12_has 4 = .ok (.iand, 1) := by decide +kernel
theorem dX12_has_5 : decode cX12_has 5 = .ok (.iconst 1, 1) := by decide +kernel
theorem dX12_has_6 : decode cX12_has 6 = .ok (.if_icmp .ne 7, 3) := by decide +kernel
theorem dX12_has_9 : decode cX12_has 9 = .ok (.iconst 1, 1) := by decide +kernel
theorem dX12_has_10 : decode cX12_has 10 = .ok (.goto 4, 3) := by decide +kernel
theorem dX12_has_13 : decode cX12_has 13 = .ok (.iconst 0, 1) := by decide +kernel
theorem dX12_has_14 : decode cX12_has 14 = .ok (.ireturn, 1) := by decide +kernel
theorem dX12_init_0 : decode cX12_init 0 = .ok (.aload_n 0, 1) := by decide +kernel
theorem dX12_init_1 : decode cX12_init 1 = .ok (.invokespecial 7, 3) := by decide +kernel
theorem dX12_init_4 : decode cX12_init 4 = .ok (.aload_n 0, 1) := by decide +kernel
theorem dX12_init_5 : decode cX12_init 5 = .ok (.sipush 2173, 3) := by decide +kernel
theorem dX12_init_8 : decode cX12_init 8 = .ok (.newarray .int, 2) := by decide +kernel
theorem dX12_init_10 : decode cX12_init 10 = .ok (.putfield 13, 3) := by decide +kernel
theorem dX12_init_13 : decode cX12_init 13 = .ok (.aload_n 0, 1) := by decide +kernel
theorem dX12_init_14 : decode cX12_init 14 = .ok (.sipush 1324, 3) := by decide +kernel
theorem dX12_init_17 : decode cX12_init 17 = .ok (.newarray .int, 2) := by decide +kernel
theorem dX12_init_19 : decode cX12_init 19 = .ok (.putfield 17, 3) := by decide +kernel
theorem dX12_init_22 : decode cX12_init 22 = .ok (.aload_n 0, 1) := by decide +kernel
theorem dX12_init_23 : decode cX12_init 23 = .ok (.sipush 1324, 3) := by decide +kernel
theorem dX12_init_26 : decode cX12_init 26 = .ok (.newarray .int, 2) := by decide +kernel
theorem dX12_init_28 : decode cX12_init 28 = .ok (.putfield 20, 3) := by decide +kernel
theorem dX12_init_31 : decode cX12_init 31 = .ok (.aload_n 0, 1) := by decide +kernel
theorem dX12_init_32 : decode cX12_init 32 = .ok (.sipush 475, 3) := by decide +kernel
theorem dX12_init_35 : decode cX12_init 35 = .ok (.newarray .int, 2) := by decide +kernel
theorem dX12_init_37 : decode cX12_init 37 = .ok (.putfield 23, 3) := by decide +kernel
theorem dX12_init_40 : decode cX12_init 40 = .ok (.aload_n 0, 1) := by decide +kernel
theorem dX12_init_41 : decode cX12_init 41 = .ok (.sipush 5700, 3) := by decide +kernel
theorem dX12_init_44 : decode cX12_init 44 = .ok (.newarray .int, 2) := by decide +kernel
theorem dX12_init_46 : decode cX12_init 46 = .ok (.putfield 26, 3) := by decide +kernel
theorem dX12_init_49 : decode cX12_init 49 = .ok (.aload_n 0, 1) := by decide +kernel
theorem dX12_init_50 : decode cX12_init 50 = .ok (.sipush 400, 3) := by decide +kernel
theorem dX12_init_53 : decode cX12_init 53 = .ok (.newarray .byte, 2) := by decide +kernel
theorem dX12_init_55 : decode cX12_init 55 = .ok (.putfield 29, 3) := by decide +kernel
theorem dX12_init_58 : decode cX12_init 58 = .ok (.aload_n 0, 1) := by decide +kernel
theorem dX12_init_59 : decode cX12_init 59 = .ok (.iconst (-1), 1) := by decide +kernel
theorem dX12_init_60 : decode cX12_init 60 = .ok (.putfield 33, 3) := by decide +kernel
theorem dX12_init_63 : decode cX12_init 63 = .ok (.aload_n 0, 1) := by decide +kernel
theorem dX12_init_64 : decode cX12_init 64 = .ok (.iconst 5, 1) := by decide +kernel
theorem dX12_init_65 : decode cX12_init 65 = .ok (.newarray .int, 2) := by decide +kernel
theorem dX12_init_67 : decode cX12_init 67 = .ok (.putfield 36, 3) := by decide +kernel
theorem dX12_init_70 : decode cX12_init 70 = .ok (.aload_n 0, 1) := by decide +kernel
theorem dX12_init_71 : decode cX12_init 71 = .ok (.sipush 400, 3) := by decide +kernel
theorem dX12_init_74 : decode cX12_init 74 = .ok (.newarray .int, 2) := by decide +kernel
theorem dX12_init_76 : decode cX12_init 76 = .ok (.putfield 39, 3) := by decide +kernel
theorem dX12_init_79 : decode cX12_init 79 = .ok (.aload_n 0, 1) := by decide +kernel
theorem dX12_init_80 : decode cX12_init 80 = .ok (.sipush 434, 3) := by decide +kernel
theorem dX12_init_83 : decode cX12_init 83 = .ok (.newarray .int, 2) := by decide +kernel
theorem dX12_init_85 : decode cX12_init 85 = .ok (.putfield 42, 3) := by decide +kernel
theorem dX12_init_88 : decode cX12_init 88 = .ok (.aload_n 0, 1) := by decide +kernel
theorem dX12_init_89 : decode cX12_init 89 = .ok (.sipush 1862, 3) := by decide +kernel
theorem dX12_init_92 : decode cX12_init 92 = .ok (.newarray .int, 2) := by decide +kernel
theorem dX12_init_94 : decode cX12_init 94 = .ok (.putfield 45, 3) := by decide +kernel
theorem dX12_init_97 : decode cX12_init 97 = .ok (.aload_n 0, 1) := by decide +kernel
theorem dX12_init_98 : decode cX12_init 98 = .ok (.bipush 14, 2) := by decide +kernel
theorem dX12_init_100 : decode cX12_init 100 = .ok (.newarray .int, 2) := by decide +kernel
theorem dX12_init_102 : decode cX12_init 102 = .ok (.putfield 48, 3) := by decide +kernel
theorem dX12_init_105 : decode cX12_init 105 = .ok (.aload_n 0, 1) := by decide +kernel
theorem dX12_init_106 : decode cX12_init 106 = .ok (.ldc 51, 2) := by decide +kernel
theorem dX12_init_108 : decode cX12_init 108 = .ok (.newarray .int, 2) := by decide +kernel
theorem dX12_init_110 : decode cX12_init 110 = .ok (.putfield 52, 3) := by decide +kernel
theorem dX12_init_113 : decode cX12_init 113 = .ok (.aload_n 0, 1) := by decide +kernel
theorem dX12_init_114 : decode cX12_init 114 = .ok (.bipush 14, 2) := by decide +kernel
theorem dX12_init_116 : decode cX12_init 116 = .ok (.newarray .int, 2) := by decide +kernel
theorem dX12_init_118 : decode cX12_init 118 = .ok (.putfield 55, 3) := by decide +kernel
theorem dX12_init_121 : decode cX12_init 121 = .ok (.aload_n 0, 1) := by decide +kernel
theorem dX12_init_122 : decode cX12_init 122 = .ok (.sipush 645, 3) := by decide +kernel
theorem dX12_init_125 : decode cX12_init 125 = .ok (.newarray .int, 2) := by decide +kernel
theorem dX12_init_127 : decode cX12_init 127 = .ok (.putfield 58, 3) := by decide +kernel
theorem dX12_init_130 : decode cX12_init 130 = .ok (.aload_n 0, 1) := by decide +kernel
theorem dX12_init_131 : decode cX12_init 131 = .ok (.getfield 13, 3) := by decide +kernel
theorem dX12_init_134 : decode cX12_init 134 = .ok (.iconst 2, 1) := by decide +kernel
theorem dX12_init_135 : decode cX12_init 135 = .ok (.bipush 60, 2) := by decide +kernel
theorem dX12_init_137 : decode cX12_init 137 = .ok (.iastore, 1) := by decide +kernel
theorem dX12_init_138 : decode cX12_init 138 = .ok (.aload_n 0, 1) := by decide +kernel
theorem dX12_init_139 : decode cX12_init 139 = .ok (.getfield 13, 3) := by decide +kernel
theorem dX12_init_142 : decode cX12_init 142 = .ok (.iconst 3, 1) := by decide +kernel
theorem dX12_init_143 : decode cX12_init 143 = .ok (.iconst 2, 1) := by decide +kernel
theorem dX12_init_144 : decode cX12_init 144 = .ok (.iastore, 1) := by decide +kernel
theorem dX12_init_145 : decode cX12_init 145 = .ok (.aload_n 0, 1) := by decide +kernel
theorem dX12_init_146 : decode cX12_init 146 = .ok (.getfield 13, 3) := by decide +kernel
theorem dX12_init_149 : decode cX12_init 149 = .ok (.iconst 4, 1) := by decide +kernel
theorem dX12_init_150 : decode cX12_init 150 = .ok (.bipush 12, 2) := by decide +kernel
theorem dX12_init_152 : decode cX12_init 152 = .ok (.iastore, 1) := by decide +kernel
theorem dX12_init_153 : decode cX12_init 153 = .ok (.aload_n 0, 1) := by decide +kernel
theorem dX12_init_154 : decode cX12_init 154 = .ok (.getfield 13, 3) := by decide +kernel
theorem dX12_init_157 : decode cX12_init 157 = .ok (.bipush 6, 2) := by decide +kernel
theorem dX12_init_159 : decode cX12_init 159 = .ok (.bipush 50, 2) := by decide +kernel
theorem dX12_init_161 : decode cX12_init 161 = .ok (.iastore, 1) := by decide +kernel
theorem dX12_init_162 : decode cX12_init 162 = .ok (.aload_n 0, 1) := by decide +kernel
theorem dX12_init_163 : decode cX12_init 163 = .ok (.getfield 13, 3) := by decide +kernel
theorem dX12_init_166 : decode cX12_init 166 = .ok (.bipush 12, 2) := by decide +kernel
theorem dX12_init_168 : decode cX12_init 168 = .ok (.iconst (-1), 1) := by decide +kernel
theorem dX12_init_169 : decode cX12_init 169 = .ok (.iastore, 1) := by decide +kernel
theorem dX12_init_170 : decode cX12_init 170 = .ok (.aload_n 0, 1) := by decide +kernel
theorem dX12_init_171 : decode cX12_init 171 = .ok (.getfield 13, 3) := by decide +kernel
theorem dX12_init_174 : decode cX12_init 174 = .ok (.bipush 14, 2) := by decide +kernel
theorem dX12_init_176 : decode cX12_init 176 = .ok (.iconst 1, 1) := by decide +kernel
theorem dX12_init_177 : decode cX12_init 177 = .ok (.iastore, 1) := by decide +kernel
theorem dX12_init_178 : decode cX12_init 178 = .ok (.return_, 1) := by decide +kernel
theorem dX12_image_0 : decode cX12_image 0 = .ok (.aload_n 0, 1) := by decide +kernel
theorem dX12_image_1 : decode cX12_image 1 = .ok (.iconst 0, 1) := by decide +kernel
theorem dX12_image_2 : decode cX12_image 2 = .ok (.putfield 3, 3) := by decide +kernel
theorem dX12_image_5 : decode cX12_image 5 = .ok (.iconst 0, 1) := by decide +kernel
theorem dX12_image_6 : decode cX12_image 6 = .ok (.istore_n 1, 1) := by decide +kernel
theorem dX12_image_7 : decode cX12_image 7 = .ok (.iload_n 1, 1) := by decide +kernel
theorem dX12_image_8 : decode cX12_image 8 = .ok (.sipush 1324, 3) := by decide +kernel
theorem dX12_image_11 : decode cX12_image 11 = .ok (.if_icmp .ge 21, 3) := by decide +kernel
theorem dX12_image_14 : decode cX12_image 14 = .ok (.aload_n 0, 1) := by decide +kernel
theorem dX12_image_15 : decode cX12_image 15 = .ok (.getfield 17, 3) := by decide +kernel
theorem dX12_image_18 : decode cX12_image 18 = .ok (.iload_n 1, 1) := by decide +kernel
theorem dX12_image_19 : decode cX12_image 19 = .ok (.aload_n 0, 1) := by decide +kernel
theorem dX12_image_20 : decode cX12_image 20 = .ok (.getfield 13, 3) := by decide +kernel
theorem dX12_image_23 : decode cX12_image 23 = .ok (.iload_n 1, 1) := by decide +kernel
theorem dX12_image_24 : decode cX12_image 24 = .ok (.iaload, 1) := by decide +kernel
theorem dX12_image_25 : decode cX12_image 25 = .ok (.iastore, 1) := by decide +kernel
theorem dX12_image_26 : decode cX12_image 26 = .ok (.iinc 1 1, 3) := by decide +kernel
theorem dX12_image_29 : decode cX12_image 29 = .ok (.goto (-22), 3) := by decide +kernel
theorem dX12_image_32 : decode cX12_image 32 = .ok (.aload_n 0, 1) := by decide +kernel
theorem dX12_image_33 : decode cX12_image 33 = .ok (.iconst 1, 1) := by decide +kernel
theorem dX12_image_34 : decode cX12_image 34 = .ok (.putfield 61, 3) := by decide +kernel
theorem dX12_image_37 : decode cX12_image 37 = .ok (.return_, 1) := by decide +kernel
theorem dX12_back_0 : decode cX12_back 0 = .ok (.aload_n 0, 1) := by decide +kernel
theorem dX12_back_1 : decode cX12_back 1 = .ok (.iconst 0, 1) := by decide +kernel
theorem dX12_back_2 : decode cX12_back 2 = .ok (.putfield 3, 3) := by decide +kernel
theorem dX12_back_5 : decode cX12_back 5 = .ok (.aload_n 0, 1) := by decide +kernel
theorem dX12_back_6 : decode cX12_back 6 = .ok (.getfield 61, 3) := by decide +kernel
theorem dX12_back_9 : decode cX12_back 9 = .ok (.ifCond .ne 5, 3) := by decide +kernel
theorem dX12_back_12 : decode cX12_back 12 = .ok (.iconst 0, 1) := by decide +kernel
theorem dX12_back_13 : decode cX12_back 13 = .ok (.ireturn, 1) := by decide +kernel
theorem dX12_back_14 : decode cX12_back 14 = .ok (.iconst 0, 1) := by decide +kernel
theorem dX12_back_15 : decode cX12_back 15 = .ok (.istore_n 1, 1) := by decide +kernel
theorem dX12_back_16 : decode cX12_back 16 = .ok (.iload_n 1, 1) := by decide +kernel
theorem dX12_back_17 : decode cX12_back 17 = .ok (.sipush 1324, 3) := by decide +kernel
theorem dX12_back_20 : decode cX12_back 20 = .ok (.if_icmp .ge 21, 3) := by decide +kernel
theorem dX12_back_23 : decode cX12_back 23 = .ok (.aload_n 0, 1) := by decide +kernel
theorem dX12_back_24 : decode cX12_back 24 = .ok (.getfield 13, 3) := by decide +kernel
theorem dX12_back_27 : decode cX12_back 27 = .ok (.iload_n 1, 1) := by decide +kernel
theorem dX12_back_28 : decode cX12_back 28 = .ok (.aload_n 0, 1) := by decide +kernel
theorem dX12_back_29 : decode cX12_back 29 = .ok (.getfield 17, 3) := by decide +kernel
theorem dX12_back_32 : decode cX12_back 32 = .ok (.iload_n 1, 1) := by decide +kernel
theorem dX12_back_33 : decode cX12_back 33 = .ok (.iaload, 1) := by decide +kernel
theorem dX12_back_34 : decode cX12_back 34 = .ok (.iastore, 1) := by decide +kernel
theorem dX12_back_35 : decode cX12_back 35 = .ok (.iinc 1 1, 3) := by decide +kernel
theorem dX12_back_38 : decode cX12_back 38 = .ok (.goto (-22), 3) := by decide +kernel
theorem dX12_back_41 : decode cX12_back 41 = .ok (.aload_n 0, 1) := by decide +kernel
theorem dX12_back_42 : decode cX12_back 42 = .ok (.iconst 0, 1) := by decide +kernel
theorem dX12_back_43 : decode cX12_back 43 = .ok (.putfield 65, 3) := by decide +kernel
theorem dX12_back_46 : decode cX12_back 46 = .ok (.iconst 1, 1) := by decide +kernel
theorem dX12_back_47 : decode cX12_back 47 = .ok (.ireturn, 1) := by decide +kernel
theorem dX12_remembers_0 : decode cX12_remembers 0 = .ok (.aload_n 0, 1) := by decide +kernel
theorem dX12_remembers_1 : decode cX12_remembers 1 = .ok (.getfield 65, 3) := by decide +kernel
theorem dX12_remembers_4 : decode cX12_remembers 4 = .ok (.bipush 12, 2) := by decide +kernel
theorem dX12_remembers_6 : decode cX12_remembers 6 = .ok (.if_icmp .ne 37, 3) := by decide +kernel
theorem dX12_remembers_9 : decode cX12_remembers 9 = .ok (.iconst 0, 1) := by decide +kernel
theorem dX12_remembers_10 : decode cX12_remembers 10 = .ok (.istore_n 1, 1) := by decide +kernel
theorem dX12_remembers_11 : decode cX12_remembers 11 = .ok (.iload_n 1, 1) := by decide +kernel
theorem dX12_remembers_12 : decode cX12_remembers 12 = .ok (.sipush 5225, 3) := by decide +kernel
theorem dX12_remembers_15 : decode cX12_remembers 15 = .ok (.if_icmp .ge 25, 3) := by decide +kernel
theorem dX12_remembers_18 : decode cX12_remembers 18 = .ok (.aload_n 0, 1) := by decide +kernel
theorem dX12_remembers_19 : decode cX12_remembers 19 = .ok (.getfield 26, 3) := by decide +kernel
theorem dX12_remembers_22 : decode cX12_remembers 22 = .ok (.iload_n 1, 1) := by decide +kernel
theorem dX12_remembers_23 : decode cX12_remembers 23 = .ok (.aload_n 0, 1) := by decide +kernel
theorem dX12_remembers_24 : decode cX12_remembers 24 = .ok (.getfield 26, 3) := by decide +kernel
theorem dX12_remembers_27 : decode cX12_remembers 27 = .ok (.iload_n 1, 1) := by decide +kernel
theorem dX12_remembers_28 : decode cX12_remembers 28 = .ok (.sipush 475, 3) := by decide +kernel
theorem dX12_remembers_31 : decode cX12_remembers 31 = .ok (.iadd, 1) := by decide +kernel
theorem dX12_remembers_32 : decode cX12_remembers 32 = .ok (.iaload, 1) := by decide +kernel
theorem dX12_remembers_33 : decode cX12_remembers 33 = .ok (.iastore, 1) := by decide +kernel
theorem dX12_remembers_34 : decode cX12_remembers 34 = .ok (.iinc 1 1, 3) := by decide +kernel
theorem dX12_remembers_37 : decode cX12_remembers 37 = .ok (.goto (-26), 3) := by decide +kernel
theorem dX12_remembers_40 : decode cX12_remembers 40 = .ok (.goto 13, 3) := by decide +kernel
theorem dX12_remembers_43 : decode cX12_remembers 43 = .ok (.aload_n 0, 1) := by decide +kernel
theorem dX12_remembers_44 : decode cX12_remembers 44 = .ok (.dup, 1) := by decide +kernel
theorem dX12_remembers_45 : decode cX12_remembers 45 = .ok (.getfield 65, 3) := by decide +kernel
theorem dX12_remembers_48 : decode cX12_remembers 48 = .ok (.iconst 1, 1) := by decide +kernel
theorem dX12_remembers_49 : decode cX12_remembers 49 = .ok (.iadd, 1) := by decide +kernel
theorem dX12_remembers_50 : decode cX12_remembers 50 = .ok (.putfield 65, 3) := by decide +kernel
theorem dX12_remembers_53 : decode cX12_remembers 53 = .ok (.iconst 0, 1) := by decide +kernel
theorem dX12_remembers_54 : decode cX12_remembers 54 = .ok (.istore_n 1, 1) := by decide +kernel
theorem dX12_remembers_55 : decode cX12_remembers 55 = .ok (.iload_n 1, 1) := by decide +kernel
theorem dX12_remembers_56 : decode cX12_remembers 56 = .ok (.sipush 475, 3) := by decide +kernel
theorem dX12_remembers_59 : decode cX12_remembers 59 = .ok (.if_icmp .ge 32, 3) := by decide +kernel
theorem dX12_remembers_62 : decode cX12_remembers 62 = .ok (.aload_n 0, 1) := by decide +kernel
theorem dX12_remembers_63 : decode cX12_remembers 63 = .ok (.getfield 26, 3) := by decide +kernel
theorem dX12_remembers_66 : decode cX12_remembers 66 = .ok (.sipush 475, 3) := by decide +kernel
theorem dX12_remembers_69 : decode cX12_remembers 69 = .ok (.aload_n 0, 1) := by decide +kernel
theorem dX12_remembers_70 : decode cX12_remembers 70 = .ok (.getfield 65, 3) := by decide +kernel
theorem dX12_remembers_73 : decode cX12_remembers 73 = .ok (.iconst 1, 1) := by decide +kernel
theorem dX12_remembers_74 : decode cX12_remembers 74 = .ok (.isub, 1) := by decide +kernel
theorem dX12_remembers_75 : decode cX12_remembers 75 = .ok (.imul, 1) := by decide +kernel
theorem dX12_remembers_76 : decode cX12_remembers 76 = .ok (.iload_n 1, 1) := by decide +kernel
theorem dX12_remembers_77 : decode cX12_remembers 77 = .ok (.iadd, 1) := by decide +kernel
theorem dX12_remembers_78 : decode cX12_remembers 78 = .ok (.aload_n 0, 1) := by decide +kernel
theorem dX12_remembers_79 : decode cX12_remembers 79 = .ok (.getfield 13, 3) := by decide +kernel
theorem dX12_remembers_82 : decode cX12_remembers 82 = .ok (.iload_n 1, 1) := by decide +kernel
theorem dX12_remembers_83 : decode cX12_remembers 83 = .ok (.iaload, 1) := by decide +kernel
theorem dX12_remembers_84 : decode cX12_remembers 84 = .ok (.iastore, 1) := by decide +kernel
theorem dX12_remembers_85 : decode cX12_remembers 85 = .ok (.iinc 1 1, 3) := by decide +kernel
theorem dX12_remembers_88 : decode cX12_remembers 88 = .ok (.goto (-33), 3) := by decide +kernel
theorem dX12_remembers_91 : decode cX12_remembers 91 = .ok (.return_, 1) := by decide +kernel
theorem dX12_undo_0 : decode cX12_undo 0 = .ok (.aload_n 0, 1) := by decide +kernel
theorem dX12_undo_1 : decode cX12_undo 1 = .ok (.iconst 0, 1) := by decide +kernel
theorem dX12_undo_2 : decode cX12_undo 2 = .ok (.putfield 3, 3) := by decide +kernel
theorem dX12_undo_5 : decode cX12_undo 5 = .ok (.aload_n 0, 1) := by decide +kernel
theorem dX12_undo_6 : decode cX12_undo 6 = .ok (.getfield 65, 3) := by decide +kernel
theorem dX12_undo_9 : decode cX12_undo 9 = .ok (.ifCond .ne 5, 3) := by decide +kernel
theorem dX12_undo_12 : decode cX12_undo 12 = .ok (.iconst 0, 1) := by decide +kernel
theorem dX12_undo_13 : decode cX12_undo 13 = .ok (.ireturn, 1) := by decide +kernel
theorem dX12_undo_14 : decode cX12_undo 14 = .ok (.aload_n 0, 1) := by decide +kernel
theorem dX12_undo_15 : decode cX12_undo 15 = .ok (.dup, 1) := by decide +kernel
theorem dX12_undo_16 : decode cX12_undo 16 = .ok (.getfield 65, 3) := by decide +kernel
theorem dX12_undo_19 : decode cX12_undo 19 = .ok (.iconst 1, 1) := by decide +kernel
theorem dX12_undo_20 : decode cX12_undo 20 = .ok (.isub, 1) := by decide +kernel
theorem dX12_undo_21 : decode cX12_undo 21 = .ok (.putfield 65, 3) := by decide +kernel
theorem dX12_undo_24 : decode cX12_undo 24 = .ok (.iconst 0, 1) := by decide +kernel
theorem dX12_undo_25 : decode cX12_undo 25 = .ok (.istore_n 1, 1) := by decide +kernel
theorem dX12_undo_26 : decode cX12_undo 26 = .ok (.iload_n 1, 1) := by decide +kernel
theorem dX12_undo_27 : decode cX12_undo 27 = .ok (.sipush 475, 3) := by decide +kernel
theorem dX12_undo_30 : decode cX12_undo 30 = .ok (.if_icmp .ge 30, 3) := by decide +kernel
theorem dX12_undo_33 : decode cX12_undo 33 = .ok (.aload_n 0, 1) := by decide +kernel
theorem dX12_undo_34 : decode cX12_undo 34 = .ok (.getfield 13, 3) := by decide +kernel
theorem dX12_undo_37 : decode cX12_undo 37 = .ok (.iload_n 1, 1) := by decide +kernel
theorem dX12_undo_38 : decode cX12_undo 38 = .ok (.aload_n 0, 1) := by decide +kernel
theorem dX12_undo_39 : decode cX12_undo 39 = .ok (.getfield 26, 3) := by decide +kernel
theorem dX12_undo_42 : decode cX12_undo 42 = .ok (.sipush 475, 3) := by decide +kernel
theorem dX12_undo_45 : decode cX12_undo 45 = .ok (.aload_n 0, 1) := by decide +kernel
theorem dX12_undo_46 : decode cX12_undo 46 = .ok (.getfield 65, 3) := by decide +kernel
theorem dX12_undo_49 : decode cX12_undo 49 = .ok (.imul, 1) := by decide +kernel
theorem dX12_undo_50 : decode cX12_undo 50 = .ok (.iload_n 1, 1) := by decide +kernel
theorem dX12_undo_51 : decode cX12_undo 51 = .ok (.iadd, 1) := by decide +kernel
theorem dX12_undo_52 : decode cX12_undo 52 = .ok (.iaload, 1) := by decide +kernel
theorem dX12_undo_53 : decode cX12_undo 53 = .ok (.iastore, 1) := by decide +kernel
theorem dX12_undo_54 : decode cX12_undo 54 = .ok (.iinc 1 1, 3) := by decide +kernel
theorem dX12_undo_57 : decode cX12_undo 57 = .ok (.goto (-31), 3) := by decide +kernel
theorem dX12_undo_60 : decode cX12_undo 60 = .ok (.iconst 1, 1) := by decide +kernel
theorem dX12_undo_61 : decode cX12_undo 61 = .ok (.ireturn, 1) := by decide +kernel
theorem dX12_signs_0 : decode cX12_signs 0 = .ok (.aload_n 0, 1) := by decide +kernel
theorem dX12_signs_1 : decode cX12_signs 1 = .ok (.getfield 13, 3) := by decide +kernel
theorem dX12_signs_4 : decode cX12_signs 4 = .ok (.iconst 0, 1) := by decide +kernel
theorem dX12_signs_5 : decode cX12_signs 5 = .ok (.iaload, 1) := by decide +kernel
theorem dX12_signs_6 : decode cX12_signs 6 = .ok (.ireturn, 1) := by decide +kernel
theorem dX12_letters_0 : decode cX12_letters 0 = .ok (.aload_n 0, 1) := by decide +kernel
theorem dX12_letters_1 : decode cX12_letters 1 = .ok (.getfield 13, 3) := by decide +kernel
theorem dX12_letters_4 : decode cX12_letters 4 = .ok (.iconst 1, 1) := by decide +kernel
theorem dX12_letters_5 : decode cX12_letters 5 = .ok (.iaload, 1) := by decide +kernel
theorem dX12_letters_6 : decode cX12_letters 6 = .ok (.ireturn, 1) := by decide +kernel
theorem dX12_gaps_0 : decode cX12_gaps 0 = .ok (.iconst 0, 1) := by decide +kernel
theorem dX12_gaps_1 : decode cX12_gaps 1 = .ok (.aload_n 0, 1) := by decide +kernel
theorem dX12_gaps_2 : decode cX12_gaps 2 = .ok (.invokevirtual 68, 3) := by decide +kernel
theorem dX12_gaps_5 : decode cX12_gaps 5 = .ok (.iconst 1, 1) := by decide +kernel
theorem dX12_gaps_6 : decode cX12_gaps 6 = .ok (.isub, 1) := by decide +kernel
theorem dX12_gaps_7 : decode cX12_gaps 7 = .ok (.invokestatic 72, 3) := by decide +kernel
theorem dX12_gaps_10 : decode cX12_gaps 10 = .ok (.ireturn, 1) := by decide +kernel
theorem dX12_writers_0 : decode cX12_writers 0 = .ok (.aload_n 0, 1) := by decide +kernel
theorem dX12_writers_1 : decode cX12_writers 1 = .ok (.getfield 13, 3) := by decide +kernel
theorem dX12_writers_4 : decode cX12_writers 4 = .ok (.bipush 7, 2) := by decide +kernel
theorem dX12_writers_6 : decode cX12_writers 6 = .ok (.iaload, 1) := by decide +kernel
theorem dX12_writers_7 : decode cX12_writers 7 = .ok (.ireturn, 1) := by decide +kernel
theorem dX12_ofSign_0 : decode cX12_ofSign 0 = .ok (.aload_n 0, 1) := by decide +kernel
theorem dX12_ofSign_1 : decode cX12_ofSign 1 = .ok (.getfield 13, 3) := by decide +kernel
theorem dX12_ofSign_4 : decode cX12_ofSign 4 = .ok (.bipush 15, 2) := by decide +kernel
theorem dX12_ofSign_6 : decode cX12_ofSign 6 = .ok (.bipush 12, 2) := by decide +kernel
theorem dX12_ofSign_8 : decode cX12_ofSign 8 = .ok (.iload_n 1, 1) := by decide +kernel
theorem dX12_ofSign_9 : decode cX12_ofSign 9 = .ok (.imul, 1) := by decide +kernel
theorem dX12_ofSign_10 : decode cX12_ofSign 10 = .ok (.iadd, 1) := by decide +kernel
theorem dX12_ofSign_11 : decode cX12_ofSign 11 = .ok (.iload_n 2, 1) := by decide +kernel
theorem dX12_ofSign_12 : decode cX12_ofSign 12 = .ok (.iadd, 1) := by decide +kernel
theorem dX12_ofSign_13 : decode cX12_ofSign 13 = .ok (.iaload, 1) := by decide +kernel
theorem dX12_ofSign_14 : decode cX12_ofSign 14 = .ok (.ireturn, 1) := by decide +kernel
theorem dX12_of_0 : decode cX12_of 0 = .ok (.aload_n 0, 1) := by decide +kernel
theorem dX12_of_1 : decode cX12_of 1 = .ok (.getfield 13, 3) := by decide +kernel
theorem dX12_of_4 : decode cX12_of 4 = .ok (.sipush 159, 3) := by decide +kernel
theorem dX12_of_7 : decode cX12_of 7 = .ok (.iconst 4, 1) := by decide +kernel
theorem dX12_of_8 : decode cX12_of 8 = .ok (.iload_n 1, 1) := by decide +kernel
theorem dX12_of_9 : decode cX12_of 9 = .ok (.imul, 1) := by decide +kernel
theorem dX12_of_10 : decode cX12_of 10 = .ok (.iadd, 1) := by decide +kernel
theorem dX12_of_11 : decode cX12_of 11 = .ok (.iload_n 2, 1) := by decide +kernel
theorem dX12_of_12 : decode cX12_of 12 = .ok (.iadd, 1) := by decide +kernel
theorem dX12_of_13 : decode cX12_of 13 = .ok (.iaload, 1) := by decide +kernel
theorem dX12_of_14 : decode cX12_of 14 = .ok (.ireturn, 1) := by decide +kernel
theorem dX12_sets_0 : decode cX12_sets 0 = .ok (.aload_n 0, 1) := by decide +kernel
theorem dX12_sets_1 : decode cX12_sets 1 = .ok (.getfield 13, 3) := by decide +kernel
theorem dX12_sets_4 : decode cX12_sets 4 = .ok (.sipush 159, 3) := by decide +kernel
theorem dX12_sets_7 : decode cX12_sets 7 = .ok (.iconst 4, 1) := by decide +kernel
theorem dX12_sets_8 : decode cX12_sets 8 = .ok (.iload_n 1, 1) := by decide +kernel
theorem dX12_sets_9 : decode cX12_sets 9 = .ok (.imul, 1) := by decide +kernel
theorem dX12_sets_10 : decode cX12_sets 10 = .ok (.iadd, 1) := by decide +kernel
theorem dX12_sets_11 : decode cX12_sets 11 = .ok (.iload_n 2, 1) := by decide +kernel
theorem dX12_sets_12 : decode cX12_sets 12 = .ok (.iadd, 1) := by decide +kernel
theorem dX12_sets_13 : decode cX12_sets 13 = .ok (.iload_n 3, 1) := by decide +kernel
theorem dX12_sets_14 : decode cX12_sets 14 = .ok (.iastore, 1) := by decide +kernel
theorem dX12_sets_15 : decode cX12_sets 15 = .ok (.return_, 1) := by decide +kernel
theorem dX12_its_0 : decode cX12_its 0 = .ok (.aload_n 0, 1) := by decide +kernel
theorem dX12_its_1 : decode cX12_its 1 = .ok (.aload_n 0, 1) := by decide +kernel
theorem dX12_its_2 : decode cX12_its 2 = .ok (.iload_n 1, 1) := by decide +kernel
theorem dX12_its_3 : decode cX12_its 3 = .ok (.iconst 0, 1) := by decide +kernel
theorem dX12_its_4 : decode cX12_its 4 = .ok (.invokevirtual 78, 3) := by decide +kernel
theorem dX12_its_7 : decode cX12_its 7 = .ok (.iload_n 2, 1) := by decide +kernel
theorem dX12_its_8 : decode cX12_its 8 = .ok (.invokevirtual 81, 3) := by decide +kernel
theorem dX12_its_11 : decode cX12_its 11 = .ok (.ireturn, 1) := by decide +kernel
theorem dX12_widthOf_0 : decode cX12_widthOf 0 = .ok (.iconst 1, 1) := by decide +kernel
theorem dX12_widthOf_1 : decode cX12_widthOf 1 = .ok (.aload_n 0, 1) := by decide +kernel
theorem dX12_widthOf_2 : decode cX12_widthOf 2 = .ok (.iload_n 1, 1) := by decide +kernel
theorem dX12_widthOf_3 : decode cX12_widthOf 3 = .ok (.iconst 1, 1) := by decide +kernel
theorem dX12_widthOf_4 : decode cX12_widthOf 4 = .ok (.invokevirtual 84, 3) := by decide +kernel
theorem dX12_widthOf_7 : decode cX12_widthOf 7 = .ok (.aload_n 0, 1) := by decide +kernel
theorem dX12_widthOf_8 : decode cX12_widthOf 8 = .ok (.iload_n 1, 1) := by decide +kernel
theorem dX12_widthOf_9 : decode cX12_widthOf 9 = .ok (.iconst 1, 1) := by decide +kernel
theorem dX12_widthOf_10 : decode cX12_widthOf 10 = .ok (.invokevirtual 78, 3) := by decide +kernel
theorem dX12_widthOf_13 : decode cX12_widthOf 13 = .ok (.isub, 1) := by decide +kernel
theorem dX12_widthOf_14 : decode cX12_widthOf 14 = .ok (.invokestatic 72, 3) := by decide +kernel
theorem dX12_widthOf_17 : decode cX12_widthOf 17 = .ok (.ireturn, 1) := by decide +kernel
theorem dX12_distance_0 : decode cX12_distance 0 = .ok (.aload_n 0, 1) := by decide +kernel
theorem dX12_distance_1 : decode cX12_distance 1 = .ok (.iload_n 1, 1) := by decide +kernel
theorem dX12_distance_2 : decode cX12_distance 2 = .ok (.iconst 3, 1) := by decide +kernel
theorem dX12_distance_3 : decode cX12_distance 3 = .ok (.invokevirtual 78, 3) := by decide +kernel
theorem dX12_distance_6 : decode cX12_distance 6 = .ok (.ireturn, 1) := by decide +kernel
theorem dX12_isPainted_0 : decode cX12_isPainted 0 = .ok (.aload_n 0, 1) := by decide +kernel
theorem dX12_isPainted_1 : decode cX12_isPainted 1 = .ok (.iload_n 1, 1) := by decide +kernel
theorem dX12_isPainted_2 : decode cX12_isPainted 2 = .ok (.iconst 2, 1) := by decide +kernel
theorem dX12_isPainted_3 : decode cX12_isPainted 3 = .ok (.invokevirtual 78, 3) := by decide +kernel
theorem dX12_isPainted_6 : decode cX12_isPainted 6 = .ok (.ifCond .lt 7, 3) := by decide +kernel
theorem dX12_isPainted_9 : decode cX12_isPainted 9 = .ok (.iconst 1, 1) := by decide +kernel
theorem dX12_isPainted_10 : decode cX12_isPainted 10 = .ok (.goto 4, 3) := by decide +kernel
theorem dX12_isPainted_13 : decode cX12_isPainted 13 = .ok (.iconst 0, 1) := by decide +kernel
theorem dX12_isPainted_14 : decode cX12_isPainted 14 = .ok (.ireturn, 1) := by decide +kernel
theorem dX12_noSign_0 : decode cX12_noSign 0 = .ok (.iload_n 1, 1) := by decide +kernel
theorem dX12_noSign_1 : decode cX12_noSign 1 = .ok (.iconst 0, 1) := by decide +kernel
theorem dX12_noSign_2 : decode cX12_noSign 2 = .ok (.aload_n 0, 1) := by decide +kernel
theorem dX12_noSign_3 : decode cX12_noSign 3 = .ok (.invokevirtual 87, 3) := by decide +kernel
theorem dX12_noSign_6 : decode cX12_noSign 6 = .ok (.iconst 1, 1) := by decide +kernel
theorem dX12_noSign_7 : decode cX12_noSign 7 = .ok (.isub, 1) := by decide +kernel
theorem dX12_noSign_8 : decode cX12_noSign 8 = .ok (.invokestatic 90, 3) := by decide +kernel
theorem dX12_noSign_11 : decode cX12_noSign 11 = .ok (.ifCond .ne 7, 3) := by decide +kernel
theorem dX12_noSign_14 : decode cX12_noSign 14 = .ok (.iconst 1, 1) := by decide +kernel
theorem dX12_noSign_15 : decode cX12_noSign 15 = .ok (.goto 4, 3) := by decide +kernel
theorem dX12_noSign_18 : decode cX12_noSign 18 = .ok (.iconst 0, 1) := by decide +kernel
theorem dX12_noSign_19 : decode cX12_noSign 19 = .ok (.ireturn, 1) := by decide +kernel
theorem dX12_noLetter_0 : decode cX12_noLetter 0 = .ok (.iload_n 1, 1) := by decide +kernel
theorem dX12_noLetter_1 : decode cX12_noLetter 1 = .ok (.iconst 0, 1) := by decide +kernel
theorem dX12_noLetter_2 : decode cX12_noLetter 2 = .ok (.aload_n 0, 1) := by decide +kernel
theorem dX12_noLetter_3 : decode cX12_noLetter 3 = .ok (.invokevirtual 68, 3) := by decide +kernel
theorem dX12_noLetter_6 : decode cX12_noLetter 6 = .ok (.iconst 1, 1) := by decide +kernel
theorem dX12_noLetter_7 : decode cX12_noLetter 7 = .ok (.isub, 1) := by decide +kernel
theorem dX12_noLetter_8 : decode cX12_noLetter 8 = .ok (.invokestatic 90, 3) := by decide +kernel
theorem dX12_noLetter_11 : decode cX12_noLetter 11 = .ok (.ifCond .ne 7, 3) := by decide +kernel
theorem dX12_noLetter_14 : decode cX12_noLetter 14 = .ok (.iconst 1, 1) := by decide +kernel
theorem dX12_noLetter_15 : decode cX12_noLetter 15 = .ok (.goto 4, 3) := by decide +kernel
theorem dX12_noLetter_18 : decode cX12_noLetter 18 = .ok (.iconst 0, 1) := by decide +kernel
theorem dX12_noLetter_19 : decode cX12_noLetter 19 = .ok (.ireturn, 1) := by decide +kernel
theorem dX12_noGap_0 : decode cX12_noGap 0 = .ok (.iload_n 1, 1) := by decide +kernel
theorem dX12_noGap_1 : decode cX12_noGap 1 = .ok (.iconst 0, 1) := by decide +kernel
theorem dX12_noGap_2 : decode cX12_noGap 2 = .ok (.aload_n 0, 1) := by decide +kernel
theorem dX12_noGap_3 : decode cX12_noGap 3 = .ok (.invokevirtual 94, 3) := by decide +kernel
theorem dX12_noGap_6 : decode cX12_noGap 6 = .ok (.iconst 1, 1) := by decide +kernel
theorem dX12_noGap_7 : decode cX12_noGap 7 = .ok (.isub, 1) := by decide +kernel
theorem dX12_noGap_8 : decode cX12_noGap 8 = .ok (.invokestatic 90, 3) := by decide +kernel
theorem dX12_noGap_11 : decode cX12_noGap 11 = .ok (.ifCond .ne 7, 3) := by decide +kernel
theorem dX12_noGap_14 : decode cX12_noGap 14 = .ok (.iconst 1, 1) := by decide +kernel
theorem dX12_noGap_15 : decode cX12_noGap 15 = .ok (.goto 4, 3) := by decide +kernel
theorem dX12_noGap_18 : decode cX12_noGap 18 = .ok (.iconst 0, 1) := by decide +kernel
theorem dX12_noGap_19 : decode cX12_noGap 19 = .ok (.ireturn, 1) := by decide +kernel
theorem dX12_noWriter_0 : decode cX12_noWriter 0 = .ok (.iload_n 1, 1) := by decide +kernel
theorem dX12_noWriter_1 : decode cX12_noWriter 1 = .ok (.iconst 0, 1) := by decide +kernel
theorem dX12_noWriter_2 : decode cX12_noWriter 2 = .ok (.aload_n 0, 1) := by decide +kernel
theorem dX12_noWriter_3 : decode cX12_noWriter 3 = .ok (.invokevirtual 97, 3) := by decide +kernel
theorem dX12_noWriter_6 : decode cX12_noWriter 6 = .ok (.iconst 1, 1) := by decide +kernel
theorem dX12_noWriter_7 : decode cX12_noWriter 7 = .ok (.isub, 1) := by decide +kernel
theorem dX12_noWriter_8 : decode cX12_noWriter 8 = .ok (.invokestatic 90, 3) := by decide +kernel
theorem dX12_noWriter_11 : decode cX12_noWriter 11 = .ok (.ifCond .ne 7, 3) := by decide +kernel
theorem dX12_noWriter_14 : decode cX12_noWriter 14 = .ok (.iconst 1, 1) := by decide +kernel
theorem dX12_noWriter_15 : decode cX12_noWriter 15 = .ok (.goto 4, 3) := by decide +kernel
theorem dX12_noWriter_18 : decode cX12_noWriter 18 = .ok (.iconst 0, 1) := by decide +kernel
theorem dX12_noWriter_19 : decode cX12_noWriter 19 = .ok (.ireturn, 1) := by decide +kernel
theorem dX12_noWhite_0 : decode cX12_noWhite 0 = .ok (.iload_n 0, 1) := by decide +kernel
theorem dX12_noWhite_1 : decode cX12_noWhite 1 = .ok (.iconst 0, 1) := by decide +kernel
theorem dX12_noWhite_2 : decode cX12_noWhite 2 = .ok (.sipush 2000, 3) := by decide +kernel
theorem dX12_noWhite_5 : decode cX12_noWhite 5 = .ok (.invokestatic 90, 3) := by decide +kernel
theorem dX12_noWhite_8 : decode cX12_noWhite 8 = .ok (.ifCond .ne 7, 3) := by decide +kernel
theorem dX12_noWhite_11 : decode cX12_noWhite 11 = .ok (.iconst 1, 1) := by decide +kernel
theorem dX12_noWhite_12 : decode cX12_noWhite 12 = .ok (.goto 4, 3) := by decide +kernel
theorem dX12_noWhite_15 : decode cX12_noWhite 15 = .ok (.iconst 0, 1) := by decide +kernel
theorem dX12_noWhite_16 : decode cX12_noWhite 16 = .ok (.ireturn, 1) := by decide +kernel
theorem dX12_draw_0 : decode cX12_draw 0 = .ok (.aload_n 0, 1) := by decide +kernel
theorem dX12_draw_1 : decode cX12_draw 1 = .ok (.getfield 13, 3) := by decide +kernel
theorem dX12_draw_4 : decode cX12_draw 4 = .ok (.bipush 14, 2) := by decide +kernel
theorem dX12_draw_6 : decode cX12_draw 6 = .ok (.ldc 100, 2) := by decide +kernel
theorem dX12_draw_8 : decode cX12_draw 8 = .ok (.aload_n 0, 1) := by decide +kernel
theorem dX12_draw_9 : decode cX12_draw 9 = .ok (.getfield 13, 3) := by decide +kernel
theorem dX12_draw_12 : decode cX12_draw 12 = .ok (.bipush 14, 2) := by decide +kernel
theorem dX12_draw_14 : decode cX12_draw 14 = .ok (.iaload, 1) := by decide +kernel
theorem dX12_draw_15 : decode cX12_draw 15 = .ok (.imul, 1) := by decide +kernel
theorem dX12_draw_16 : decode cX12_draw 16 = .ok (.sipush 12345, 3) := by decide +kernel
theorem dX12_draw_19 : decode cX12_draw 19 = .ok (.iadd, 1) := by decide +kernel
theorem dX12_draw_20 : decode cX12_draw 20 = .ok (.iastore, 1) := by decide +kernel
theorem dX12_draw_21 : decode cX12_draw 21 = .ok (.aload_n 0, 1) := by decide +kernel
theorem dX12_draw_22 : decode cX12_draw 22 = .ok (.getfield 13, 3) := by decide +kernel
theorem dX12_draw_25 : decode cX12_draw 25 = .ok (.bipush 14, 2) := by decide +kernel
theorem dX12_draw_27 : decode cX12_draw 27 = .ok (.iaload, 1) := by decide +kernel
theorem dX12_draw_28 : decode cX12_draw 28 = .ok (.bipush 16, 2) := by decide +kernel
theorem dX12_draw_30 : decode cX12_draw 30 = .ok (.ishr, 1) := by decide +kernel
theorem dX12_draw_31 : decode cX12_draw 31 = .ok (.sipush 32767, 3) := by decide +kernel
theorem dX12_draw_34 : decode cX12_draw 34 = .ok (.iand, 1) := by decide +kernel
theorem dX12_draw_35 : decode cX12_draw 35 = .ok (.iload_n 1, 1) := by decide +kernel
theorem dX12_draw_36 : decode cX12_draw 36 = .ok (.irem, 1) := by decide +kernel
theorem dX12_draw_37 : decode cX12_draw 37 = .ok (.ireturn, 1) := by decide +kernel
theorem dX12_feed_0 : decode cX12_feed 0 = .ok (.aload_n 0, 1) := by decide +kernel
theorem dX12_feed_1 : decode cX12_feed 1 = .ok (.iconst 0, 1) := by decide +kernel
theorem dX12_feed_2 : decode cX12_feed 2 = .ok (.putfield 3, 3) := by decide +kernel
theorem dX12_feed_5 : decode cX12_feed 5 = .ok (.aload_n 0, 1) := by decide +kernel
theorem dX12_feed_6 : decode cX12_feed 6 = .ok (.getfield 101, 3) := by decide +kernel
theorem dX12_feed_9 : decode cX12_feed 9 = .ok (.bipush 20, 2) := by decide +kernel
theorem dX12_feed_11 : decode cX12_feed 11 = .ok (.iadd, 1) := by decide +kernel
theorem dX12_feed_12 : decode cX12_feed 12 = .ok (.sipush 400, 3) := by decide +kernel
theorem dX12_feed_15 : decode cX12_feed 15 = .ok (.if_icmp .le 5, 3) := by decide +kernel
theorem dX12_feed_18 : decode cX12_feed 18 = .ok (.iconst (-1), 1) := by decide +kernel
theorem dX12_feed_19 : decode cX12_feed 19 = .ok (.ireturn, 1) := by decide +kernel
theorem dX12_feed_20 : decode cX12_feed 20 = .ok (.aload_n 0, 1) := by decide +kernel
theorem dX12_feed_21 : decode cX12_feed 21 = .ok (.getfield 36, 3) := by decide +kernel
theorem dX12_feed_24 : decode cX12_feed 24 = .ok (.iconst 0, 1) := by decide +kernel
theorem dX12_feed_25 : decode cX12_feed 25 = .ok (.iload_n 1, 1) := by decide +kernel
theorem dX12_feed_26 : decode cX12_feed 26 = .ok (.iastore, 1) := by decide +kernel
theorem dX12_feed_27 : decode cX12_feed 27 = .ok (.aload_n 0, 1) := by decide +kernel
theorem dX12_feed_28 : decode cX12_feed 28 = .ok (.getfield 36, 3) := by decide +kernel
theorem dX12_feed_31 : decode cX12_feed 31 = .ok (.iconst 1, 1) := by decide +kernel
theorem dX12_feed_32 : decode cX12_feed 32 = .ok (.iload_n 2, 1) := by decide +kernel
theorem dX12_feed_33 : decode cX12_feed 33 = .ok (.iastore, 1) := by decide +kernel
theorem dX12_feed_34 : decode cX12_feed 34 = .ok (.aload_n 0, 1) := by decide +kernel
theorem dX12_feed_35 : decode cX12_feed 35 = .ok (.getfield 36, 3) := by decide +kernel
theorem dX12_feed_38 : decode cX12_feed 38 = .ok (.iconst 2, 1) := by decide +kernel
theorem dX12_feed_39 : decode cX12_feed 39 = .ok (.iload_n 3, 1) := by decide +kernel
theorem dX12_feed_40 : decode cX12_feed 40 = .ok (.iastore, 1) := by decide +kernel
theorem dX12_feed_41 : decode cX12_feed 41 = .ok (.aload_n 0, 1) := by decide +kernel
theorem dX12_feed_42 : decode cX12_feed 42 = .ok (.getfield 36, 3) := by decide +kernel
theorem dX12_feed_45 : decode cX12_feed 45 = .ok (.iconst 3, 1) := by decide +kernel
theorem dX12_feed_46 : decode cX12_feed 46 = .ok (.iload 4, 2) := by decide +kernel
theorem dX12_feed_48 : decode cX12_feed 48 = .ok (.iastore, 1) := by decide +kernel
theorem dX12_feed_49 : decode cX12_feed 49 = .ok (.aload_n 0, 1) := by decide +kernel
theorem dX12_feed_50 : decode cX12_feed 50 = .ok (.getfield 36, 3) := by decide +kernel
theorem dX12_feed_53 : decode cX12_feed 53 = .ok (.iconst 4, 1) := by decide +kernel
theorem dX12_feed_54 : decode cX12_feed 54 = .ok (.iload 5, 2) := by decide +kernel
theorem dX12_feed_56 : decode cX12_feed 56 = .ok (.iastore, 1) := by decide +kernel
theorem dX12_feed_57 : decode cX12_feed 57 = .ok (.iconst 0, 1) := by decide +kernel
theorem dX12_feed_58 : decode cX12_feed 58 = .ok (.istore 6, 2) := by decide +kernel
theorem dX12_feed_60 : decode cX12_feed 60 = .ok (.iload 6, 2) := by decide +kernel
theorem dX12_feed_62 : decode cX12_feed 62 = .ok (.bipush 20, 2) := by decide +kernel
theorem dX12_feed_64 : decode cX12_feed 64 = .ok (.if_icmp .ge 42, 3) := by decide +kernel
theorem dX12_feed_67 : decode cX12_feed 67 = .ok (.aload_n 0, 1) := by decide +kernel
theorem dX12_feed_68 : decode cX12_feed 68 = .ok (.getfield 29, 3) := by decide +kernel
theorem dX12_feed_71 : decode cX12_feed 71 = .ok (.aload_n 0, 1) := by decide +kernel
theorem dX12_feed_72 : decode cX12_feed 72 = .ok (.getfield 101, 3) := by decide +kernel
theorem dX12_feed_75 : decode cX12_feed 75 = .ok (.iload 6, 2) := by decide +kernel
theorem dX12_feed_77 : decode cX12_feed 77 = .ok (.iadd, 1) := by decide +kernel
theorem dX12_feed_78 : decode cX12_feed 78 = .ok (.aload_n 0, 1) := by decide +kernel
theorem dX12_feed_79 : decode cX12_feed 79 = .ok (.getfield 36, 3) := by decide +kernel
theorem dX12_feed_82 : decode cX12_feed 82 = .ok (.iload 6, 2) := by decide +kernel
theorem dX12_feed_84 : decode cX12_feed 84 = .ok (.iconst 4, 1) := by decide +kernel
theorem dX12_feed_85 : decode cX12_feed 85 = .ok (.idiv, 1) := by decide +kernel
theorem dX12_feed_86 : decode cX12_feed 86 = .ok (.iaload, 1) := by decide +kernel
theorem dX12_feed_87 : decode cX12_feed 87 = .ok (.bipush 24, 2) := by decide +kernel
theorem dX12_feed_89 : decode cX12_feed 89 = .ok (.bipush 8, 2) := by decide +kernel
theorem dX12_feed_91 : decode cX12_feed 91 = .ok (.iload 6, 2) := by decide +kernel
theorem dX12_feed_93 : decode cX12_feed 93 = .ok (.iconst 4, 1) := by decide +kernel
theorem dX12_feed_94 : decode cX12_feed 94 = .ok (.irem, 1) := by decide +kernel
theorem dX12_feed_95 : decode cX12_feed 95 = .ok (.imul, 1) := by decide +kernel
theorem dX12_feed_96 : decode cX12_feed 96 = .ok (.isub, 1) := by decide +kernel
theorem dX12_feed_97 : decode cX12_feed 97 = .ok (.ishr, 1) := by decide +kernel
theorem dX12_feed_98 : decode cX12_feed 98 = .ok (.i2b, 1) := by decide +kernel
theorem dX12_feed_99 : decode cX12_feed 99 = .ok (.bastore, 1) := by decide +kernel
theorem dX12_feed_100 : decode cX12_feed 100 = .ok (.iinc 6 1, 3) := by decide +kernel
theorem dX12_feed_103 : decode cX12_feed 103 = .ok (.goto (-43), 3) := by decide +kernel
theorem dX12_feed_106 : decode cX12_feed 106 = .ok (.aload_n 0, 1) := by decide +kernel
theorem dX12_feed_107 : decode cX12_feed 107 = .ok (.dup, 1) := by decide +kernel
theorem dX12_feed_108 : decode cX12_feed 108 = .ok (.getfield 101, 3) := by decide +kernel
theorem dX12_feed_111 : decode cX12_feed 111 = .ok (.bipush 20, 2) := by decide +kernel
theorem dX12_feed_113 : decode cX12_feed 113 = .ok (.iadd, 1) := by decide +kernel
theorem dX12_feed_114 : decode cX12_feed 114 = .ok (.putfield 101, 3) := by decide +kernel
theorem dX12_feed_117 : decode cX12_feed 117 = .ok (.aload_n 0, 1) := by decide +kernel
theorem dX12_feed_118 : decode cX12_feed 118 = .ok (.getfield 101, 3) := by decide +kernel
theorem dX12_feed_121 : decode cX12_feed 121 = .ok (.ireturn, 1) := by decide +kernel
theorem dX12_end_0 : decode cX12_end 0 = .ok (.aload_n 0, 1) := by decide +kernel
theorem dX12_end_1 : decode cX12_end 1 = .ok (.iconst 0, 1) := by decide +kernel
theorem dX12_end_2 : decode cX12_end 2 = .ok (.putfield 3, 3) := by decide +kernel
theorem dX12_end_5 : decode cX12_end 5 = .ok (.iload_n 1, 1) := by decide +kernel
theorem dX12_end_6 : decode cX12_end 6 = .ok (.ifCond .lt 11, 3) := by decide +kernel
theorem dX12_end_9 : decode cX12_end 9 = .ok (.iload_n 1, 1) := by decide +kernel
theorem dX12_end_10 : decode cX12_end 10 = .ok (.aload_n 0, 1) := by decide +kernel
theorem dX12_end_11 : decode cX12_end 11 = .ok (.getfield 101, 3) := by decide +kernel
theorem dX12_end_14 : decode cX12_end 14 = .ok (.if_icmp .le 5, 3) := by decide +kernel
theorem dX12_end_17 : decode cX12_end 17 = .ok (.iconst 0, 1) := by decide +kernel
theorem dX12_end_18 : decode cX12_end 18 = .ok (.ireturn, 1) := by decide +kernel
theorem dX12_end_19 : decode cX12_end 19 = .ok (.aload_n 0, 1) := by decide +kernel
theorem dX12_end_20 : decode cX12_end 20 = .ok (.iload_n 1, 1) := by decide +kernel
theorem dX12_end_21 : decode cX12_end 21 = .ok (.putfield 101, 3) := by decide +kernel
theorem dX12_end_24 : decode cX12_end 24 = .ok (.iconst 1, 1) := by decide +kernel
theorem dX12_end_25 : decode cX12_end 25 = .ok (.ireturn, 1) := by decide +kernel
theorem dX12_isAt_0 : decode cX12_isAt 0 = .ok (.aload_n 0, 1) := by decide +kernel
theorem dX12_isAt_1 : decode cX12_isAt 1 = .ok (.getfield 104, 3) := by decide +kernel
theorem dX12_isAt_4 : decode cX12_isAt 4 = .ok (.aload_n 0, 1) := by decide +kernel
theorem dX12_isAt_5 : decode cX12_isAt 5 = .ok (.getfield 107, 3) := by decide +kernel
theorem dX12_isAt_8 : decode cX12_isAt 8 = .ok (.if_icmp .ge 33, 3) := by decide +kernel
theorem dX12_isAt_11 : decode cX12_isAt 11 = .ok (.aload_n 0, 1) := by decide +kernel
theorem dX12_isAt_12 : decode cX12_isAt 12 = .ok (.getfield 29, 3) := by decide +kernel
theorem dX12_isAt_15 : decode cX12_isAt 15 = .ok (.aload_n 0, 1) := by decide +kernel
theorem dX12_isAt_16 : decode cX12_isAt 16 = .ok (.getfield 104, 3) := by decide +kernel
theorem dX12_isAt_19 : decode cX12_isAt 19 = .ok (.baload, 1) := by decide +kernel
theorem dX12_isAt_20 : decode cX12_isAt 20 = .ok (.iload_n 1, 1) := by decide +kernel
theorem dX12_isAt_21 : decode cX12_isAt 21 = .ok (.if_icmp .lt 20, 3) := by decide +kernel
theorem dX12_isAt_24 : decode cX12_isAt 24 = .ok (.aload_n 0, 1) := by decide +kernel
theorem dX12_isAt_25 : decode cX12_isAt 25 = .ok (.getfield 29, 3) := by decide +kernel
theorem dX12_isAt_28 : decode cX12_isAt 28 = .ok (.aload_n 0, 1) := by decide +kernel
theorem dX12_isAt_29 : decode cX12_isAt 29 = .ok (.getfield 104, 3) := by decide +kernel
theorem dX12_isAt_32 : decode cX12_isAt 32 = .ok (.baload, 1) := by decide +kernel
theorem dX12_isAt_33 : decode cX12_isAt 33 = .ok (.iload_n 2, 1) := by decide +kernel
theorem dX12_isAt_34 : decode cX12_isAt 34 = .ok (.if_icmp .gt 7, 3) := by decide +kernel
theorem dX12_isAt_37 : decode cX12_isAt 37 = .ok (.iconst 1, 1) := by decide +kernel
theorem dX12_isAt_38 : decode cX12_isAt 38 = .ok (.goto 4, 3) := by decide +kernel
theorem dX12_isAt_41 : decode cX12_isAt 41 = .ok (.iconst 0, 1) := by decide +kernel
theorem dX12_isAt_42 : decode cX12_isAt 42 = .ok (.ireturn, 1) := by decide +kernel
theorem dX12_blanks_0 : decode cX12_blanks 0 = .ok (.aload_n 0, 1) := by decide +kernel
theorem dX12_blanks_1 : decode cX12_blanks 1 = .ok (.bipush 32, 2) := by decide +kernel
theorem dX12_blanks_3 : decode cX12_blanks 3 = .ok (.bipush 32, 2) := by decide +kernel
theorem dX12_blanks_5 : decode cX12_blanks 5 = .ok (.invokevirtual 110, 3) := by decide +kernel
theorem dX12_blanks_8 : decode cX12_blanks 8 = .ok (.ifCond .eq 16, 3) := by decide +kernel
theorem dX12_blanks_11 : decode cX12_blanks 11 = .ok (.aload_n 0, 1) := by decide +kernel
theorem dX12_blanks_12 : decode cX12_blanks 12 = .ok (.dup, 1) := by decide +kernel
theorem dX12_blanks_13 : decode cX12_blanks 13 = .ok (.getfield 104, 3) := by decide +kernel
theorem dX12_blanks_16 : decode cX12_blanks 16 = .ok (.iconst 1, 1) := by decide +kernel
theorem dX12_blanks_17 : decode cX12_blanks 17 = .ok (.iadd, 1) := by decide +kernel
theorem dX12_blanks_18 : decode cX12_blanks 18 = .ok (.putfield 104, 3) := by decide +kernel
theorem dX12_blanks_21 : decode cX12_blanks 21 = .ok (.goto (-21), 3) := by decide +kernel
theorem dX12_blanks_24 : decode cX12_blanks 24 = .ok (.aload_n 0, 1) := by decide +kernel
theorem dX12_blanks_25 : decode cX12_blanks 25 = .ok (.aload_n 0, 1) := by decide +kernel
theorem dX12_blanks_26 : decode cX12_blanks 26 = .ok (.getfield 104, 3) := by decide +kernel
theorem dX12_blanks_29 : decode cX12_blanks 29 = .ok (.putfield 114, 3) := by decide +kernel
theorem dX12_blanks_32 : decode cX12_blanks 32 = .ok (.return_, 1) := by decide +kernel
theorem dX12_lettersPass_0 : decode cX12_lettersPass 0 = .ok (.aload_n 0, 1) := by decide +kernel
theorem dX12_lettersPass_1 : decode cX12_lettersPass 1 = .ok (.invokevirtual 117, 3) := by decide +kernel
theorem dX12_lettersPass_4 : decode cX12_lettersPass 4 = .ok (.aload_n 0, 1) := by decide +kernel
theorem dX12_lettersPass_5 : decode cX12_lettersPass 5 = .ok (.bipush 97, 2) := by decide +kernel
theorem dX12_lettersPass_7 : decode cX12_lettersPass 7 = .ok (.bipush 122, 2) := by decide +kernel
theorem dX12_lettersPass_9 : decode cX12_lettersPass 9 = .ok (.invokevirtual 110, 3) := by decide +kernel
theorem dX12_lettersPass_12 : decode cX12_lettersPass 12 = .ok (.ifCond .eq 16, 3) := by decide +kernel
theorem dX12_lettersPass_15 : decode cX12_lettersPass 15 = .ok (.aload_n 0, 1) := by decide +kernel
theorem dX12_lettersPass_16 : decode cX12_lettersPass 16 = .ok (.dup, 1) := by decide +kernel
theorem dX12_lettersPass_17 : decode cX12_lettersPass 17 = .ok (.getfield 104, 3) := by decide +kernel
theorem dX12_lettersPass_20 : decode cX12_lettersPass 20 = .ok (.iconst 1, 1) := by decide +kernel
theorem dX12_lettersPass_21 : decode cX12_lettersPass 21 = .ok (.iadd, 1) := by decide +kernel
theorem dX12_lettersPass_22 : decode cX12_lettersPass 22 = .ok (.putfield 104, 3) := by decide +kernel
theorem dX12_lettersPass_25 : decode cX12_lettersPass 25 = .ok (.goto (-21), 3) := by decide +kernel
theorem dX12_lettersPass_28 : decode cX12_lettersPass 28 = .ok (.return_, 1) := by decide +kernel
theorem dX12_isWord_0 : decode cX12_isWord 0 = .ok (.aload_n 0, 1) := by decide +kernel
theorem dX12_isWord_1 : decode cX12_isWord 1 = .ok (.getfield 104, 3) := by decide +kernel
theorem dX12_isWord_4 : decode cX12_isWord 4 = .ok (.aload_n 0, 1) := by decide +kernel
theorem dX12_isWord_5 : decode cX12_isWord 5 = .ok (.getfield 114, 3) := by decide +kernel
theorem dX12_isWord_8 : decode cX12_isWord 8 = .ok (.isub, 1) := by decide +kernel
theorem dX12_isWord_9 : decode cX12_isWord 9 = .ok (.aload_n 1, 1) := by decide +kernel
theorem dX12_isWord_10 : decode cX12_isWord 10 = .ok (.invokevirtual 120, 3) := by decide +kernel
theorem dX12_isWord_13 : decode cX12_isWord 13 = .ok (.if_icmp .ne 7, 3) := by decide +kernel
theorem dX12_isWord_16 : decode cX12_isWord 16 = .ok (.iconst 1, 1) := by decide +kernel
theorem dX12_isWord_17 : decode cX12_isWord 17 = .ok (.goto 4, 3) := by decide +kernel
theorem dX12_isWord_20 : decode cX12_isWord 20 = .ok (.iconst 0, 1) := by decide +kernel
theorem dX12_isWord_21 : decode cX12_isWord 21 = .ok (.istore_n 2, 1) := by decide +kernel
theorem dX12_isWord_22 : decode cX12_isWord 22 = .ok (.iconst 0, 1) := by decide +kernel
theorem dX12_isWord_23 : decode cX12_isWord 23 = .ok (.istore_n 3, 1) := by decide +kernel
theorem dX12_isWord_24 : decode cX12_isWord 24 = .ok (.iload_n 2, 1) := by decide +kernel
theorem dX12_isWord_25 : decode cX12_isWord 25 = .ok (.ifCond .eq 42, 3) := by decide +kernel
theorem dX12_isWord_28 : decode cX12_isWord 28 = .ok (.iload_n 3, 1) := by decide +kernel
theorem dX12_isWord_29 : decode cX12_isWord 29 = .ok (.aload_n 1, 1) := by decide +kernel
theorem dX12_isWord_30 : decode cX12_isWord 30 = .ok (.invokevirtual 120, 3) := by decide +kernel
theorem dX12_isWord_33 : decode cX12_isWord 33 = .ok (.if_icmp .ge 34, 3) := by decide +kernel
theorem dX12_isWord_36 : decode cX12_isWord 36 = .ok (.aload_n 0, 1) := by decide +kernel
theorem dX12_isWord_37 : decode cX12_isWord 37 = .ok (.getfield 29, 3) := by decide +kernel
theorem dX12_isWord_40 : decode cX12_isWord 40 = .ok (.aload_n 0, 1) := by decide +kernel
theorem dX12_isWord_41 : decode cX12_isWord 41 = .ok (.getfield 114, 3) := by decide +kernel
theorem dX12_isWord_44 : decode cX12_isWord 44 = .ok (.iload_n 3, 1) := by decide +kernel
theorem dX12_isWord_45 : decode cX12_isWord 45 = .ok (.iadd, 1) := by decide +kernel
theorem dX12_isWord_46 : decode cX12_isWord 46 = .ok (.baload, 1) := by decide +kernel
theorem dX12_isWord_47 : decode cX12_isWord 47 = .ok (.aload_n 1, 1) := by decide +kernel
theorem dX12_isWord_48 : decode cX12_isWord 48 = .ok (.iload_n 3, 1) := by decide +kernel
theorem dX12_isWord_49 : decode cX12_isWord 49 = .ok (.invokevirtual 125, 3) := by decide +kernel
theorem dX12_isWord_52 : decode cX12_isWord 52 = .ok (.if_icmp .ne 7, 3) := by decide +kernel
theorem dX12_isWord_55 : decode cX12_isWord 55 = .ok (.iconst 1, 1) := by decide +kernel
theorem dX12_isWord_56 : decode cX12_isWord 56 = .ok (.goto 4, 3) := by decide +kernel
theorem dX12_isWord_59 : decode cX12_isWord 59 = .ok (.iconst 0, 1) := by decide +kernel
theorem dX12_isWord_60 : decode cX12_isWord 60 = .ok (.istore_n 2, 1) := by decide +kernel
theorem dX12_isWord_61 : decode cX12_isWord 61 = .ok (.iinc 3 1, 3) := by decide +kernel
theorem dX12_isWord_64 : decode cX12_isWord 64 = .ok (.goto (-40), 3) := by decide +kernel
theorem dX12_isWord_67 : decode cX12_isWord 67 = .ok (.iload_n 2, 1) := by decide +kernel
theorem dX12_isWord_68 : decode cX12_isWord 68 = .ok (.ireturn, 1) := by decide +kernel
theorem dX12_passes_0 : decode cX12_passes 0 = .ok (.aload_n 0, 1) := by decide +kernel
theorem dX12_passes_1 : decode cX12_passes 1 = .ok (.invokevirtual 129, 3) := by decide +kernel
theorem dX12_passes_4 : decode cX12_passes 4 = .ok (.aload_n 0, 1) := by decide +kernel
theorem dX12_passes_5 : decode cX12_passes 5 = .ok (.aload_n 1, 1) := by decide +kernel
theorem dX12_passes_6 : decode cX12_passes 6 = .ok (.invokevirtual 132, 3) := by decide +kernel
theorem dX12_passes_9 : decode cX12_passes 9 = .ok (.ifCond .eq 5, 3) := by decide +kernel
theorem dX12_passes_12 : decode cX12_passes 12 = .ok (.iconst 1, 1) := by decide +kernel
theorem dX12_passes_13 : decode cX12_passes 13 = .ok (.ireturn, 1) := by decide +kernel
theorem dX12_passes_14 : decode cX12_passes 14 = .ok (.aload_n 0, 1) := by decide +kernel
theorem dX12_passes_15 : decode cX12_passes 15 = .ok (.aload_n 0, 1) := by decide +kernel
theorem dX12_passes_16 : decode cX12_passes 16 = .ok (.getfield 114, 3) := by decide +kernel
theorem dX12_passes_19 : decode cX12_passes 19 = .ok (.putfield 104, 3) := by decide +kernel
theorem dX12_passes_22 : decode cX12_passes 22 = .ok (.iconst 0, 1) := by decide +kernel
theorem dX12_passes_23 : decode cX12_passes 23 = .ok (.ireturn, 1) := by decide +kernel
theorem dX12_isSign_0 : decode cX12_isSign 0 = .ok (.aload_n 0, 1) := by decide +kernel
theorem dX12_isSign_1 : decode cX12_isSign 1 = .ok (.invokevirtual 117, 3) := by decide +kernel
theorem dX12_isSign_4 : decode cX12_isSign 4 = .ok (.aload_n 0, 1) := by decide +kernel
theorem dX12_isSign_5 : decode cX12_isSign 5 = .ok (.iload_n 1, 1) := by decide +kernel
theorem dX12_isSign_6 : decode cX12_isSign 6 = .ok (.iload_n 1, 1) := by decide +kernel
theorem dX12_isSign_7 : decode cX12_isSign 7 = .ok (.invokevirtual 110, 3) := by decide +kernel
theorem dX12_isSign_10 : decode cX12_isSign 10 = .ok (.ifCond .ne 5, 3) := by decide +kernel
theorem dX12_isSign_13 : decode cX12_isSign 13 = .ok (.iconst 0, 1) := by decide +kernel
theorem dX12_isSign_14 : decode cX12_isSign 14 = .ok (.ireturn, 1) := by decide +kernel
theorem dX12_isSign_15 : decode cX12_isSign 15 = .ok (.aload_n 0, 1) := by decide +kernel
theorem dX12_isSign_16 : decode cX12_isSign 16 = .ok (.dup, 1) := by decide +kernel
theorem dX12_isSign_17 : decode cX12_isSign 17 = .ok (.getfield 104, 3) := by decide +kernel
theorem dX12_isSign_20 : decode cX12_isSign 20 = .ok (.iconst 1, 1) := by decide +kernel
theorem dX12_isSign_21 : decode cX12_isSign 21 = .ok (.iadd, 1) := by decide +kernel
theorem dX12_isSign_22 : decode cX12_isSign 22 = .ok (.putfield 104, 3) := by decide +kernel
theorem dX12_isSign_25 : decode cX12_isSign 25 = .ok (.iconst 1, 1) := by decide +kernel
theorem dX12_isSign_26 : decode cX12_isSign 26 = .ok (.ireturn, 1) := by decide +kernel
theorem dX12_number_0 : decode cX12_number 0 = .ok (.aload_n 0, 1) := by decide +kernel
theorem dX12_number_1 : decode cX12_number 1 = .ok (.invokevirtual 117, 3) := by decide +kernel
theorem dX12_number_4 : decode cX12_number 4 = .ok (.iconst 0, 1) := by decide +kernel
theorem dX12_number_5 : decode cX12_number 5 = .ok (.istore_n 3, 1) := by decide +kernel
theorem dX12_number_6 : decode cX12_number 6 = .ok (.aload_n 0, 1) := by decide +kernel
theorem dX12_number_7 : decode cX12_number 7 = .ok (.bipush 48, 2) := by decide +kernel
theorem dX12_number_9 : decode cX12_number 9 = .ok (.bipush 57, 2) := by decide +kernel
theorem dX12_number_11 : decode cX12_number 11 = .ok (.invokevirtual 110, 3) := by decide +kernel
theorem dX12_number_14 : decode cX12_number 14 = .ok (.ifCond .eq 51, 3) := by decide +kernel
theorem dX12_number_17 : decode cX12_number 17 = .ok (.aload_n 0, 1) := by decide +kernel
theorem dX12_number_18 : decode cX12_number 18 = .ok (.getfield 104, 3) := by decide +kernel
theorem dX12_number_21 : decode cX12_number 21 = .ok (.aload_n 0, 1) := by decide +kernel
theorem dX12_number_22 : decode cX12_number 22 = .ok (.getfield 114, 3) := by decide +kernel
theorem dX12_number_25 : decode cX12_number 25 = .ok (.isub, 1) := by decide +kernel
theorem dX12_number_26 : decode cX12_number 26 = .ok (.iconst 3, 1) := by decide +kernel
theorem dX12_number_27 : decode cX12_number 27 = .ok (.if_icmp .ge 23, 3) := by decide +kernel
theorem dX12_number_30 : decode cX12_number 30 = .ok (.bipush 10, 2) := by decide +kernel
theorem dX12_number_32 : decode cX12_number 32 = .ok (.iload_n 3, 1) := by decide +kernel
theorem dX12_number_33 : decode cX12_number 33 = .ok (.imul, 1) := by decide +kernel
theorem dX12_number_34 : decode cX12_number 34 = .ok (.aload_n 0, 1) := by decide +kernel
theorem dX12_number_35 : decode cX12_number 35 = .ok (.getfield 29, 3) := by decide +kernel
theorem dX12_number_38 : decode cX12_number 38 = .ok (.aload_n 0, 1) := by decide +kernel
theorem dX12_number_39 : decode cX12_number 39 = .ok (.getfield 104, 3) := by decide +kernel
theorem dX12_number_42 : decode cX12_number 42 = .ok (.baload, 1) := by decide +kernel
theorem dX12_number_43 : decode cX12_number 43 = .ok (.iadd, 1) := by decide +kernel
theorem dX12_number_44 : decode cX12_number 44 = .ok (.bipush 48, 2) := by decide +kernel
theorem dX12_number_46 : decode cX12_number 46 = .ok (.isub, 1) := by decide +kernel
theorem dX12_number_47 : decode cX12_number 47 = .ok (.goto 4, 3) := by decide +kernel
theorem dX12_number_50 : decode cX12_number 50 = .ok (.iload_n 3, 1) := by decide +kernel
theorem dX12_number_51 : decode cX12_number 51 = .ok (.istore_n 3, 1) := by decide +kernel
theorem dX12_number_52 : decode cX12_number 52 = .ok (.aload_n 0, 1) := by decide +kernel
theorem dX12_number_53 : decode cX12_number 53 = .ok (.dup, 1) := by decide +kernel
theorem dX12_number_54 : decode cX12_number 54 = .ok (.getfield 104, 3) := by decide +kernel
theorem dX12_number_57 : decode cX12_number 57 = .ok (.iconst 1, 1) := by decide +kernel
theorem dX12_number_58 : decode cX12_number 58 = .ok (.iadd, 1) := by decide +kernel
theorem dX12_number_59 : decode cX12_number 59 = .ok (.putfield 104, 3) := by decide +kernel
theorem dX12_number_62 : decode cX12_number 62 = .ok (.goto (-56), 3) := by decide +kernel
theorem dX12_number_65 : decode cX12_number 65 = .ok (.aload_n 0, 1) := by decide +kernel
theorem dX12_number_66 : decode cX12_number 66 = .ok (.getfield 104, 3) := by decide +kernel
theorem dX12_number_69 : decode cX12_number 69 = .ok (.aload_n 0, 1) := by decide +kernel
theorem dX12_number_70 : decode cX12_number 70 = .ok (.getfield 114, 3) := by decide +kernel
theorem dX12_number_73 : decode cX12_number 73 = .ok (.if_icmp .eq 26, 3) := by decide +kernel
theorem dX12_number_76 : decode cX12_number 76 = .ok (.aload_n 0, 1) := by decide +kernel
theorem dX12_number_77 : decode cX12_number 77 = .ok (.getfield 104, 3) := by decide +kernel
theorem dX12_number_80 : decode cX12_number 80 = .ok (.aload_n 0, 1) := by decide +kernel
theorem dX12_number_81 : decode cX12_number 81 = .ok (.getfield 114, 3) := by decide +kernel
theorem dX12_number_84 : decode cX12_number 84 = .ok (.isub, 1) := by decide +kernel
theorem dX12_number_85 : decode cX12_number 85 = .ok (.iconst 3, 1) := by decide +kernel
theorem dX12_number_86 : decode cX12_number 86 = .ok (.if_icmp .gt 13, 3) := by decide +kernel
theorem dX12_number_89 : decode cX12_number 89 = .ok (.iload_n 3, 1) := by decide +kernel
theorem dX12_number_90 : decode cX12_number 90 = .ok (.iload_n 1, 1) := by decide +kernel
theorem dX12_number_91 : decode cX12_number 91 = .ok (.if_icmp .lt 8, 3) := by decide +kernel
theorem dX12_number_94 : decode cX12_number 94 = .ok (.iload_n 3, 1) := by decide +kernel
theorem dX12_number_95 : decode cX12_number 95 = .ok (.iload_n 2, 1) := by decide +kernel
theorem dX12_number_96 : decode cX12_number 96 = .ok (.if_icmp .le 7, 3) := by decide +kernel
theorem dX12_number_99 : decode cX12_number 99 = .ok (.iconst (-1), 1) := by decide +kernel
theorem dX12_number_100 : decode cX12_number 100 = .ok (.goto 4, 3) := by decide +kernel
theorem dX12_number_103 : decode cX12_number 103 = .ok (.iload_n 3, 1) := by decide +kernel
theorem dX12_number_104 : decode cX12_number 104 = .ok (.ireturn, 1) := by decide +kernel
theorem dX12_after_0 : decode cX12_after 0 = .ok (.aload_n 0, 1) := by decide +kernel
theorem dX12_after_1 : decode cX12_after 1 = .ok (.invokevirtual 129, 3) := by decide +kernel
theorem dX12_after_4 : decode cX12_after 4 = .ok (.aload_n 0, 1) := by decide +kernel
theorem dX12_after_5 : decode cX12_after 5 = .ok (.aload_n 1, 1) := by decide +kernel
theorem dX12_after_6 : decode cX12_after 6 = .ok (.invokevirtual 132, 3) := by decide +kernel
theorem dX12_after_9 : decode cX12_after 9 = .ok (.ifCond .eq 12, 3) := by decide +kernel
theorem dX12_after_12 : decode cX12_after 12 = .ok (.aload_n 0, 1) := by decide +kernel
theorem dX12_after_13 : decode cX12_after 13 = .ok (.iload_n 2, 1) := by decide +kernel
theorem dX12_after_14 : decode cX12_after 14 = .ok (.iload_n 3, 1) := by decide +kernel
theorem dX12_after_15 : decode cX12_after 15 = .ok (.invokevirtual 136, 3) := by decide +kernel
theorem dX12_after_18 : decode cX12_after 18 = .ok (.goto 4, 3) := by decide +kernel
theorem dX12_after_21 : decode cX12_after 21 = .ok (.iconst (-1), 1) := by decide +kernel
theorem dX12_after_22 : decode cX12_after 22 = .ok (.ireturn, 1) := by decide +kernel
theorem dX12_isFigure_0 : decode cX12_isFigure 0 = .ok (.aload_n 0, 1) := by decide +kernel
theorem dX12_isFigure_1 : decode cX12_isFigure 1 = .ok (.invokevirtual 117, 3) := by decide +kernel
theorem dX12_isFigure_4 : decode cX12_isFigure 4 = .ok (.aload_n 0, 1) := by decide +kernel
theorem dX12_isFigure_5 : decode cX12_isFigure 5 = .ok (.bipush 48, 2) := by decide +kernel
theorem dX12_isFigure_7 : decode cX12_isFigure 7 = .ok (.bipush 57, 2) := by decide +kernel
theorem dX12_isFigure_9 : decode cX12_isFigure 9 = .ok (.invokevirtual 110, 3) := by decide +kernel
theorem dX12_isFigure_12 : decode cX12_isFigure 12 = .ok (.ireturn, 1) := by decide +kernel
theorem dX12_fault_0 : decode cX12_fault 0 = .ok (.aload_n 0, 1) := by decide +kernel
theorem dX12_fault_1 : decode cX12_fault 1 = .ok (.iconst 0, 1) := by decide +kernel
theorem dX12_fault_2 : decode cX12_fault 2 = .ok (.putfield 3, 3) := by decide +kernel
theorem dX12_fault_5 : decode cX12_fault 5 = .ok (.aload_n 0, 1) := by decide +kernel
theorem dX12_fault_6 : decode cX12_fault 6 = .ok (.getfield 33, 3) := by decide +kernel
theorem dX12_fault_9 : decode cX12_fault 9 = .ok (.ireturn, 1) := by decide +kernel
theorem dX12_uses_0 : decode cX12_uses 0 = .ok (.aload_n 0, 1) := by decide +kernel
theorem dX12_uses_1 : decode cX12_uses 1 = .ok (.iconst 0, 1) := by decide +kernel
theorem dX12_uses_2 : decode cX12_uses 2 = .ok (.putfield 3, 3) := by decide +kernel
theorem dX12_uses_5 : decode cX12_uses 5 = .ok (.aload_n 0, 1) := by decide +kernel
theorem dX12_uses_6 : decode cX12_uses 6 = .ok (.aload_n 0, 1) := by decide +kernel
theorem dX12_uses_7 : decode cX12_uses 7 = .ok (.getfield 101, 3) := by decide +kernel
theorem dX12_uses_10 : decode cX12_uses 10 = .ok (.putfield 107, 3) := by decide +kernel
theorem dX12_uses_13 : decode cX12_uses 13 = .ok (.aload_n 0, 1) := by decide +kernel
theorem dX12_uses_14 : decode cX12_uses 14 = .ok (.iconst 0, 1) := by decide +kernel
theorem dX12_uses_15 : decode cX12_uses 15 = .ok (.putfield 101, 3) := by decide +kernel
theorem dX12_uses_18 : decode cX12_uses 18 = .ok (.aload_n 0, 1) := by decide +kernel
theorem dX12_uses_19 : decode cX12_uses 19 = .ok (.iconst 0, 1) := by decide +kernel
theorem dX12_uses_20 : decode cX12_uses 20 = .ok (.putfield 104, 3) := by decide +kernel
theorem dX12_uses_23 : decode cX12_uses 23 = .ok (.return_, 1) := by decide +kernel
theorem dX12_sortTold_0 : decode cX12_sortTold 0 = .ok (.aload_n 0, 1) := by decide +kernel
theorem dX12_sortTold_1 : decode cX12_sortTold 1 = .ok (.ldc 139, 2) := by decide +kernel
theorem dX12_sortTold_3 : decode cX12_sortTold 3 = .ok (.invokevirtual 132, 3) := by decide +kernel
theorem dX12_sortTold_6 : decode cX12_sortTold 6 = .ok (.ifCond .eq 7, 3) := by decide +kernel
theorem dX12_sortTold_9 : decode cX12_sortTold 9 = .ok (.iconst 0, 1) := by decide +kernel
theorem dX12_sortTold_10 : decode cX12_sortTold 10 = .ok (.goto 43, 3) := by decide +kernel
theorem dX12_sortTold_13 : decode cX12_sortTold 13 = .ok (.aload_n 0, 1) := by decide +kernel
theorem dX12_sortTold_14 : decode cX12_sortTold 14 = .ok (.ldc 141, 2) := by decide +kernel
theorem dX12_sortTold_16 : decode cX12_sortTold 16 = .ok (.invokevirtual 132, 3) := by decide +kernel
theorem dX12_sortTold_19 : decode cX12_sortTold 19 = .ok (.ifCond .eq 7, 3) := by decide +kernel
theorem dX12_sortTold_22 : decode cX12_sortTold 22 = .ok (.iconst 1, 1) := by decide +kernel
theorem dX12_sortTold_23 : decode cX12_sortTold 23 = .ok (.goto 30, 3) := by decide +kernel
theorem dX12_sortTold_26 : decode cX12_sortTold 26 = .ok (.aload_n 0, 1) := by decide +kernel
theorem dX12_sortTold_27 : decode cX12_sortTold 27 = .ok (.ldc 143, 2) := by decide +kernel
theorem dX12_sortTold_29 : decode cX12_sortTold 29 = .ok (.invokevirtual 132, 3) := by decide +kernel
theorem dX12_sortTold_32 : decode cX12_sortTold 32 = .ok (.ifCond .eq 7, 3) := by decide +kernel
theorem dX12_sortTold_35 : decode cX12_sortTold 35 = .ok (.iconst 2, 1) := by decide +kernel
theorem dX12_sortTold_36 : decode cX12_sortTold 36 = .ok (.goto 17, 3) := by decide +kernel
theorem dX12_sortTold_39 : decode cX12_sortTold 39 = .ok (.aload_n 0, 1) := by decide +kernel
theorem dX12_sortTold_40 : decode cX12_sortTold 40 = .ok (.ldc 145, 2) := by decide +kernel
theorem dX12_sortTold_42 : decode cX12_sortTold 42 = .ok (.invokevirtual 132, 3) := by decide +kernel
theorem dX12_sortTold_45 : decode cX12_sortTold 45 = .ok (.ifCond .eq 7, 3) := by decide +kernel
theorem dX12_sortTold_48 : decode cX12_sortTold 48 = .ok (.iconst 3, 1) := by decide +kernel
theorem dX12_sortTold_49 : decode cX12_sortTold 49 = .ok (.goto 4, 3) := by decide +kernel
theorem dX12_sortTold_52 : decode cX12_sortTold 52 = .ok (.iconst (-1), 1) := by decide +kernel
theorem dX12_sortTold_53 : decode cX12_sortTold 53 = .ok (.ireturn, 1) := by decide +kernel
theorem dX12_readRows_0 : decode cX12_readRows 0 = .ok (.aload_n 0, 1) := by decide +kernel
theorem dX12_readRows_1 : decode cX12_readRows 1 = .ok (.invokevirtual 129, 3) := by decide +kernel
theorem dX12_readRows_4 : decode cX12_readRows 4 = .ok (.aload_n 0, 1) := by decide +kernel
theorem dX12_readRows_5 : decode cX12_readRows 5 = .ok (.aload_n 1, 1) := by decide +kernel
theorem dX12_readRows_6 : decode cX12_readRows 6 = .ok (.invokevirtual 132, 3) := by decide +kernel
theorem dX12_readRows_9 : decode cX12_readRows 9 = .ok (.ifCond .ne 5, 3) := by decide +kernel
theorem dX12_readRows_12 : decode cX12_readRows 12 = .ok (.iconst 0, 1) := by decide +kernel
theorem dX12_readRows_13 : decode cX12_readRows 13 = .ok (.ireturn, 1) := by decide +kernel
theorem dX12_readRows_14 : decode cX12_readRows 14 = .ok (.aload_n 0, 1) := by decide +kernel
theorem dX12_readRows_15 : decode cX12_readRows 15 = .ok (.invokevirtual 117, 3) := by decide +kernel
theorem dX12_readRows_18 : decode cX12_readRows 18 = .ok (.aload_n 0, 1) := by decide +kernel
theorem dX12_readRows_19 : decode cX12_readRows 19 = .ok (.bipush 48, 2) := by decide +kernel
theorem dX12_readRows_21 : decode cX12_readRows 21 = .ok (.bipush 57, 2) := by decide +kernel
theorem dX12_readRows_23 : decode cX12_readRows 23 = .ok (.invokevirtual 110, 3) := by decide +kernel
theorem dX12_readRows_26 : decode cX12_readRows 26 = .ok (.ifCond .eq 16, 3) := by decide +kernel
theorem dX12_readRows_29 : decode cX12_readRows 29 = .ok (.aload_n 0, 1) := by decide +kernel
theorem dX12_readRows_30 : decode cX12_readRows 30 = .ok (.dup, 1) := by decide +kernel
theorem dX12_readRows_31 : decode cX12_readRows 31 = .ok (.getfield 104, 3) := by decide +kernel
theorem dX12_readRows_34 : decode cX12_readRows 34 = .ok (.iconst 1, 1) := by decide +kernel
theorem dX12_readRows_35 : decode cX12_readRows 35 = .ok (.iadd, 1) := by decide +kernel
theorem dX12_readRows_36 : decode cX12_readRows 36 = .ok (.putfield 104, 3) := by decide +kernel
theorem dX12_readRows_39 : decode cX12_readRows 39 = .ok (.goto (-21), 3) := by decide +kernel
theorem dX12_readRows_42 : decode cX12_readRows 42 = .ok (.iconst 0, 1) := by decide +kernel
theorem dX12_readRows_43 : decode cX12_readRows 43 = .ok (.istore_n 3, 1) := by decide +kernel
theorem dX12_readRows_44 : decode cX12_readRows 44 = .ok (.iload_n 3, 1) := by decide +kernel
theorem dX12_readRows_45 : decode cX12_readRows 45 = .ok (.iconst 5, 1) := by decide +kernel
theorem dX12_readRows_46 : decode cX12_readRows 46 = .ok (.if_icmp .ge 44, 3) := by decide +kernel
theorem dX12_readRows_49 : decode cX12_readRows 49 = .ok (.aload_n 0, 1) := by decide +kernel
theorem dX12_readRows_50 : decode cX12_readRows 50 = .ok (.getfield 104, 3) := by decide +kernel
theorem dX12_readRows_53 : decode cX12_readRows 53 = .ok (.aload_n 0, 1) := by decide +kernel
theorem dX12_readRows_54 : decode cX12_readRows 54 = .ok (.getfield 114, 3) := by decide +kernel
theorem dX12_readRows_57 : decode cX12_readRows 57 = .ok (.isub, 1) := by decide +kernel
theorem dX12_readRows_58 : decode cX12_readRows 58 = .ok (.iconst 5, 1) := by decide +kernel
theorem dX12_readRows_59 : decode cX12_readRows 59 = .ok (.if_icmp .ne 31, 3) := by decide +kernel
theorem dX12_readRows_62 : decode cX12_readRows 62 = .ok (.aload_n 0, 1) := by decide +kernel
theorem dX12_readRows_63 : decode cX12_readRows 63 = .ok (.getfield 13, 3) := by decide +kernel
theorem dX12_readRows_66 : decode cX12_readRows 66 = .ok (.iload_n 2, 1) := by decide +kernel
theorem dX12_readRows_67 : decode cX12_readRows 67 = .ok (.iload_n 3, 1) := by decide +kernel
theorem dX12_readRows_68 : decode cX12_readRows 68 = .ok (.iadd, 1) := by decide +kernel
theorem dX12_readRows_69 : decode cX12_readRows 69 = .ok (.aload_n 0, 1) := by decide +kernel
theorem dX12_readRows_70 : decode cX12_readRows 70 = .ok (.getfield 29, 3) := by decide +kernel
theorem dX12_readRows_73 : decode cX12_readRows 73 = .ok (.aload_n 0, 1) := by decide +kernel
theorem dX12_readRows_74 : decode cX12_readRows 74 = .ok (.getfield 114, 3) := by decide +kernel
theorem dX12_readRows_77 : decode cX12_readRows 77 = .ok (.iload_n 3, 1) := by decide +kernel
theorem dX12_readRows_78 : decode cX12_readRows 78 = .ok (.iadd, 1) := by decide +kernel
theorem dX12_readRows_79 : decode cX12_readRows 79 = .ok (.baload, 1) := by decide +kernel
theorem dX12_readRows_80 : decode cX12_readRows 80 = .ok (.bipush 48, 2) := by decide +kernel
theorem dX12_readRows_82 : decode cX12_readRows 82 = .ok (.isub, 1) := by decide +kernel
theorem dX12_readRows_83 : decode cX12_readRows 83 = .ok (.iastore, 1) := by decide +kernel
theorem dX12_readRows_84 : decode cX12_readRows 84 = .ok (.iinc 3 1, 3) := by decide +kernel
theorem dX12_readRows_87 : decode cX12_readRows 87 = .ok (.goto (-43), 3) := by decide +kernel
theorem dX12_readRows_90 : decode cX12_readRows 90 = .ok (.aload_n 0, 1) := by decide +kernel
theorem dX12_readRows_91 : decode cX12_readRows 91 = .ok (.getfield 104, 3) := by decide +kernel
theorem dX12_readRows_94 : decode cX12_readRows 94 = .ok (.aload_n 0, 1) := by decide +kernel
theorem dX12_readRows_95 : decode cX12_readRows 95 = .ok (.getfield 114, 3) := by decide +kernel
theorem dX12_readRows_98 : decode cX12_readRows 98 = .ok (.isub, 1) := by decide +kernel
theorem dX12_readRows_99 : decode cX12_readRows 99 = .ok (.iconst 5, 1) := by decide +kernel
theorem dX12_readRows_100 : decode cX12_readRows 100 = .ok (.if_icmp .ne 7, 3) := by decide +kernel
theorem dX12_readRows_103 : decode cX12_readRows 103 = .ok (.iconst 1, 1) := by decide +kernel
theorem dX12_readRows_104 : decode cX12_readRows 104 = .ok (.goto 4, 3) := by decide +kernel
theorem dX12_readRows_107 : decode cX12_readRows 107 = .ok (.iconst 0, 1) := by decide +kernel
theorem dX12_readRows_108 : decode cX12_readRows 108 = .ok (.ireturn, 1) := by decide +kernel
theorem dX12_readSign_0 : decode cX12_readSign 0 = .ok (.aload_n 0, 1) := by decide +kernel
theorem dX12_readSign_1 : decode cX12_readSign 1 = .ok (.invokevirtual 87, 3) := by decide +kernel
theorem dX12_readSign_4 : decode cX12_readSign 4 = .ok (.istore_n 1, 1) := by decide +kernel
theorem dX12_readSign_5 : decode cX12_readSign 5 = .ok (.iload_n 1, 1) := by decide +kernel
theorem dX12_readSign_6 : decode cX12_readSign 6 = .ok (.bipush 12, 2) := by decide +kernel
theorem dX12_readSign_8 : decode cX12_readSign 8 = .ok (.if_icmp .ne 5, 3) := by decide +kernel
theorem dX12_readSign_11 : decode cX12_readSign 11 = .ok (.iconst 0, 1) := by decide +kernel
theorem dX12_readSign_12 : decode cX12_readSign 12 = .ok (.ireturn, 1) := by decide +kernel
theorem dX12_readSign_13 : decode cX12_readSign 13 = .ok (.bipush 15, 2) := by decide +kernel
theorem dX12_readSign_15 : decode cX12_readSign 15 = .ok (.bipush 12, 2) := by decide +kernel
theorem dX12_readSign_17 : decode cX12_readSign 17 = .ok (.iload_n 1, 1) := by decide +kernel
theorem dX12_readSign_18 : decode cX12_readSign 18 = .ok (.imul, 1) := by decide +kernel
theorem dX12_readSign_19 : decode cX12_readSign 19 = .ok (.iadd, 1) := by decide +kernel
theorem dX12_readSign_20 : decode cX12_readSign 20 = .ok (.istore_n 2, 1) := by decide +kernel
theorem dX12_readSign_21 : decode cX12_readSign 21 = .ok (.aload_n 0, 1) := by decide +kernel
theorem dX12_readSign_22 : decode cX12_readSign 22 = .ok (.invokevirtual 129, 3) := by decide +kernel
theorem dX12_readSign_25 : decode cX12_readSign 25 = .ok (.aload_n 0, 1) := by decide +kernel
theorem dX12_readSign_26 : decode cX12_readSign 26 = .ok (.getfield 13, 3) := by decide +kernel
theorem dX12_readSign_29 : decode cX12_readSign 29 = .ok (.iload_n 2, 1) := by decide +kernel
theorem dX12_readSign_30 : decode cX12_readSign 30 = .ok (.iconst 0, 1) := by decide +kernel
theorem dX12_readSign_31 : decode cX12_readSign 31 = .ok (.iadd, 1) := by decide +kernel
theorem dX12_readSign_32 : decode cX12_readSign 32 = .ok (.aload_n 0, 1) := by decide +kernel
theorem dX12_readSign_33 : decode cX12_readSign 33 = .ok (.invokevirtual 147, 3) := by decide +kernel
theorem dX12_readSign_36 : decode cX12_readSign 36 = .ok (.iastore, 1) := by decide +kernel
theorem dX12_readSign_37 : decode cX12_readSign 37 = .ok (.aload_n 0, 1) := by decide +kernel
theorem dX12_readSign_38 : decode cX12_readSign 38 = .ok (.getfield 13, 3) := by decide +kernel
theorem dX12_readSign_41 : decode cX12_readSign 41 = .ok (.iload_n 2, 1) := by decide +kernel
theorem dX12_readSign_42 : decode cX12_readSign 42 = .ok (.iconst 0, 1) := by decide +kernel
theorem dX12_readSign_43 : decode cX12_readSign 43 = .ok (.iadd, 1) := by decide +kernel
theorem dX12_readSign_44 : decode cX12_readSign 44 = .ok (.iaload, 1) := by decide +kernel
theorem dX12_readSign_45 : decode cX12_readSign 45 = .ok (.ifCond .ge 5, 3) := by decide +kernel
theorem dX12_readSign_48 : decode cX12_readSign 48 = .ok (.iconst 0, 1) := by decide +kernel
theorem dX12_readSign_49 : decode cX12_readSign 49 = .ok (.ireturn, 1) := by decide +kernel
theorem dX12_readSign_50 : decode cX12_readSign 50 = .ok (.aload_n 0, 1) := by decide +kernel
theorem dX12_readSign_51 : decode cX12_readSign 51 = .ok (.getfield 13, 3) := by decide +kernel
theorem dX12_readSign_54 : decode cX12_readSign 54 = .ok (.iload_n 2, 1) := by decide +kernel
theorem dX12_readSign_55 : decode cX12_readSign 55 = .ok (.iconst 1, 1) := by decide +kernel
theorem dX12_readSign_56 : decode cX12_readSign 56 = .ok (.iadd, 1) := by decide +kernel
theorem dX12_readSign_57 : decode cX12_readSign 57 = .ok (.aload_n 0, 1) := by decide +kernel
theorem dX12_readSign_58 : decode cX12_readSign 58 = .ok (.ldc 150, 2) := by decide +kernel
theorem dX12_readSign_60 : decode cX12_readSign 60 = .ok (.iconst 2, 1) := by decide +kernel
theorem dX12_readSign_61 : decode cX12_readSign 61 = .ok (.bipush 12, 2) := by decide +kernel
theorem dX12_readSign_63 : decode cX12_readSign 63 = .ok (.invokevirtual 152, 3) := by decide +kernel
theorem dX12_readSign_66 : decode cX12_readSign 66 = .ok (.iastore, 1) := by decide +kernel
theorem dX12_readSign_67 : decode cX12_readSign 67 = .ok (.aload_n 0, 1) := by decide +kernel
theorem dX12_readSign_68 : decode cX12_readSign 68 = .ok (.getfield 13, 3) := by decide +kernel
theorem dX12_readSign_71 : decode cX12_readSign 71 = .ok (.iload_n 2, 1) := by decide +kernel
theorem dX12_readSign_72 : decode cX12_readSign 72 = .ok (.iconst 1, 1) := by decide +kernel
theorem dX12_readSign_73 : decode cX12_readSign 73 = .ok (.iadd, 1) := by decide +kernel
theorem dX12_readSign_74 : decode cX12_readSign 74 = .ok (.iaload, 1) := by decide +kernel
theorem dX12_readSign_75 : decode cX12_readSign 75 = .ok (.ifCond .lt 28, 3) := by decide +kernel
theorem dX12_readSign_78 : decode cX12_readSign 78 = .ok (.aload_n 0, 1) := by decide +kernel
theorem dX12_readSign_79 : decode cX12_readSign 79 = .ok (.ldc 156, 2) := by decide +kernel
theorem dX12_readSign_81 : decode cX12_readSign 81 = .ok (.iload_n 2, 1) := by decide +kernel
theorem dX12_readSign_82 : decode cX12_readSign 82 = .ok (.iconst 2, 1) := by decide +kernel
theorem dX12_readSign_83 : decode cX12_readSign 83 = .ok (.iadd, 1) := by decide +kernel
theorem dX12_readSign_84 : decode cX12_readSign 84 = .ok (.invokevirtual 158, 3) := by decide +kernel
theorem dX12_readSign_87 : decode cX12_readSign 87 = .ok (.ifCond .eq 16, 3) := by decide +kernel
theorem dX12_readSign_90 : decode cX12_readSign 90 = .ok (.aload_n 0, 1) := by decide +kernel
theorem dX12_readSign_91 : decode cX12_readSign 91 = .ok (.ldc 162, 2) := by decide +kernel
theorem dX12_readSign_93 : decode cX12_readSign 93 = .ok (.iload_n 2, 1) := by decide +kernel
theorem dX12_readSign_94 : decode cX12_readSign 94 = .ok (.bipush 7, 2) := by decide +kernel
theorem dX12_readSign_96 : decode cX12_readSign 96 = .ok (.iadd, 1) := by decide +kernel
theorem dX12_readSign_97 : decode cX12_readSign 97 = .ok (.invokevirtual 158, 3) := by decide +kernel
theorem dX12_readSign_100 : decode cX12_readSign 100 = .ok (.ifCond .ne 5, 3) := by decide +kernel
theorem dX12_readSign_103 : decode cX12_readSign 103 = .ok (.iconst 0, 1) := by decide +kernel
theorem dX12_readSign_104 : decode cX12_readSign 104 = .ok (.ireturn, 1) := by decide +kernel
theorem dX12_readSign_105 : decode cX12_readSign 105 = .ok (.iconst 0, 1) := by decide +kernel
theorem dX12_readSign_106 : decode cX12_readSign 106 = .ok (.istore_n 3, 1) := by decide +kernel
theorem dX12_readSign_107 : decode cX12_readSign 107 = .ok (.iload_n 3, 1) := by decide +kernel
theorem dX12_readSign_108 : decode cX12_readSign 108 = .ok (.iconst 5, 1) := by decide +kernel
theorem dX12_readSign_109 : decode cX12_readSign 109 = .ok (.if_icmp .ge 38, 3) := by decide +kernel
theorem dX12_readSign_112 : decode cX12_readSign 112 = .ok (.aload_n 0, 1) := by decide +kernel
theorem dX12_readSign_113 : decode cX12_readSign 113 = .ok (.iload_n 1, 1) := by decide +kernel
theorem dX12_readSign_114 : decode cX12_readSign 114 = .ok (.iconst 2, 1) := by decide +kernel
theorem dX12_readSign_115 : decode cX12_readSign 115 = .ok (.iload_n 3, 1) := by decide +kernel
theorem dX12_readSign_116 : decode cX12_readSign 116 = .ok (.iadd, 1) := by decide +kernel
theorem dX12_readSign_117 : decode cX12_readSign 117 = .ok (.invokevirtual 81, 3) := by decide +kernel
theorem dX12_readSign_120 : decode cX12_readSign 120 = .ok (.aload_n 0, 1) := by decide +kernel
theorem dX12_readSign_121 : decode cX12_readSign 121 = .ok (.iload_n 1, 1) := by decide +kernel
theorem dX12_readSign_122 : decode cX12_readSign 122 = .ok (.bipush 7, 2) := by decide +kernel
theorem dX12_readSign_124 : decode cX12_readSign 124 = .ok (.iload_n 3, 1) := by decide +kernel
theorem dX12_readSign_125 : decode cX12_readSign 125 = .ok (.iadd, 1) := by decide +kernel
theorem dX12_readSign_126 : decode cX12_readSign 126 = .ok (.invokevirtual 81, 3) := by decide +kernel
theorem dX12_readSign_129 : decode cX12_readSign 129 = .ok (.iadd, 1) := by decide +kernel
theorem dX12_readSign_130 : decode cX12_readSign 130 = .ok (.aload_n 0, 1) := by decide +kernel
theorem dX12_readSign_131 : decode cX12_readSign 131 = .ok (.iload_n 1, 1) := by decide +kernel
theorem dX12_readSign_132 : decode cX12_readSign 132 = .ok (.iconst 1, 1) := by decide +kernel
theorem dX12_readSign_133 : decode cX12_readSign 133 = .ok (.invokevirtual 81, 3) := by decide +kernel
theorem dX12_readSign_136 : decode cX12_readSign 136 = .ok (.if_icmp .lt 5, 3) := by decide +kernel
theorem dX12_readSign_139 : decode cX12_readSign 139 = .ok (.iconst 0, 1) := by decide +kernel
theorem dX12_readSign_140 : decode cX12_readSign 140 = .ok (.ireturn, 1) := by decide +kernel
theorem dX12_readSign_141 : decode cX12_readSign 141 = .ok (.iinc 3 1, 3) := by decide +kernel
theorem dX12_readSign_144 : decode cX12_readSign 144 = .ok (.goto (-37), 3) := by decide +kernel
theorem dX12_readSign_147 : decode cX12_readSign 147 = .ok (.aload_n 0, 1) := by decide +kernel
theorem dX12_readSign_148 : decode cX12_readSign 148 = .ok (.getfield 13, 3) := by decide +kernel
theorem dX12_readSign_151 : decode cX12_readSign 151 = .ok (.iconst 0, 1) := by decide +kernel
theorem dX12_readSign_152 : decode cX12_readSign 152 = .ok (.dup2, 1) := by decide +kernel
theorem dX12_readSign_153 : decode cX12_readSign 153 = .ok (.iaload, 1) := by decide +kernel
theorem dX12_readSign_154 : decode cX12_readSign 154 = .ok (.iconst 1, 1) := by decide +kernel
theorem dX12_readSign_155 : decode cX12_readSign 155 = .ok (.iadd, 1) := by decide +kernel
theorem dX12_readSign_156 : decode cX12_readSign 156 = .ok (.iastore, 1) := by decide +kernel
theorem dX12_readSign_157 : decode cX12_readSign 157 = .ok (.iconst 1, 1) := by decide +kernel
theorem dX12_readSign_158 : decode cX12_readSign 158 = .ok (.ireturn, 1) := by decide +kernel
theorem dX12_readBoard_0 : decode cX12_readBoard 0 = .ok (.aload_n 0, 1) := by decide +kernel
theorem dX12_readBoard_1 : decode cX12_readBoard 1 = .ok (.bipush 10, 2) := by decide +kernel
theorem dX12_readBoard_3 : decode cX12_readBoard 3 = .ok (.bipush 120, 2) := by decide +kernel
theorem dX12_readBoard_5 : decode cX12_readBoard 5 = .ok (.invokevirtual 136, 3) := by decide +kernel
theorem dX12_readBoard_8 : decode cX12_readBoard 8 = .ok (.istore_n 1, 1) := by decide +kernel
theorem dX12_readBoard_9 : decode cX12_readBoard 9 = .ok (.iload_n 1, 1) := by decide +kernel
theorem dX12_readBoard_10 : decode cX12_readBoard 10 = .ok (.ifCond .ge 7, 3) := by decide +kernel
theorem dX12_readBoard_13 : decode cX12_readBoard 13 = .ok (.iconst (-1), 1) := by decide +kernel
theorem dX12_readBoard_14 : decode cX12_readBoard 14 = .ok (.goto 12, 3) := by decide +kernel
theorem dX12_readBoard_17 : decode cX12_readBoard 17 = .ok (.aload_n 0, 1) := by decide +kernel
theorem dX12_readBoard_18 : decode cX12_readBoard 18 = .ok (.ldc 164, 2) := by decide +kernel
theorem dX12_readBoard_20 : decode cX12_readBoard 20 = .ok (.iconst 0, 1) := by decide +kernel
theorem dX12_readBoard_21 : decode cX12_readBoard 21 = .ok (.bipush 9, 2) := by decide +kernel
theorem dX12_readBoard_23 : decode cX12_readBoard 23 = .ok (.invokevirtual 152, 3) := by decide +kernel
theorem dX12_readBoard_26 : decode cX12_readBoard 26 = .ok (.istore_n 2, 1) := by decide +kernel
theorem dX12_readBoard_27 : decode cX12_readBoard 27 = .ok (.iload_n 2, 1) := by decide +kernel
theorem dX12_readBoard_28 : decode cX12_readBoard 28 = .ok (.ifCond .ge 5, 3) := by decide +kernel
theorem dX12_readBoard_31 : decode cX12_readBoard 31 = .ok (.iconst 0, 1) := by decide +kernel
theorem dX12_readBoard_32 : decode cX12_readBoard 32 = .ok (.ireturn, 1) := by decide +kernel
theorem dX12_readBoard_33 : decode cX12_readBoard 33 = .ok (.aload_n 0, 1) := by decide +kernel
theorem dX12_readBoard_34 : decode cX12_readBoard 34 = .ok (.getfield 13, 3) := by decide +kernel
theorem dX12_readBoard_37 : decode cX12_readBoard 37 = .ok (.iconst 2, 1) := by decide +kernel
theorem dX12_readBoard_38 : decode cX12_readBoard 38 = .ok (.iload_n 1, 1) := by decide +kernel
theorem dX12_readBoard_39 : decode cX12_readBoard 39 = .ok (.iastore, 1) := by decide +kernel
theorem dX12_readBoard_40 : decode cX12_readBoard 40 = .ok (.aload_n 0, 1) := by decide +kernel
theorem dX12_readBoard_41 : decode cX12_readBoard 41 = .ok (.getfield 13, 3) := by decide +kernel
theorem dX12_readBoard_44 : decode cX12_readBoard 44 = .ok (.iconst 3, 1) := by decide +kernel
theorem dX12_readBoard_45 : decode cX12_readBoard 45 = .ok (.iload_n 2, 1) := by decide +kernel
theorem dX12_readBoard_46 : decode cX12_readBoard 46 = .ok (.iastore, 1) := by decide +kernel
theorem dX12_readBoard_47 : decode cX12_readBoard 47 = .ok (.iconst 1, 1) := by decide +kernel
theorem dX12_readBoard_48 : decode cX12_readBoard 48 = .ok (.ireturn, 1) := by decide +kernel
theorem dX12_readWord_0 : decode cX12_readWord 0 = .ok (.iconst 0, 1) := by decide +kernel
theorem dX12_readWord_1 : decode cX12_readWord 1 = .ok (.istore_n 1, 1) := by decide +kernel
theorem dX12_readWord_2 : decode cX12_readWord 2 = .ok (.iload_n 1, 1) := by decide +kernel
theorem dX12_readWord_3 : decode cX12_readWord 3 = .ok (.bipush 14, 2) := by decide +kernel
theorem dX12_readWord_5 : decode cX12_readWord 5 = .ok (.if_icmp .ne 7, 3) := by decide +kernel
theorem dX12_readWord_8 : decode cX12_readWord 8 = .ok (.iconst (-1), 1) := by decide +kernel
theorem dX12_readWord_9 : decode cX12_readWord 9 = .ok (.goto 14, 3) := by decide +kernel
theorem dX12_readWord_12 : decode cX12_readWord 12 = .ok (.aload_n 0, 1) := by decide +kernel
theorem dX12_readWord_13 : decode cX12_readWord 13 = .ok (.iconst 0, 1) := by decide +kernel
theorem dX12_readWord_14 : decode cX12_readWord 14 = .ok (.aload_n 0, 1) := by decide +kernel
theorem dX12_readWord_15 : decode cX12_readWord 15 = .ok (.invokevirtual 87, 3) := by decide +kernel
theorem dX12_readWord_18 : decode cX12_readWord 18 = .ok (.iconst 1, 1) := by decide +kernel
theorem dX12_readWord_19 : decode cX12_readWord 19 = .ok (.isub, 1) := by decide +kernel
theorem dX12_readWord_20 : decode cX12_readWord 20 = .ok (.invokevirtual 136, 3) := by decide +kernel
theorem dX12_readWord_23 : decode cX12_readWord 23 = .ok (.istore_n 2, 1) := by decide +kernel
theorem dX12_readWord_24 : decode cX12_readWord 24 = .ok (.iload_n 1, 1) := by decide +kernel
theorem dX12_readWord_25 : decode cX12_readWord 25 = .ok (.bipush 14, 2) := by decide +kernel
theorem dX12_readWord_27 : decode cX12_readWord 27 = .ok (.if_icmp .ne 7, 3) := by decide +kernel
theorem dX12_readWord_30 : decode cX12_readWord 30 = .ok (.aload_n 0, 1) := by decide +kernel
theorem dX12_readWord_31 : decode cX12_readWord 31 = .ok (.invokevirtual 117, 3) := by decide +kernel
theorem dX12_readWord_34 : decode cX12_readWord 34 = .ok (.iload_n 2, 1) := by decide +kernel
theorem dX12_readWord_35 : decode cX12_readWord 35 = .ok (.ifCond .ge 5, 3) := by decide +kernel
theorem dX12_readWord_38 : decode cX12_readWord 38 = .ok (.iconst 0, 1) := by decide +kernel
theorem dX12_readWord_39 : decode cX12_readWord 39 = .ok (.ireturn, 1) := by decide +kernel
theorem dX12_readWord_40 : decode cX12_readWord 40 = .ok (.aload_n 0, 1) := by decide +kernel
theorem dX12_readWord_41 : decode cX12_readWord 41 = .ok (.iload_n 1, 1) := by decide +kernel
theorem dX12_readWord_42 : decode cX12_readWord 42 = .ok (.iconst 0, 1) := by decide +kernel
theorem dX12_readWord_43 : decode cX12_readWord 43 = .ok (.iload_n 2, 1) := by decide +kernel
theorem dX12_readWord_44 : decode cX12_readWord 44 = .ok (.invokevirtual 166, 3) := by decide +kernel
theorem dX12_readWord_47 : decode cX12_readWord 47 = .ok (.aload_n 0, 1) := by decide +kernel
theorem dX12_readWord_48 : decode cX12_readWord 48 = .ok (.iload_n 1, 1) := by decide +kernel
theorem dX12_readWord_49 : decode cX12_readWord 49 = .ok (.iconst 1, 1) := by decide +kernel
theorem dX12_readWord_50 : decode cX12_readWord 50 = .ok (.iconst 0, 1) := by decide +kernel
theorem dX12_readWord_51 : decode cX12_readWord 51 = .ok (.invokevirtual 166, 3) := by decide +kernel
theorem dX12_readWord_54 : decode cX12_readWord 54 = .ok (.aload_n 0, 1) := by decide +kernel
theorem dX12_readWord_55 : decode cX12_readWord 55 = .ok (.iload_n 1, 1) := by decide +kernel
theorem dX12_readWord_56 : decode cX12_readWord 56 = .ok (.iconst 2, 1) := by decide +kernel
theorem dX12_readWord_57 : decode cX12_readWord 57 = .ok (.iconst (-1), 1) := by decide +kernel
theorem dX12_readWord_58 : decode cX12_readWord 58 = .ok (.invokevirtual 166, 3) := by decide +kernel
theorem dX12_readWord_61 : decode cX12_readWord 61 = .ok (.aload_n 0, 1) := by decide +kernel
theorem dX12_readWord_62 : decode cX12_readWord 62 = .ok (.iload_n 1, 1) := by decide +kernel
theorem dX12_readWord_63 : decode cX12_readWord 63 = .ok (.iconst 3, 1) := by decide +kernel
theorem dX12_readWord_64 : decode cX12_readWord 64 = .ok (.iconst 3, 1) := by decide +kernel
theorem dX12_readWord_65 : decode cX12_readWord 65 = .ok (.invokevirtual 166, 3) := by decide +kernel
theorem dX12_readWord_68 : decode cX12_readWord 68 = .ok (.iinc 1 1, 3) := by decide +kernel
theorem dX12_readWord_71 : decode cX12_readWord 71 = .ok (.aload_n 0, 1) := by decide +kernel
theorem dX12_readWord_72 : decode cX12_readWord 72 = .ok (.invokevirtual 170, 3) := by decide +kernel
theorem dX12_readWord_75 : decode cX12_readWord 75 = .ok (.ifCond .ne (-73), 3) := by decide +kernel
theorem dX12_readWord_78 : decode cX12_readWord 78 = .ok (.aload_n 0, 1) := by decide +kernel
theorem dX12_readWord_79 : decode cX12_readWord 79 = .ok (.getfield 13, 3) := by decide +kernel
theorem dX12_readWord_82 : decode cX12_readWord 82 = .ok (.iconst 1, 1) := by decide +kernel
theorem dX12_readWord_83 : decode cX12_readWord 83 = .ok (.iload_n 1, 1) := by decide +kernel
theorem dX12_readWord_84 : decode cX12_readWord 84 = .ok (.iastore, 1) := by decide +kernel
theorem dX12_readWord_85 : decode cX12_readWord 85 = .ok (.aload_n 0, 1) := by decide +kernel
theorem dX12_readWord_86 : decode cX12_readWord 86 = .ok (.getfield 13, 3) := by decide +kernel
theorem dX12_readWord_89 : decode cX12_readWord 89 = .ok (.bipush 12, 2) := by decide +kernel
theorem dX12_readWord_91 : decode cX12_readWord 91 = .ok (.iconst (-1), 1) := by decide +kernel
theorem dX12_readWord_92 : decode cX12_readWord 92 = .ok (.iastore, 1) := by decide +kernel
theorem dX12_readWord_93 : decode cX12_readWord 93 = .ok (.iconst 1, 1) := by decide +kernel
theorem dX12_readWord_94 : decode cX12_readWord 94 = .ok (.ireturn, 1) := by decide +kernel
theorem dX12_readWriter_0 : decode cX12_readWriter 0 = .ok (.aload_n 0, 1) := by decide +kernel
theorem dX12_readWriter_1 : decode cX12_readWriter 1 = .ok (.invokevirtual 97, 3) := by decide +kernel
theorem dX12_readWriter_4 : decode cX12_readWriter 4 = .ok (.bipush 6, 2) := by decide +kernel
theorem dX12_readWriter_6 : decode cX12_readWriter 6 = .ok (.if_icmp .ne 5, 3) := by decide +kernel
theorem dX12_readWriter_9 : decode cX12_readWriter 9 = .ok (.iconst 0, 1) := by decide +kernel
theorem dX12_readWriter_10 : decode cX12_readWriter 10 = .ok (.ireturn, 1) := by decide +kernel
theorem dX12_readWriter_11 : decode cX12_readWriter 11 = .ok (.aload_n 0, 1) := by decide +kernel
theorem dX12_readWriter_12 : decode cX12_readWriter 12 = .ok (.ldc 174, 2) := by decide +kernel
theorem dX12_readWriter_14 : decode cX12_readWriter 14 = .ok (.iconst 0, 1) := by decide +kernel
theorem dX12_readWriter_15 : decode cX12_readWriter 15 = .ok (.sipush 999, 3) := by decide +kernel
theorem dX12_readWriter_18 : decode cX12_readWriter 18 = .ok (.invokevirtual 152, 3) := by decide +kernel
theorem dX12_readWriter_21 : decode cX12_readWriter 21 = .ok (.istore_n 1, 1) := by decide +kernel
theorem dX12_readWriter_22 : decode cX12_readWriter 22 = .ok (.iload_n 1, 1) := by decide +kernel
theorem dX12_readWriter_23 : decode cX12_readWriter 23 = .ok (.ifCond .ge 7, 3) := by decide +kernel
theorem dX12_readWriter_26 : decode cX12_readWriter 26 = .ok (.iconst (-1), 1) := by decide +kernel
theorem dX12_readWriter_27 : decode cX12_readWriter 27 = .ok (.goto 12, 3) := by decide +kernel
theorem dX12_readWriter_30 : decode cX12_readWriter 30 = .ok (.aload_n 0, 1) := by decide +kernel
theorem dX12_readWriter_31 : decode cX12_readWriter 31 = .ok (.ldc 176, 2) := by decide +kernel
theorem dX12_readWriter_33 : decode cX12_readWriter 33 = .ok (.iconst 0, 1) := by decide +kernel
theorem dX12_readWriter_34 : decode cX12_readWriter 34 = .ok (.bipush 100, 2) := by decide +kernel
theorem dX12_readWriter_36 : decode cX12_readWriter 36 = .ok (.invokevirtual 152, 3) := by decide +kernel
theorem dX12_readWriter_39 : decode cX12_readWriter 39 = .ok (.istore_n 2, 1) := by decide +kernel
theorem dX12_readWriter_40 : decode cX12_readWriter 40 = .ok (.iload_n 2, 1) := by decide +kernel
theorem dX12_readWriter_41 : decode cX12_readWriter 41 = .ok (.ifCond .ge 5, 3) := by decide +kernel
theorem dX12_readWriter_44 : decode cX12_readWriter 44 = .ok (.iconst 0, 1) := by decide +kernel
theorem dX12_readWriter_45 : decode cX12_readWriter 45 = .ok (.ireturn, 1) := by decide +kernel
theorem dX12_readWriter_46 : decode cX12_readWriter 46 = .ok (.aload_n 0, 1) := by decide +kernel
theorem dX12_readWriter_47 : decode cX12_readWriter 47 = .ok (.getfield 13, 3) := by decide +kernel
theorem dX12_readWriter_50 : decode cX12_readWriter 50 = .ok (.sipush 215, 3) := by decide +kernel
theorem dX12_readWriter_53 : decode cX12_readWriter 53 = .ok (.iconst 2, 1) := by decide +kernel
theorem dX12_readWriter_54 : decode cX12_readWriter 54 = .ok (.aload_n 0, 1) := by decide +kernel
theorem dX12_readWriter_55 : decode cX12_readWriter 55 = .ok (.invokevirtual 97, 3) := by decide +kernel
theorem dX12_readWriter_58 : decode cX12_readWriter 58 = .ok (.imul, 1) := by decide +kernel
theorem dX12_readWriter_59 : decode cX12_readWriter 59 = .ok (.iadd, 1) := by decide +kernel
theorem dX12_readWriter_60 : decode cX12_readWriter 60 = .ok (.iload_n 1, 1) := by decide +kernel
theorem dX12_readWriter_61 : decode cX12_readWriter 61 = .ok (.iastore, 1) := by decide +kernel
theorem dX12_readWriter_62 : decode cX12_readWriter 62 = .ok (.aload_n 0, 1) := by decide +kernel
theorem dX12_readWriter_63 : decode cX12_readWriter 63 = .ok (.getfield 13, 3) := by decide +kernel
theorem dX12_readWriter_66 : decode cX12_readWriter 66 = .ok (.sipush 215, 3) := by decide +kernel
theorem dX12_readWriter_69 : decode cX12_readWriter 69 = .ok (.iconst 2, 1) := by decide +kernel
theorem dX12_readWriter_70 : decode cX12_readWriter 70 = .ok (.aload_n 0, 1) := by decide +kernel
theorem dX12_readWriter_71 : decode cX12_readWriter 71 = .ok (.invokevirtual 97, 3) := by decide +kernel
theorem dX12_readWriter_74 : decode cX12_readWriter 74 = .ok (.imul, 1) := by decide +kernel
theorem dX12_readWriter_75 : decode cX12_readWriter 75 = .ok (.iadd, 1) := by decide +kernel
theorem dX12_readWriter_76 : decode cX12_readWriter 76 = .ok (.iconst 1, 1) := by decide +kernel
theorem dX12_readWriter_77 : decode cX12_readWriter 77 = .ok (.iadd, 1) := by decide +kernel
theorem dX12_readWriter_78 : decode cX12_readWriter 78 = .ok (.iload_n 2, 1) := by decide +kernel
theorem dX12_readWriter_79 : decode cX12_readWriter 79 = .ok (.iastore, 1) := by decide +kernel
theorem dX12_readWriter_80 : decode cX12_readWriter 80 = .ok (.aload_n 0, 1) := by decide +kernel
theorem dX12_readWriter_81 : decode cX12_readWriter 81 = .ok (.getfield 13, 3) := by decide +kernel
theorem dX12_readWriter_84 : decode cX12_readWriter 84 = .ok (.bipush 7, 2) := by decide +kernel
theorem dX12_readWriter_86 : decode cX12_readWriter 86 = .ok (.dup2, 1) := by decide +kernel
theorem dX12_readWriter_87 : decode cX12_readWriter 87 = .ok (.iaload, 1) := by decide +kernel
theorem dX12_readWriter_88 : decode cX12_readWriter 88 = .ok (.iconst 1, 1) := by decide +kernel
theorem dX12_readWriter_89 : decode cX12_readWriter 89 = .ok (.iadd, 1) := by decide +kernel
theorem dX12_readWriter_90 : decode cX12_readWriter 90 = .ok (.iastore, 1) := by decide +kernel
theorem dX12_readWriter_91 : decode cX12_readWriter 91 = .ok (.iconst 1, 1) := by decide +kernel
theorem dX12_readWriter_92 : decode cX12_readWriter 92 = .ok (.ireturn, 1) := by decide +kernel
theorem dX12_readLooker_0 : decode cX12_readLooker 0 = .ok (.aload_n 0, 1) := by decide +kernel
theorem dX12_readLooker_1 : decode cX12_readLooker 1 = .ok (.getfield 13, 3) := by decide +kernel
theorem dX12_readLooker_4 : decode cX12_readLooker 4 = .ok (.bipush 8, 2) := by decide +kernel
theorem dX12_readLooker_6 : decode cX12_readLooker 6 = .ok (.iaload, 1) := by decide +kernel
theorem dX12_readLooker_7 : decode cX12_readLooker 7 = .ok (.bipush 8, 2) := by decide +kernel
theorem dX12_readLooker_9 : decode cX12_readLooker 9 = .ok (.if_icmp .ne 5, 3) := by decide +kernel
theorem dX12_readLooker_12 : decode cX12_readLooker 12 = .ok (.iconst 0, 1) := by decide +kernel
theorem dX12_readLooker_13 : decode cX12_readLooker 13 = .ok (.ireturn, 1) := by decide +kernel
theorem dX12_readLooker_14 : decode cX12_readLooker 14 = .ok (.aload_n 0, 1) := by decide +kernel
theorem dX12_readLooker_15 : decode cX12_readLooker 15 = .ok (.iconst 0, 1) := by decide +kernel
theorem dX12_readLooker_16 : decode cX12_readLooker 16 = .ok (.sipush 200, 3) := by decide +kernel
theorem dX12_readLooker_19 : decode cX12_readLooker 19 = .ok (.invokevirtual 136, 3) := by decide +kernel
theorem dX12_readLooker_22 : decode cX12_readLooker 22 = .ok (.istore_n 1, 1) := by decide +kernel
theorem dX12_readLooker_23 : decode cX12_readLooker 23 = .ok (.iload_n 1, 1) := by decide +kernel
theorem dX12_readLooker_24 : decode cX12_readLooker 24 = .ok (.ifCond .ge 5, 3) := by decide +kernel
theorem dX12_readLooker_27 : decode cX12_readLooker 27 = .ok (.iconst 0, 1) := by decide +kernel
theorem dX12_readLooker_28 : decode cX12_readLooker 28 = .ok (.ireturn, 1) := by decide +kernel
theorem dX12_readLooker_29 : decode cX12_readLooker 29 = .ok (.aload_n 0, 1) := by decide +kernel
theorem dX12_readLooker_30 : decode cX12_readLooker 30 = .ok (.getfield 13, 3) := by decide +kernel
theorem dX12_readLooker_33 : decode cX12_readLooker 33 = .ok (.sipush 227, 3) := by decide +kernel
theorem dX12_readLooker_36 : decode cX12_readLooker 36 = .ok (.aload_n 0, 1) := by decide +kernel
theorem dX12_readLooker_37 : decode cX12_readLooker 37 = .ok (.getfield 13, 3) := by decide +kernel
theorem dX12_readLooker_40 : decode cX12_readLooker 40 = .ok (.bipush 8, 2) := by decide +kernel
theorem dX12_readLooker_42 : decode cX12_readLooker 42 = .ok (.iaload, 1) := by decide +kernel
theorem dX12_readLooker_43 : decode cX12_readLooker 43 = .ok (.iadd, 1) := by decide +kernel
theorem dX12_readLooker_44 : decode cX12_readLooker 44 = .ok (.iload_n 1, 1) := by decide +kernel
theorem dX12_readLooker_45 : decode cX12_readLooker 45 = .ok (.iastore, 1) := by decide +kernel
theorem dX12_readLooker_46 : decode cX12_readLooker 46 = .ok (.aload_n 0, 1) := by decide +kernel
theorem dX12_readLooker_47 : decode cX12_readLooker 47 = .ok (.getfield 13, 3) := by decide +kernel
theorem dX12_readLooker_50 : decode cX12_readLooker 50 = .ok (.bipush 8, 2) := by decide +kernel
theorem dX12_readLooker_52 : decode cX12_readLooker 52 = .ok (.dup2, 1) := by decide +kernel
theorem dX12_readLooker_53 : decode cX12_readLooker 53 = .ok (.iaload, 1) := by decide +kernel
theorem dX12_readLooker_54 : decode cX12_readLooker 54 = .ok (.iconst 1, 1) := by decide +kernel
theorem dX12_readLooker_55 : decode cX12_readLooker 55 = .ok (.iadd, 1) := by decide +kernel
theorem dX12_readLooker_56 : decode cX12_readLooker 56 = .ok (.iastore, 1) := by decide +kernel
theorem dX12_readLooker_57 : decode cX12_readLooker 57 = .ok (.iconst 1, 1) := by decide +kernel
theorem dX12_readLooker_58 : decode cX12_readLooker 58 = .ok (.ireturn, 1) := by decide +kernel
theorem dX12_readNumber_0 : decode cX12_readNumber 0 = .ok (.aload_n 0, 1) := by decide +kernel
theorem dX12_readNumber_1 : decode cX12_readNumber 1 = .ok (.iconst 1, 1) := by decide +kernel
theorem dX12_readNumber_2 : decode cX12_readNumber 2 = .ok (.bipush 99, 2) := by decide +kernel
theorem dX12_readNumber_4 : decode cX12_readNumber 4 = .ok (.invokevirtual 136, 3) := by decide +kernel
theorem dX12_readNumber_7 : decode cX12_readNumber 7 = .ok (.istore_n 2, 1) := by decide +kernel
theorem dX12_readNumber_8 : decode cX12_readNumber 8 = .ok (.aload_n 0, 1) := by decide +kernel
theorem dX12_readNumber_9 : decode cX12_readNumber 9 = .ok (.getfield 13, 3) := by decide +kernel
theorem dX12_readNumber_12 : decode cX12_readNumber 12 = .ok (.iload_n 1, 1) := by decide +kernel
theorem dX12_readNumber_13 : decode cX12_readNumber 13 = .ok (.iload_n 2, 1) := by decide +kernel
theorem dX12_readNumber_14 : decode cX12_readNumber 14 = .ok (.iastore, 1) := by decide +kernel
theorem dX12_readNumber_15 : decode cX12_readNumber 15 = .ok (.iload_n 2, 1) := by decide +kernel
theorem dX12_readNumber_16 : decode cX12_readNumber 16 = .ok (.ifCond .lt 7, 3) := by decide +kernel
theorem dX12_readNumber_19 : decode cX12_readNumber 19 = .ok (.iconst 1, 1) := by decide +kernel
theorem dX12_readNumber_20 : decode cX12_readNumber 20 = .ok (.goto 4, 3) := by decide +kernel
theorem dX12_readNumber_23 : decode cX12_readNumber 23 = .ok (.iconst 0, 1) := by decide +kernel
theorem dX12_readNumber_24 : decode cX12_readNumber 24 = .ok (.ireturn, 1) := by decide +kernel
theorem dX12_readShopLine_0 : decode cX12_readShopLine 0 = .ok (.aload_n 0, 1) := by decide +kernel
theorem dX12_readShopLine_1 : decode cX12_readShopLine 1 = .ok (.ldc 178, 2) := by decide +kernel
theorem dX12_readShopLine_3 : decode cX12_readShopLine 3 = .ok (.invokevirtual 132, 3) := by decide +kernel
theorem dX12_readShopLine_6 : decode cX12_readShopLine 6 = .ok (.ifCond .eq 8, 3) := by decide +kernel
theorem dX12_readShopLine_9 : decode cX12_readShopLine 9 = .ok (.aload_n 0, 1) := by decide +kernel
theorem dX12_readShopLine_10 : decode cX12_readShopLine 10 = .ok (.invokevirtual 180, 3) := by decide +kernel
theorem dX12_readShopLine_13 : decode cX12_readShopLine 13 = .ok (.ireturn, 1) := by decide +kernel
theorem dX12_readShopLine_14 : decode cX12_readShopLine 14 = .ok (.aload_n 0, 1) := by decide +kernel
theorem dX12_readShopLine_15 : decode cX12_readShopLine 15 = .ok (.ldc 183, 2) := by decide +kernel
theorem dX12_readShopLine_17 : decode cX12_readShopLine 17 = .ok (.invokevirtual 132, 3) := by decide +kernel
theorem dX12_readShopLine_20 : decode cX12_readShopLine 20 = .ok (.ifCond .eq 8, 3) := by decide +kernel
theorem dX12_readShopLine_23 : decode cX12_readShopLine 23 = .ok (.aload_n 0, 1) := by decide +kernel
theorem dX12_readShopLine_24 : decode cX12_readShopLine 24 = .ok (.invokevirtual 185, 3) := by decide +kernel
theorem dX12_readShopLine_27 : decode cX12_readShopLine 27 = .ok (.ireturn, 1) := by decide +kernel
theorem dX12_readShopLine_28 : decode cX12_readShopLine 28 = .ok (.aload_n 0, 1) := by decide +kernel
theorem dX12_readShopLine_29 : decode cX12_readShopLine 29 = .ok (.ldc 188, 2) := by decide +kernel
theorem dX12_readShopLine_31 : decode cX12_readShopLine 31 = .ok (.invokevirtual 132, 3) := by decide +kernel
theorem dX12_readShopLine_34 : decode cX12_readShopLine 34 = .ok (.ifCond .eq 9, 3) := by decide +kernel
theorem dX12_readShopLine_37 : decode cX12_readShopLine 37 = .ok (.aload_n 0, 1) := by decide +kernel
theorem dX12_readShopLine_38 : decode cX12_readShopLine 38 = .ok (.iconst 4, 1) := by decide +kernel
theorem dX12_readShopLine_39 : decode cX12_readShopLine 39 = .ok (.invokevirtual 190, 3) := by decide +kernel
theorem dX12_readShopLine_42 : decode cX12_readShopLine 42 = .ok (.ireturn, 1) := by decide +kernel
theorem dX12_readShopLine_43 : decode cX12_readShopLine 43 = .ok (.aload_n 0, 1) := by decide +kernel
theorem dX12_readShopLine_44 : decode cX12_readShopLine 44 = .ok (.ldc 194, 2) := by decide +kernel
theorem dX12_readShopLine_46 : decode cX12_readShopLine 46 = .ok (.invokevirtual 132, 3) := by decide +kernel
theorem dX12_readShopLine_49 : decode cX12_readShopLine 49 = .ok (.ifCond .eq 10, 3) := by decide +kernel
theorem dX12_readShopLine_52 : decode cX12_readShopLine 52 = .ok (.aload_n 0, 1) := by decide +kernel
theorem dX12_readShopLine_53 : decode cX12_readShopLine 53 = .ok (.bipush 6, 2) := by decide +kernel
theorem dX12_readShopLine_55 : decode cX12_readShopLine 55 = .ok (.invokevirtual 190, 3) := by decide +kernel
theorem dX12_readShopLine_58 : decode cX12_readShopLine 58 = .ok (.ireturn, 1) := by decide +kernel
theorem dX12_readShopLine_59 : decode cX12_readShopLine 59 = .ok (.aload_n 0, 1) := by decide +kernel
theorem dX12_readShopLine_60 : decode cX12_readShopLine 60 = .ok (.ldc 196, 2) := by decide +kernel
theorem dX12_readShopLine_62 : decode cX12_readShopLine 62 = .ok (.invokevirtual 132, 3) := by decide +kernel
theorem dX12_readShopLine_65 : decode cX12_readShopLine 65 = .ok (.ifCond .eq 8, 3) := by decide +kernel
theorem dX12_readShopLine_68 : decode cX12_readShopLine 68 = .ok (.aload_n 0, 1) := by decide +kernel
theorem dX12_readShopLine_69 : decode cX12_readShopLine 69 = .ok (.invokevirtual 198, 3) := by decide +kernel
theorem dX12_readShopLine_72 : decode cX12_readShopLine 72 = .ok (.ireturn, 1) := by decide +kernel
theorem dX12_readShopLine_73 : decode cX12_readShopLine 73 = .ok (.aload_n 0, 1) := by decide +kernel
theorem dX12_readShopLine_74 : decode cX12_readShopLine 74 = .ok (.ldc 201, 2) := by decide +kernel
theorem dX12_readShopLine_76 : decode cX12_readShopLine 76 = .ok (.invokevirtual 132, 3) := by decide +kernel
theorem dX12_readShopLine_79 : decode cX12_readShopLine 79 = .ok (.ifCond .eq 8, 3) := by decide +kernel
theorem dX12_readShopLine_82 : decode cX12_readShopLine 82 = .ok (.aload_n 0, 1) := by decide +kernel
theorem dX12_readShopLine_83 : decode cX12_readShopLine 83 = .ok (.invokevirtual 203, 3) := by decide +kernel
theorem dX12_readShopLine_86 : decode cX12_readShopLine 86 = .ok (.ireturn, 1) := by decide +kernel
theorem dX12_readShopLine_87 : decode cX12_readShopLine 87 = .ok (.aload_n 0, 1) := by decide +kernel
theorem dX12_readShopLine_88 : decode cX12_readShopLine 88 = .ok (.ldc 206, 2) := by decide +kernel
theorem dX12_readShopLine_90 : decode cX12_readShopLine 90 = .ok (.invokevirtual 132, 3) := by decide +kernel
theorem dX12_readShopLine_93 : decode cX12_readShopLine 93 = .ok (.ifCond .eq 14, 3) := by decide +kernel
theorem dX12_readShopLine_96 : decode cX12_readShopLine 96 = .ok (.aload_n 0, 1) := by decide +kernel
theorem dX12_readShopLine_97 : decode cX12_readShopLine 97 = .ok (.invokevirtual 208, 3) := by decide +kernel
theorem dX12_readShopLine_100 : decode cX12_readShopLine 100 = .ok (.ifCond .eq 7, 3) := by decide +kernel
theorem dX12_readShopLine_103 : decode cX12_readShopLine 103 = .ok (.iconst 1, 1) := by decide +kernel
theorem dX12_readShopLine_104 : decode cX12_readShopLine 104 = .ok (.goto 4, 3) := by decide +kernel
theorem dX12_readShopLine_107 : decode cX12_readShopLine 107 = .ok (.iconst 0, 1) := by decide +kernel
theorem dX12_readShopLine_108 : decode cX12_readShopLine 108 = .ok (.ireturn, 1) := by decide +kernel
theorem dX12_emits_0 : decode cX12_emits 0 = .ok (.aload_n 0, 1) := by decide +kernel
theorem dX12_emits_1 : decode cX12_emits 1 = .ok (.getfield 13, 3) := by decide +kernel
theorem dX12_emits_4 : decode cX12_emits 4 = .ok (.sipush 1373, 3) := by decide +kernel
theorem dX12_emits_7 : decode cX12_emits 7 = .ok (.iconst 2, 1) := by decide +kernel
theorem dX12_emits_8 : decode cX12_emits 8 = .ok (.aload_n 0, 1) := by decide +kernel
theorem dX12_emits_9 : decode cX12_emits 9 = .ok (.getfield 211, 3) := by decide +kernel
theorem dX12_emits_12 : decode cX12_emits 12 = .ok (.imul, 1) := by decide +kernel
theorem dX12_emits_13 : decode cX12_emits 13 = .ok (.iadd, 1) := by decide +kernel
theorem dX12_emits_14 : decode cX12_emits 14 = .ok (.iload_n 1, 1) := by decide +kernel
theorem dX12_emits_15 : decode cX12_emits 15 = .ok (.iastore, 1) := by decide +kernel
theorem dX12_emits_16 : decode cX12_emits 16 = .ok (.aload_n 0, 1) := by decide +kernel
theorem dX12_emits_17 : decode cX12_emits 17 = .ok (.getfield 13, 3) := by decide +kernel
theorem dX12_emits_20 : decode cX12_emits 20 = .ok (.sipush 1373, 3) := by decide +kernel
theorem dX12_emits_23 : decode cX12_emits 23 = .ok (.iconst 2, 1) := by decide +kernel
theorem dX12_emits_24 : decode cX12_emits 24 = .ok (.aload_n 0, 1) := by decide +kernel
theorem dX12_emits_25 : decode cX12_emits 25 = .ok (.getfield 211, 3) := by decide +kernel
theorem dX12_emits_28 : decode cX12_emits 28 = .ok (.imul, 1) := by decide +kernel
theorem dX12_emits_29 : decode cX12_emits 29 = .ok (.iadd, 1) := by decide +kernel
theorem dX12_emits_30 : decode cX12_emits 30 = .ok (.iconst 1, 1) := by decide +kernel
theorem dX12_emits_31 : decode cX12_emits 31 = .ok (.iadd, 1) := by decide +kernel
theorem dX12_emits_32 : decode cX12_emits 32 = .ok (.iload_n 2, 1) := by decide +kernel
theorem dX12_emits_33 : decode cX12_emits 33 = .ok (.iastore, 1) := by decide +kernel
theorem dX12_emits_34 : decode cX12_emits 34 = .ok (.aload_n 0, 1) := by decide +kernel
theorem dX12_emits_35 : decode cX12_emits 35 = .ok (.dup, 1) := by decide +kernel
theorem dX12_emits_36 : decode cX12_emits 36 = .ok (.getfield 211, 3) := by decide +kernel
theorem dX12_emits_39 : decode cX12_emits 39 = .ok (.iconst 1, 1) := by decide +kernel
theorem dX12_emits_40 : decode cX12_emits 40 = .ok (.iadd, 1) := by decide +kernel
theorem dX12_emits_41 : decode cX12_emits 41 = .ok (.putfield 211, 3) := by decide +kernel
theorem dX12_emits_44 : decode cX12_emits 44 = .ok (.return_, 1) := by decide +kernel
theorem dX12_readPart_0 : decode cX12_readPart 0 = .ok (.aload_n 0, 1) := by decide +kernel
theorem dX12_readPart_1 : decode cX12_readPart 1 = .ok (.invokevirtual 129, 3) := by decide +kernel
theorem dX12_readPart_4 : decode cX12_readPart 4 = .ok (.aload_n 0, 1) := by decide +kernel
theorem dX12_readPart_5 : decode cX12_readPart 5 = .ok (.getfield 104, 3) := by decide +kernel
theorem dX12_readPart_8 : decode cX12_readPart 8 = .ok (.aload_n 0, 1) := by decide +kernel
theorem dX12_readPart_9 : decode cX12_readPart 9 = .ok (.getfield 114, 3) := by decide +kernel
theorem dX12_readPart_12 : decode cX12_readPart 12 = .ok (.if_icmp .ne 22, 3) := by decide +kernel
theorem dX12_readPart_15 : decode cX12_readPart 15 = .ok (.aload_n 0, 1) := by decide +kernel
theorem dX12_readPart_16 : decode cX12_readPart 16 = .ok (.iconst 0, 1) := by decide +kernel
theorem dX12_readPart_17 : decode cX12_readPart 17 = .ok (.sipush 999, 3) := by decide +kernel
theorem dX12_readPart_20 : decode cX12_readPart 20 = .ok (.invokevirtual 136, 3) := by decide +kernel
theorem dX12_readPart_23 : decode cX12_readPart 23 = .ok (.istore_n 1, 1) := by decide +kernel
theorem dX12_readPart_24 : decode cX12_readPart 24 = .ok (.aload_n 0, 1) := by decide +kernel
theorem dX12_readPart_25 : decode cX12_readPart 25 = .ok (.bipush 7, 2) := by decide +kernel
theorem dX12_readPart_27 : decode cX12_readPart 27 = .ok (.iload_n 1, 1) := by decide +kernel
theorem dX12_readPart_28 : decode cX12_readPart 28 = .ok (.invokevirtual 214, 3) := by decide +kernel
theorem dX12_readPart_31 : decode cX12_readPart 31 = .ok (.goto 89, 3) := by decide +kernel
theorem dX12_readPart_34 : decode cX12_readPart 34 = .ok (.aload_n 0, 1) := by decide +kernel
theorem dX12_readPart_35 : decode cX12_readPart 35 = .ok (.ldc 218, 2) := by decide +kernel
theorem dX12_readPart_37 : decode cX12_readPart 37 = .ok (.invokevirtual 132, 3) := by decide +kernel
theorem dX12_readPart_40 : decode cX12_readPart 40 = .ok (.ifCond .eq 7, 3) := by decide +kernel
theorem dX12_readPart_43 : decode cX12_readPart 43 = .ok (.iconst 0, 1) := by decide +kernel
theorem dX12_readPart_44 : decode cX12_readPart 44 = .ok (.goto 69, 3) := by decide +kernel
theorem dX12_readPart_47 : decode cX12_readPart 47 = .ok (.aload_n 0, 1) := by decide +kernel
theorem dX12_readPart_48 : decode cX12_readPart 48 = .ok (.ldc 220, 2) := by decide +kernel
theorem dX12_readPart_50 : decode cX12_readPart 50 = .ok (.invokevirtual 132, 3) := by decide +kernel
theorem dX12_readPart_53 : decode cX12_readPart 53 = .ok (.ifCond .eq 7, 3) := by decide +kernel
theorem dX12_readPart_56 : decode cX12_readPart 56 = .ok (.iconst 1, 1) := by decide +kernel
theorem dX12_readPart_57 : decode cX12_readPart 57 = .ok (.goto 56, 3) := by decide +kernel
theorem dX12_readPart_60 : decode cX12_readPart 60 = .ok (.aload_n 0, 1) := by decide +kernel
theorem dX12_readPart_61 : decode cX12_readPart 61 = .ok (.ldc 156, 2) := by decide +kernel
theorem dX12_readPart_63 : decode cX12_readPart 63 = .ok (.invokevirtual 132, 3) := by decide +kernel
theorem dX12_readPart_66 : decode cX12_readPart 66 = .ok (.ifCond .eq 7, 3) := by decide +kernel
theorem dX12_readPart_69 : decode cX12_readPart 69 = .ok (.iconst 2, 1) := by decide +kernel
theorem dX12_readPart_70 : decode cX12_readPart 70 = .ok (.goto 43, 3) := by decide +kernel
theorem dX12_readPart_73 : decode cX12_readPart 73 = .ok (.aload_n 0, 1) := by decide +kernel
theorem dX12_readPart_74 : decode cX12_readPart 74 = .ok (.ldc 162, 2) := by decide +kernel
theorem dX12_readPart_76 : decode cX12_readPart 76 = .ok (.invokevirtual 132, 3) := by decide +kernel
theorem dX12_readPart_79 : decode cX12_readPart 79 = .ok (.ifCond .eq 7, 3) := by decide +kernel
theorem dX12_readPart_82 : decode cX12_readPart 82 = .ok (.iconst 3, 1) := by decide +kernel
theorem dX12_readPart_83 : decode cX12_readPart 83 = .ok (.goto 30, 3) := by decide +kernel
theorem dX12_readPart_86 : decode cX12_readPart 86 = .ok (.aload_n 0, 1) := by decide +kernel
theorem dX12_readPart_87 : decode cX12_readPart 87 = .ok (.ldc 222, 2) := by decide +kernel
theorem dX12_readPart_89 : decode cX12_readPart 89 = .ok (.invokevirtual 132, 3) := by decide +kernel
theorem dX12_readPart_92 : decode cX12_readPart 92 = .ok (.ifCond .eq 7, 3) := by decide +kernel
theorem dX12_readPart_95 : decode cX12_readPart 95 = .ok (.iconst 4, 1) := by decide +kernel
theorem dX12_readPart_96 : decode cX12_readPart 96 = .ok (.goto 17, 3) := by decide +kernel
theorem dX12_readPart_99 : decode cX12_readPart 99 = .ok (.aload_n 0, 1) := by decide +kernel
theorem dX12_readPart_100 : decode cX12_readPart 100 = .ok (.ldc 224, 2) := by decide +kernel
theorem dX12_readPart_102 : decode cX12_readPart 102 = .ok (.invokevirtual 132, 3) := by decide +kernel
theorem dX12_readPart_105 : decode cX12_readPart 105 = .ok (.ifCond .eq 7, 3) := by decide +kernel
theorem dX12_readPart_108 : decode cX12_readPart 108 = .ok (.iconst 5, 1) := by decide +kernel
theorem dX12_readPart_109 : decode cX12_readPart 109 = .ok (.goto 4, 3) := by decide +kernel
theorem dX12_readPart_112 : decode cX12_readPart 112 = .ok (.iconst (-1), 1) := by decide +kernel
theorem dX12_readPart_113 : decode cX12_readPart 113 = .ok (.istore_n 1, 1) := by decide +kernel
theorem dX12_readPart_114 : decode cX12_readPart 114 = .ok (.aload_n 0, 1) := by decide +kernel
theorem dX12_readPart_115 : decode cX12_readPart 115 = .ok (.iload_n 1, 1) := by decide +kernel
theorem dX12_readPart_116 : decode cX12_readPart 116 = .ok (.iconst 0, 1) := by decide +kernel
theorem dX12_readPart_117 : decode cX12_readPart 117 = .ok (.invokevirtual 214, 3) := by decide +kernel
theorem dX12_readPart_120 : decode cX12_readPart 120 = .ok (.iload_n 1, 1) := by decide +kernel
theorem dX12_readPart_121 : decode cX12_readPart 121 = .ok (.ifCond .lt 7, 3) := by decide +kernel
theorem dX12_readPart_124 : decode cX12_readPart 124 = .ok (.iconst 1, 1) := by decide +kernel
theorem dX12_readPart_125 : decode cX12_readPart 125 = .ok (.goto 4, 3) := by decide +kernel
theorem dX12_readPart_128 : decode cX12_readPart 128 = .ok (.iconst 0, 1) := by decide +kernel
theorem dX12_readPart_129 : decode cX12_readPart 129 = .ok (.ireturn, 1) := by decide +kernel
theorem dX12_readSum_0 : decode cX12_readSum 0 = .ok (.aload_n 0, 1) := by decide +kernel
theorem dX12_readSum_1 : decode cX12_readSum 1 = .ok (.invokevirtual 226, 3) := by decide +kernel
theorem dX12_readSum_4 : decode cX12_readSum 4 = .ok (.ifCond .ne 5, 3) := by decide +kernel
theorem dX12_readSum_7 : decode cX12_readSum 7 = .ok (.iconst 0, 1) := by decide +kernel
theorem dX12_readSum_8 : decode cX12_readSum 8 = .ok (.ireturn, 1) := by decide +kernel
theorem dX12_readSum_9 : decode cX12_readSum 9 = .ok (.aload_n 0, 1) := by decide +kernel
theorem dX12_readSum_10 : decode cX12_readSum 10 = .ok (.bipush 43, 2) := by decide +kernel
theorem dX12_readSum_12 : decode cX12_readSum 12 = .ok (.invokevirtual 229, 3) := by decide +kernel
theorem dX12_readSum_15 : decode cX12_readSum 15 = .ok (.ifCond .eq 22, 3) := by decide +kernel
theorem dX12_readSum_18 : decode cX12_readSum 18 = .ok (.aload_n 0, 1) := by decide +kernel
theorem dX12_readSum_19 : decode cX12_readSum 19 = .ok (.invokevirtual 226, 3) := by decide +kernel
theorem dX12_readSum_22 : decode cX12_readSum 22 = .ok (.ifCond .ne 5, 3) := by decide +kernel
theorem dX12_readSum_25 : decode cX12_readSum 25 = .ok (.iconst 0, 1) := by decide +kernel
theorem dX12_readSum_26 : decode cX12_readSum 26 = .ok (.ireturn, 1) := by decide +kernel
theorem dX12_readSum_27 : decode cX12_readSum 27 = .ok (.aload_n 0, 1) := by decide +kernel
theorem dX12_readSum_28 : decode cX12_readSum 28 = .ok (.bipush 8, 2) := by decide +kernel
theorem dX12_readSum_30 : decode cX12_readSum 30 = .ok (.iconst 0, 1) := by decide +kernel
theorem dX12_readSum_31 : decode cX12_readSum 31 = .ok (.invokevirtual 214, 3) := by decide +kernel
theorem dX12_readSum_34 : decode cX12_readSum 34 = .ok (.goto (-25), 3) := by decide +kernel
theorem dX12_readSum_37 : decode cX12_readSum 37 = .ok (.iconst 1, 1) := by decide +kernel
theorem dX12_readSum_38 : decode cX12_readSum 38 = .ok (.ireturn, 1) := by decide +kernel
theorem dX12_readTag_0 : decode cX12_readTag 0 = .ok (.aload_n 0, 1) := by decide +kernel
theorem dX12_readTag_1 : decode cX12_readTag 1 = .ok (.invokevirtual 129, 3) := by decide +kernel
theorem dX12_readTag_4 : decode cX12_readTag 4 = .ok (.aload_n 0, 1) := by decide +kernel
theorem dX12_readTag_5 : decode cX12_readTag 5 = .ok (.invokevirtual 147, 3) := by decide +kernel
theorem dX12_readTag_8 : decode cX12_readTag 8 = .ok (.istore_n 1, 1) := by decide +kernel
theorem dX12_readTag_9 : decode cX12_readTag 9 = .ok (.iload_n 1, 1) := by decide +kernel
theorem dX12_readTag_10 : decode cX12_readTag 10 = .ok (.ifCond .le 13, 3) := by decide +kernel
theorem dX12_readTag_13 : decode cX12_readTag 13 = .ok (.aload_n 0, 1) := by decide +kernel
theorem dX12_readTag_14 : decode cX12_readTag 14 = .ok (.bipush 6, 2) := by decide +kernel
theorem dX12_readTag_16 : decode cX12_readTag 16 = .ok (.iload_n 1, 1) := by decide +kernel
theorem dX12_readTag_17 : decode cX12_readTag 17 = .ok (.invokevirtual 214, 3) := by decide +kernel
theorem dX12_readTag_20 : decode cX12_readTag 20 = .ok (.goto 11, 3) := by decide +kernel
theorem dX12_readTag_23 : decode cX12_readTag 23 = .ok (.aload_n 0, 1) := by decide +kernel
theorem dX12_readTag_24 : decode cX12_readTag 24 = .ok (.aload_n 0, 1) := by decide +kernel
theorem dX12_readTag_25 : decode cX12_readTag 25 = .ok (.getfield 114, 3) := by decide +kernel
theorem dX12_readTag_28 : decode cX12_readTag 28 = .ok (.putfield 104, 3) := by decide +kernel
theorem dX12_readTag_31 : decode cX12_readTag 31 = .ok (.iload_n 1, 1) := by decide +kernel
theorem dX12_readTag_32 : decode cX12_readTag 32 = .ok (.ifCond .le 7, 3) := by decide +kernel
theorem dX12_readTag_35 : decode cX12_readTag 35 = .ok (.iconst 1, 1) := by decide +kernel
theorem dX12_readTag_36 : decode cX12_readTag 36 = .ok (.goto 4, 3) := by decide +kernel
theorem dX12_readTag_39 : decode cX12_readTag 39 = .ok (.iconst 0, 1) := by decide +kernel
theorem dX12_readTag_40 : decode cX12_readTag 40 = .ok (.ireturn, 1) := by decide +kernel
theorem dX12_readAtom_0 : decode cX12_readAtom 0 = .ok (.aload_n 0, 1) := by decide +kernel
theorem dX12_readAtom_1 : decode cX12_readAtom 1 = .ok (.bipush 40, 2) := by decide +kernel
theorem dX12_readAtom_3 : decode cX12_readAtom 3 = .ok (.invokevirtual 229, 3) := by decide +kernel
theorem dX12_readAtom_6 : decode cX12_readAtom 6 = .ok (.ifCond .eq 50, 3) := by decide +kernel
theorem dX12_readAtom_9 : decode cX12_readAtom 9 = .ok (.aload_n 0, 1) := by decide +kernel
theorem dX12_readAtom_10 : decode cX12_readAtom 10 = .ok (.getfield 232, 3) := by decide +kernel
theorem dX12_readAtom_13 : decode cX12_readAtom 13 = .ok (.bipush 6, 2) := by decide +kernel
theorem dX12_readAtom_15 : decode cX12_readAtom 15 = .ok (.if_icmp .ne 5, 3) := by decide +kernel
theorem dX12_readAtom_18 : decode cX12_readAtom 18 = .ok (.iconst 0, 1) := by decide +kernel
theorem dX12_readAtom_19 : decode cX12_readAtom 19 = .ok (.ireturn, 1) := by decide +kernel
theorem dX12_readAtom_20 : decode cX12_readAtom 20 = .ok (.aload_n 0, 1) := by decide +kernel
theorem dX12_readAtom_21 : decode cX12_readAtom 21 = .ok (.dup, 1) := by decide +kernel
theorem dX12_readAtom_22 : decode cX12_readAtom 22 = .ok (.getfield 232, 3) := by decide +kernel
theorem dX12_readAtom_25 : decode cX12_readAtom 25 = .ok (.iconst 1, 1) := by decide +kernel
theorem dX12_readAtom_26 : decode cX12_readAtom 26 = .ok (.iadd, 1) := by decide +kernel
theorem dX12_readAtom_27 : decode cX12_readAtom 27 = .ok (.putfield 232, 3) := by decide +kernel
theorem dX12_readAtom_30 : decode cX12_readAtom 30 = .ok (.aload_n 0, 1) := by decide +kernel
theorem dX12_readAtom_31 : decode cX12_readAtom 31 = .ok (.invokevirtual 235, 3) := by decide +kernel
theorem dX12_readAtom_34 : decode cX12_readAtom 34 = .ok (.ifCond .ne 5, 3) := by decide +kernel
theorem dX12_readAtom_37 : decode cX12_readAtom 37 = .ok (.iconst 0, 1) := by decide +kernel
theorem dX12_readAtom_38 : decode cX12_readAtom 38 = .ok (.ireturn, 1) := by decide +kernel
theorem dX12_readAtom_39 : decode cX12_readAtom 39 = .ok (.aload_n 0, 1) := by decide +kernel
theorem dX12_readAtom_40 : decode cX12_readAtom 40 = .ok (.dup, 1) := by decide +kernel
theorem dX12_readAtom_41 : decode cX12_readAtom 41 = .ok (.getfield 232, 3) := by decide +kernel
theorem dX12_readAtom_44 : decode cX12_readAtom 44 = .ok (.iconst 1, 1) := by decide +kernel
theorem dX12_readAtom_45 : decode cX12_readAtom 45 = .ok (.isub, 1) := by decide +kernel
theorem dX12_readAtom_46 : decode cX12_readAtom 46 = .ok (.putfield 232, 3) := by decide +kernel
theorem dX12_readAtom_49 : decode cX12_readAtom 49 = .ok (.aload_n 0, 1) := by decide +kernel
theorem dX12_readAtom_50 : decode cX12_readAtom 50 = .ok (.bipush 41, 2) := by decide +kernel
theorem dX12_readAtom_52 : decode cX12_readAtom 52 = .ok (.invokevirtual 229, 3) := by decide +kernel
theorem dX12_readAtom_55 : decode cX12_readAtom 55 = .ok (.ireturn, 1) := by decide +kernel
theorem dX12_readAtom_56 : decode cX12_readAtom 56 = .ok (.aload_n 0, 1) := by decide +kernel
theorem dX12_readAtom_57 : decode cX12_readAtom 57 = .ok (.ldc 238, 2) := by decide +kernel
theorem dX12_readAtom_59 : decode cX12_readAtom 59 = .ok (.invokevirtual 240, 3) := by decide +kernel
theorem dX12_readAtom_62 : decode cX12_readAtom 62 = .ok (.ifCond .eq 52, 3) := by decide +kernel
theorem dX12_readAtom_65 : decode cX12_readAtom 65 = .ok (.aload_n 0, 1) := by decide +kernel
theorem dX12_readAtom_66 : decode cX12_readAtom 66 = .ok (.getfield 232, 3) := by decide +kernel
theorem dX12_readAtom_69 : decode cX12_readAtom 69 = .ok (.bipush 6, 2) := by decide +kernel
theorem dX12_readAtom_71 : decode cX12_readAtom 71 = .ok (.if_icmp .ne 5, 3) := by decide +kernel
theorem dX12_readAtom_74 : decode cX12_readAtom 74 = .ok (.iconst 0, 1) := by decide +kernel
theorem dX12_readAtom_75 : decode cX12_readAtom 75 = .ok (.ireturn, 1) := by decide +kernel
theorem dX12_readAtom_76 : decode cX12_readAtom 76 = .ok (.aload_n 0, 1) := by decide +kernel
theorem dX12_readAtom_77 : decode cX12_readAtom 77 = .ok (.dup, 1) := by decide +kernel
theorem dX12_readAtom_78 : decode cX12_readAtom 78 = .ok (.getfield 232, 3) := by decide +kernel
theorem dX12_readAtom_81 : decode cX12_readAtom 81 = .ok (.iconst 1, 1) := by decide +kernel
theorem dX12_readAtom_82 : decode cX12_readAtom 82 = .ok (.iadd, 1) := by decide +kernel
theorem dX12_readAtom_83 : decode cX12_readAtom 83 = .ok (.putfield 232, 3) := by decide +kernel
theorem dX12_readAtom_86 : decode cX12_readAtom 86 = .ok (.aload_n 0, 1) := by decide +kernel
theorem dX12_readAtom_87 : decode cX12_readAtom 87 = .ok (.invokevirtual 243, 3) := by decide +kernel
theorem dX12_readAtom_90 : decode cX12_readAtom 90 = .ok (.ifCond .ne 5, 3) := by decide +kernel
theorem dX12_readAtom_93 : decode cX12_readAtom 93 = .ok (.iconst 0, 1) := by decide +kernel
theorem dX12_readAtom_94 : decode cX12_readAtom 94 = .ok (.ireturn, 1) := by decide +kernel
theorem dX12_readAtom_95 : decode cX12_readAtom 95 = .ok (.aload_n 0, 1) := by decide +kernel
theorem dX12_readAtom_96 : decode cX12_readAtom 96 = .ok (.dup, 1) := by decide +kernel
theorem dX12_readAtom_97 : decode cX12_readAtom 97 = .ok (.getfield 232, 3) := by decide +kernel
theorem dX12_readAtom_100 : decode cX12_readAtom 100 = .ok (.iconst 1, 1) := by decide +kernel
theorem dX12_readAtom_101 : decode cX12_readAtom 101 = .ok (.isub, 1) := by decide +kernel
theorem dX12_readAtom_102 : decode cX12_readAtom 102 = .ok (.putfield 232, 3) := by decide +kernel
theorem dX12_readAtom_105 : decode cX12_readAtom 105 = .ok (.aload_n 0, 1) := by decide +kernel
theorem dX12_readAtom_106 : decode cX12_readAtom 106 = .ok (.bipush 11, 2) := by decide +kernel
theorem dX12_readAtom_108 : decode cX12_readAtom 108 = .ok (.iconst 0, 1) := by decide +kernel
theorem dX12_readAtom_109 : decode cX12_readAtom 109 = .ok (.invokevirtual 214, 3) := by decide +kernel
theorem dX12_readAtom_112 : decode cX12_readAtom 112 = .ok (.iconst 1, 1) := by decide +kernel
theorem dX12_readAtom_113 : decode cX12_readAtom 113 = .ok (.ireturn, 1) := by decide +kernel
theorem dX12_readAtom_114 : decode cX12_readAtom 114 = .ok (.aload_n 0, 1) := by decide +kernel
theorem dX12_readAtom_115 : decode cX12_readAtom 115 = .ok (.invokevirtual 246, 3) := by decide +kernel
theorem dX12_readAtom_118 : decode cX12_readAtom 118 = .ok (.ifCond .eq 5, 3) := by decide +kernel
theorem dX12_readAtom_121 : decode cX12_readAtom 121 = .ok (.iconst 1, 1) := by decide +kernel
theorem dX12_readAtom_122 : decode cX12_readAtom 122 = .ok (.ireturn, 1) := by decide +kernel
theorem dX12_readAtom_123 : decode cX12_readAtom 123 = .ok (.aload_n 0, 1) := by decide +kernel
theorem dX12_readAtom_124 : decode cX12_readAtom 124 = .ok (.invokevirtual 249, 3) := by decide +kernel
theorem dX12_readAtom_127 : decode cX12_readAtom 127 = .ok (.ifCond .ne 5, 3) := by decide +kernel
theorem dX12_readAtom_130 : decode cX12_readAtom 130 = .ok (.iconst 0, 1) := by decide +kernel
theorem dX12_readAtom_131 : decode cX12_readAtom 131 = .ok (.ireturn, 1) := by decide +kernel
theorem dX12_readAtom_132 : decode cX12_readAtom 132 = .ok (.aload_n 0, 1) := by decide +kernel
theorem dX12_readAtom_133 : decode cX12_readAtom 133 = .ok (.bipush 60, 2) := by decide +kernel
theorem dX12_readAtom_135 : decode cX12_readAtom 135 = .ok (.invokevirtual 229, 3) := by decide +kernel
theorem dX12_readAtom_138 : decode cX12_readAtom 138 = .ok (.istore_n 1, 1) := by decide +kernel
theorem dX12_readAtom_139 : decode cX12_readAtom 139 = .ok (.iload_n 1, 1) := by decide +kernel
theorem dX12_readAtom_140 : decode cX12_readAtom 140 = .ok (.ifCond .ne 12, 3) := by decide +kernel
theorem dX12_readAtom_143 : decode cX12_readAtom 143 = .ok (.aload_n 0, 1) := by decide +kernel
theorem dX12_readAtom_144 : decode cX12_readAtom 144 = .ok (.bipush 62, 2) := by decide +kernel
theorem dX12_readAtom_146 : decode cX12_readAtom 146 = .ok (.invokevirtual 229, 3) := by decide +kernel
theorem dX12_readAtom_149 : decode cX12_readAtom 149 = .ok (.ifCond .eq 10, 3) := by decide +kernel
theorem dX12_readAtom_152 : decode cX12_readAtom 152 = .ok (.aload_n 0, 1) := by decide +kernel
theorem dX12_readAtom_153 : decode cX12_readAtom 153 = .ok (.invokevirtual 249, 3) := by decide +kernel
theorem dX12_readAtom_156 : decode cX12_readAtom 156 = .ok (.ifCond .ne 5, 3) := by decide +kernel
theorem dX12_readAtom_159 : decode cX12_readAtom 159 = .ok (.iconst 0, 1) := by decide +kernel
theorem dX12_readAtom_160 : decode cX12_readAtom 160 = .ok (.ireturn, 1) := by decide +kernel
theorem dX12_readAtom_161 : decode cX12_readAtom 161 = .ok (.aload_n 0, 1) := by decide +kernel
theorem dX12_readAtom_162 : decode cX12_readAtom 162 = .ok (.iload_n 1, 1) := by decide +kernel
theorem dX12_readAtom_163 : decode cX12_readAtom 163 = .ok (.ifCond .eq 8, 3) := by decide +kernel
theorem dX12_readAtom_166 : decode cX12_readAtom 166 = .ok (.bipush 9, 2) := by decide +kernel
theorem dX12_readAtom_168 : decode cX12_readAtom 168 = .ok (.goto 5, 3) := by decide +kernel
theorem dX12_readAtom_171 : decode cX12_readAtom 171 = .ok (.bipush 10, 2) := by decide +kernel
theorem dX12_readAtom_173 : decode cX12_readAtom 173 = .ok (.iconst 0, 1) := by decide +kernel
theorem dX12_readAtom_174 : decode cX12_readAtom 174 = .ok (.invokevirtual 214, 3) := by decide +kernel
theorem dX12_readAtom_177 : decode cX12_readAtom 177 = .ok (.iconst 1, 1) := by decide +kernel
theorem dX12_readAtom_178 : decode cX12_readAtom 178 = .ok (.ireturn, 1) := by decide +kernel
theorem dX12_readAllOf_0 : decode cX12_readAllOf 0 = .ok (.aload_n 0, 1) := by decide +kernel
theorem dX12_readAllOf_1 : decode cX12_readAllOf 1 = .ok (.invokevirtual 243, 3) := by decide +kernel
theorem dX12_readAllOf_4 : decode cX12_readAllOf 4 = .ok (.ifCond .ne 5, 3) := by decide +kernel
theorem dX12_readAllOf_7 : decode cX12_readAllOf 7 = .ok (.iconst 0, 1) := by decide +kernel
theorem dX12_readAllOf_8 : decode cX12_readAllOf 8 = .ok (.ireturn, 1) := by decide +kernel
theorem dX12_readAllOf_9 : decode cX12_readAllOf 9 = .ok (.aload_n 0, 1) := by decide +kernel
theorem dX12_readAllOf_10 : decode cX12_readAllOf 10 = .ok (.ldc 252, 2) := by decide +kernel
theorem dX12_readAllOf_12 : decode cX12_readAllOf 12 = .ok (.invokevirtual 240, 3) := by decide +kernel
theorem dX12_readAllOf_15 : decode cX12_readAllOf 15 = .ok (.ifCond .eq 22, 3) := by decide +kernel
theorem dX12_readAllOf_18 : decode cX12_readAllOf 18 = .ok (.aload_n 0, 1) := by decide +kernel
theorem dX12_readAllOf_19 : decode cX12_readAllOf 19 = .ok (.invokevirtual 243, 3) := by decide +kernel
theorem dX12_readAllOf_22 : decode cX12_readAllOf 22 = .ok (.ifCond .ne 5, 3) := by decide +kernel
theorem dX12_readAllOf_25 : decode cX12_readAllOf 25 = .ok (.iconst 0, 1) := by decide +kernel
theorem dX12_readAllOf_26 : decode cX12_readAllOf 26 = .ok (.ireturn, 1) := by decide +kernel
theorem dX12_readAllOf_27 : decode cX12_readAllOf 27 = .ok (.aload_n 0, 1) := by decide +kernel
theorem dX12_readAllOf_28 : decode cX12_readAllOf 28 = .ok (.bipush 12, 2) := by decide +kernel
theorem dX12_readAllOf_30 : decode cX12_readAllOf 30 = .ok (.iconst 0, 1) := by decide +kernel
theorem dX12_readAllOf_31 : decode cX12_readAllOf 31 = .ok (.invokevirtual 214, 3) := by decide +kernel
theorem dX12_readAllOf_34 : decode cX12_readAllOf 34 = .ok (.goto (-25), 3) := by decide +kernel
theorem dX12_readAllOf_37 : decode cX12_readAllOf 37 = .ok (.iconst 1, 1) := by decide +kernel
theorem dX12_readAllOf_38 : decode cX12_readAllOf 38 = .ok (.ireturn, 1) := by decide +kernel
theorem dX12_readCond_0 : decode cX12_readCond 0 = .ok (.aload_n 0, 1) := by decide +kernel
theorem dX12_readCond_1 : decode cX12_readCond 1 = .ok (.invokevirtual 254, 3) := by decide +kernel
theorem dX12_readCond_4 : decode cX12_readCond 4 = .ok (.ifCond .ne 5, 3) := by decide +kernel
theorem dX12_readCond_7 : decode cX12_readCond 7 = .ok (.iconst 0, 1) := by decide +kernel
theorem dX12_readCond_8 : decode cX12_readCond 8 = .ok (.ireturn, 1) := by decide +kernel
theorem dX12_readCond_9 : decode cX12_readCond 9 = .ok (.aload_n 0, 1) := by decide +kernel
theorem dX12_readCond_10 : decode cX12_readCond 10 = .ok (.ldc_w 257, 3) := by decide +kernel
theorem dX12_readCond_13 : decode cX12_readCond 13 = .ok (.invokevirtual 240, 3) := by decide +kernel
theorem dX12_readCond_16 : decode cX12_readCond 16 = .ok (.ifCond .eq 22, 3) := by decide +kernel
theorem dX12_readCond_19 : decode cX12_readCond 19 = .ok (.aload_n 0, 1) := by decide +kernel
theorem dX12_readCond_20 : decode cX12_readCond 20 = .ok (.invokevirtual 254, 3) := by decide +kernel
theorem dX12_readCond_23 : decode cX12_readCond 23 = .ok (.ifCond .ne 5, 3) := by decide +kernel
theorem dX12_readCond_26 : decode cX12_readCond 26 = .ok (.iconst 0, 1) := by decide +kernel
theorem dX12_readCond_27 : decode cX12_readCond 27 = .ok (.ireturn, 1) := by decide +kernel
theorem dX12_readCond_28 : decode cX12_readCond 28 = .ok (.aload_n 0, 1) := by decide +kernel
theorem dX12_readCond_29 : decode cX12_readCond 29 = .ok (.bipush 13, 2) := by decide +kernel
theorem dX12_readCond_31 : decode cX12_readCond 31 = .ok (.iconst 0, 1) := by decide +kernel
theorem dX12_readCond_32 : decode cX12_readCond 32 = .ok (.invokevirtual 214, 3) := by decide +kernel
theorem dX12_readCond_35 : decode cX12_readCond 35 = .ok (.goto (-26), 3) := by decide +kernel
theorem dX12_readCond_38 : decode cX12_readCond 38 = .ok (.iconst 1, 1) := by decide +kernel
theorem dX12_readCond_39 : decode cX12_readCond 39 = .ok (.ireturn, 1) := by decide +kernel
theorem dX12_readLawLine_0 : decode cX12_readLawLine 0 = .ok (.sipush 1325, 3) := by decide +kernel
theorem dX12_readLawLine_3 : decode cX12_readLawLine 3 = .ok (.iconst 4, 1) := by decide +kernel
theorem dX12_readLawLine_4 : decode cX12_readLawLine 4 = .ok (.iload_n 1, 1) := by decide +kernel
theorem dX12_readLawLine_5 : decode cX12_readLawLine 5 = .ok (.imul, 1) := by decide +kernel
theorem dX12_readLawLine_6 : decode cX12_readLawLine 6 = .ok (.iadd, 1) := by decide +kernel
theorem dX12_readLawLine_7 : decode cX12_readLawLine 7 = .ok (.istore_n 2, 1) := by decide +kernel
theorem dX12_readLawLine_8 : decode cX12_readLawLine 8 = .ok (.aload_n 0, 1) := by decide +kernel
theorem dX12_readLawLine_9 : decode cX12_readLawLine 9 = .ok (.ldc_w 259, 3) := by decide +kernel
theorem dX12_readLawLine_12 : decode cX12_readLawLine 12 = .ok (.invokevirtual 132, 3) := by decide +kernel
theorem dX12_readLawLine_15 : decode cX12_readLawLine 15 = .ok (.istore_n 3, 1) := by decide +kernel
theorem dX12_readLawLine_16 : decode cX12_readLawLine 16 = .ok (.iload_n 3, 1) := by decide +kernel
theorem dX12_readLawLine_17 : decode cX12_readLawLine 17 = .ok (.ifCond .ne 15, 3) := by decide +kernel
theorem dX12_readLawLine_20 : decode cX12_readLawLine 20 = .ok (.aload_n 0, 1) := by decide +kernel
theorem dX12_readLawLine_21 : decode cX12_readLawLine 21 = .ok (.ldc_w 261, 3) := by decide +kernel
theorem dX12_readLawLine_24 : decode cX12_readLawLine 24 = .ok (.invokevirtual 132, 3) := by decide +kernel
theorem dX12_readLawLine_27 : decode cX12_readLawLine 27 = .ok (.ifCond .ne 5, 3) := by decide +kernel
theorem dX12_readLawLine_30 : decode cX12_readLawLine 30 = .ok (.iconst 0, 1) := by decide +kernel
theorem dX12_readLawLine_31 : decode cX12_readLawLine 31 = .ok (.ireturn, 1) := by decide +kernel
theorem dX12_readLawLine_32 : decode cX12_readLawLine 32 = .ok (.aload_n 0, 1) := by decide +kernel
theorem dX12_readLawLine_33 : decode cX12_readLawLine 33 = .ok (.getfield 13, 3) := by decide +kernel
theorem dX12_readLawLine_36 : decode cX12_readLawLine 36 = .ok (.iload_n 2, 1) := by decide +kernel
theorem dX12_readLawLine_37 : decode cX12_readLawLine 37 = .ok (.iload_n 3, 1) := by decide +kernel
theorem dX12_readLawLine_38 : decode cX12_readLawLine 38 = .ok (.ifCond .eq 7, 3) := by decide +kernel
theorem dX12_readLawLine_41 : decode cX12_readLawLine 41 = .ok (.iconst 1, 1) := by decide +kernel
theorem dX12_readLawLine_42 : decode cX12_readLawLine 42 = .ok (.goto 4, 3) := by decide +kernel
theorem dX12_readLawLine_45 : decode cX12_readLawLine 45 = .ok (.iconst 0, 1) := by decide +kernel
theorem dX12_readLawLine_46 : decode cX12_readLawLine 46 = .ok (.iastore, 1) := by decide +kernel
theorem dX12_readLawLine_47 : decode cX12_readLawLine 47 = .ok (.aload_n 0, 1) := by decide +kernel
theorem dX12_readLawLine_48 : decode cX12_readLawLine 48 = .ok (.getfield 13, 3) := by decide +kernel
theorem dX12_readLawLine_51 : decode cX12_readLawLine 51 = .ok (.iload_n 2, 1) := by decide +kernel
theorem dX12_readLawLine_52 : decode cX12_readLawLine 52 = .ok (.iconst 1, 1) := by decide +kernel
theorem dX12_readLawLine_53 : decode cX12_readLawLine 53 = .ok (.iadd, 1) := by decide +kernel
theorem dX12_readLawLine_54 : decode cX12_readLawLine 54 = .ok (.aload_n 0, 1) := by decide +kernel
theorem dX12_readLawLine_55 : decode cX12_readLawLine 55 = .ok (.iconst 0, 1) := by decide +kernel
theorem dX12_readLawLine_56 : decode cX12_readLawLine 56 = .ok (.iload_n 3, 1) := by decide +kernel
theorem dX12_readLawLine_57 : decode cX12_readLawLine 57 = .ok (.ifCond .eq 8, 3) := by decide +kernel
theorem dX12_readLawLine_60 : decode cX12_readLawLine 60 = .ok (.bipush 99, 2) := by decide +kernel
theorem dX12_readLawLine_62 : decode cX12_readLawLine 62 = .ok (.goto 5, 3) := by decide +kernel
theorem dX12_readLawLine_65 : decode cX12_readLawLine 65 = .ok (.bipush 9, 2) := by decide +kernel
theorem dX12_readLawLine_67 : decode cX12_readLawLine 67 = .ok (.invokevirtual 136, 3) := by decide +kernel
theorem dX12_readLawLine_70 : decode cX12_readLawLine 70 = .ok (.iastore, 1) := by decide +kernel
theorem dX12_readLawLine_71 : decode cX12_readLawLine 71 = .ok (.aload_n 0, 1) := by decide +kernel
theorem dX12_readLawLine_72 : decode cX12_readLawLine 72 = .ok (.getfield 13, 3) := by decide +kernel
theorem dX12_readLawLine_75 : decode cX12_readLawLine 75 = .ok (.iload_n 2, 1) := by decide +kernel
theorem dX12_readLawLine_76 : decode cX12_readLawLine 76 = .ok (.iconst 1, 1) := by decide +kernel
theorem dX12_readLawLine_77 : decode cX12_readLawLine 77 = .ok (.iadd, 1) := by decide +kernel
theorem dX12_readLawLine_78 : decode cX12_readLawLine 78 = .ok (.iaload, 1) := by decide +kernel
theorem dX12_readLawLine_79 : decode cX12_readLawLine 79 = .ok (.ifCond .ge 5, 3) := by decide +kernel
theorem dX12_readLawLine_82 : decode cX12_readLawLine 82 = .ok (.iconst 0, 1) := by decide +kernel
theorem dX12_readLawLine_83 : decode cX12_readLawLine 83 = .ok (.ireturn, 1) := by decide +kernel
theorem dX12_readLawLine_84 : decode cX12_readLawLine 84 = .ok (.aload_n 0, 1) := by decide +kernel
theorem dX12_readLawLine_85 : decode cX12_readLawLine 85 = .ok (.getfield 13, 3) := by decide +kernel
theorem dX12_readLawLine_88 : decode cX12_readLawLine 88 = .ok (.iload_n 2, 1) := by decide +kernel
theorem dX12_readLawLine_89 : decode cX12_readLawLine 89 = .ok (.iconst 2, 1) := by decide +kernel
theorem dX12_readLawLine_90 : decode cX12_readLawLine 90 = .ok (.iadd, 1) := by decide +kernel
theorem dX12_readLawLine_91 : decode cX12_readLawLine 91 = .ok (.aload_n 0, 1) := by decide +kernel
theorem dX12_readLawLine_92 : decode cX12_readLawLine 92 = .ok (.getfield 211, 3) := by decide +kernel
theorem dX12_readLawLine_95 : decode cX12_readLawLine 95 = .ok (.iastore, 1) := by decide +kernel
theorem dX12_readLawLine_96 : decode cX12_readLawLine 96 = .ok (.aload_n 0, 1) := by decide +kernel
theorem dX12_readLawLine_97 : decode cX12_readLawLine 97 = .ok (.iconst 0, 1) := by decide +kernel
theorem dX12_readLawLine_98 : decode cX12_readLawLine 98 = .ok (.putfield 232, 3) := by decide +kernel
theorem dX12_readLawLine_101 : decode cX12_readLawLine 101 = .ok (.aload_n 0, 1) := by decide +kernel
theorem dX12_readLawLine_102 : decode cX12_readLawLine 102 = .ok (.ldc_w 263, 3) := by decide +kernel
theorem dX12_readLawLine_105 : decode cX12_readLawLine 105 = .ok (.invokevirtual 240, 3) := by decide +kernel
theorem dX12_readLawLine_108 : decode cX12_readLawLine 108 = .ok (.ifCond .eq 12, 3) := by decide +kernel
theorem dX12_readLawLine_111 : decode cX12_readLawLine 111 = .ok (.aload_n 0, 1) := by decide +kernel
theorem dX12_readLawLine_112 : decode cX12_readLawLine 112 = .ok (.invokevirtual 235, 3) := by decide +kernel
theorem dX12_readLawLine_115 : decode cX12_readLawLine 115 = .ok (.ifCond .ne 5, 3) := by decide +kernel
theorem dX12_readLawLine_118 : decode cX12_readLawLine 118 = .ok (.iconst 0, 1) := by decide +kernel
theorem dX12_readLawLine_119 : decode cX12_readLawLine 119 = .ok (.ireturn, 1) := by decide +kernel
theorem dX12_readLawLine_120 : decode cX12_readLawLine 120 = .ok (.aload_n 0, 1) := by decide +kernel
theorem dX12_readLawLine_121 : decode cX12_readLawLine 121 = .ok (.getfield 13, 3) := by decide +kernel
theorem dX12_readLawLine_124 : decode cX12_readLawLine 124 = .ok (.iload_n 2, 1) := by decide +kernel
theorem dX12_readLawLine_125 : decode cX12_readLawLine 125 = .ok (.iconst 3, 1) := by decide +kernel
theorem dX12_readLawLine_126 : decode cX12_readLawLine 126 = .ok (.iadd, 1) := by decide +kernel
theorem dX12_readLawLine_127 : decode cX12_readLawLine 127 = .ok (.aload_n 0, 1) := by decide +kernel
theorem dX12_readLawLine_128 : decode cX12_readLawLine 128 = .ok (.getfield 211, 3) := by decide +kernel
theorem dX12_readLawLine_131 : decode cX12_readLawLine 131 = .ok (.iastore, 1) := by decide +kernel
theorem dX12_readLawLine_132 : decode cX12_readLawLine 132 = .ok (.iconst 1, 1) := by decide +kernel
theorem dX12_readLawLine_133 : decode cX12_readLawLine 133 = .ok (.ireturn, 1) := by decide +kernel
theorem dX12_readLine_0 : decode cX12_readLine 0 = .ok (.aload_n 0, 1) := by decide +kernel
theorem dX12_readLine_1 : decode cX12_readLine 1 = .ok (.invokevirtual 129, 3) := by decide +kernel
theorem dX12_readLine_4 : decode cX12_readLine 4 = .ok (.iload_n 2, 1) := by decide +kernel
theorem dX12_readLine_5 : decode cX12_readLine 5 = .ok (.iload_n 1, 1) := by decide +kernel
theorem dX12_readLine_6 : decode cX12_readLine 6 = .ok (.ifCond .eq 8, 3) := by decide +kernel
theorem dX12_readLine_9 : decode cX12_readLine 9 = .ok (.bipush 14, 2) := by decide +kernel
theorem dX12_readLine_11 : decode cX12_readLine 11 = .ok (.goto 5, 3) := by decide +kernel
theorem dX12_readLine_14 : decode cX12_readLine 14 = .ok (.bipush 12, 2) := by decide +kernel
theorem dX12_readLine_16 : decode cX12_readLine 16 = .ok (.if_icmp .ge 29, 3) := by decide +kernel
theorem dX12_readLine_19 : decode cX12_readLine 19 = .ok (.iload_n 1, 1) := by decide +kernel
theorem dX12_readLine_20 : decode cX12_readLine 20 = .ok (.ifCond .eq 13, 3) := by decide +kernel
theorem dX12_readLine_23 : decode cX12_readLine 23 = .ok (.aload_n 0, 1) := by decide +kernel
theorem dX12_readLine_24 : decode cX12_readLine 24 = .ok (.invokevirtual 265, 3) := by decide +kernel
theorem dX12_readLine_27 : decode cX12_readLine 27 = .ok (.ifCond .eq 18, 3) := by decide +kernel
theorem dX12_readLine_30 : decode cX12_readLine 30 = .ok (.goto 11, 3) := by decide +kernel
theorem dX12_readLine_33 : decode cX12_readLine 33 = .ok (.aload_n 0, 1) := by decide +kernel
theorem dX12_readLine_34 : decode cX12_readLine 34 = .ok (.iload_n 2, 1) := by decide +kernel
theorem dX12_readLine_35 : decode cX12_readLine 35 = .ok (.invokevirtual 268, 3) := by decide +kernel
theorem dX12_readLine_38 : decode cX12_readLine 38 = .ok (.ifCond .eq 7, 3) := by decide +kernel
theorem dX12_readLine_41 : decode cX12_readLine 41 = .ok (.iconst 1, 1) := by decide +kernel
theorem dX12_readLine_42 : decode cX12_readLine 42 = .ok (.goto 4, 3) := by decide +kernel
theorem dX12_readLine_45 : decode cX12_readLine 45 = .ok (.iconst 0, 1) := by decide +kernel
theorem dX12_readLine_46 : decode cX12_readLine 46 = .ok (.ireturn, 1) := by decide +kernel
theorem dX12_readAll_0 : decode cX12_readAll 0 = .ok (.aload_n 0, 1) := by decide +kernel
theorem dX12_readAll_1 : decode cX12_readAll 1 = .ok (.invokevirtual 271, 3) := by decide +kernel
theorem dX12_readAll_4 : decode cX12_readAll 4 = .ok (.aload_n 0, 1) := by decide +kernel
theorem dX12_readAll_5 : decode cX12_readAll 5 = .ok (.iconst 0, 1) := by decide +kernel
theorem dX12_readAll_6 : decode cX12_readAll 6 = .ok (.putfield 211, 3) := by decide +kernel
theorem dX12_readAll_9 : decode cX12_readAll 9 = .ok (.aload_n 0, 1) := by decide +kernel
theorem dX12_readAll_10 : decode cX12_readAll 10 = .ok (.invokevirtual 117, 3) := by decide +kernel
theorem dX12_readAll_13 : decode cX12_readAll 13 = .ok (.aload_n 0, 1) := by decide +kernel
theorem dX12_readAll_14 : decode cX12_readAll 14 = .ok (.getfield 104, 3) := by decide +kernel
theorem dX12_readAll_17 : decode cX12_readAll 17 = .ok (.aload_n 0, 1) := by decide +kernel
theorem dX12_readAll_18 : decode cX12_readAll 18 = .ok (.getfield 107, 3) := by decide +kernel
theorem dX12_readAll_21 : decode cX12_readAll 21 = .ok (.if_icmp .ne 5, 3) := by decide +kernel
theorem dX12_readAll_24 : decode cX12_readAll 24 = .ok (.iconst 0, 1) := by decide +kernel
theorem dX12_readAll_25 : decode cX12_readAll 25 = .ok (.ireturn, 1) := by decide +kernel
theorem dX12_readAll_26 : decode cX12_readAll 26 = .ok (.iconst 0, 1) := by decide +kernel
theorem dX12_readAll_27 : decode cX12_readAll 27 = .ok (.istore_n 2, 1) := by decide +kernel
theorem dX12_readAll_28 : decode cX12_readAll 28 = .ok (.aload_n 0, 1) := by decide +kernel
theorem dX12_readAll_29 : decode cX12_readAll 29 = .ok (.iload_n 1, 1) := by decide +kernel
theorem dX12_readAll_30 : decode cX12_readAll 30 = .ok (.iload_n 2, 1) := by decide +kernel
theorem dX12_readAll_31 : decode cX12_readAll 31 = .ok (.invokevirtual 274, 3) := by decide +kernel
theorem dX12_readAll_34 : decode cX12_readAll 34 = .ok (.ifCond .ne 5, 3) := by decide +kernel
theorem dX12_readAll_37 : decode cX12_readAll 37 = .ok (.iconst (-1), 1) := by decide +kernel
theorem dX12_readAll_38 : decode cX12_readAll 38 = .ok (.ireturn, 1) := by decide +kernel
theorem dX12_readAll_39 : decode cX12_readAll 39 = .ok (.aload_n 0, 1) := by decide +kernel
theorem dX12_readAll_40 : decode cX12_readAll 40 = .ok (.invokevirtual 117, 3) := by decide +kernel
theorem dX12_readAll_43 : decode cX12_readAll 43 = .ok (.aload_n 0, 1) := by decide +kernel
theorem dX12_readAll_44 : decode cX12_readAll 44 = .ok (.getfield 104, 3) := by decide +kernel
theorem dX12_readAll_47 : decode cX12_readAll 47 = .ok (.aload_n 0, 1) := by decide +kernel
theorem dX12_readAll_48 : decode cX12_readAll 48 = .ok (.getfield 107, 3) := by decide +kernel
theorem dX12_readAll_51 : decode cX12_readAll 51 = .ok (.if_icmp .ne 7, 3) := by decide +kernel
theorem dX12_readAll_54 : decode cX12_readAll 54 = .ok (.iload_n 2, 1) := by decide +kernel
theorem dX12_readAll_55 : decode cX12_readAll 55 = .ok (.iconst 1, 1) := by decide +kernel
theorem dX12_readAll_56 : decode cX12_readAll 56 = .ok (.iadd, 1) := by decide +kernel
theorem dX12_readAll_57 : decode cX12_readAll 57 = .ok (.ireturn, 1) := by decide +kernel
theorem dX12_readAll_58 : decode cX12_readAll 58 = .ok (.aload_n 0, 1) := by decide +kernel
theorem dX12_readAll_59 : decode cX12_readAll 59 = .ok (.bipush 59, 2) := by decide +kernel
theorem dX12_readAll_61 : decode cX12_readAll 61 = .ok (.bipush 59, 2) := by decide +kernel
theorem dX12_readAll_63 : decode cX12_readAll 63 = .ok (.invokevirtual 110, 3) := by decide +kernel
theorem dX12_readAll_66 : decode cX12_readAll 66 = .ok (.ifCond .ne 5, 3) := by decide +kernel
theorem dX12_readAll_69 : decode cX12_readAll 69 = .ok (.iconst (-1), 1) := by decide +kernel
theorem dX12_readAll_70 : decode cX12_readAll 70 = .ok (.ireturn, 1) := by decide +kernel
theorem dX12_readAll_71 : decode cX12_readAll 71 = .ok (.aload_n 0, 1) := by decide +kernel
theorem dX12_readAll_72 : decode cX12_readAll 72 = .ok (.dup, 1) := by decide +kernel
theorem dX12_readAll_73 : decode cX12_readAll 73 = .ok (.getfield 104, 3) := by decide +kernel
theorem dX12_readAll_76 : decode cX12_readAll 76 = .ok (.iconst 1, 1) := by decide +kernel
theorem dX12_readAll_77 : decode cX12_readAll 77 = .ok (.iadd, 1) := by decide +kernel
theorem dX12_readAll_78 : decode cX12_readAll 78 = .ok (.putfield 104, 3) := by decide +kernel
theorem dX12_readAll_81 : decode cX12_readAll 81 = .ok (.iinc 2 1, 3) := by decide +kernel
theorem dX12_readAll_84 : decode cX12_readAll 84 = .ok (.goto (-56), 3) := by decide +kernel
theorem dX12_shop_0 : decode cX12_shop 0 = .ok (.iconst 0, 1) := by decide +kernel
theorem dX12_shop_1 : decode cX12_shop 1 = .ok (.istore_n 1, 1) := by decide +kernel
theorem dX12_shop_2 : decode cX12_shop 2 = .ok (.iload_n 1, 1) := by decide +kernel
theorem dX12_shop_3 : decode cX12_shop 3 = .ok (.sipush 1324, 3) := by decide +kernel
theorem dX12_shop_6 : decode cX12_shop 6 = .ok (.if_icmp .ge 21, 3) := by decide +kernel
theorem dX12_shop_9 : decode cX12_shop 9 = .ok (.aload_n 0, 1) := by decide +kernel
theorem dX12_shop_10 : decode cX12_shop 10 = .ok (.getfield 20, 3) := by decide +kernel
theorem dX12_shop_13 : decode cX12_shop 13 = .ok (.iload_n 1, 1) := by decide +kernel
theorem dX12_shop_14 : decode cX12_shop 14 = .ok (.aload_n 0, 1) := by decide +kernel
theorem dX12_shop_15 : decode cX12_shop 15 = .ok (.getfield 13, 3) := by decide +kernel
theorem dX12_shop_18 : decode cX12_shop 18 = .ok (.iload_n 1, 1) := by decide +kernel
theorem dX12_shop_19 : decode cX12_shop 19 = .ok (.iaload, 1) := by decide +kernel
theorem dX12_shop_20 : decode cX12_shop 20 = .ok (.iastore, 1) := by decide +kernel
theorem dX12_shop_21 : decode cX12_shop 21 = .ok (.iinc 1 1, 3) := by decide +kernel
theorem dX12_shop_24 : decode cX12_shop 24 = .ok (.goto (-22), 3) := by decide +kernel
theorem dX12_shop_27 : decode cX12_shop 27 = .ok (.aload_n 0, 1) := by decide +kernel
theorem dX12_shop_28 : decode cX12_shop 28 = .ok (.iconst 1, 1) := by decide +kernel
theorem dX12_shop_29 : decode cX12_shop 29 = .ok (.invokevirtual 278, 3) := by decide +kernel
theorem dX12_shop_32 : decode cX12_shop 32 = .ok (.istore_n 1, 1) := by decide +kernel
theorem dX12_shop_33 : decode cX12_shop 33 = .ok (.aload_n 0, 1) := by decide +kernel
theorem dX12_shop_34 : decode cX12_shop 34 = .ok (.iload_n 1, 1) := by decide +kernel
theorem dX12_shop_35 : decode cX12_shop 35 = .ok (.ifCond .ge 10, 3) := by decide +kernel
theorem dX12_shop_38 : decode cX12_shop 38 = .ok (.aload_n 0, 1) := by decide +kernel
theorem dX12_shop_39 : decode cX12_shop 39 = .ok (.getfield 114, 3) := by decide +kernel
theorem dX12_shop_42 : decode cX12_shop 42 = .ok (.goto 4, 3) := by decide +kernel
theorem dX12_shop_45 : decode cX12_shop 45 = .ok (.iconst (-1), 1) := by decide +kernel
theorem dX12_shop_46 : decode cX12_shop 46 = .ok (.putfield 33, 3) := by decide +kernel
theorem dX12_shop_49 : decode cX12_shop 49 = .ok (.aload_n 0, 1) := by decide +kernel
theorem dX12_shop_50 : decode cX12_shop 50 = .ok (.iload_n 1, 1) := by decide +kernel
theorem dX12_shop_51 : decode cX12_shop 51 = .ok (.ifCond .ge 7, 3) := by decide +kernel
theorem dX12_shop_54 : decode cX12_shop 54 = .ok (.iconst 1, 1) := by decide +kernel
theorem dX12_shop_55 : decode cX12_shop 55 = .ok (.goto 4, 3) := by decide +kernel
theorem dX12_shop_58 : decode cX12_shop 58 = .ok (.iconst 0, 1) := by decide +kernel
theorem dX12_shop_59 : decode cX12_shop 59 = .ok (.iconst 1, 1) := by decide +kernel
theorem dX12_shop_60 : decode cX12_shop 60 = .ok (.invokevirtual 282, 3) := by decide +kernel
theorem dX12_shop_63 : decode cX12_shop 63 = .ok (.ifCond .ne 28, 3) := by decide +kernel
theorem dX12_shop_66 : decode cX12_shop 66 = .ok (.aload_n 0, 1) := by decide +kernel
theorem dX12_shop_67 : decode cX12_shop 67 = .ok (.aload_n 0, 1) := by decide +kernel
theorem dX12_shop_68 : decode cX12_shop 68 = .ok (.getfield 13, 3) := by decide +kernel
theorem dX12_shop_71 : decode cX12_shop 71 = .ok (.bipush 9, 2) := by decide +kernel
theorem dX12_shop_73 : decode cX12_shop 73 = .ok (.iaload, 1) := by decide +kernel
theorem dX12_shop_74 : decode cX12_shop 74 = .ok (.bipush 12, 2) := by decide +kernel
theorem dX12_shop_76 : decode cX12_shop 76 = .ok (.if_icmp .ne 7, 3) := by decide +kernel
theorem dX12_shop_79 : decode cX12_shop 79 = .ok (.iconst 1, 1) := by decide +kernel
theorem dX12_shop_80 : decode cX12_shop 80 = .ok (.goto 4, 3) := by decide +kernel
theorem dX12_shop_83 : decode cX12_shop 83 = .ok (.iconst 0, 1) := by decide +kernel
theorem dX12_shop_84 : decode cX12_shop 84 = .ok (.iconst 2, 1) := by decide +kernel
theorem dX12_shop_85 : decode cX12_shop 85 = .ok (.invokevirtual 282, 3) := by decide +kernel
theorem dX12_shop_88 : decode cX12_shop 88 = .ok (.ifCond .eq 32, 3) := by decide +kernel
theorem dX12_shop_91 : decode cX12_shop 91 = .ok (.iconst 0, 1) := by decide +kernel
theorem dX12_shop_92 : decode cX12_shop 92 = .ok (.istore_n 2, 1) := by decide +kernel
theorem dX12_shop_93 : decode cX12_shop 93 = .ok (.iload_n 2, 1) := by decide +kernel
theorem dX12_shop_94 : decode cX12_shop 94 = .ok (.sipush 1324, 3) := by decide +kernel
theorem dX12_shop_97 : decode cX12_shop 97 = .ok (.if_icmp .ge 21, 3) := by decide +kernel
theorem dX12_shop_100 : decode cX12_shop 100 = .ok (.aload_n 0, 1) := by decide +kernel
theorem dX12_shop_101 : decode cX12_shop 101 = .ok (.getfield 13, 3) := by decide +kernel
theorem dX12_shop_104 : decode cX12_shop 104 = .ok (.iload_n 2, 1) := by decide +kernel
theorem dX12_shop_105 : decode cX12_shop 105 = .ok (.aload_n 0, 1) := by decide +kernel
theorem dX12_shop_106 : decode cX12_shop 106 = .ok (.getfield 20, 3) := by decide +kernel
theorem dX12_shop_109 : decode cX12_shop 109 = .ok (.iload_n 2, 1) := by decide +kernel
theorem dX12_shop_110 : decode cX12_shop 110 = .ok (.iaload, 1) := by decide +kernel
theorem dX12_shop_111 : decode cX12_shop 111 = .ok (.iastore, 1) := by decide +kernel
theorem dX12_shop_112 : decode cX12_shop 112 = .ok (.iinc 2 1, 3) := by decide +kernel
theorem dX12_shop_115 : decode cX12_shop 115 = .ok (.goto (-22), 3) := by decide +kernel
theorem dX12_shop_118 : decode cX12_shop 118 = .ok (.iconst 0, 1) := by decide +kernel
theorem dX12_shop_119 : decode cX12_shop 119 = .ok (.ireturn, 1) := by decide +kernel
theorem dX12_shop_120 : decode cX12_shop 120 = .ok (.aload_n 0, 1) := by decide +kernel
theorem dX12_shop_121 : decode cX12_shop 121 = .ok (.getfield 13, 3) := by decide +kernel
theorem dX12_shop_124 : decode cX12_shop 124 = .ok (.bipush 9, 2) := by decide +kernel
theorem dX12_shop_126 : decode cX12_shop 126 = .ok (.dup2, 1) := by decide +kernel
theorem dX12_shop_127 : decode cX12_shop 127 = .ok (.iaload, 1) := by decide +kernel
theorem dX12_shop_128 : decode cX12_shop 128 = .ok (.iconst 1, 1) := by decide +kernel
theorem dX12_shop_129 : decode cX12_shop 129 = .ok (.iadd, 1) := by decide +kernel
theorem dX12_shop_130 : decode cX12_shop 130 = .ok (.iastore, 1) := by decide +kernel
theorem dX12_shop_131 : decode cX12_shop 131 = .ok (.aload_n 0, 1) := by decide +kernel
theorem dX12_shop_132 : decode cX12_shop 132 = .ok (.iconst 0, 1) := by decide +kernel
theorem dX12_shop_133 : decode cX12_shop 133 = .ok (.putfield 65, 3) := by decide +kernel
theorem dX12_shop_136 : decode cX12_shop 136 = .ok (.aload_n 0, 1) := by decide +kernel
theorem dX12_shop_137 : decode cX12_shop 137 = .ok (.getfield 13, 3) := by decide +kernel
theorem dX12_shop_140 : decode cX12_shop 140 = .ok (.bipush 9, 2) := by decide +kernel
theorem dX12_shop_142 : decode cX12_shop 142 = .ok (.iaload, 1) := by decide +kernel
theorem dX12_shop_143 : decode cX12_shop 143 = .ok (.ireturn, 1) := by decide +kernel
theorem dX12_law_0 : decode cX12_law 0 = .ok (.aload_n 0, 1) := by decide +kernel
theorem dX12_law_1 : decode cX12_law 1 = .ok (.iconst 0, 1) := by decide +kernel
theorem dX12_law_2 : decode cX12_law 2 = .ok (.invokevirtual 278, 3) := by decide +kernel
theorem dX12_law_5 : decode cX12_law 5 = .ok (.istore_n 1, 1) := by decide +kernel
theorem dX12_law_6 : decode cX12_law 6 = .ok (.aload_n 0, 1) := by decide +kernel
theorem dX12_law_7 : decode cX12_law 7 = .ok (.iload_n 1, 1) := by decide +kernel
theorem dX12_law_8 : decode cX12_law 8 = .ok (.ifCond .ge 10, 3) := by decide +kernel
theorem dX12_law_11 : decode cX12_law 11 = .ok (.aload_n 0, 1) := by decide +kernel
theorem dX12_law_12 : decode cX12_law 12 = .ok (.getfield 114, 3) := by decide +kernel
theorem dX12_law_15 : decode cX12_law 15 = .ok (.goto 4, 3) := by decide +kernel
theorem dX12_law_18 : decode cX12_law 18 = .ok (.iconst (-1), 1) := by decide +kernel
theorem dX12_law_19 : decode cX12_law 19 = .ok (.putfield 33, 3) := by decide +kernel
theorem dX12_law_22 : decode cX12_law 22 = .ok (.aload_n 0, 1) := by decide +kernel
theorem dX12_law_23 : decode cX12_law 23 = .ok (.iload_n 1, 1) := by decide +kernel
theorem dX12_law_24 : decode cX12_law 24 = .ok (.ifCond .ge 7, 3) := by decide +kernel
theorem dX12_law_27 : decode cX12_law 27 = .ok (.iconst 1, 1) := by decide +kernel
theorem dX12_law_28 : decode cX12_law 28 = .ok (.goto 4, 3) := by decide +kernel
theorem dX12_law_31 : decode cX12_law 31 = .ok (.iconst 0, 1) := by decide +kernel
theorem dX12_law_32 : decode cX12_law 32 = .ok (.iconst 1, 1) := by decide +kernel
theorem dX12_law_33 : decode cX12_law 33 = .ok (.invokevirtual 282, 3) := by decide +kernel
theorem dX12_law_36 : decode cX12_law 36 = .ok (.ifCond .eq 5, 3) := by decide +kernel
theorem dX12_law_39 : decode cX12_law 39 = .ok (.iconst 0, 1) := by decide +kernel
theorem dX12_law_40 : decode cX12_law 40 = .ok (.ireturn, 1) := by decide +kernel
theorem dX12_law_41 : decode cX12_law 41 = .ok (.aload_n 0, 1) := by decide +kernel
theorem dX12_law_42 : decode cX12_law 42 = .ok (.getfield 13, 3) := by decide +kernel
theorem dX12_law_45 : decode cX12_law 45 = .ok (.sipush 1324, 3) := by decide +kernel
theorem dX12_law_48 : decode cX12_law 48 = .ok (.iload_n 1, 1) := by decide +kernel
theorem dX12_law_49 : decode cX12_law 49 = .ok (.iastore, 1) := by decide +kernel
theorem dX12_law_50 : decode cX12_law 50 = .ok (.iconst 0, 1) := by decide +kernel
theorem dX12_law_51 : decode cX12_law 51 = .ok (.istore_n 2, 1) := by decide +kernel
theorem dX12_law_52 : decode cX12_law 52 = .ok (.iload_n 2, 1) := by decide +kernel
theorem dX12_law_53 : decode cX12_law 53 = .ok (.sipush 849, 3) := by decide +kernel
theorem dX12_law_56 : decode cX12_law 56 = .ok (.if_icmp .ge 29, 3) := by decide +kernel
theorem dX12_law_59 : decode cX12_law 59 = .ok (.aload_n 0, 1) := by decide +kernel
theorem dX12_law_60 : decode cX12_law 60 = .ok (.getfield 13, 3) := by decide +kernel
theorem dX12_law_63 : decode cX12_law 63 = .ok (.sipush 475, 3) := by decide +kernel
theorem dX12_law_66 : decode cX12_law 66 = .ok (.iload_n 2, 1) := by decide +kernel
theorem dX12_law_67 : decode cX12_law 67 = .ok (.iadd, 1) := by decide +kernel
theorem dX12_law_68 : decode cX12_law 68 = .ok (.aload_n 0, 1) := by decide +kernel
theorem dX12_law_69 : decode cX12_law 69 = .ok (.getfield 13, 3) := by decide +kernel
theorem dX12_law_72 : decode cX12_law 72 = .ok (.sipush 1324, 3) := by decide +kernel
theorem dX12_law_75 : decode cX12_law 75 = .ok (.iload_n 2, 1) := by decide +kernel
theorem dX12_law_76 : decode cX12_law 76 = .ok (.iadd, 1) := by decide +kernel
theorem dX12_law_77 : decode cX12_law 77 = .ok (.iaload, 1) := by decide +kernel
theorem dX12_law_78 : decode cX12_law 78 = .ok (.iastore, 1) := by decide +kernel
theorem dX12_law_79 : decode cX12_law 79 = .ok (.iinc 2 1, 3) := by decide +kernel
theorem dX12_law_82 : decode cX12_law 82 = .ok (.goto (-30), 3) := by decide +kernel
theorem dX12_law_85 : decode cX12_law 85 = .ok (.aload_n 0, 1) := by decide +kernel
theorem dX12_law_86 : decode cX12_law 86 = .ok (.getfield 13, 3) := by decide +kernel
theorem dX12_law_89 : decode cX12_law 89 = .ok (.bipush 10, 2) := by decide +kernel
theorem dX12_law_91 : decode cX12_law 91 = .ok (.iconst 1, 1) := by decide +kernel
theorem dX12_law_92 : decode cX12_law 92 = .ok (.iastore, 1) := by decide +kernel
theorem dX12_law_93 : decode cX12_law 93 = .ok (.aload_n 0, 1) := by decide +kernel
theorem dX12_law_94 : decode cX12_law 94 = .ok (.iconst 0, 1) := by decide +kernel
theorem dX12_law_95 : decode cX12_law 95 = .ok (.putfield 65, 3) := by decide +kernel
theorem dX12_law_98 : decode cX12_law 98 = .ok (.iload_n 1, 1) := by decide +kernel
theorem dX12_law_99 : decode cX12_law 99 = .ok (.ireturn, 1) := by decide +kernel
theorem dX12_isSort_0 : decode cX12_isSort 0 = .ok (.aload_n 0, 1) := by decide +kernel
theorem dX12_isSort_1 : decode cX12_isSort 1 = .ok (.getfield 285, 3) := by decide +kernel
theorem dX12_isSort_4 : decode cX12_isSort 4 = .ok (.ifCond .lt 35, 3) := by decide +kernel
theorem dX12_isSort_7 : decode cX12_isSort 7 = .ok (.aload_n 0, 1) := by decide +kernel
theorem dX12_isSort_8 : decode cX12_isSort 8 = .ok (.aload_n 0, 1) := by decide +kernel
theorem dX12_isSort_9 : decode cX12_isSort 9 = .ok (.getfield 285, 3) := by decide +kernel
theorem dX12_isSort_12 : decode cX12_isSort 12 = .ok (.iconst 0, 1) := by decide +kernel
theorem dX12_isSort_13 : decode cX12_isSort 13 = .ok (.invokevirtual 84, 3) := by decide +kernel
theorem dX12_isSort_16 : decode cX12_isSort 16 = .ok (.iload_n 1, 1) := by decide +kernel
theorem dX12_isSort_17 : decode cX12_isSort 17 = .ok (.if_icmp .eq 18, 3) := by decide +kernel
theorem dX12_isSort_20 : decode cX12_isSort 20 = .ok (.aload_n 0, 1) := by decide +kernel
theorem dX12_isSort_21 : decode cX12_isSort 21 = .ok (.aload_n 0, 1) := by decide +kernel
theorem dX12_isSort_22 : decode cX12_isSort 22 = .ok (.getfield 285, 3) := by decide +kernel
theorem dX12_isSort_25 : decode cX12_isSort 25 = .ok (.iconst 1, 1) := by decide +kernel
theorem dX12_isSort_26 : decode cX12_isSort 26 = .ok (.iadd, 1) := by decide +kernel
theorem dX12_isSort_27 : decode cX12_isSort 27 = .ok (.iconst 0, 1) := by decide +kernel
theorem dX12_isSort_28 : decode cX12_isSort 28 = .ok (.invokevirtual 84, 3) := by decide +kernel
theorem dX12_isSort_31 : decode cX12_isSort 31 = .ok (.iload_n 1, 1) := by decide +kernel
theorem dX12_isSort_32 : decode cX12_isSort 32 = .ok (.if_icmp .ne 7, 3) := by decide +kernel
theorem dX12_isSort_35 : decode cX12_isSort 35 = .ok (.iconst 1, 1) := by decide +kernel
theorem dX12_isSort_36 : decode cX12_isSort 36 = .ok (.goto 4, 3) := by decide +kernel
theorem dX12_isSort_39 : decode cX12_isSort 39 = .ok (.iconst 0, 1) := by decide +kernel
theorem dX12_isSort_40 : decode cX12_isSort 40 = .ok (.ireturn, 1) := by decide +kernel
theorem dX12_factOf_0 : decode cX12_factOf 0 = .ok (.iload_n 1, 1) := by decide +kernel
theorem dX12_factOf_1 : decode cX12_factOf 1 = .ok (.tableswitch 145 0 6 #[43, 56, 72, 96, 121, 126, 131], 43) := by decide +kernel
theorem dX12_factOf_44 : decode cX12_factOf 44 = .ok (.aload_n 0, 1) := by decide +kernel
theorem dX12_factOf_45 : decode cX12_factOf 45 = .ok (.getfield 285, 3) := by decide +kernel
theorem dX12_factOf_48 : decode cX12_factOf 48 = .ok (.ifCond .ge 7, 3) := by decide +kernel
theorem dX12_factOf_51 : decode cX12_factOf 51 = .ok (.iconst 0, 1) := by decide +kernel
theorem dX12_factOf_52 : decode cX12_factOf 52 = .ok (.goto 4, 3) := by decide +kernel
theorem dX12_factOf_55 : decode cX12_factOf 55 = .ok (.iload_n 3, 1) := by decide +kernel
theorem dX12_factOf_56 : decode cX12_factOf 56 = .ok (.ireturn, 1) := by decide +kernel
theorem dX12_factOf_57 : decode cX12_factOf 57 = .ok (.aload_n 0, 1) := by decide +kernel
theorem dX12_factOf_58 : decode cX12_factOf 58 = .ok (.getfield 285, 3) := by decide +kernel
theorem dX12_factOf_61 : decode cX12_factOf 61 = .ok (.ifCond .ge 7, 3) := by decide +kernel
theorem dX12_factOf_64 : decode cX12_factOf 64 = .ok (.iconst 0, 1) := by decide +kernel
theorem dX12_factOf_65 : decode cX12_factOf 65 = .ok (.goto 7, 3) := by decide +kernel
theorem dX12_factOf_68 : decode cX12_factOf 68 = .ok (.aload_n 0, 1) := by decide +kernel
theorem dX12_factOf_69 : decode cX12_factOf 69 = .ok (.getfield 288, 3) := by decide +kernel
theorem dX12_factOf_72 : decode cX12_factOf 72 = .ok (.ireturn, 1) := by decide +kernel
theorem dX12_factOf_73 : decode cX12_factOf 73 = .ok (.aload_n 0, 1) := by decide +kernel
theorem dX12_factOf_74 : decode cX12_factOf 74 = .ok (.getfield 285, 3) := by decide +kernel
theorem dX12_factOf_77 : decode cX12_factOf 77 = .ok (.ifCond .ge 7, 3) := by decide +kernel
theorem dX12_factOf_80 : decode cX12_factOf 80 = .ok (.iconst 0, 1) := by decide +kernel
theorem dX12_factOf_81 : decode cX12_factOf 81 = .ok (.goto 15, 3) := by decide +kernel
theorem dX12_factOf_84 : decode cX12_factOf 84 = .ok (.aload_n 0, 1) := by decide +kernel
theorem dX12_factOf_85 : decode cX12_factOf 85 = .ok (.aload_n 0, 1) := by decide +kernel
theorem dX12_factOf_86 : decode cX12_factOf 86 = .ok (.getfield 285, 3) := by decide +kernel
theorem dX12_factOf_89 : decode cX12_factOf 89 = .ok (.bipush 7, 2) := by decide +kernel
theorem dX12_factOf_91 : decode cX12_factOf 91 = .ok (.iload_n 3, 1) := by decide +kernel
theorem dX12_factOf_92 : decode cX12_factOf 92 = .ok (.iadd, 1) := by decide +kernel
theorem dX12_factOf_93 : decode cX12_factOf 93 = .ok (.invokevirtual 84, 3) := by decide +kernel
theorem dX12_factOf_96 : decode cX12_factOf 96 = .ok (.ireturn, 1) := by decide +kernel
theorem dX12_factOf_97 : decode cX12_factOf 97 = .ok (.aload_n 0, 1) := by decide +kernel
theorem dX12_factOf_98 : decode cX12_factOf 98 = .ok (.getfield 285, 3) := by decide +kernel
theorem dX12_factOf_101 : decode cX12_factOf 101 = .ok (.ifCond .ge 7, 3) := by decide +kernel
theorem dX12_factOf_104 : decode cX12_factOf 104 = .ok (.iconst 0, 1) := by decide +kernel
theorem dX12_factOf_105 : decode cX12_factOf 105 = .ok (.goto 16, 3) := by decide +kernel
theorem dX12_factOf_108 : decode cX12_factOf 108 = .ok (.aload_n 0, 1) := by decide +kernel
theorem dX12_factOf_109 : decode cX12_factOf 109 = .ok (.aload_n 0, 1) := by decide +kernel
theorem dX12_factOf_110 : decode cX12_factOf 110 = .ok (.getfield 285, 3) := by decide +kernel
theorem dX12_factOf_113 : decode cX12_factOf 113 = .ok (.iconst 1, 1) := by decide +kernel
theorem dX12_factOf_114 : decode cX12_factOf 114 = .ok (.iadd, 1) := by decide +kernel
theorem dX12_factOf_115 : decode cX12_factOf 115 = .ok (.iconst 2, 1) := by decide +kernel
theorem dX12_factOf_116 : decode cX12_factOf 116 = .ok (.iload_n 3, 1) := by decide +kernel
theorem dX12_factOf_117 : decode cX12_factOf 117 = .ok (.iadd, 1) := by decide +kernel
theorem dX12_factOf_118 : decode cX12_factOf 118 = .ok (.invokevirtual 84, 3) := by decide +kernel
theorem dX12_factOf_121 : decode cX12_factOf 121 = .ok (.ireturn, 1) := by decide +kernel
theorem dX12_factOf_122 : decode cX12_factOf 122 = .ok (.aload_n 0, 1) := by decide +kernel
theorem dX12_factOf_123 : decode cX12_factOf 123 = .ok (.getfield 291, 3) := by decide +kernel
theorem dX12_factOf_126 : decode cX12_factOf 126 = .ok (.ireturn, 1) := by decide +kernel
theorem dX12_factOf_127 : decode cX12_factOf 127 = .ok (.aload_n 0, 1) := by decide +kernel
theorem dX12_factOf_128 : decode cX12_factOf 128 = .ok (.getfield 294, 3) := by decide +kernel
theorem dX12_factOf_131 : decode cX12_factOf 131 = .ok (.ireturn, 1) := by decide +kernel
theorem dX12_factOf_132 : decode cX12_factOf 132 = .ok (.aload_n 0, 1) := by decide +kernel
theorem dX12_factOf_133 : decode cX12_factOf 133 = .ok (.iload_n 2, 1) := by decide +kernel
theorem dX12_factOf_134 : decode cX12_factOf 134 = .ok (.invokevirtual 297, 3) := by decide +kernel
theorem dX12_factOf_137 : decode cX12_factOf 137 = .ok (.ifCond .eq 7, 3) := by decide +kernel
theorem dX12_factOf_140 : decode cX12_factOf 140 = .ok (.iconst 1, 1) := by decide +kernel
theorem dX12_factOf_141 : decode cX12_factOf 141 = .ok (.goto 4, 3) := by decide +kernel
theorem dX12_factOf_144 : decode cX12_factOf 144 = .ok (.iconst 0, 1) := by decide +kernel
theorem dX12_factOf_145 : decode cX12_factOf 145 = .ok (.ireturn, 1) := by decide +kernel
theorem dX12_factOf_146 : decode cX12_factOf 146 = .ok (.iload_n 2, 1) := by decide +kernel
theorem dX12_factOf_147 : decode cX12_factOf 147 = .ok (.ireturn, 1) := by decide +kernel
theorem dX12_holdsLine_0 : decode cX12_holdsLine 0 = .ok (.iconst 0, 1) := by decide +kernel
theorem dX12_holdsLine_1 : decode cX12_holdsLine 1 = .ok (.istore_n 3, 1) := by decide +kernel
theorem dX12_holdsLine_2 : decode cX12_holdsLine 2 = .ok (.sipush 476, 3) := by decide +kernel
theorem dX12_holdsLine_5 : decode cX12_holdsLine 5 = .ok (.iconst 4, 1) := by decide +kernel
theorem dX12_holdsLine_6 : decode cX12_holdsLine 6 = .ok (.iload_n 1, 1) := by decide +kernel
theorem dX12_holdsLine_7 : decode cX12_holdsLine 7 = .ok (.imul, 1) := by decide +kernel
theorem dX12_holdsLine_8 : decode cX12_holdsLine 8 = .ok (.iadd, 1) := by decide +kernel
theorem dX12_holdsLine_9 : decode cX12_holdsLine 9 = .ok (.istore 4, 2) := by decide +kernel
theorem dX12_holdsLine_11 : decode cX12_holdsLine 11 = .ok (.aload_n 0, 1) := by decide +kernel
theorem dX12_holdsLine_12 : decode cX12_holdsLine 12 = .ok (.getfield 13, 3) := by decide +kernel
theorem dX12_holdsLine_15 : decode cX12_holdsLine 15 = .ok (.iload 4, 2) := by decide +kernel
theorem dX12_holdsLine_17 : decode cX12_holdsLine 17 = .ok (.iconst 2, 1) := by decide +kernel
theorem dX12_holdsLine_18 : decode cX12_holdsLine 18 = .ok (.iadd, 1) := by decide +kernel
theorem dX12_holdsLine_19 : decode cX12_holdsLine 19 = .ok (.iaload, 1) := by decide +kernel
theorem dX12_holdsLine_20 : decode cX12_holdsLine 20 = .ok (.istore 5, 2) := by decide +kernel
theorem dX12_holdsLine_22 : decode cX12_holdsLine 22 = .ok (.iload 5, 2) := by decide +kernel
theorem dX12_holdsLine_24 : decode cX12_holdsLine 24 = .ok (.aload_n 0, 1) := by decide +kernel
theorem dX12_holdsLine_25 : decode cX12_holdsLine 25 = .ok (.getfield 13, 3) := by decide +kernel
theorem dX12_holdsLine_28 : decode cX12_holdsLine 28 = .ok (.iload 4, 2) := by decide +kernel
theorem dX12_holdsLine_30 : decode cX12_holdsLine 30 = .ok (.iconst 3, 1) := by decide +kernel
theorem dX12_holdsLine_31 : decode cX12_holdsLine 31 = .ok (.iadd, 1) := by decide +kernel
theorem dX12_holdsLine_32 : decode cX12_holdsLine 32 = .ok (.iaload, 1) := by decide +kernel
theorem dX12_holdsLine_33 : decode cX12_holdsLine 33 = .ok (.if_icmp .ge 230, 3) := by decide +kernel
theorem dX12_holdsLine_36 : decode cX12_holdsLine 36 = .ok (.aload_n 0, 1) := by decide +kernel
theorem dX12_holdsLine_37 : decode cX12_holdsLine 37 = .ok (.getfield 13, 3) := by decide +kernel
theorem dX12_holdsLine_40 : decode cX12_holdsLine 40 = .ok (.sipush 524, 3) := by decide +kernel
theorem dX12_holdsLine_43 : decode cX12_holdsLine 43 = .ok (.iconst 2, 1) := by decide +kernel
theorem dX12_holdsLine_44 : decode cX12_holdsLine 44 = .ok (.iload 5, 2) := by decide +kernel
theorem dX12_holdsLine_46 : decode cX12_holdsLine 46 = .ok (.imul, 1) := by decide +kernel
theorem dX12_holdsLine_47 : decode cX12_holdsLine 47 = .ok (.iadd, 1) := by decide +kernel
theorem dX12_holdsLine_48 : decode cX12_holdsLine 48 = .ok (.iaload, 1) := by decide +kernel
theorem dX12_holdsLine_49 : decode cX12_holdsLine 49 = .ok (.istore 6, 2) := by decide +kernel
theorem dX12_holdsLine_51 : decode cX12_holdsLine 51 = .ok (.iload 6, 2) := by decide +kernel
theorem dX12_holdsLine_53 : decode cX12_holdsLine 53 = .ok (.bipush 7, 2) := by decide +kernel
theorem dX12_holdsLine_55 : decode cX12_holdsLine 55 = .ok (.if_icmp .gt 37, 3) := by decide +kernel
theorem dX12_holdsLine_58 : decode cX12_holdsLine 58 = .ok (.aload_n 0, 1) := by decide +kernel
theorem dX12_holdsLine_59 : decode cX12_holdsLine 59 = .ok (.getfield 39, 3) := by decide +kernel
theorem dX12_holdsLine_62 : decode cX12_holdsLine 62 = .ok (.iload_n 3, 1) := by decide +kernel
theorem dX12_holdsLine_63 : decode cX12_holdsLine 63 = .ok (.aload_n 0, 1) := by decide +kernel
theorem dX12_holdsLine_64 : decode cX12_holdsLine 64 = .ok (.iload 6, 2) := by decide +kernel
theorem dX12_holdsLine_66 : decode cX12_holdsLine 66 = .ok (.aload_n 0, 1) := by decide +kernel
theorem dX12_holdsLine_67 : decode cX12_holdsLine 67 = .ok (.getfield 13, 3) := by decide +kernel
theorem dX12_holdsLine_70 : decode cX12_holdsLine 70 = .ok (.sipush 524, 3) := by decide +kernel
theorem dX12_holdsLine_73 : decode cX12_holdsLine 73 = .ok (.iconst 2, 1) := by decide +kernel
theorem dX12_holdsLine_74 : decode cX12_holdsLine 74 = .ok (.iload 5, 2) := by decide +kernel
theorem dX12_holdsLine_76 : decode cX12_holdsLine 76 = .ok (.imul, 1) := by decide +kernel
theorem dX12_holdsLine_77 : decode cX12_holdsLine 77 = .ok (.iadd, 1) := by decide +kernel
theorem dX12_holdsLine_78 : decode cX12_holdsLine 78 = .ok (.iconst 1, 1) := by decide +kernel
theorem dX12_holdsLine_79 : decode cX12_holdsLine 79 = .ok (.iadd, 1) := by decide +kernel
theorem dX12_holdsLine_80 : decode cX12_holdsLine 80 = .ok (.iaload, 1) := by decide +kernel
theorem dX12_holdsLine_81 : decode cX12_holdsLine 81 = .ok (.iload_n 2, 1) := by decide +kernel
theorem dX12_holdsLine_82 : decode cX12_holdsLine 82 = .ok (.invokevirtual 300, 3) := by decide +kernel
theorem dX12_holdsLine_85 : decode cX12_holdsLine 85 = .ok (.iastore, 1) := by decide +kernel
theorem dX12_holdsLine_86 : decode cX12_holdsLine 86 = .ok (.iinc 3 1, 3) := by decide +kernel
theorem dX12_holdsLine_89 : decode cX12_holdsLine 89 = .ok (.goto 168, 3) := by decide +kernel
theorem dX12_holdsLine_92 : decode cX12_holdsLine 92 = .ok (.iload 6, 2) := by decide +kernel
theorem dX12_holdsLine_94 : decode cX12_holdsLine 94 = .ok (.bipush 11, 2) := by decide +kernel
theorem dX12_holdsLine_96 : decode cX12_holdsLine 96 = .ok (.if_icmp .ne 24, 3) := by decide +kernel
theorem dX12_holdsLine_99 : decode cX12_holdsLine 99 = .ok (.aload_n 0, 1) := by decide +kernel
theorem dX12_holdsLine_100 : decode cX12_holdsLine 100 = .ok (.getfield 39, 3) := by decide +kernel
theorem dX12_holdsLine_103 : decode cX12_holdsLine 103 = .ok (.iload_n 3, 1) := by decide +kernel
theorem dX12_holdsLine_104 : decode cX12_holdsLine 104 = .ok (.iconst 1, 1) := by decide +kernel
theorem dX12_holdsLine_105 : decode cX12_holdsLine 105 = .ok (.isub, 1) := by decide +kernel
theorem dX12_holdsLine_106 : decode cX12_holdsLine 106 = .ok (.iconst 1, 1) := by decide +kernel
theorem dX12_holdsLine_107 : decode cX12_holdsLine 107 = .ok (.aload_n 0, 1) := by decide +kernel
theorem dX12_holdsLine_108 : decode cX12_holdsLine 108 = .ok (.getfield 39, 3) := by decide +kernel
theorem dX12_holdsLine_111 : decode cX12_holdsLine 111 = .ok (.iload_n 3, 1) := by decide +kernel
theorem dX12_holdsLine_112 : decode cX12_holdsLine 112 = .ok (.iconst 1, 1) := by decide +kernel
theorem dX12_holdsLine_113 : decode cX12_holdsLine 113 = .ok (.isub, 1) := by decide +kernel
theorem dX12_holdsLine_114 : decode cX12_holdsLine 114 = .ok (.iaload, 1) := by decide +kernel
theorem dX12_holdsLine_115 : decode cX12_holdsLine 115 = .ok (.isub, 1) := by decide +kernel
theorem dX12_holdsLine_116 : decode cX12_holdsLine 116 = .ok (.iastore, 1) := by decide +kernel
theorem dX12_holdsLine_117 : decode cX12_holdsLine 117 = .ok (.goto 140, 3) := by decide +kernel
theorem dX12_holdsLine_120 : decode cX12_holdsLine 120 = .ok (.iinc 3 (-1), 3) := by decide +kernel
theorem dX12_holdsLine_123 : decode cX12_holdsLine 123 = .ok (.aload_n 0, 1) := by decide +kernel
theorem dX12_holdsLine_124 : decode cX12_holdsLine 124 = .ok (.getfield 39, 3) := by decide +kernel
theorem dX12_holdsLine_127 : decode cX12_holdsLine 127 = .ok (.iload_n 3, 1) := by decide +kernel
theorem dX12_holdsLine_128 : decode cX12_holdsLine 128 = .ok (.iconst 1, 1) := by decide +kernel
theorem dX12_holdsLine_129 : decode cX12_holdsLine 129 = .ok (.isub, 1) := by decide +kernel
theorem dX12_holdsLine_130 : decode cX12_holdsLine 130 = .ok (.iaload, 1) := by decide +kernel
theorem dX12_holdsLine_131 : decode cX12_holdsLine 131 = .ok (.istore 7, 2) := by decide +kernel
theorem dX12_holdsLine_133 : decode cX12_holdsLine 133 = .ok (.aload_n 0, 1) := by decide +kernel
theorem dX12_holdsLine_134 : decode cX12_holdsLine 134 = .ok (.getfield 39, 3) := by decide +kernel
theorem dX12_holdsLine_137 : decode cX12_holdsLine 137 = .ok (.iload_n 3, 1) := by decide +kernel
theorem dX12_holdsLine_138 : decode cX12_holdsLine 138 = .ok (.iaload, 1) := by decide +kernel
theorem dX12_holdsLine_139 : decode cX12_holdsLine 139 = .ok (.istore 8, 2) := by decide +kernel
theorem dX12_holdsLine_141 : decode cX12_holdsLine 141 = .ok (.iload 6, 2) := by decide +kernel
theorem dX12_holdsLine_143 : decode cX12_holdsLine 143 = .ok (.bipush 9, 2) := by decide +kernel
theorem dX12_holdsLine_145 : decode cX12_holdsLine 145 = .ok (.if_icmp .ne 18, 3) := by decide +kernel
theorem dX12_holdsLine_148 : decode cX12_holdsLine 148 = .ok (.iload 7, 2) := by decide +kernel
theorem dX12_holdsLine_150 : decode cX12_holdsLine 150 = .ok (.iload 8, 2) := by decide +kernel
theorem dX12_holdsLine_152 : decode cX12_holdsLine 152 = .ok (.if_icmp .ge 7, 3) := by decide +kernel
theorem dX12_holdsLine_155 : decode cX12_holdsLine 155 = .ok (.iconst 1, 1) := by decide +kernel
theorem dX12_holdsLine_156 : decode cX12_holdsLine 156 = .ok (.goto 66, 3) := by decide +kernel
theorem dX12_holdsLine_159 : decode cX12_holdsLine 159 = .ok (.iconst 0, 1) := by decide +kernel
theorem dX12_holdsLine_160 : decode cX12_holdsLine 160 = .ok (.goto 62, 3) := by decide +kernel
theorem dX12_holdsLine_163 : decode cX12_holdsLine 163 = .ok (.iload 6, 2) := by decide +kernel
theorem dX12_holdsLine_165 : decode cX12_holdsLine 165 = .ok (.bipush 10, 2) := by decide +kernel
theorem dX12_holdsLine_167 : decode cX12_holdsLine 167 = .ok (.if_icmp .ne 18, 3) := by decide +kernel
theorem dX12_holdsLine_170 : decode cX12_holdsLine 170 = .ok (.iload 7, 2) := by decide +kernel
theorem dX12_holdsLine_172 : decode cX12_holdsLine 172 = .ok (.iload 8, 2) := by decide +kernel
theorem dX12_holdsLine_174 : decode cX12_holdsLine 174 = .ok (.if_icmp .le 7, 3) := by decide +kernel
theorem dX12_holdsLine_177 : decode cX12_holdsLine 177 = .ok (.iconst 1, 1) := by decide +kernel
theorem dX12_holdsLine_178 : decode cX12_holdsLine 178 = .ok (.goto 44, 3) := by decide +kernel
theorem dX12_holdsLine_181 : decode cX12_holdsLine 181 = .ok (.iconst 0, 1) := by decide +kernel
theorem dX12_holdsLine_182 : decode cX12_holdsLine 182 = .ok (.goto 40, 3) := by decide +kernel
theorem dX12_holdsLine_185 : decode cX12_holdsLine 185 = .ok (.iload 6, 2) := by decide +kernel
theorem dX12_holdsLine_187 : decode cX12_holdsLine 187 = .ok (.bipush 12, 2) := by decide +kernel
theorem dX12_holdsLine_189 : decode cX12_holdsLine 189 = .ok (.if_icmp .ne 20, 3) := by decide +kernel
theorem dX12_holdsLine_192 : decode cX12_holdsLine 192 = .ok (.iload 7, 2) := by decide +kernel
theorem dX12_holdsLine_194 : decode cX12_holdsLine 194 = .ok (.iload 8, 2) := by decide +kernel
theorem dX12_holdsLine_196 : decode cX12_holdsLine 196 = .ok (.iadd, 1) := by decide +kernel
theorem dX12_holdsLine_197 : decode cX12_holdsLine 197 = .ok (.iconst 2, 1) := by decide +kernel
theorem dX12_holdsLine_198 : decode cX12_holdsLine 198 = .ok (.if_icmp .ne 7, 3) := by decide +kernel
theorem dX12_holdsLine_201 : decode cX12_holdsLine 201 = .ok (.iconst 1, 1) := by decide +kernel
theorem dX12_holdsLine_202 : decode cX12_holdsLine 202 = .ok (.goto 20, 3) := by decide +kernel
theorem dX12_holdsLine_205 : decode cX12_holdsLine 205 = .ok (.iconst 0, 1) := by decide +kernel
theorem dX12_holdsLine_206 : decode cX12_holdsLine 206 = .ok (.goto 16, 3) := by decide +kernel
theorem dX12_holdsLine_209 : decode cX12_holdsLine 209 = .ok (.iload 7, 2) := by decide +kernel
theorem dX12_holdsLine_211 : decode cX12_holdsLine 211 = .ok (.iload 8, 2) := by decide +kernel
theorem dX12_holdsLine_213 : decode cX12_holdsLine 213 = .ok (.iadd, 1) := by decide +kernel
theorem dX12_holdsLine_214 : decode cX12_holdsLine 214 = .ok (.ifCond .le 7, 3) := by decide +kernel
theorem dX12_holdsLine_217 : decode cX12_holdsLine 217 = .ok (.iconst 1, 1) := by decide +kernel
theorem dX12_holdsLine_218 : decode cX12_holdsLine 218 = .ok (.goto 4, 3) := by decide +kernel
theorem dX12_holdsLine_221 : decode cX12_holdsLine 221 = .ok (.iconst 0, 1) := by decide +kernel
theorem dX12_holdsLine_222 : decode cX12_holdsLine 222 = .ok (.istore 9, 2) := by decide +kernel
theorem dX12_holdsLine_224 : decode cX12_holdsLine 224 = .ok (.aload_n 0, 1) := by decide +kernel
theorem dX12_holdsLine_225 : decode cX12_holdsLine 225 = .ok (.getfield 39, 3) := by decide +kernel
theorem dX12_holdsLine_228 : decode cX12_holdsLine 228 = .ok (.iload_n 3, 1) := by decide +kernel
theorem dX12_holdsLine_229 : decode cX12_holdsLine 229 = .ok (.iconst 1, 1) := by decide +kernel
theorem dX12_holdsLine_230 : decode cX12_holdsLine 230 = .ok (.isub, 1) := by decide +kernel
theorem dX12_holdsLine_231 : decode cX12_holdsLine 231 = .ok (.iload 6, 2) := by decide +kernel
theorem dX12_holdsLine_233 : decode cX12_holdsLine 233 = .ok (.bipush 8, 2) := by decide +kernel
theorem dX12_holdsLine_235 : decode cX12_holdsLine 235 = .ok (.if_icmp .ne 11, 3) := by decide +kernel
theorem dX12_holdsLine_238 : decode cX12_holdsLine 238 = .ok (.iload 7, 2) := by decide +kernel
theorem dX12_holdsLine_240 : decode cX12_holdsLine 240 = .ok (.iload 8, 2) := by decide +kernel
theorem dX12_holdsLine_242 : decode cX12_holdsLine 242 = .ok (.iadd, 1) := by decide +kernel
theorem dX12_holdsLine_243 : decode cX12_holdsLine 243 = .ok (.goto 13, 3) := by decide +kernel
theorem dX12_holdsLine_246 : decode cX12_holdsLine 246 = .ok (.iload 9, 2) := by decide +kernel
theorem dX12_holdsLine_248 : decode cX12_holdsLine 248 = .ok (.ifCond .eq 7, 3) := by decide +kernel
theorem dX12_holdsLine_251 : decode cX12_holdsLine 251 = .ok (.iconst 1, 1) := by decide +kernel
theorem dX12_holdsLine_252 : decode cX12_holdsLine 252 = .ok (.goto 4, 3) := by decide +kernel
theorem dX12_holdsLine_255 : decode cX12_holdsLine 255 = .ok (.iconst 0, 1) := by decide +kernel
theorem dX12_holdsLine_256 : decode cX12_holdsLine 256 = .ok (.iastore, 1) := by decide +kernel
theorem dX12_holdsLine_257 : decode cX12_holdsLine 257 = .ok (.iinc 5 1, 3) := by decide +kernel
theorem dX12_holdsLine_260 : decode cX12_holdsLine 260 = .ok (.goto (-238), 3) := by decide +kernel
theorem dX12_holdsLine_263 : decode cX12_holdsLine 263 = .ok (.iload_n 3, 1) := by decide +kernel
theorem dX12_holdsLine_264 : decode cX12_holdsLine 264 = .ok (.ifCond .eq 13, 3) := by decide +kernel
theorem dX12_holdsLine_267 : decode cX12_holdsLine 267 = .ok (.aload_n 0, 1) := by decide +kernel
theorem dX12_holdsLine_268 : decode cX12_holdsLine 268 = .ok (.getfield 39, 3) := by decide +kernel
theorem dX12_holdsLine_271 : decode cX12_holdsLine 271 = .ok (.iconst 0, 1) := by decide +kernel
theorem dX12_holdsLine_272 : decode cX12_holdsLine 272 = .ok (.iaload, 1) := by decide +kernel
theorem dX12_holdsLine_273 : decode cX12_holdsLine 273 = .ok (.iconst 1, 1) := by decide +kernel
theorem dX12_holdsLine_274 : decode cX12_holdsLine 274 = .ok (.if_icmp .ne 7, 3) := by decide +kernel
theorem dX12_holdsLine_277 : decode cX12_holdsLine 277 = .ok (.iconst 1, 1) := by decide +kernel
theorem dX12_holdsLine_278 : decode cX12_holdsLine 278 = .ok (.goto 4, 3) := by decide +kernel
theorem dX12_holdsLine_281 : decode cX12_holdsLine 281 = .ok (.iconst 0, 1) := by decide +kernel
theorem dX12_holdsLine_282 : decode cX12_holdsLine 282 = .ok (.ireturn, 1) := by decide +kernel
theorem dX12_sumOf_0 : decode cX12_sumOf 0 = .ok (.iconst 0, 1) := by decide +kernel
theorem dX12_sumOf_1 : decode cX12_sumOf 1 = .ok (.istore_n 3, 1) := by decide +kernel
theorem dX12_sumOf_2 : decode cX12_sumOf 2 = .ok (.iconst 0, 1) := by decide +kernel
theorem dX12_sumOf_3 : decode cX12_sumOf 3 = .ok (.istore 4, 2) := by decide +kernel
theorem dX12_sumOf_5 : decode cX12_sumOf 5 = .ok (.iload 4, 2) := by decide +kernel
theorem dX12_sumOf_7 : decode cX12_sumOf 7 = .ok (.aload_n 0, 1) := by decide +kernel
theorem dX12_sumOf_8 : decode cX12_sumOf 8 = .ok (.getfield 13, 3) := by decide +kernel
theorem dX12_sumOf_11 : decode cX12_sumOf 11 = .ok (.sipush 475, 3) := by decide +kernel
theorem dX12_sumOf_14 : decode cX12_sumOf 14 = .ok (.iaload, 1) := by decide +kernel
theorem dX12_sumOf_15 : decode cX12_sumOf 15 = .ok (.if_icmp .ge 58, 3) := by decide +kernel
theorem dX12_sumOf_18 : decode cX12_sumOf 18 = .ok (.iload_n 3, 1) := by decide +kernel
theorem dX12_sumOf_19 : decode cX12_sumOf 19 = .ok (.aload_n 0, 1) := by decide +kernel
theorem dX12_sumOf_20 : decode cX12_sumOf 20 = .ok (.getfield 13, 3) := by decide +kernel
theorem dX12_sumOf_23 : decode cX12_sumOf 23 = .ok (.sipush 476, 3) := by decide +kernel
theorem dX12_sumOf_26 : decode cX12_sumOf 26 = .ok (.iconst 4, 1) := by decide +kernel
theorem dX12_sumOf_27 : decode cX12_sumOf 27 = .ok (.iload 4, 2) := by decide +kernel
theorem dX12_sumOf_29 : decode cX12_sumOf 29 = .ok (.imul, 1) := by decide +kernel
theorem dX12_sumOf_30 : decode cX12_sumOf 30 = .ok (.iadd, 1) := by decide +kernel
theorem dX12_sumOf_31 : decode cX12_sumOf 31 = .ok (.iaload, 1) := by decide +kernel
theorem dX12_sumOf_32 : decode cX12_sumOf 32 = .ok (.iload_n 1, 1) := by decide +kernel
theorem dX12_sumOf_33 : decode cX12_sumOf 33 = .ok (.if_icmp .ne 31, 3) := by decide +kernel
theorem dX12_sumOf_36 : decode cX12_sumOf 36 = .ok (.aload_n 0, 1) := by decide +kernel
theorem dX12_sumOf_37 : decode cX12_sumOf 37 = .ok (.iload 4, 2) := by decide +kernel
theorem dX12_sumOf_39 : decode cX12_sumOf 39 = .ok (.iload_n 2, 1) := by decide +kernel
theorem dX12_sumOf_40 : decode cX12_sumOf 40 = .ok (.invokevirtual 304, 3) := by decide +kernel
theorem dX12_sumOf_43 : decode cX12_sumOf 43 = .ok (.ifCond .eq 21, 3) := by decide +kernel
theorem dX12_sumOf_46 : decode cX12_sumOf 46 = .ok (.aload_n 0, 1) := by decide +kernel
theorem dX12_sumOf_47 : decode cX12_sumOf 47 = .ok (.getfield 13, 3) := by decide +kernel
theorem dX12_sumOf_50 : decode cX12_sumOf 50 = .ok (.sipush 476, 3) := by decide +kernel
theorem dX12_sumOf_53 : decode cX12_sumOf 53 = .ok (.iconst 4, 1) := by decide +kernel
theorem dX12_sumOf_54 : decode cX12_sumOf 54 = .ok (.iload 4, 2) := by decide +kernel
theorem dX12_sumOf_56 : decode cX12_sumOf 56 = .ok (.imul, 1) := by decide +kernel
theorem dX12_sumOf_57 : decode cX12_sumOf 57 = .ok (.iadd, 1) := by decide +kernel
theorem dX12_sumOf_58 : decode cX12_sumOf 58 = .ok (.iconst 1, 1) := by decide +kernel
theorem dX12_sumOf_59 : decode cX12_sumOf 59 = .ok (.iadd, 1) := by decide +kernel
theorem dX12_sumOf_60 : decode cX12_sumOf 60 = .ok (.iaload, 1) := by decide +kernel
theorem dX12_sumOf_61 : decode cX12_sumOf 61 = .ok (.goto 4, 3) := by decide +kernel
theorem dX12_sumOf_64 : decode cX12_sumOf 64 = .ok (.iconst 0, 1) := by decide +kernel
theorem dX12_sumOf_65 : decode cX12_sumOf 65 = .ok (.iadd, 1) := by decide +kernel
theorem dX12_sumOf_66 : decode cX12_sumOf 66 = .ok (.istore_n 3, 1) := by decide +kernel
theorem dX12_sumOf_67 : decode cX12_sumOf 67 = .ok (.iinc 4 1, 3) := by decide +kernel
theorem dX12_sumOf_70 : decode cX12_sumOf 70 = .ok (.goto (-65), 3) := by decide +kernel
theorem dX12_sumOf_73 : decode cX12_sumOf 73 = .ok (.iload_n 3, 1) := by decide +kernel
theorem dX12_sumOf_74 : decode cX12_sumOf 74 = .ok (.ireturn, 1) := by decide +kernel
theorem dX12_weightOf_0 : decode cX12_weightOf 0 = .ok (.aload_n 0, 1) := by decide +kernel
theorem dX12_weightOf_1 : decode cX12_weightOf 1 = .ok (.getfield 13, 3) := by decide +kernel
theorem dX12_weightOf_4 : decode cX12_weightOf 4 = .ok (.bipush 10, 2) := by decide +kernel
theorem dX12_weightOf_6 : decode cX12_weightOf 6 = .ok (.iaload, 1) := by decide +kernel
theorem dX12_weightOf_7 : decode cX12_weightOf 7 = .ok (.ifCond .ne 5, 3) := by decide +kernel
theorem dX12_weightOf_10 : decode cX12_weightOf 10 = .ok (.iconst 1, 1) := by decide +kernel
theorem dX12_weightOf_11 : decode cX12_weightOf 11 = .ok (.ireturn, 1) := by decide +kernel
theorem dX12_weightOf_12 : decode cX12_weightOf 12 = .ok (.aload_n 0, 1) := by decide +kernel
theorem dX12_weightOf_13 : decode cX12_weightOf 13 = .ok (.iload_n 1, 1) := by decide +kernel
theorem dX12_weightOf_14 : decode cX12_weightOf 14 = .ok (.putfield 285, 3) := by decide +kernel
theorem dX12_weightOf_17 : decode cX12_weightOf 17 = .ok (.aload_n 0, 1) := by decide +kernel
theorem dX12_weightOf_18 : decode cX12_weightOf 18 = .ok (.iload_n 2, 1) := by decide +kernel
theorem dX12_weightOf_19 : decode cX12_weightOf 19 = .ok (.putfield 288, 3) := by decide +kernel
theorem dX12_weightOf_22 : decode cX12_weightOf 22 = .ok (.aload_n 0, 1) := by decide +kernel
theorem dX12_weightOf_23 : decode cX12_weightOf 23 = .ok (.iconst 0, 1) := by decide +kernel
theorem dX12_weightOf_24 : decode cX12_weightOf 24 = .ok (.putfield 291, 3) := by decide +kernel
theorem dX12_weightOf_27 : decode cX12_weightOf 27 = .ok (.aload_n 0, 1) := by decide +kernel
theorem dX12_weightOf_28 : decode cX12_weightOf 28 = .ok (.iconst 0, 1) := by decide +kernel
theorem dX12_weightOf_29 : decode cX12_weightOf 29 = .ok (.putfield 294, 3) := by decide +kernel
theorem dX12_weightOf_32 : decode cX12_weightOf 32 = .ok (.aload_n 0, 1) := by decide +kernel
theorem dX12_weightOf_33 : decode cX12_weightOf 33 = .ok (.iconst 0, 1) := by decide +kernel
theorem dX12_weightOf_34 : decode cX12_weightOf 34 = .ok (.iload_n 3, 1) := by decide +kernel
theorem dX12_weightOf_35 : decode cX12_weightOf 35 = .ok (.invokevirtual 307, 3) := by decide +kernel
theorem dX12_weightOf_38 : decode cX12_weightOf 38 = .ok (.ireturn, 1) := by decide +kernel
theorem dX12_fadesBy_0 : decode cX12_fadesBy 0 = .ok (.aload_n 0, 1) := by decide +kernel
theorem dX12_fadesBy_1 : decode cX12_fadesBy 1 = .ok (.getfield 13, 3) := by decide +kernel
theorem dX12_fadesBy_4 : decode cX12_fadesBy 4 = .ok (.bipush 10, 2) := by decide +kernel
theorem dX12_fadesBy_6 : decode cX12_fadesBy 6 = .ok (.iaload, 1) := by decide +kernel
theorem dX12_fadesBy_7 : decode cX12_fadesBy 7 = .ok (.ifCond .ne 5, 3) := by decide +kernel
theorem dX12_fadesBy_10 : decode cX12_fadesBy 10 = .ok (.iconst 0, 1) := by decide +kernel
theorem dX12_fadesBy_11 : decode cX12_fadesBy 11 = .ok (.ireturn, 1) := by decide +kernel
theorem dX12_fadesBy_12 : decode cX12_fadesBy 12 = .ok (.aload_n 0, 1) := by decide +kernel
theorem dX12_fadesBy_13 : decode cX12_fadesBy 13 = .ok (.iconst (-1), 1) := by decide +kernel
theorem dX12_fadesBy_14 : decode cX12_fadesBy 14 = .ok (.putfield 285, 3) := by decide +kernel
theorem dX12_fadesBy_17 : decode cX12_fadesBy 17 = .ok (.aload_n 0, 1) := by decide +kernel
theorem dX12_fadesBy_18 : decode cX12_fadesBy 18 = .ok (.iload_n 2, 1) := by decide +kernel
theorem dX12_fadesBy_19 : decode cX12_fadesBy 19 = .ok (.putfield 291, 3) := by decide +kernel
theorem dX12_fadesBy_22 : decode cX12_fadesBy 22 = .ok (.aload_n 0, 1) := by decide +kernel
theorem dX12_fadesBy_23 : decode cX12_fadesBy 23 = .ok (.iload_n 1, 1) := by decide +kernel
theorem dX12_fadesBy_24 : decode cX12_fadesBy 24 = .ok (.putfield 294, 3) := by decide +kernel
theorem dX12_fadesBy_27 : decode cX12_fadesBy 27 = .ok (.aload_n 0, 1) := by decide +kernel
theorem dX12_fadesBy_28 : decode cX12_fadesBy 28 = .ok (.iconst 1, 1) := by decide +kernel
theorem dX12_fadesBy_29 : decode cX12_fadesBy 29 = .ok (.iconst 0, 1) := by decide +kernel
theorem dX12_fadesBy_30 : decode cX12_fadesBy 30 = .ok (.invokevirtual 307, 3) := by decide +kernel
theorem dX12_fadesBy_33 : decode cX12_fadesBy 33 = .ok (.ireturn, 1) := by decide +kernel
theorem dX12_spaceOf_0 : decode cX12_spaceOf 0 = .ok (.aload_n 0, 1) := by decide +kernel
theorem dX12_spaceOf_1 : decode cX12_spaceOf 1 = .ok (.getfield 13, 3) := by decide +kernel
theorem dX12_spaceOf_4 : decode cX12_spaceOf 4 = .ok (.iconst 4, 1) := by decide +kernel
theorem dX12_spaceOf_5 : decode cX12_spaceOf 5 = .ok (.iaload, 1) := by decide +kernel
theorem dX12_spaceOf_6 : decode cX12_spaceOf 6 = .ok (.aload_n 0, 1) := by decide +kernel
theorem dX12_spaceOf_7 : decode cX12_spaceOf 7 = .ok (.iload_n 1, 1) := by decide +kernel
theorem dX12_spaceOf_8 : decode cX12_spaceOf 8 = .ok (.bipush 7, 2) := by decide +kernel
theorem dX12_spaceOf_10 : decode cX12_spaceOf 10 = .ok (.iload_n 3, 1) := by decide +kernel
theorem dX12_spaceOf_11 : decode cX12_spaceOf 11 = .ok (.iadd, 1) := by decide +kernel
theorem dX12_spaceOf_12 : decode cX12_spaceOf 12 = .ok (.invokevirtual 84, 3) := by decide +kernel
theorem dX12_spaceOf_15 : decode cX12_spaceOf 15 = .ok (.iconst 0, 1) := by decide +kernel
theorem dX12_spaceOf_16 : decode cX12_spaceOf 16 = .ok (.iload_n 2, 1) := by decide +kernel
theorem dX12_spaceOf_17 : decode cX12_spaceOf 17 = .ok (.aload_n 0, 1) := by decide +kernel
theorem dX12_spaceOf_18 : decode cX12_spaceOf 18 = .ok (.getfield 13, 3) := by decide +kernel
theorem dX12_spaceOf_21 : decode cX12_spaceOf 21 = .ok (.iconst 5, 1) := by decide +kernel
theorem dX12_spaceOf_22 : decode cX12_spaceOf 22 = .ok (.iaload, 1) := by decide +kernel
theorem dX12_spaceOf_23 : decode cX12_spaceOf 23 = .ok (.isub, 1) := by decide +kernel
theorem dX12_spaceOf_24 : decode cX12_spaceOf 24 = .ok (.invokestatic 72, 3) := by decide +kernel
theorem dX12_spaceOf_27 : decode cX12_spaceOf 27 = .ok (.iadd, 1) := by decide +kernel
theorem dX12_spaceOf_28 : decode cX12_spaceOf 28 = .ok (.aload_n 0, 1) := by decide +kernel
theorem dX12_spaceOf_29 : decode cX12_spaceOf 29 = .ok (.iload_n 1, 1) := by decide +kernel
theorem dX12_spaceOf_30 : decode cX12_spaceOf 30 = .ok (.iconst 1, 1) := by decide +kernel
theorem dX12_spaceOf_31 : decode cX12_spaceOf 31 = .ok (.iadd, 1) := by decide +kernel
theorem dX12_spaceOf_32 : decode cX12_spaceOf 32 = .ok (.iconst 2, 1) := by decide +kernel
theorem dX12_spaceOf_33 : decode cX12_spaceOf 33 = .ok (.iload_n 3, 1) := by decide +kernel
theorem dX12_spaceOf_34 : decode cX12_spaceOf 34 = .ok (.iadd, 1) := by decide +kernel
theorem dX12_spaceOf_35 : decode cX12_spaceOf 35 = .ok (.invokevirtual 84, 3) := by decide +kernel
theorem dX12_spaceOf_38 : decode cX12_spaceOf 38 = .ok (.iadd, 1) := by decide +kernel
theorem dX12_spaceOf_39 : decode cX12_spaceOf 39 = .ok (.invokestatic 310, 3) := by decide +kernel
theorem dX12_spaceOf_42 : decode cX12_spaceOf 42 = .ok (.ireturn, 1) := by decide +kernel
theorem dX12_whiteBy_0 : decode cX12_whiteBy 0 = .ok (.iconst 0, 1) := by decide +kernel
theorem dX12_whiteBy_1 : decode cX12_whiteBy 1 = .ok (.istore_n 3, 1) := by decide +kernel
theorem dX12_whiteBy_2 : decode cX12_whiteBy 2 = .ok (.iconst 0, 1) := by decide +kernel
theorem dX12_whiteBy_3 : decode cX12_whiteBy 3 = .ok (.istore 4, 2) := by decide +kernel
theorem dX12_whiteBy_5 : decode cX12_whiteBy 5 = .ok (.iload 4, 2) := by decide +kernel
theorem dX12_whiteBy_7 : decode cX12_whiteBy 7 = .ok (.iconst 5, 1) := by decide +kernel
theorem dX12_whiteBy_8 : decode cX12_whiteBy 8 = .ok (.if_icmp .ge 29, 3) := by decide +kernel
theorem dX12_whiteBy_11 : decode cX12_whiteBy 11 = .ok (.iload_n 3, 1) := by decide +kernel
theorem dX12_whiteBy_12 : decode cX12_whiteBy 12 = .ok (.aload_n 0, 1) := by decide +kernel
theorem dX12_whiteBy_13 : decode cX12_whiteBy 13 = .ok (.iload_n 1, 1) := by decide +kernel
theorem dX12_whiteBy_14 : decode cX12_whiteBy 14 = .ok (.iload_n 2, 1) := by decide +kernel
theorem dX12_whiteBy_15 : decode cX12_whiteBy 15 = .ok (.iload 4, 2) := by decide +kernel
theorem dX12_whiteBy_17 : decode cX12_whiteBy 17 = .ok (.invokevirtual 313, 3) := by decide +kernel
theorem dX12_whiteBy_20 : decode cX12_whiteBy 20 = .ok (.aload_n 0, 1) := by decide +kernel
theorem dX12_whiteBy_21 : decode cX12_whiteBy 21 = .ok (.iload_n 1, 1) := by decide +kernel
theorem dX12_whiteBy_22 : decode cX12_whiteBy 22 = .ok (.iload_n 2, 1) := by decide +kernel
theorem dX12_whiteBy_23 : decode cX12_whiteBy 23 = .ok (.iload 4, 2) := by decide +kernel
theorem dX12_whiteBy_25 : decode cX12_whiteBy 25 = .ok (.invokevirtual 316, 3) := by decide +kernel
theorem dX12_whiteBy_28 : decode cX12_whiteBy 28 = .ok (.imul, 1) := by decide +kernel
theorem dX12_whiteBy_29 : decode cX12_whiteBy 29 = .ok (.iadd, 1) := by decide +kernel
theorem dX12_whiteBy_30 : decode cX12_whiteBy 30 = .ok (.istore_n 3, 1) := by decide +kernel
theorem dX12_whiteBy_31 : decode cX12_whiteBy 31 = .ok (.iinc 4 1, 3) := by decide +kernel
theorem dX12_whiteBy_34 : decode cX12_whiteBy 34 = .ok (.goto (-29), 3) := by decide +kernel
theorem dX12_whiteBy_37 : decode cX12_whiteBy 37 = .ok (.iload_n 3, 1) := by decide +kernel
theorem dX12_whiteBy_38 : decode cX12_whiteBy 38 = .ok (.ireturn, 1) := by decide +kernel
theorem dX12_white_0 : decode cX12_white 0 = .ok (.aload_n 0, 1) := by decide +kernel
theorem dX12_white_1 : decode cX12_white 1 = .ok (.iload_n 1, 1) := by decide +kernel
theorem dX12_white_2 : decode cX12_white 2 = .ok (.aload_n 0, 1) := by decide +kernel
theorem dX12_white_3 : decode cX12_white 3 = .ok (.iload_n 1, 1) := by decide +kernel
theorem dX12_white_4 : decode cX12_white 4 = .ok (.invokevirtual 319, 3) := by decide +kernel
theorem dX12_white_7 : decode cX12_white 7 = .ok (.invokevirtual 323, 3) := by decide +kernel
theorem dX12_white_10 : decode cX12_white 10 = .ok (.ireturn, 1) := by decide +kernel
theorem dX12_leastSpace_0 : decode cX12_leastSpace 0 = .ok (.ldc_w 326, 3) := by decide +kernel
theorem dX12_leastSpace_3 : decode cX12_leastSpace 3 = .ok (.istore_n 2, 1) := by decide +kernel
theorem dX12_leastSpace_4 : decode cX12_leastSpace 4 = .ok (.iconst 0, 1) := by decide +kernel
theorem dX12_leastSpace_5 : decode cX12_leastSpace 5 = .ok (.istore_n 3, 1) := by decide +kernel
theorem dX12_leastSpace_6 : decode cX12_leastSpace 6 = .ok (.iload_n 3, 1) := by decide +kernel
theorem dX12_leastSpace_7 : decode cX12_leastSpace 7 = .ok (.iconst 5, 1) := by decide +kernel
theorem dX12_leastSpace_8 : decode cX12_leastSpace 8 = .ok (.if_icmp .ge 25, 3) := by decide +kernel
theorem dX12_leastSpace_11 : decode cX12_leastSpace 11 = .ok (.iload_n 2, 1) := by decide +kernel
theorem dX12_leastSpace_12 : decode cX12_leastSpace 12 = .ok (.aload_n 0, 1) := by decide +kernel
theorem dX12_leastSpace_13 : decode cX12_leastSpace 13 = .ok (.iload_n 1, 1) := by decide +kernel
theorem dX12_leastSpace_14 : decode cX12_leastSpace 14 = .ok (.aload_n 0, 1) := by decide +kernel
theorem dX12_leastSpace_15 : decode cX12_leastSpace 15 = .ok (.iload_n 1, 1) := by decide +kernel
theorem dX12_leastSpace_16 : decode cX12_leastSpace 16 = .ok (.invokevirtual 319, 3) := by decide +kernel
theorem dX12_leastSpace_19 : decode cX12_leastSpace 19 = .ok (.iload_n 3, 1) := by decide +kernel
theorem dX12_leastSpace_20 : decode cX12_leastSpace 20 = .ok (.invokevirtual 313, 3) := by decide +kernel
theorem dX12_leastSpace_23 : decode cX12_leastSpace 23 = .ok (.invokestatic 310, 3) := by decide +kernel
theorem dX12_leastSpace_26 : decode cX12_leastSpace 26 = .ok (.istore_n 2, 1) := by decide +kernel
theorem dX12_leastSpace_27 : decode cX12_leastSpace 27 = .ok (.iinc 3 1, 3) := by decide +kernel
theorem dX12_leastSpace_30 : decode cX12_leastSpace 30 = .ok (.goto (-24), 3) := by decide +kernel
theorem dX12_leastSpace_33 : decode cX12_leastSpace 33 = .ok (.iload_n 2, 1) := by decide +kernel
theorem dX12_leastSpace_34 : decode cX12_leastSpace 34 = .ok (.ireturn, 1) := by decide +kernel
theorem dX12_inkOf_0 : decode cX12_inkOf 0 = .ok (.iconst 0, 1) := by decide +kernel
theorem dX12_inkOf_1 : decode cX12_inkOf 1 = .ok (.istore_n 2, 1) := by decide +kernel
theorem dX12_inkOf_2 : decode cX12_inkOf 2 = .ok (.iconst 0, 1) := by decide +kernel
theorem dX12_inkOf_3 : decode cX12_inkOf 3 = .ok (.istore_n 3, 1) := by decide +kernel
theorem dX12_inkOf_4 : decode cX12_inkOf 4 = .ok (.iload_n 3, 1) := by decide +kernel
theorem dX12_inkOf_5 : decode cX12_inkOf 5 = .ok (.iconst 5, 1) := by decide +kernel
theorem dX12_inkOf_6 : decode cX12_inkOf 6 = .ok (.if_icmp .ge 37, 3) := by decide +kernel
theorem dX12_inkOf_9 : decode cX12_inkOf 9 = .ok (.iload_n 2, 1) := by decide +kernel
theorem dX12_inkOf_10 : decode cX12_inkOf 10 = .ok (.aload_n 0, 1) := by decide +kernel
theorem dX12_inkOf_11 : decode cX12_inkOf 11 = .ok (.iload_n 1, 1) := by decide +kernel
theorem dX12_inkOf_12 : decode cX12_inkOf 12 = .ok (.iconst 1, 1) := by decide +kernel
theorem dX12_inkOf_13 : decode cX12_inkOf 13 = .ok (.invokevirtual 81, 3) := by decide +kernel
theorem dX12_inkOf_16 : decode cX12_inkOf 16 = .ok (.aload_n 0, 1) := by decide +kernel
theorem dX12_inkOf_17 : decode cX12_inkOf 17 = .ok (.iload_n 1, 1) := by decide +kernel
theorem dX12_inkOf_18 : decode cX12_inkOf 18 = .ok (.iconst 2, 1) := by decide +kernel
theorem dX12_inkOf_19 : decode cX12_inkOf 19 = .ok (.iload_n 3, 1) := by decide +kernel
theorem dX12_inkOf_20 : decode cX12_inkOf 20 = .ok (.iadd, 1) := by decide +kernel
theorem dX12_inkOf_21 : decode cX12_inkOf 21 = .ok (.invokevirtual 81, 3) := by decide +kernel
theorem dX12_inkOf_24 : decode cX12_inkOf 24 = .ok (.isub, 1) := by decide +kernel
theorem dX12_inkOf_25 : decode cX12_inkOf 25 = .ok (.aload_n 0, 1) := by decide +kernel
theorem dX12_inkOf_26 : decode cX12_inkOf 26 = .ok (.iload_n 1, 1) := by decide +kernel
theorem dX12_inkOf_27 : decode cX12_inkOf 27 = .ok (.bipush 7, 2) := by decide +kernel
theorem dX12_inkOf_29 : decode cX12_inkOf 29 = .ok (.iload_n 3, 1) := by decide +kernel
theorem dX12_inkOf_30 : decode cX12_inkOf 30 = .ok (.iadd, 1) := by decide +kernel
theorem dX12_inkOf_31 : decode cX12_inkOf 31 = .ok (.invokevirtual 81, 3) := by decide +kernel
theorem dX12_inkOf_34 : decode cX12_inkOf 34 = .ok (.isub, 1) := by decide +kernel
theorem dX12_inkOf_35 : decode cX12_inkOf 35 = .ok (.iadd, 1) := by decide +kernel
theorem dX12_inkOf_36 : decode cX12_inkOf 36 = .ok (.istore_n 2, 1) := by decide +kernel
theorem dX12_inkOf_37 : decode cX12_inkOf 37 = .ok (.iinc 3 1, 3) := by decide +kernel
theorem dX12_inkOf_40 : decode cX12_inkOf 40 = .ok (.goto (-36), 3) := by decide +kernel
theorem dX12_inkOf_43 : decode cX12_inkOf 43 = .ok (.iload_n 2, 1) := by decide +kernel
theorem dX12_inkOf_44 : decode cX12_inkOf 44 = .ok (.ireturn, 1) := by decide +kernel
theorem dX12_sign_0 : decode cX12_sign 0 = .ok (.aload_n 0, 1) := by decide +kernel
theorem dX12_sign_1 : decode cX12_sign 1 = .ok (.iconst 0, 1) := by decide +kernel
theorem dX12_sign_2 : decode cX12_sign 2 = .ok (.putfield 3, 3) := by decide +kernel
theorem dX12_sign_5 : decode cX12_sign 5 = .ok (.aload_n 0, 1) := by decide +kernel
theorem dX12_sign_6 : decode cX12_sign 6 = .ok (.aload_n 0, 1) := by decide +kernel
theorem dX12_sign_7 : decode cX12_sign 7 = .ok (.iload_n 1, 1) := by decide +kernel
theorem dX12_sign_8 : decode cX12_sign 8 = .ok (.invokevirtual 327, 3) := by decide +kernel
theorem dX12_sign_11 : decode cX12_sign 11 = .ok (.iconst 1, 1) := by decide +kernel
theorem dX12_sign_12 : decode cX12_sign 12 = .ok (.invokevirtual 282, 3) := by decide +kernel
theorem dX12_sign_15 : decode cX12_sign 15 = .ok (.ifCond .ne 25, 3) := by decide +kernel
theorem dX12_sign_18 : decode cX12_sign 18 = .ok (.aload_n 0, 1) := by decide +kernel
theorem dX12_sign_19 : decode cX12_sign 19 = .ok (.iload_n 2, 1) := by decide +kernel
theorem dX12_sign_20 : decode cX12_sign 20 = .ok (.iconst 0, 1) := by decide +kernel
theorem dX12_sign_21 : decode cX12_sign 21 = .ok (.iconst 2, 1) := by decide +kernel
theorem dX12_sign_22 : decode cX12_sign 22 = .ok (.invokestatic 90, 3) := by decide +kernel
theorem dX12_sign_25 : decode cX12_sign 25 = .ok (.ifCond .ne 7, 3) := by decide +kernel
theorem dX12_sign_28 : decode cX12_sign 28 = .ok (.iconst 1, 1) := by decide +kernel
theorem dX12_sign_29 : decode cX12_sign 29 = .ok (.goto 4, 3) := by decide +kernel
theorem dX12_sign_32 : decode cX12_sign 32 = .ok (.iconst 0, 1) := by decide +kernel
theorem dX12_sign_33 : decode cX12_sign 33 = .ok (.iconst 2, 1) := by decide +kernel
theorem dX12_sign_34 : decode cX12_sign 34 = .ok (.invokevirtual 282, 3) := by decide +kernel
theorem dX12_sign_37 : decode cX12_sign 37 = .ok (.ifCond .eq 5, 3) := by decide +kernel
theorem dX12_sign_40 : decode cX12_sign 40 = .ok (.iconst 0, 1) := by decide +kernel
theorem dX12_sign_41 : decode cX12_sign 41 = .ok (.ireturn, 1) := by decide +kernel
theorem dX12_sign_42 : decode cX12_sign 42 = .ok (.iload_n 2, 1) := by decide +kernel
theorem dX12_sign_43 : decode cX12_sign 43 = .ok (.iconst 2, 1) := by decide +kernel
theorem dX12_sign_44 : decode cX12_sign 44 = .ok (.if_icmp .ne 11, 3) := by decide +kernel
theorem dX12_sign_47 : decode cX12_sign 47 = .ok (.aload_n 0, 1) := by decide +kernel
theorem dX12_sign_48 : decode cX12_sign 48 = .ok (.iload_n 1, 1) := by decide +kernel
theorem dX12_sign_49 : decode cX12_sign 49 = .ok (.invokevirtual 330, 3) := by decide +kernel
theorem dX12_sign_52 : decode cX12_sign 52 = .ok (.goto 9, 3) := by decide +kernel
theorem dX12_sign_55 : decode cX12_sign 55 = .ok (.aload_n 0, 1) := by decide +kernel
theorem dX12_sign_56 : decode cX12_sign 56 = .ok (.iload_n 1, 1) := by decide +kernel
theorem dX12_sign_57 : decode cX12_sign 57 = .ok (.iload_n 2, 1) := by decide +kernel
theorem dX12_sign_58 : decode cX12_sign 58 = .ok (.invokevirtual 81, 3) := by decide +kernel
theorem dX12_sign_61 : decode cX12_sign 61 = .ok (.ireturn, 1) := by decide +kernel
theorem dX12_side_0 : decode cX12_side 0 = .ok (.aload_n 0, 1) := by decide +kernel
theorem dX12_side_1 : decode cX12_side 1 = .ok (.iconst 0, 1) := by decide +kernel
theorem dX12_side_2 : decode cX12_side 2 = .ok (.putfield 3, 3) := by decide +kernel
theorem dX12_side_5 : decode cX12_side 5 = .ok (.aload_n 0, 1) := by decide +kernel
theorem dX12_side_6 : decode cX12_side 6 = .ok (.aload_n 0, 1) := by decide +kernel
theorem dX12_side_7 : decode cX12_side 7 = .ok (.iload_n 1, 1) := by decide +kernel
theorem dX12_side_8 : decode cX12_side 8 = .ok (.invokevirtual 327, 3) := by decide +kernel
theorem dX12_side_11 : decode cX12_side 11 = .ok (.ifCond .ne 12, 3) := by decide +kernel
theorem dX12_side_14 : decode cX12_side 14 = .ok (.iload_n 2, 1) := by decide +kernel
theorem dX12_side_15 : decode cX12_side 15 = .ok (.iconst 0, 1) := by decide +kernel
theorem dX12_side_16 : decode cX12_side 16 = .ok (.iconst 4, 1) := by decide +kernel
theorem dX12_side_17 : decode cX12_side 17 = .ok (.invokestatic 90, 3) := by decide +kernel
theorem dX12_side_20 : decode cX12_side 20 = .ok (.ifCond .ne 7, 3) := by decide +kernel
theorem dX12_side_23 : decode cX12_side 23 = .ok (.iconst 1, 1) := by decide +kernel
theorem dX12_side_24 : decode cX12_side 24 = .ok (.goto 4, 3) := by decide +kernel
theorem dX12_side_27 : decode cX12_side 27 = .ok (.iconst 0, 1) := by decide +kernel
theorem dX12_side_28 : decode cX12_side 28 = .ok (.iconst 1, 1) := by decide +kernel
theorem dX12_side_29 : decode cX12_side 29 = .ok (.invokevirtual 282, 3) := by decide +kernel
theorem dX12_side_32 : decode cX12_side 32 = .ok (.ifCond .eq 7, 3) := by decide +kernel
theorem dX12_side_35 : decode cX12_side 35 = .ok (.iconst 0, 1) := by decide +kernel
theorem dX12_side_36 : decode cX12_side 36 = .ok (.goto 20, 3) := by decide +kernel
theorem dX12_side_39 : decode cX12_side 39 = .ok (.aload_n 0, 1) := by decide +kernel
theorem dX12_side_40 : decode cX12_side 40 = .ok (.iload_n 1, 1) := by decide +kernel
theorem dX12_side_41 : decode cX12_side 41 = .ok (.iload_n 3, 1) := by decide +kernel
theorem dX12_side_42 : decode cX12_side 42 = .ok (.ifCond .eq 8, 3) := by decide +kernel
theorem dX12_side_45 : decode cX12_side 45 = .ok (.bipush 7, 2) := by decide +kernel
theorem dX12_side_47 : decode cX12_side 47 = .ok (.goto 4, 3) := by decide +kernel
theorem dX12_side_50 : decode cX12_side 50 = .ok (.iconst 2, 1) := by decide +kernel
theorem dX12_side_51 : decode cX12_side 51 = .ok (.iload_n 2, 1) := by decide +kernel
theorem dX12_side_52 : decode cX12_side 52 = .ok (.iadd, 1) := by decide +kernel
theorem dX12_side_53 : decode cX12_side 53 = .ok (.invokevirtual 81, 3) := by decide +kernel
theorem dX12_side_56 : decode cX12_side 56 = .ok (.ireturn, 1) := by decide +kernel
theorem dX12_beginOf_0 : decode cX12_beginOf 0 = .ok (.aload_n 0, 1) := by decide +kernel
theorem dX12_beginOf_1 : decode cX12_beginOf 1 = .ok (.getfield 13, 3) := by decide +kernel
theorem dX12_beginOf_4 : decode cX12_beginOf 4 = .ok (.iconst 3, 1) := by decide +kernel
theorem dX12_beginOf_5 : decode cX12_beginOf 5 = .ok (.iaload, 1) := by decide +kernel
theorem dX12_beginOf_6 : decode cX12_beginOf 6 = .ok (.istore_n 2, 1) := by decide +kernel
theorem dX12_beginOf_7 : decode cX12_beginOf 7 = .ok (.iconst 0, 1) := by decide +kernel
theorem dX12_beginOf_8 : decode cX12_beginOf 8 = .ok (.istore_n 3, 1) := by decide +kernel
theorem dX12_beginOf_9 : decode cX12_beginOf 9 = .ok (.iload_n 3, 1) := by decide +kernel
theorem dX12_beginOf_10 : decode cX12_beginOf 10 = .ok (.iload_n 1, 1) := by decide +kernel
theorem dX12_beginOf_11 : decode cX12_beginOf 11 = .ok (.if_icmp .ge 23, 3) := by decide +kernel
theorem dX12_beginOf_14 : decode cX12_beginOf 14 = .ok (.iload_n 2, 1) := by decide +kernel
theorem dX12_beginOf_15 : decode cX12_beginOf 15 = .ok (.aload_n 0, 1) := by decide +kernel
theorem dX12_beginOf_16 : decode cX12_beginOf 16 = .ok (.iload_n 3, 1) := by decide +kernel
theorem dX12_beginOf_17 : decode cX12_beginOf 17 = .ok (.invokevirtual 333, 3) := by decide +kernel
theorem dX12_beginOf_20 : decode cX12_beginOf 20 = .ok (.aload_n 0, 1) := by decide +kernel
theorem dX12_beginOf_21 : decode cX12_beginOf 21 = .ok (.iload_n 3, 1) := by decide +kernel
theorem dX12_beginOf_22 : decode cX12_beginOf 22 = .ok (.invokevirtual 319, 3) := by decide +kernel
theorem dX12_beginOf_25 : decode cX12_beginOf 25 = .ok (.iadd, 1) := by decide +kernel
theorem dX12_beginOf_26 : decode cX12_beginOf 26 = .ok (.iadd, 1) := by decide +kernel
theorem dX12_beginOf_27 : decode cX12_beginOf 27 = .ok (.istore_n 2, 1) := by decide +kernel
theorem dX12_beginOf_28 : decode cX12_beginOf 28 = .ok (.iinc 3 1, 3) := by decide +kernel
theorem dX12_beginOf_31 : decode cX12_beginOf 31 = .ok (.goto (-22), 3) := by decide +kernel
theorem dX12_beginOf_34 : decode cX12_beginOf 34 = .ok (.iload_n 2, 1) := by decide +kernel
theorem dX12_beginOf_35 : decode cX12_beginOf 35 = .ok (.ireturn, 1) := by decide +kernel
theorem dX12_endOfLast_0 : decode cX12_endOfLast 0 = .ok (.aload_n 0, 1) := by decide +kernel
theorem dX12_endOfLast_1 : decode cX12_endOfLast 1 = .ok (.invokevirtual 68, 3) := by decide +kernel
theorem dX12_endOfLast_4 : decode cX12_endOfLast 4 = .ok (.ifCond .ne 12, 3) := by decide +kernel
theorem dX12_endOfLast_7 : decode cX12_endOfLast 7 = .ok (.aload_n 0, 1) := by decide +kernel
theorem dX12_endOfLast_8 : decode cX12_endOfLast 8 = .ok (.getfield 13, 3) := by decide +kernel
theorem dX12_endOfLast_11 : decode cX12_endOfLast 11 = .ok (.iconst 3, 1) := by decide +kernel
theorem dX12_endOfLast_12 : decode cX12_endOfLast 12 = .ok (.iaload, 1) := by decide +kernel
theorem dX12_endOfLast_13 : decode cX12_endOfLast 13 = .ok (.goto 24, 3) := by decide +kernel
theorem dX12_endOfLast_16 : decode cX12_endOfLast 16 = .ok (.aload_n 0, 1) := by decide +kernel
theorem dX12_endOfLast_17 : decode cX12_endOfLast 17 = .ok (.aload_n 0, 1) := by decide +kernel
theorem dX12_endOfLast_18 : decode cX12_endOfLast 18 = .ok (.invokevirtual 68, 3) := by decide +kernel
theorem dX12_endOfLast_21 : decode cX12_endOfLast 21 = .ok (.iconst 1, 1) := by decide +kernel
theorem dX12_endOfLast_22 : decode cX12_endOfLast 22 = .ok (.isub, 1) := by decide +kernel
theorem dX12_endOfLast_23 : decode cX12_endOfLast 23 = .ok (.invokevirtual 336, 3) := by decide +kernel
theorem dX12_endOfLast_26 : decode cX12_endOfLast 26 = .ok (.aload_n 0, 1) := by decide +kernel
theorem dX12_endOfLast_27 : decode cX12_endOfLast 27 = .ok (.aload_n 0, 1) := by decide +kernel
theorem dX12_endOfLast_28 : decode cX12_endOfLast 28 = .ok (.invokevirtual 68, 3) := by decide +kernel
theorem dX12_endOfLast_31 : decode cX12_endOfLast 31 = .ok (.iconst 1, 1) := by decide +kernel
theorem dX12_endOfLast_32 : decode cX12_endOfLast 32 = .ok (.isub, 1) := by decide +kernel
theorem dX12_endOfLast_33 : decode cX12_endOfLast 33 = .ok (.invokevirtual 333, 3) := by decide +kernel
theorem dX12_endOfLast_36 : decode cX12_endOfLast 36 = .ok (.iadd, 1) := by decide +kernel
theorem dX12_endOfLast_37 : decode cX12_endOfLast 37 = .ok (.ireturn, 1) := by decide +kernel
theorem dX12_letter_0 : decode cX12_letter 0 = .ok (.aload_n 0, 1) := by decide +kernel
theorem dX12_letter_1 : decode cX12_letter 1 = .ok (.iconst 0, 1) := by decide +kernel
theorem dX12_letter_2 : decode cX12_letter 2 = .ok (.putfield 3, 3) := by decide +kernel
theorem dX12_letter_5 : decode cX12_letter 5 = .ok (.aload_n 0, 1) := by decide +kernel
theorem dX12_letter_6 : decode cX12_letter 6 = .ok (.aload_n 0, 1) := by decide +kernel
theorem dX12_letter_7 : decode cX12_letter 7 = .ok (.iload_n 1, 1) := by decide +kernel
theorem dX12_letter_8 : decode cX12_letter 8 = .ok (.invokevirtual 339, 3) := by decide +kernel
theorem dX12_letter_11 : decode cX12_letter 11 = .ok (.iconst 1, 1) := by decide +kernel
theorem dX12_letter_12 : decode cX12_letter 12 = .ok (.invokevirtual 282, 3) := by decide +kernel
theorem dX12_letter_15 : decode cX12_letter 15 = .ok (.ifCond .ne 25, 3) := by decide +kernel
theorem dX12_letter_18 : decode cX12_letter 18 = .ok (.aload_n 0, 1) := by decide +kernel
theorem dX12_letter_19 : decode cX12_letter 19 = .ok (.iload_n 2, 1) := by decide +kernel
theorem dX12_letter_20 : decode cX12_letter 20 = .ok (.iconst 0, 1) := by decide +kernel
theorem dX12_letter_21 : decode cX12_letter 21 = .ok (.iconst 4, 1) := by decide +kernel
theorem dX12_letter_22 : decode cX12_letter 22 = .ok (.invokestatic 90, 3) := by decide +kernel
theorem dX12_letter_25 : decode cX12_letter 25 = .ok (.ifCond .ne 7, 3) := by decide +kernel
theorem dX12_letter_28 : decode cX12_letter 28 = .ok (.iconst 1, 1) := by decide +kernel
theorem dX12_letter_29 : decode cX12_letter 29 = .ok (.goto 4, 3) := by decide +kernel
theorem dX12_letter_32 : decode cX12_letter 32 = .ok (.iconst 0, 1) := by decide +kernel
theorem dX12_letter_33 : decode cX12_letter 33 = .ok (.iconst 2, 1) := by decide +kernel
theorem dX12_letter_34 : decode cX12_letter 34 = .ok (.invokevirtual 282, 3) := by decide +kernel
theorem dX12_letter_37 : decode cX12_letter 37 = .ok (.ifCond .eq 5, 3) := by decide +kernel
theorem dX12_letter_40 : decode cX12_letter 40 = .ok (.iconst 0, 1) := by decide +kernel
theorem dX12_letter_41 : decode cX12_letter 41 = .ok (.ireturn, 1) := by decide +kernel
theorem dX12_letter_42 : decode cX12_letter 42 = .ok (.iload_n 2, 1) := by decide +kernel
theorem dX12_letter_43 : decode cX12_letter 43 = .ok (.tableswitch 44 2 4 #[25, 31, 37], 25) := by decide +kernel
theorem dX12_letter_68 : decode cX12_letter 68 = .ok (.aload_n 0, 1) := by decide +kernel
theorem dX12_letter_69 : decode cX12_letter 69 = .ok (.iload_n 1, 1) := by decide +kernel
theorem dX12_letter_70 : decode cX12_letter 70 = .ok (.invokevirtual 333, 3) := by decide +kernel
theorem dX12_letter_73 : decode cX12_letter 73 = .ok (.ireturn, 1) := by decide +kernel
theorem dX12_letter_74 : decode cX12_letter 74 = .ok (.aload_n 0, 1) := by decide +kernel
theorem dX12_letter_75 : decode cX12_letter 75 = .ok (.iload_n 1, 1) := by decide +kernel
theorem dX12_letter_76 : decode cX12_letter 76 = .ok (.invokevirtual 336, 3) := by decide +kernel
theorem dX12_letter_79 : decode cX12_letter 79 = .ok (.ireturn, 1) := by decide +kernel
theorem dX12_letter_80 : decode cX12_letter 80 = .ok (.aload_n 0, 1) := by decide +kernel
theorem dX12_letter_81 : decode cX12_letter 81 = .ok (.iload_n 1, 1) := by decide +kernel
theorem dX12_letter_82 : decode cX12_letter 82 = .ok (.iconst 2, 1) := by decide +kernel
theorem dX12_letter_83 : decode cX12_letter 83 = .ok (.invokevirtual 78, 3) := by decide +kernel
theorem dX12_letter_86 : decode cX12_letter 86 = .ok (.ireturn, 1) := by decide +kernel
theorem dX12_letter_87 : decode cX12_letter 87 = .ok (.aload_n 0, 1) := by decide +kernel
theorem dX12_letter_88 : decode cX12_letter 88 = .ok (.iload_n 1, 1) := by decide +kernel
theorem dX12_letter_89 : decode cX12_letter 89 = .ok (.iload_n 2, 1) := by decide +kernel
theorem dX12_letter_90 : decode cX12_letter 90 = .ok (.invokevirtual 78, 3) := by decide +kernel
theorem dX12_letter_93 : decode cX12_letter 93 = .ok (.ireturn, 1) := by decide +kernel
theorem dX12_gap_0 : decode cX12_gap 0 = .ok (.aload_n 0, 1) := by decide +kernel
theorem dX12_gap_1 : decode cX12_gap 1 = .ok (.iconst 0, 1) := by decide +kernel
theorem dX12_gap_2 : decode cX12_gap 2 = .ok (.putfield 3, 3) := by decide +kernel
theorem dX12_gap_5 : decode cX12_gap 5 = .ok (.aload_n 0, 1) := by decide +kernel
theorem dX12_gap_6 : decode cX12_gap 6 = .ok (.aload_n 0, 1) := by decide +kernel
theorem dX12_gap_7 : decode cX12_gap 7 = .ok (.iload_n 1, 1) := by decide +kernel
theorem dX12_gap_8 : decode cX12_gap 8 = .ok (.invokevirtual 342, 3) := by decide +kernel
theorem dX12_gap_11 : decode cX12_gap 11 = .ok (.iconst 1, 1) := by decide +kernel
theorem dX12_gap_12 : decode cX12_gap 12 = .ok (.invokevirtual 282, 3) := by decide +kernel
theorem dX12_gap_15 : decode cX12_gap 15 = .ok (.ifCond .ne 25, 3) := by decide +kernel
theorem dX12_gap_18 : decode cX12_gap 18 = .ok (.aload_n 0, 1) := by decide +kernel
theorem dX12_gap_19 : decode cX12_gap 19 = .ok (.iload_n 2, 1) := by decide +kernel
theorem dX12_gap_20 : decode cX12_gap 20 = .ok (.iconst 0, 1) := by decide +kernel
theorem dX12_gap_21 : decode cX12_gap 21 = .ok (.iconst 2, 1) := by decide +kernel
theorem dX12_gap_22 : decode cX12_gap 22 = .ok (.invokestatic 90, 3) := by decide +kernel
theorem dX12_gap_25 : decode cX12_gap 25 = .ok (.ifCond .ne 7, 3) := by decide +kernel
theorem dX12_gap_28 : decode cX12_gap 28 = .ok (.iconst 1, 1) := by decide +kernel
theorem dX12_gap_29 : decode cX12_gap 29 = .ok (.goto 4, 3) := by decide +kernel
theorem dX12_gap_32 : decode cX12_gap 32 = .ok (.iconst 0, 1) := by decide +kernel
theorem dX12_gap_33 : decode cX12_gap 33 = .ok (.iconst 2, 1) := by decide +kernel
theorem dX12_gap_34 : decode cX12_gap 34 = .ok (.invokevirtual 282, 3) := by decide +kernel
theorem dX12_gap_37 : decode cX12_gap 37 = .ok (.ifCond .eq 5, 3) := by decide +kernel
theorem dX12_gap_40 : decode cX12_gap 40 = .ok (.iconst 0, 1) := by decide +kernel
theorem dX12_gap_41 : decode cX12_gap 41 = .ok (.ireturn, 1) := by decide +kernel
theorem dX12_gap_42 : decode cX12_gap 42 = .ok (.iload_n 2, 1) := by decide +kernel
theorem dX12_gap_43 : decode cX12_gap 43 = .ok (.ifCond .ne 11, 3) := by decide +kernel
theorem dX12_gap_46 : decode cX12_gap 46 = .ok (.aload_n 0, 1) := by decide +kernel
theorem dX12_gap_47 : decode cX12_gap 47 = .ok (.iload_n 1, 1) := by decide +kernel
theorem dX12_gap_48 : decode cX12_gap 48 = .ok (.invokevirtual 319, 3) := by decide +kernel
theorem dX12_gap_51 : decode cX12_gap 51 = .ok (.goto 21, 3) := by decide +kernel
theorem dX12_gap_54 : decode cX12_gap 54 = .ok (.iload_n 2, 1) := by decide +kernel
theorem dX12_gap_55 : decode cX12_gap 55 = .ok (.iconst 1, 1) := by decide +kernel
theorem dX12_gap_56 : decode cX12_gap 56 = .ok (.if_icmp .ne 11, 3) := by decide +kernel
theorem dX12_gap_59 : decode cX12_gap 59 = .ok (.aload_n 0, 1) := by decide +kernel
theorem dX12_gap_60 : decode cX12_gap 60 = .ok (.iload_n 1, 1) := by decide +kernel
theorem dX12_gap_61 : decode cX12_gap 61 = .ok (.invokevirtual 345, 3) := by decide +kernel
theorem dX12_gap_64 : decode cX12_gap 64 = .ok (.goto 8, 3) := by decide +kernel
theorem dX12_gap_67 : decode cX12_gap 67 = .ok (.aload_n 0, 1) := by decide +kernel
theorem dX12_gap_68 : decode cX12_gap 68 = .ok (.iload_n 1, 1) := by decide +kernel
theorem dX12_gap_69 : decode cX12_gap 69 = .ok (.invokevirtual 347, 3) := by decide +kernel
theorem dX12_gap_72 : decode cX12_gap 72 = .ok (.ireturn, 1) := by decide +kernel
theorem dX12_row_0 : decode cX12_row 0 = .ok (.aload_n 0, 1) := by decide +kernel
theorem dX12_row_1 : decode cX12_row 1 = .ok (.iconst 0, 1) := by decide +kernel
theorem dX12_row_2 : decode cX12_row 2 = .ok (.putfield 3, 3) := by decide +kernel
theorem dX12_row_5 : decode cX12_row 5 = .ok (.aload_n 0, 1) := by decide +kernel
theorem dX12_row_6 : decode cX12_row 6 = .ok (.aload_n 0, 1) := by decide +kernel
theorem dX12_row_7 : decode cX12_row 7 = .ok (.iload_n 1, 1) := by decide +kernel
theorem dX12_row_8 : decode cX12_row 8 = .ok (.invokevirtual 342, 3) := by decide +kernel
theorem dX12_row_11 : decode cX12_row 11 = .ok (.ifCond .ne 12, 3) := by decide +kernel
theorem dX12_row_14 : decode cX12_row 14 = .ok (.iload_n 2, 1) := by decide +kernel
theorem dX12_row_15 : decode cX12_row 15 = .ok (.iconst 0, 1) := by decide +kernel
theorem dX12_row_16 : decode cX12_row 16 = .ok (.iconst 4, 1) := by decide +kernel
theorem dX12_row_17 : decode cX12_row 17 = .ok (.invokestatic 90, 3) := by decide +kernel
theorem dX12_row_20 : decode cX12_row 20 = .ok (.ifCond .ne 7, 3) := by decide +kernel
theorem dX12_row_23 : decode cX12_row 23 = .ok (.iconst 1, 1) := by decide +kernel
theorem dX12_row_24 : decode cX12_row 24 = .ok (.goto 4, 3) := by decide +kernel
theorem dX12_row_27 : decode cX12_row 27 = .ok (.iconst 0, 1) := by decide +kernel
theorem dX12_row_28 : decode cX12_row 28 = .ok (.iconst 1, 1) := by decide +kernel
theorem dX12_row_29 : decode cX12_row 29 = .ok (.invokevirtual 282, 3) := by decide +kernel
theorem dX12_row_32 : decode cX12_row 32 = .ok (.ifCond .eq 5, 3) := by decide +kernel
theorem dX12_row_35 : decode cX12_row 35 = .ok (.iconst 0, 1) := by decide +kernel
theorem dX12_row_36 : decode cX12_row 36 = .ok (.ireturn, 1) := by decide +kernel
theorem dX12_row_37 : decode cX12_row 37 = .ok (.iload_n 3, 1) := by decide +kernel
theorem dX12_row_38 : decode cX12_row 38 = .ok (.ifCond .eq 17, 3) := by decide +kernel
theorem dX12_row_41 : decode cX12_row 41 = .ok (.aload_n 0, 1) := by decide +kernel
theorem dX12_row_42 : decode cX12_row 42 = .ok (.iload_n 1, 1) := by decide +kernel
theorem dX12_row_43 : decode cX12_row 43 = .ok (.aload_n 0, 1) := by decide +kernel
theorem dX12_row_44 : decode cX12_row 44 = .ok (.iload_n 1, 1) := by decide +kernel
theorem dX12_row_45 : decode cX12_row 45 = .ok (.invokevirtual 319, 3) := by decide +kernel
theorem dX12_row_48 : decode cX12_row 48 = .ok (.iload_n 2, 1) := by decide +kernel
theorem dX12_row_49 : decode cX12_row 49 = .ok (.invokevirtual 316, 3) := by decide +kernel
theorem dX12_row_52 : decode cX12_row 52 = .ok (.goto 14, 3) := by decide +kernel
theorem dX12_row_55 : decode cX12_row 55 = .ok (.aload_n 0, 1) := by decide +kernel
theorem dX12_row_56 : decode cX12_row 56 = .ok (.iload_n 1, 1) := by decide +kernel
theorem dX12_row_57 : decode cX12_row 57 = .ok (.aload_n 0, 1) := by decide +kernel
theorem dX12_row_58 : decode cX12_row 58 = .ok (.iload_n 1, 1) := by decide +kernel
theorem dX12_row_59 : decode cX12_row 59 = .ok (.invokevirtual 319, 3) := by decide +kernel
theorem dX12_row_62 : decode cX12_row 62 = .ok (.iload_n 2, 1) := by decide +kernel
theorem dX12_row_63 : decode cX12_row 63 = .ok (.invokevirtual 313, 3) := by decide +kernel
theorem dX12_row_66 : decode cX12_row 66 = .ok (.ireturn, 1) := by decide +kernel
theorem dX12_noLight_0 : decode cX12_noLight 0 = .ok (.iload_n 0, 1) := by decide +kernel
theorem dX12_noLight_1 : decode cX12_noLight 1 = .ok (.iconst 1, 1) := by decide +kernel
theorem dX12_noLight_2 : decode cX12_noLight 2 = .ok (.bipush 60, 2) := by decide +kernel
theorem dX12_noLight_4 : decode cX12_noLight 4 = .ok (.invokestatic 90, 3) := by decide +kernel
theorem dX12_noLight_7 : decode cX12_noLight 7 = .ok (.ifCond .eq 13, 3) := by decide +kernel
theorem dX12_noLight_10 : decode cX12_noLight 10 = .ok (.iload_n 1, 1) := by decide +kernel
theorem dX12_noLight_11 : decode cX12_noLight 11 = .ok (.iconst 0, 1) := by decide +kernel
theorem dX12_noLight_12 : decode cX12_noLight 12 = .ok (.bipush 9, 2) := by decide +kernel
theorem dX12_noLight_14 : decode cX12_noLight 14 = .ok (.invokestatic 90, 3) := by decide +kernel
theorem dX12_noLight_17 : decode cX12_noLight 17 = .ok (.ifCond .ne 7, 3) := by decide +kernel
theorem dX12_noLight_20 : decode cX12_noLight 20 = .ok (.iconst 1, 1) := by decide +kernel
theorem dX12_noLight_21 : decode cX12_noLight 21 = .ok (.goto 4, 3) := by decide +kernel
theorem dX12_noLight_24 : decode cX12_noLight 24 = .ok (.iconst 0, 1) := by decide +kernel
theorem dX12_noLight_25 : decode cX12_noLight 25 = .ok (.ireturn, 1) := by decide +kernel
theorem dX12_fades_0 : decode cX12_fades 0 = .ok (.aload_n 0, 1) := by decide +kernel
theorem dX12_fades_1 : decode cX12_fades 1 = .ok (.iconst 0, 1) := by decide +kernel
theorem dX12_fades_2 : decode cX12_fades 2 = .ok (.putfield 3, 3) := by decide +kernel
theorem dX12_fades_5 : decode cX12_fades 5 = .ok (.aload_n 0, 1) := by decide +kernel
theorem dX12_fades_6 : decode cX12_fades 6 = .ok (.iload_n 1, 1) := by decide +kernel
theorem dX12_fades_7 : decode cX12_fades 7 = .ok (.iload_n 2, 1) := by decide +kernel
theorem dX12_fades_8 : decode cX12_fades 8 = .ok (.invokestatic 350, 3) := by decide +kernel
theorem dX12_fades_11 : decode cX12_fades 11 = .ok (.iconst 1, 1) := by decide +kernel
theorem dX12_fades_12 : decode cX12_fades 12 = .ok (.invokevirtual 282, 3) := by decide +kernel
theorem dX12_fades_15 : decode cX12_fades 15 = .ok (.ifCond .eq 7, 3) := by decide +kernel
theorem dX12_fades_18 : decode cX12_fades 18 = .ok (.iconst 0, 1) := by decide +kernel
theorem dX12_fades_19 : decode cX12_fades 19 = .ok (.goto 9, 3) := by decide +kernel
theorem dX12_fades_22 : decode cX12_fades 22 = .ok (.aload_n 0, 1) := by decide +kernel
theorem dX12_fades_23 : decode cX12_fades 23 = .ok (.iload_n 1, 1) := by decide +kernel
theorem dX12_fades_24 : decode cX12_fades 24 = .ok (.iload_n 2, 1) := by decide +kernel
theorem dX12_fades_25 : decode cX12_fades 25 = .ok (.invokevirtual 353, 3) := by decide +kernel
theorem dX12_fades_28 : decode cX12_fades 28 = .ok (.ireturn, 1) := by decide +kernel
theorem dX12_shift_0 : decode cX12_shift 0 = .ok (.aload_n 0, 1) := by decide +kernel
theorem dX12_shift_1 : decode cX12_shift 1 = .ok (.iconst 0, 1) := by decide +kernel
theorem dX12_shift_2 : decode cX12_shift 2 = .ok (.putfield 3, 3) := by decide +kernel
theorem dX12_shift_5 : decode cX12_shift 5 = .ok (.aload_n 0, 1) := by decide +kernel
theorem dX12_shift_6 : decode cX12_shift 6 = .ok (.aload_n 0, 1) := by decide +kernel
theorem dX12_shift_7 : decode cX12_shift 7 = .ok (.iload_n 1, 1) := by decide +kernel
theorem dX12_shift_8 : decode cX12_shift 8 = .ok (.invokevirtual 342, 3) := by decide +kernel
theorem dX12_shift_11 : decode cX12_shift 11 = .ok (.iconst 1, 1) := by decide +kernel
theorem dX12_shift_12 : decode cX12_shift 12 = .ok (.invokevirtual 282, 3) := by decide +kernel
theorem dX12_shift_15 : decode cX12_shift 15 = .ok (.ifCond .ne 26, 3) := by decide +kernel
theorem dX12_shift_18 : decode cX12_shift 18 = .ok (.aload_n 0, 1) := by decide +kernel
theorem dX12_shift_19 : decode cX12_shift 19 = .ok (.iload_n 2, 1) := by decide +kernel
theorem dX12_shift_20 : decode cX12_shift 20 = .ok (.iconst 0, 1) := by decide +kernel
theorem dX12_shift_21 : decode cX12_shift 21 = .ok (.bipush 30, 2) := by decide +kernel
theorem dX12_shift_23 : decode cX12_shift 23 = .ok (.invokestatic 90, 3) := by decide +kernel
theorem dX12_shift_26 : decode cX12_shift 26 = .ok (.ifCond .ne 7, 3) := by decide +kernel
theorem dX12_shift_29 : decode cX12_shift 29 = .ok (.iconst 1, 1) := by decide +kernel
theorem dX12_shift_30 : decode cX12_shift 30 = .ok (.goto 4, 3) := by decide +kernel
theorem dX12_shift_33 : decode cX12_shift 33 = .ok (.iconst 0, 1) := by decide +kernel
theorem dX12_shift_34 : decode cX12_shift 34 = .ok (.iconst 2, 1) := by decide +kernel
theorem dX12_shift_35 : decode cX12_shift 35 = .ok (.invokevirtual 282, 3) := by decide +kernel
theorem dX12_shift_38 : decode cX12_shift 38 = .ok (.ifCond .eq 5, 3) := by decide +kernel
theorem dX12_shift_41 : decode cX12_shift 41 = .ok (.iconst 0, 1) := by decide +kernel
theorem dX12_shift_42 : decode cX12_shift 42 = .ok (.ireturn, 1) := by decide +kernel
theorem dX12_shift_43 : decode cX12_shift 43 = .ok (.aload_n 0, 1) := by decide +kernel
theorem dX12_shift_44 : decode cX12_shift 44 = .ok (.invokevirtual 356, 3) := by decide +kernel
theorem dX12_shift_47 : decode cX12_shift 47 = .ok (.aload_n 0, 1) := by decide +kernel
theorem dX12_shift_48 : decode cX12_shift 48 = .ok (.iload_n 1, 1) := by decide +kernel
theorem dX12_shift_49 : decode cX12_shift 49 = .ok (.invokevirtual 319, 3) := by decide +kernel
theorem dX12_shift_52 : decode cX12_shift 52 = .ok (.istore_n 3, 1) := by decide +kernel
theorem dX12_shift_53 : decode cX12_shift 53 = .ok (.aload_n 0, 1) := by decide +kernel
theorem dX12_shift_54 : decode cX12_shift 54 = .ok (.iload_n 1, 1) := by decide +kernel
theorem dX12_shift_55 : decode cX12_shift 55 = .ok (.iconst 3, 1) := by decide +kernel
theorem dX12_shift_56 : decode cX12_shift 56 = .ok (.iload_n 2, 1) := by decide +kernel
theorem dX12_shift_57 : decode cX12_shift 57 = .ok (.invokevirtual 166, 3) := by decide +kernel
theorem dX12_shift_60 : decode cX12_shift 60 = .ok (.iload_n 3, 1) := by decide +kernel
theorem dX12_shift_61 : decode cX12_shift 61 = .ok (.ireturn, 1) := by decide +kernel
theorem dX12_squeezed_0 : decode cX12_squeezed 0 = .ok (.aload_n 0, 1) := by decide +kernel
theorem dX12_squeezed_1 : decode cX12_squeezed 1 = .ok (.iconst 0, 1) := by decide +kernel
theorem dX12_squeezed_2 : decode cX12_squeezed 2 = .ok (.putfield 3, 3) := by decide +kernel
theorem dX12_squeezed_5 : decode cX12_squeezed 5 = .ok (.aload_n 0, 1) := by decide +kernel
theorem dX12_squeezed_6 : decode cX12_squeezed 6 = .ok (.aload_n 0, 1) := by decide +kernel
theorem dX12_squeezed_7 : decode cX12_squeezed 7 = .ok (.iload_n 1, 1) := by decide +kernel
theorem dX12_squeezed_8 : decode cX12_squeezed 8 = .ok (.invokevirtual 339, 3) := by decide +kernel
theorem dX12_squeezed_11 : decode cX12_squeezed 11 = .ok (.iconst 1, 1) := by decide +kernel
theorem dX12_squeezed_12 : decode cX12_squeezed 12 = .ok (.invokevirtual 282, 3) := by decide +kernel
theorem dX12_squeezed_15 : decode cX12_squeezed 15 = .ok (.ifCond .ne 37, 3) := by decide +kernel
theorem dX12_squeezed_18 : decode cX12_squeezed 18 = .ok (.aload_n 0, 1) := by decide +kernel
theorem dX12_squeezed_19 : decode cX12_squeezed 19 = .ok (.iload_n 2, 1) := by decide +kernel
theorem dX12_squeezed_20 : decode cX12_squeezed 20 = .ok (.iconst 0, 1) := by decide +kernel
theorem dX12_squeezed_21 : decode cX12_squeezed 21 = .ok (.iconst 3, 1) := by decide +kernel
theorem dX12_squeezed_22 : decode cX12_squeezed 22 = .ok (.invokestatic 90, 3) := by decide +kernel
theorem dX12_squeezed_25 : decode cX12_squeezed 25 = .ok (.ifCond .eq 15, 3) := by decide +kernel
theorem dX12_squeezed_28 : decode cX12_squeezed 28 = .ok (.aload_n 0, 1) := by decide +kernel
theorem dX12_squeezed_29 : decode cX12_squeezed 29 = .ok (.iload_n 1, 1) := by decide +kernel
theorem dX12_squeezed_30 : decode cX12_squeezed 30 = .ok (.iconst 1, 1) := by decide +kernel
theorem dX12_squeezed_31 : decode cX12_squeezed 31 = .ok (.invokevirtual 84, 3) := by decide +kernel
theorem dX12_squeezed_34 : decode cX12_squeezed 34 = .ok (.iload_n 2, 1) := by decide +kernel
theorem dX12_squeezed_35 : decode cX12_squeezed 35 = .ok (.isub, 1) := by decide +kernel
theorem dX12_squeezed_36 : decode cX12_squeezed 36 = .ok (.iconst 1, 1) := by decide +kernel
theorem dX12_squeezed_37 : decode cX12_squeezed 37 = .ok (.if_icmp .ge 7, 3) := by decide +kernel
theorem dX12_squeezed_40 : decode cX12_squeezed 40 = .ok (.iconst 1, 1) := by decide +kernel
theorem dX12_squeezed_41 : decode cX12_squeezed 41 = .ok (.goto 4, 3) := by decide +kernel
theorem dX12_squeezed_44 : decode cX12_squeezed 44 = .ok (.iconst 0, 1) := by decide +kernel
theorem dX12_squeezed_45 : decode cX12_squeezed 45 = .ok (.iconst 2, 1) := by decide +kernel
theorem dX12_squeezed_46 : decode cX12_squeezed 46 = .ok (.invokevirtual 282, 3) := by decide +kernel
theorem dX12_squeezed_49 : decode cX12_squeezed 49 = .ok (.ifCond .eq 5, 3) := by decide +kernel
theorem dX12_squeezed_52 : decode cX12_squeezed 52 = .ok (.iconst 0, 1) := by decide +kernel
theorem dX12_squeezed_53 : decode cX12_squeezed 53 = .ok (.ireturn, 1) := by decide +kernel
theorem dX12_squeezed_54 : decode cX12_squeezed 54 = .ok (.aload_n 0, 1) := by decide +kernel
theorem dX12_squeezed_55 : decode cX12_squeezed 55 = .ok (.invokevirtual 356, 3) := by decide +kernel
theorem dX12_squeezed_58 : decode cX12_squeezed 58 = .ok (.aload_n 0, 1) := by decide +kernel
theorem dX12_squeezed_59 : decode cX12_squeezed 59 = .ok (.iload_n 1, 1) := by decide +kernel
theorem dX12_squeezed_60 : decode cX12_squeezed 60 = .ok (.iconst 1, 1) := by decide +kernel
theorem dX12_squeezed_61 : decode cX12_squeezed 61 = .ok (.invokevirtual 78, 3) := by decide +kernel
theorem dX12_squeezed_64 : decode cX12_squeezed 64 = .ok (.istore_n 3, 1) := by decide +kernel
theorem dX12_squeezed_65 : decode cX12_squeezed 65 = .ok (.aload_n 0, 1) := by decide +kernel
theorem dX12_squeezed_66 : decode cX12_squeezed 66 = .ok (.iload_n 1, 1) := by decide +kernel
theorem dX12_squeezed_67 : decode cX12_squeezed 67 = .ok (.iconst 1, 1) := by decide +kernel
theorem dX12_squeezed_68 : decode cX12_squeezed 68 = .ok (.iload_n 2, 1) := by decide +kernel
theorem dX12_squeezed_69 : decode cX12_squeezed 69 = .ok (.invokevirtual 166, 3) := by decide +kernel
theorem dX12_squeezed_72 : decode cX12_squeezed 72 = .ok (.iload_n 3, 1) := by decide +kernel
theorem dX12_squeezed_73 : decode cX12_squeezed 73 = .ok (.ireturn, 1) := by decide +kernel
theorem dX12_shadow_0 : decode cX12_shadow 0 = .ok (.aload_n 0, 1) := by decide +kernel
theorem dX12_shadow_1 : decode cX12_shadow 1 = .ok (.iconst 0, 1) := by decide +kernel
theorem dX12_shadow_2 : decode cX12_shadow 2 = .ok (.putfield 3, 3) := by decide +kernel
theorem dX12_shadow_5 : decode cX12_shadow 5 = .ok (.aload_n 0, 1) := by decide +kernel
theorem dX12_shadow_6 : decode cX12_shadow 6 = .ok (.iload_n 1, 1) := by decide +kernel
theorem dX12_shadow_7 : decode cX12_shadow 7 = .ok (.iconst 0, 1) := by decide +kernel
theorem dX12_shadow_8 : decode cX12_shadow 8 = .ok (.bipush 9, 2) := by decide +kernel
theorem dX12_shadow_10 : decode cX12_shadow 10 = .ok (.invokestatic 90, 3) := by decide +kernel
theorem dX12_shadow_13 : decode cX12_shadow 13 = .ok (.ifCond .ne 7, 3) := by decide +kernel
theorem dX12_shadow_16 : decode cX12_shadow 16 = .ok (.iconst 1, 1) := by decide +kernel
theorem dX12_shadow_17 : decode cX12_shadow 17 = .ok (.goto 4, 3) := by decide +kernel
theorem dX12_shadow_20 : decode cX12_shadow 20 = .ok (.iconst 0, 1) := by decide +kernel
theorem dX12_shadow_21 : decode cX12_shadow 21 = .ok (.iconst 1, 1) := by decide +kernel
theorem dX12_shadow_22 : decode cX12_shadow 22 = .ok (.invokevirtual 282, 3) := by decide +kernel
theorem dX12_shadow_25 : decode cX12_shadow 25 = .ok (.ifCond .eq 5, 3) := by decide +kernel
theorem dX12_shadow_28 : decode cX12_shadow 28 = .ok (.iconst 0, 1) := by decide +kernel
theorem dX12_shadow_29 : decode cX12_shadow 29 = .ok (.ireturn, 1) := by decide +kernel
theorem dX12_shadow_30 : decode cX12_shadow 30 = .ok (.aload_n 0, 1) := by decide +kernel
theorem dX12_shadow_31 : decode cX12_shadow 31 = .ok (.invokevirtual 356, 3) := by decide +kernel
theorem dX12_shadow_34 : decode cX12_shadow 34 = .ok (.aload_n 0, 1) := by decide +kernel
theorem dX12_shadow_35 : decode cX12_shadow 35 = .ok (.getfield 13, 3) := by decide +kernel
theorem dX12_shadow_38 : decode cX12_shadow 38 = .ok (.iconst 5, 1) := by decide +kernel
theorem dX12_shadow_39 : decode cX12_shadow 39 = .ok (.iaload, 1) := by decide +kernel
theorem dX12_shadow_40 : decode cX12_shadow 40 = .ok (.istore_n 2, 1) := by decide +kernel
theorem dX12_shadow_41 : decode cX12_shadow 41 = .ok (.aload_n 0, 1) := by decide +kernel
theorem dX12_shadow_42 : decode cX12_shadow 42 = .ok (.getfield 13, 3) := by decide +kernel
theorem dX12_shadow_45 : decode cX12_shadow 45 = .ok (.iconst 5, 1) := by decide +kernel
theorem dX12_shadow_46 : decode cX12_shadow 46 = .ok (.iload_n 1, 1) := by decide +kernel
theorem dX12_shadow_47 : decode cX12_shadow 47 = .ok (.iastore, 1) := by decide +kernel
theorem dX12_shadow_48 : decode cX12_shadow 48 = .ok (.iload_n 2, 1) := by decide +kernel
theorem dX12_shadow_49 : decode cX12_shadow 49 = .ok (.ireturn, 1) := by decide +kernel
theorem dX12_laysWhites_0 : decode cX12_laysWhites 0 = .ok (.iconst 0, 1) := by decide +kernel
theorem dX12_laysWhites_1 : decode cX12_laysWhites 1 = .ok (.istore_n 1, 1) := by decide +kernel
theorem dX12_laysWhites_2 : decode cX12_laysWhites 2 = .ok (.iload_n 1, 1) := by decide +kernel
theorem dX12_laysWhites_3 : decode cX12_laysWhites 3 = .ok (.aload_n 0, 1) := by decide +kernel
theorem dX12_laysWhites_4 : decode cX12_laysWhites 4 = .ok (.invokevirtual 94, 3) := by decide +kernel
theorem dX12_laysWhites_7 : decode cX12_laysWhites 7 = .ok (.if_icmp .ge 40, 3) := by decide +kernel
theorem dX12_laysWhites_10 : decode cX12_laysWhites 10 = .ok (.iconst 0, 1) := by decide +kernel
theorem dX12_laysWhites_11 : decode cX12_laysWhites 11 = .ok (.istore_n 2, 1) := by decide +kernel
theorem dX12_laysWhites_12 : decode cX12_laysWhites 12 = .ok (.iload_n 2, 1) := by decide +kernel
theorem dX12_laysWhites_13 : decode cX12_laysWhites 13 = .ok (.bipush 31, 2) := by decide +kernel
theorem dX12_laysWhites_15 : decode cX12_laysWhites 15 = .ok (.if_icmp .ge 26, 3) := by decide +kernel
theorem dX12_laysWhites_18 : decode cX12_laysWhites 18 = .ok (.aload_n 0, 1) := by decide +kernel
theorem dX12_laysWhites_19 : decode cX12_laysWhites 19 = .ok (.getfield 42, 3) := by decide +kernel
theorem dX12_laysWhites_22 : decode cX12_laysWhites 22 = .ok (.bipush 31, 2) := by decide +kernel
theorem dX12_laysWhites_24 : decode cX12_laysWhites 24 = .ok (.iload_n 1, 1) := by decide +kernel
theorem dX12_laysWhites_25 : decode cX12_laysWhites 25 = .ok (.imul, 1) := by decide +kernel
theorem dX12_laysWhites_26 : decode cX12_laysWhites 26 = .ok (.iload_n 2, 1) := by decide +kernel
theorem dX12_laysWhites_27 : decode cX12_laysWhites 27 = .ok (.iadd, 1) := by decide +kernel
theorem dX12_laysWhites_28 : decode cX12_laysWhites 28 = .ok (.aload_n 0, 1) := by decide +kernel
theorem dX12_laysWhites_29 : decode cX12_laysWhites 29 = .ok (.iload_n 1, 1) := by decide +kernel
theorem dX12_laysWhites_30 : decode cX12_laysWhites 30 = .ok (.iload_n 2, 1) := by decide +kernel
theorem dX12_laysWhites_31 : decode cX12_laysWhites 31 = .ok (.invokevirtual 323, 3) := by decide +kernel
theorem dX12_laysWhites_34 : decode cX12_laysWhites 34 = .ok (.iastore, 1) := by decide +kernel
theorem dX12_laysWhites_35 : decode cX12_laysWhites 35 = .ok (.iinc 2 1, 3) := by decide +kernel
theorem dX12_laysWhites_38 : decode cX12_laysWhites 38 = .ok (.goto (-26), 3) := by decide +kernel
theorem dX12_laysWhites_41 : decode cX12_laysWhites 41 = .ok (.iinc 1 1, 3) := by decide +kernel
theorem dX12_laysWhites_44 : decode cX12_laysWhites 44 = .ok (.goto (-42), 3) := by decide +kernel
theorem dX12_laysWhites_47 : decode cX12_laysWhites 47 = .ok (.return_, 1) := by decide +kernel
theorem dX12_leastAt_0 : decode cX12_leastAt 0 = .ok (.iload_n 0, 1) := by decide +kernel
theorem dX12_leastAt_1 : decode cX12_leastAt 1 = .ok (.sipush 133, 3) := by decide +kernel
theorem dX12_leastAt_4 : decode cX12_leastAt 4 = .ok (.imul, 1) := by decide +kernel
theorem dX12_leastAt_5 : decode cX12_leastAt 5 = .ok (.iload_n 1, 1) := by decide +kernel
theorem dX12_leastAt_6 : decode cX12_leastAt 6 = .ok (.iadd, 1) := by decide +kernel
theorem dX12_leastAt_7 : decode cX12_leastAt 7 = .ok (.ireturn, 1) := by decide +kernel
theorem dX12_offBy_0 : decode cX12_offBy 0 = .ok (.aload_n 0, 1) := by decide +kernel
theorem dX12_offBy_1 : decode cX12_offBy 1 = .ok (.getfield 42, 3) := by decide +kernel
theorem dX12_offBy_4 : decode cX12_offBy 4 = .ok (.bipush 31, 2) := by decide +kernel
theorem dX12_offBy_6 : decode cX12_offBy 6 = .ok (.iload_n 1, 1) := by decide +kernel
theorem dX12_offBy_7 : decode cX12_offBy 7 = .ok (.imul, 1) := by decide +kernel
theorem dX12_offBy_8 : decode cX12_offBy 8 = .ok (.iload_n 2, 1) := by decide +kernel
theorem dX12_offBy_9 : decode cX12_offBy 9 = .ok (.iadd, 1) := by decide +kernel
theorem dX12_offBy_10 : decode cX12_offBy 10 = .ok (.iaload, 1) := by decide +kernel
theorem dX12_offBy_11 : decode cX12_offBy 11 = .ok (.iload_n 3, 1) := by decide +kernel
theorem dX12_offBy_12 : decode cX12_offBy 12 = .ok (.isub, 1) := by decide +kernel
theorem dX12_offBy_13 : decode cX12_offBy 13 = .ok (.invokestatic 359, 3) := by decide +kernel
theorem dX12_offBy_16 : decode cX12_offBy 16 = .ok (.ireturn, 1) := by decide +kernel
theorem dX12_rest_0 : decode cX12_rest 0 = .ok (.iload_n 2, 1) := by decide +kernel
theorem dX12_rest_1 : decode cX12_rest 1 = .ok (.ifCond .ge 9, 3) := by decide +kernel
theorem dX12_rest_4 : decode cX12_rest 4 = .ok (.ldc_w 326, 3) := by decide +kernel
theorem dX12_rest_7 : decode cX12_rest 7 = .ok (.goto 13, 3) := by decide +kernel
theorem dX12_rest_10 : decode cX12_rest 10 = .ok (.aload_n 0, 1) := by decide +kernel
theorem dX12_rest_11 : decode cX12_rest 11 = .ok (.getfield 45, 3) := by decide +kernel
theorem dX12_rest_14 : decode cX12_rest 14 = .ok (.iload_n 1, 1) := by decide +kernel
theorem dX12_rest_15 : decode cX12_rest 15 = .ok (.iload_n 2, 1) := by decide +kernel
theorem dX12_rest_16 : decode cX12_rest 16 = .ok (.invokestatic 362, 3) := by decide +kernel
theorem dX12_rest_19 : decode cX12_rest 19 = .ok (.iaload, 1) := by decide +kernel
theorem dX12_rest_20 : decode cX12_rest 20 = .ok (.ireturn, 1) := by decide +kernel
theorem dX12_widths_0 : decode cX12_widths 0 = .ok (.iconst 0, 1) := by decide +kernel
theorem dX12_widths_1 : decode cX12_widths 1 = .ok (.istore_n 1, 1) := by decide +kernel
theorem dX12_widths_2 : decode cX12_widths 2 = .ok (.iconst 0, 1) := by decide +kernel
theorem dX12_widths_3 : decode cX12_widths 3 = .ok (.istore_n 2, 1) := by decide +kernel
theorem dX12_widths_4 : decode cX12_widths 4 = .ok (.iload_n 2, 1) := by decide +kernel
theorem dX12_widths_5 : decode cX12_widths 5 = .ok (.aload_n 0, 1) := by decide +kernel
theorem dX12_widths_6 : decode cX12_widths 6 = .ok (.invokevirtual 68, 3) := by decide +kernel
theorem dX12_widths_9 : decode cX12_widths 9 = .ok (.if_icmp .ge 17, 3) := by decide +kernel
theorem dX12_widths_12 : decode cX12_widths 12 = .ok (.iload_n 1, 1) := by decide +kernel
theorem dX12_widths_13 : decode cX12_widths 13 = .ok (.aload_n 0, 1) := by decide +kernel
theorem dX12_widths_14 : decode cX12_widths 14 = .ok (.iload_n 2, 1) := by decide +kernel
theorem dX12_widths_15 : decode cX12_widths 15 = .ok (.invokevirtual 333, 3) := by decide +kernel
theorem dX12_widths_18 : decode cX12_widths 18 = .ok (.iadd, 1) := by decide +kernel
theorem dX12_widths_19 : decode cX12_widths 19 = .ok (.istore_n 1, 1) := by decide +kernel
theorem dX12_widths_20 : decode cX12_widths 20 = .ok (.iinc 2 1, 3) := by decide +kernel
theorem dX12_widths_23 : decode cX12_widths 23 = .ok (.goto (-19), 3) := by decide +kernel
theorem dX12_widths_26 : decode cX12_widths 26 = .ok (.iload_n 1, 1) := by decide +kernel
theorem dX12_widths_27 : decode cX12_widths 27 = .ok (.ireturn, 1) := by decide +kernel
theorem dX12_room_0 : decode cX12_room 0 = .ok (.aload_n 0, 1) := by decide +kernel
theorem dX12_room_1 : decode cX12_room 1 = .ok (.getfield 13, 3) := by decide +kernel
theorem dX12_room_4 : decode cX12_room 4 = .ok (.iconst 2, 1) := by decide +kernel
theorem dX12_room_5 : decode cX12_room 5 = .ok (.iaload, 1) := by decide +kernel
theorem dX12_room_6 : decode cX12_room 6 = .ok (.iload_n 1, 1) := by decide +kernel
theorem dX12_room_7 : decode cX12_room 7 = .ok (.iadd, 1) := by decide +kernel
theorem dX12_room_8 : decode cX12_room 8 = .ok (.iconst 2, 1) := by decide +kernel
theorem dX12_room_9 : decode cX12_room 9 = .ok (.aload_n 0, 1) := by decide +kernel
theorem dX12_room_10 : decode cX12_room 10 = .ok (.getfield 13, 3) := by decide +kernel
theorem dX12_room_13 : decode cX12_room 13 = .ok (.iconst 3, 1) := by decide +kernel
theorem dX12_room_14 : decode cX12_room 14 = .ok (.iaload, 1) := by decide +kernel
theorem dX12_room_15 : decode cX12_room 15 = .ok (.imul, 1) := by decide +kernel
theorem dX12_room_16 : decode cX12_room 16 = .ok (.isub, 1) := by decide +kernel
theorem dX12_room_17 : decode cX12_room 17 = .ok (.aload_n 0, 1) := by decide +kernel
theorem dX12_room_18 : decode cX12_room 18 = .ok (.getfield 13, 3) := by decide +kernel
theorem dX12_room_21 : decode cX12_room 21 = .ok (.iconst 5, 1) := by decide +kernel
theorem dX12_room_22 : decode cX12_room 22 = .ok (.iaload, 1) := by decide +kernel
theorem dX12_room_23 : decode cX12_room 23 = .ok (.isub, 1) := by decide +kernel
theorem dX12_room_24 : decode cX12_room 24 = .ok (.aload_n 0, 1) := by decide +kernel
theorem dX12_room_25 : decode cX12_room 25 = .ok (.invokevirtual 365, 3) := by decide +kernel
theorem dX12_room_28 : decode cX12_room 28 = .ok (.isub, 1) := by decide +kernel
theorem dX12_room_29 : decode cX12_room 29 = .ok (.ireturn, 1) := by decide +kernel
theorem dX12_laysBy_0 : decode cX12_laysBy 0 = .ok (.aload_n 0, 1) := by decide +kernel
theorem dX12_laysBy_1 : decode cX12_laysBy 1 = .ok (.iload_n 2, 1) := by decide +kernel
theorem dX12_laysBy_2 : decode cX12_laysBy 2 = .ok (.invokevirtual 368, 3) := by decide +kernel
theorem dX12_laysBy_5 : decode cX12_laysBy 5 = .ok (.istore_n 3, 1) := by decide +kernel
theorem dX12_laysBy_6 : decode cX12_laysBy 6 = .ok (.aload_n 0, 1) := by decide +kernel
theorem dX12_laysBy_7 : decode cX12_laysBy 7 = .ok (.invokevirtual 68, 3) := by decide +kernel
theorem dX12_laysBy_10 : decode cX12_laysBy 10 = .ok (.ifCond .eq 7, 3) := by decide +kernel
theorem dX12_laysBy_13 : decode cX12_laysBy 13 = .ok (.iload_n 3, 1) := by decide +kernel
theorem dX12_laysBy_14 : decode cX12_laysBy 14 = .ok (.ifCond .ge 7, 3) := by decide +kernel
theorem dX12_laysBy_17 : decode cX12_laysBy 17 = .ok (.ldc_w 326, 3) := by decide +kernel
theorem dX12_laysBy_20 : decode cX12_laysBy 20 = .ok (.ireturn, 1) := by decide +kernel
theorem dX12_laysBy_21 : decode cX12_laysBy 21 = .ok (.iconst 0, 1) := by decide +kernel
theorem dX12_laysBy_22 : decode cX12_laysBy 22 = .ok (.istore 4, 2) := by decide +kernel
theorem dX12_laysBy_24 : decode cX12_laysBy 24 = .ok (.iload 4, 2) := by decide +kernel
theorem dX12_laysBy_26 : decode cX12_laysBy 26 = .ok (.iload_n 3, 1) := by decide +kernel
theorem dX12_laysBy_27 : decode cX12_laysBy 27 = .ok (.if_icmp .gt 35, 3) := by decide +kernel
theorem dX12_laysBy_30 : decode cX12_laysBy 30 = .ok (.aload_n 0, 1) := by decide +kernel
theorem dX12_laysBy_31 : decode cX12_laysBy 31 = .ok (.getfield 45, 3) := by decide +kernel
theorem dX12_laysBy_34 : decode cX12_laysBy 34 = .ok (.aload_n 0, 1) := by decide +kernel
theorem dX12_laysBy_35 : decode cX12_laysBy 35 = .ok (.invokevirtual 94, 3) := by decide +kernel
theorem dX12_laysBy_38 : decode cX12_laysBy 38 = .ok (.iload 4, 2) := by decide +kernel
theorem dX12_laysBy_40 : decode cX12_laysBy 40 = .ok (.invokestatic 362, 3) := by decide +kernel
theorem dX12_laysBy_43 : decode cX12_laysBy 43 = .ok (.iload 4, 2) := by decide +kernel
theorem dX12_laysBy_45 : decode cX12_laysBy 45 = .ok (.ifCond .ne 7, 3) := by decide +kernel
theorem dX12_laysBy_48 : decode cX12_laysBy 48 = .ok (.iconst 0, 1) := by decide +kernel
theorem dX12_laysBy_49 : decode cX12_laysBy 49 = .ok (.goto 6, 3) := by decide +kernel
theorem dX12_laysBy_52 : decode cX12_laysBy 52 = .ok (.ldc_w 326, 3) := by decide +kernel
theorem dX12_laysBy_55 : decode cX12_laysBy 55 = .ok (.iastore, 1) := by decide +kernel
theorem dX12_laysBy_56 : decode cX12_laysBy 56 = .ok (.iinc 4 1, 3) := by decide +kernel
theorem dX12_laysBy_59 : decode cX12_laysBy 59 = .ok (.goto (-35), 3) := by decide +kernel
theorem dX12_laysBy_62 : decode cX12_laysBy 62 = .ok (.aload_n 0, 1) := by decide +kernel
theorem dX12_laysBy_63 : decode cX12_laysBy 63 = .ok (.invokevirtual 94, 3) := by decide +kernel
theorem dX12_laysBy_66 : decode cX12_laysBy 66 = .ok (.iconst 1, 1) := by decide +kernel
theorem dX12_laysBy_67 : decode cX12_laysBy 67 = .ok (.isub, 1) := by decide +kernel
theorem dX12_laysBy_68 : decode cX12_laysBy 68 = .ok (.istore 4, 2) := by decide +kernel
theorem dX12_laysBy_70 : decode cX12_laysBy 70 = .ok (.iload 4, 2) := by decide +kernel
theorem dX12_laysBy_72 : decode cX12_laysBy 72 = .ok (.ifCond .lt 102, 3) := by decide +kernel
theorem dX12_laysBy_75 : decode cX12_laysBy 75 = .ok (.iconst 0, 1) := by decide +kernel
theorem dX12_laysBy_76 : decode cX12_laysBy 76 = .ok (.istore 5, 2) := by decide +kernel
theorem dX12_laysBy_78 : decode cX12_laysBy 78 = .ok (.iload 5, 2) := by decide +kernel
theorem dX12_laysBy_80 : decode cX12_laysBy 80 = .ok (.iload_n 3, 1) := by decide +kernel
theorem dX12_laysBy_81 : decode cX12_laysBy 81 = .ok (.if_icmp .gt 87, 3) := by decide +kernel
theorem dX12_laysBy_84 : decode cX12_laysBy 84 = .ok (.ldc_w 326, 3) := by decide +kernel
theorem dX12_laysBy_87 : decode cX12_laysBy 87 = .ok (.istore 6, 2) := by decide +kernel
theorem dX12_laysBy_89 : decode cX12_laysBy 89 = .ok (.iconst 0, 1) := by decide +kernel
theorem dX12_laysBy_90 : decode cX12_laysBy 90 = .ok (.istore 7, 2) := by decide +kernel
theorem dX12_laysBy_92 : decode cX12_laysBy 92 = .ok (.iload 7, 2) := by decide +kernel
theorem dX12_laysBy_94 : decode cX12_laysBy 94 = .ok (.bipush 30, 2) := by decide +kernel
theorem dX12_laysBy_96 : decode cX12_laysBy 96 = .ok (.if_icmp .gt 46, 3) := by decide +kernel
theorem dX12_laysBy_99 : decode cX12_laysBy 99 = .ok (.iload 7, 2) := by decide +kernel
theorem dX12_laysBy_101 : decode cX12_laysBy 101 = .ok (.iload 5, 2) := by decide +kernel
theorem dX12_laysBy_103 : decode cX12_laysBy 103 = .ok (.if_icmp .gt 39, 3) := by decide +kernel
theorem dX12_laysBy_106 : decode cX12_laysBy 106 = .ok (.iload 6, 2) := by decide +kernel
theorem dX12_laysBy_108 : decode cX12_laysBy 108 = .ok (.aload_n 0, 1) := by decide +kernel
theorem dX12_laysBy_109 : decode cX12_laysBy 109 = .ok (.iload 4, 2) := by decide +kernel
theorem dX12_laysBy_111 : decode cX12_laysBy 111 = .ok (.iload 7, 2) := by decide +kernel
theorem dX12_laysBy_113 : decode cX12_laysBy 113 = .ok (.iload_n 1, 1) := by decide +kernel
theorem dX12_laysBy_114 : decode cX12_laysBy 114 = .ok (.invokevirtual 371, 3) := by decide +kernel
theorem dX12_laysBy_117 : decode cX12_laysBy 117 = .ok (.aload_n 0, 1) := by decide +kernel
theorem dX12_laysBy_118 : decode cX12_laysBy 118 = .ok (.iload 4, 2) := by decide +kernel
theorem dX12_laysBy_120 : decode cX12_laysBy 120 = .ok (.iconst 1, 1) := by decide +kernel
theorem dX12_laysBy_121 : decode cX12_laysBy 121 = .ok (.iadd, 1) := by decide +kernel
theorem dX12_laysBy_122 : decode cX12_laysBy 122 = .ok (.iload 5, 2) := by decide +kernel
theorem dX12_laysBy_124 : decode cX12_laysBy 124 = .ok (.iload 7, 2) := by decide +kernel
theorem dX12_laysBy_126 : decode cX12_laysBy 126 = .ok (.isub, 1) := by decide +kernel
theorem dX12_laysBy_127 : decode cX12_laysBy 127 = .ok (.invokevirtual 374, 3) := by decide +kernel
theorem dX12_laysBy_130 : decode cX12_laysBy 130 = .ok (.iadd, 1) := by decide +kernel
theorem dX12_laysBy_131 : decode cX12_laysBy 131 = .ok (.invokestatic 310, 3) := by decide +kernel
theorem dX12_laysBy_134 : decode cX12_laysBy 134 = .ok (.istore 6, 2) := by decide +kernel
theorem dX12_laysBy_136 : decode cX12_laysBy 136 = .ok (.iinc 7 1, 3) := by decide +kernel
theorem dX12_laysBy_139 : decode cX12_laysBy 139 = .ok (.goto (-47), 3) := by decide +kernel
theorem dX12_laysBy_142 : decode cX12_laysBy 142 = .ok (.aload_n 0, 1) := by decide +kernel
theorem dX12_laysBy_143 : decode cX12_laysBy 143 = .ok (.getfield 45, 3) := by decide +kernel
theorem dX12_laysBy_146 : decode cX12_laysBy 146 = .ok (.iload 4, 2) := by decide +kernel
theorem dX12_laysBy_148 : decode cX12_laysBy 148 = .ok (.iload 5, 2) := by decide +kernel
theorem dX12_laysBy_150 : decode cX12_laysBy 150 = .ok (.invokestatic 362, 3) := by decide +kernel
theorem dX12_laysBy_153 : decode cX12_laysBy 153 = .ok (.ldc_w 326, 3) := by decide +kernel
theorem dX12_laysBy_156 : decode cX12_laysBy 156 = .ok (.iload 6, 2) := by decide +kernel
theorem dX12_laysBy_158 : decode cX12_laysBy 158 = .ok (.invokestatic 310, 3) := by decide +kernel
theorem dX12_laysBy_161 : decode cX12_laysBy 161 = .ok (.iastore, 1) := by decide +kernel
theorem dX12_laysBy_162 : decode cX12_laysBy 162 = .ok (.iinc 5 1, 3) := by decide +kernel
theorem dX12_laysBy_165 : decode cX12_laysBy 165 = .ok (.goto (-87), 3) := by decide +kernel
theorem dX12_laysBy_168 : decode cX12_laysBy 168 = .ok (.iinc 4 (-1), 3) := by decide +kernel
theorem dX12_laysBy_171 : decode cX12_laysBy 171 = .ok (.goto (-101), 3) := by decide +kernel
theorem dX12_laysBy_174 : decode cX12_laysBy 174 = .ok (.aload_n 0, 1) := by decide +kernel
theorem dX12_laysBy_175 : decode cX12_laysBy 175 = .ok (.getfield 45, 3) := by decide +kernel
theorem dX12_laysBy_178 : decode cX12_laysBy 178 = .ok (.iconst 0, 1) := by decide +kernel
theorem dX12_laysBy_179 : decode cX12_laysBy 179 = .ok (.iload_n 3, 1) := by decide +kernel
theorem dX12_laysBy_180 : decode cX12_laysBy 180 = .ok (.invokestatic 362, 3) := by decide +kernel
theorem dX12_laysBy_183 : decode cX12_laysBy 183 = .ok (.iaload, 1) := by decide +kernel
theorem dX12_laysBy_184 : decode cX12_laysBy 184 = .ok (.ireturn, 1) := by decide +kernel
theorem dX12_firstWay_0 : decode cX12_firstWay 0 = .ok (.aload_n 0, 1) := by decide +kernel
theorem dX12_firstWay_1 : decode cX12_firstWay 1 = .ok (.iconst 0, 1) := by decide +kernel
theorem dX12_firstWay_2 : decode cX12_firstWay 2 = .ok (.invokevirtual 368, 3) := by decide +kernel
theorem dX12_firstWay_5 : decode cX12_firstWay 5 = .ok (.istore_n 2, 1) := by decide +kernel
theorem dX12_firstWay_6 : decode cX12_firstWay 6 = .ok (.iconst 0, 1) := by decide +kernel
theorem dX12_firstWay_7 : decode cX12_firstWay 7 = .ok (.istore_n 3, 1) := by decide +kernel
theorem dX12_firstWay_8 : decode cX12_firstWay 8 = .ok (.iload_n 3, 1) := by decide +kernel
theorem dX12_firstWay_9 : decode cX12_firstWay 9 = .ok (.aload_n 0, 1) := by decide +kernel
theorem dX12_firstWay_10 : decode cX12_firstWay 10 = .ok (.invokevirtual 94, 3) := by decide +kernel
theorem dX12_firstWay_13 : decode cX12_firstWay 13 = .ok (.if_icmp .ge 60, 3) := by decide +kernel
theorem dX12_firstWay_16 : decode cX12_firstWay 16 = .ok (.iconst 0, 1) := by decide +kernel
theorem dX12_firstWay_17 : decode cX12_firstWay 17 = .ok (.istore 4, 2) := by decide +kernel
theorem dX12_firstWay_19 : decode cX12_firstWay 19 = .ok (.aload_n 0, 1) := by decide +kernel
theorem dX12_firstWay_20 : decode cX12_firstWay 20 = .ok (.iload_n 3, 1) := by decide +kernel
theorem dX12_firstWay_21 : decode cX12_firstWay 21 = .ok (.iload 4, 2) := by decide +kernel
theorem dX12_firstWay_23 : decode cX12_firstWay 23 = .ok (.iload_n 1, 1) := by decide +kernel
theorem dX12_firstWay_24 : decode cX12_firstWay 24 = .ok (.invokevirtual 371, 3) := by decide +kernel
theorem dX12_firstWay_27 : decode cX12_firstWay 27 = .ok (.aload_n 0, 1) := by decide +kernel
theorem dX12_firstWay_28 : decode cX12_firstWay 28 = .ok (.iload_n 3, 1) := by decide +kernel
theorem dX12_firstWay_29 : decode cX12_firstWay 29 = .ok (.iconst 1, 1) := by decide +kernel
theorem dX12_firstWay_30 : decode cX12_firstWay 30 = .ok (.iadd, 1) := by decide +kernel
theorem dX12_firstWay_31 : decode cX12_firstWay 31 = .ok (.iload_n 2, 1) := by decide +kernel
theorem dX12_firstWay_32 : decode cX12_firstWay 32 = .ok (.iload 4, 2) := by decide +kernel
theorem dX12_firstWay_34 : decode cX12_firstWay 34 = .ok (.isub, 1) := by decide +kernel
theorem dX12_firstWay_35 : decode cX12_firstWay 35 = .ok (.invokevirtual 374, 3) := by decide +kernel
theorem dX12_firstWay_38 : decode cX12_firstWay 38 = .ok (.iadd, 1) := by decide +kernel
theorem dX12_firstWay_39 : decode cX12_firstWay 39 = .ok (.aload_n 0, 1) := by decide +kernel
theorem dX12_firstWay_40 : decode cX12_firstWay 40 = .ok (.iload_n 3, 1) := by decide +kernel
theorem dX12_firstWay_41 : decode cX12_firstWay 41 = .ok (.iload_n 2, 1) := by decide +kernel
theorem dX12_firstWay_42 : decode cX12_firstWay 42 = .ok (.invokevirtual 374, 3) := by decide +kernel
theorem dX12_firstWay_45 : decode cX12_firstWay 45 = .ok (.if_icmp .eq 9, 3) := by decide +kernel
theorem dX12_firstWay_48 : decode cX12_firstWay 48 = .ok (.iinc 4 1, 3) := by decide +kernel
theorem dX12_firstWay_51 : decode cX12_firstWay 51 = .ok (.goto (-32), 3) := by decide +kernel
theorem dX12_firstWay_54 : decode cX12_firstWay 54 = .ok (.aload_n 0, 1) := by decide +kernel
theorem dX12_firstWay_55 : decode cX12_firstWay 55 = .ok (.getfield 48, 3) := by decide +kernel
theorem dX12_firstWay_58 : decode cX12_firstWay 58 = .ok (.iload_n 3, 1) := by decide +kernel
theorem dX12_firstWay_59 : decode cX12_firstWay 59 = .ok (.iload 4, 2) := by decide +kernel
theorem dX12_firstWay_61 : decode cX12_firstWay 61 = .ok (.iastore, 1) := by decide +kernel
theorem dX12_firstWay_62 : decode cX12_firstWay 62 = .ok (.iload_n 2, 1) := by decide +kernel
theorem dX12_firstWay_63 : decode cX12_firstWay 63 = .ok (.iload 4, 2) := by decide +kernel
theorem dX12_firstWay_65 : decode cX12_firstWay 65 = .ok (.isub, 1) := by decide +kernel
theorem dX12_firstWay_66 : decode cX12_firstWay 66 = .ok (.istore_n 2, 1) := by decide +kernel
theorem dX12_firstWay_67 : decode cX12_firstWay 67 = .ok (.iinc 3 1, 3) := by decide +kernel
theorem dX12_firstWay_70 : decode cX12_firstWay 70 = .ok (.goto (-62), 3) := by decide +kernel
theorem dX12_firstWay_73 : decode cX12_firstWay 73 = .ok (.return_, 1) := by decide +kernel
theorem dX12_lays_0 : decode cX12_lays 0 = .ok (.aload_n 0, 1) := by decide +kernel
theorem dX12_lays_1 : decode cX12_lays 1 = .ok (.iconst 0, 1) := by decide +kernel
theorem dX12_lays_2 : decode cX12_lays 2 = .ok (.putfield 3, 3) := by decide +kernel
theorem dX12_lays_5 : decode cX12_lays 5 = .ok (.aload_n 0, 1) := by decide +kernel
theorem dX12_lays_6 : decode cX12_lays 6 = .ok (.iload_n 1, 1) := by decide +kernel
theorem dX12_lays_7 : decode cX12_lays 7 = .ok (.invokestatic 377, 3) := by decide +kernel
theorem dX12_lays_10 : decode cX12_lays 10 = .ok (.iconst 1, 1) := by decide +kernel
theorem dX12_lays_11 : decode cX12_lays 11 = .ok (.invokevirtual 282, 3) := by decide +kernel
theorem dX12_lays_14 : decode cX12_lays 14 = .ok (.ifCond .eq 5, 3) := by decide +kernel
theorem dX12_lays_17 : decode cX12_lays 17 = .ok (.iconst 0, 1) := by decide +kernel
theorem dX12_lays_18 : decode cX12_lays 18 = .ok (.ireturn, 1) := by decide +kernel
theorem dX12_lays_19 : decode cX12_lays 19 = .ok (.aload_n 0, 1) := by decide +kernel
theorem dX12_lays_20 : decode cX12_lays 20 = .ok (.invokevirtual 380, 3) := by decide +kernel
theorem dX12_lays_23 : decode cX12_lays 23 = .ok (.aload_n 0, 1) := by decide +kernel
theorem dX12_lays_24 : decode cX12_lays 24 = .ok (.iload_n 1, 1) := by decide +kernel
theorem dX12_lays_25 : decode cX12_lays 25 = .ok (.iconst 0, 1) := by decide +kernel
theorem dX12_lays_26 : decode cX12_lays 26 = .ok (.invokevirtual 383, 3) := by decide +kernel
theorem dX12_lays_29 : decode cX12_lays 29 = .ok (.istore_n 2, 1) := by decide +kernel
theorem dX12_lays_30 : decode cX12_lays 30 = .ok (.aload_n 0, 1) := by decide +kernel
theorem dX12_lays_31 : decode cX12_lays 31 = .ok (.iload_n 2, 1) := by decide +kernel
theorem dX12_lays_32 : decode cX12_lays 32 = .ok (.ldc_w 326, 3) := by decide +kernel
theorem dX12_lays_35 : decode cX12_lays 35 = .ok (.if_icmp .ne 7, 3) := by decide +kernel
theorem dX12_lays_38 : decode cX12_lays 38 = .ok (.iconst 1, 1) := by decide +kernel
theorem dX12_lays_39 : decode cX12_lays 39 = .ok (.goto 4, 3) := by decide +kernel
theorem dX12_lays_42 : decode cX12_lays 42 = .ok (.iconst 0, 1) := by decide +kernel
theorem dX12_lays_43 : decode cX12_lays 43 = .ok (.iconst 2, 1) := by decide +kernel
theorem dX12_lays_44 : decode cX12_lays 44 = .ok (.invokevirtual 282, 3) := by decide +kernel
theorem dX12_lays_47 : decode cX12_lays 47 = .ok (.ifCond .eq 5, 3) := by decide +kernel
theorem dX12_lays_50 : decode cX12_lays 50 = .ok (.iconst 0, 1) := by decide +kernel
theorem dX12_lays_51 : decode cX12_lays 51 = .ok (.ireturn, 1) := by decide +kernel
theorem dX12_lays_52 : decode cX12_lays 52 = .ok (.aload_n 0, 1) := by decide +kernel
theorem dX12_lays_53 : decode cX12_lays 53 = .ok (.invokevirtual 356, 3) := by decide +kernel
theorem dX12_lays_56 : decode cX12_lays 56 = .ok (.aload_n 0, 1) := by decide +kernel
theorem dX12_lays_57 : decode cX12_lays 57 = .ok (.iload_n 1, 1) := by decide +kernel
theorem dX12_lays_58 : decode cX12_lays 58 = .ok (.invokevirtual 386, 3) := by decide +kernel
theorem dX12_lays_61 : decode cX12_lays 61 = .ok (.iconst 0, 1) := by decide +kernel
theorem dX12_lays_62 : decode cX12_lays 62 = .ok (.istore_n 3, 1) := by decide +kernel
theorem dX12_lays_63 : decode cX12_lays 63 = .ok (.iload_n 3, 1) := by decide +kernel
theorem dX12_lays_64 : decode cX12_lays 64 = .ok (.aload_n 0, 1) := by decide +kernel
theorem dX12_lays_65 : decode cX12_lays 65 = .ok (.invokevirtual 94, 3) := by decide +kernel
theorem dX12_lays_68 : decode cX12_lays 68 = .ok (.if_icmp .ge 21, 3) := by decide +kernel
theorem dX12_lays_71 : decode cX12_lays 71 = .ok (.aload_n 0, 1) := by decide +kernel
theorem dX12_lays_72 : decode cX12_lays 72 = .ok (.iload_n 3, 1) := by decide +kernel
theorem dX12_lays_73 : decode cX12_lays 73 = .ok (.iconst 3, 1) := by decide +kernel
theorem dX12_lays_74 : decode cX12_lays 74 = .ok (.aload_n 0, 1) := by decide +kernel
theorem dX12_lays_75 : decode cX12_lays 75 = .ok (.getfield 48, 3) := by decide +kernel
theorem dX12_lays_78 : decode cX12_lays 78 = .ok (.iload_n 3, 1) := by decide +kernel
theorem dX12_lays_79 : decode cX12_lays 79 = .ok (.iaload, 1) := by decide +kernel
theorem dX12_lays_80 : decode cX12_lays 80 = .ok (.invokevirtual 166, 3) := by decide +kernel
theorem dX12_lays_83 : decode cX12_lays 83 = .ok (.iinc 3 1, 3) := by decide +kernel
theorem dX12_lays_86 : decode cX12_lays 86 = .ok (.goto (-23), 3) := by decide +kernel
theorem dX12_lays_89 : decode cX12_lays 89 = .ok (.iload_n 2, 1) := by decide +kernel
theorem dX12_lays_90 : decode cX12_lays 90 = .ok (.ireturn, 1) := by decide +kernel
theorem dX12_laid_0 : decode cX12_laid 0 = .ok (.aload_n 0, 1) := by decide +kernel
theorem dX12_laid_1 : decode cX12_laid 1 = .ok (.iconst 0, 1) := by decide +kernel
theorem dX12_laid_2 : decode cX12_laid 2 = .ok (.putfield 3, 3) := by decide +kernel
theorem dX12_laid_5 : decode cX12_laid 5 = .ok (.aload_n 0, 1) := by decide +kernel
theorem dX12_laid_6 : decode cX12_laid 6 = .ok (.iload_n 1, 1) := by decide +kernel
theorem dX12_laid_7 : decode cX12_laid 7 = .ok (.invokestatic 377, 3) := by decide +kernel
theorem dX12_laid_10 : decode cX12_laid 10 = .ok (.iconst 1, 1) := by decide +kernel
theorem dX12_laid_11 : decode cX12_laid 11 = .ok (.invokevirtual 282, 3) := by decide +kernel
theorem dX12_laid_14 : decode cX12_laid 14 = .ok (.ifCond .eq 5, 3) := by decide +kernel
theorem dX12_laid_17 : decode cX12_laid 17 = .ok (.iconst 0, 1) := by decide +kernel
theorem dX12_laid_18 : decode cX12_laid 18 = .ok (.ireturn, 1) := by decide +kernel
theorem dX12_laid_19 : decode cX12_laid 19 = .ok (.aload_n 0, 1) := by decide +kernel
theorem dX12_laid_20 : decode cX12_laid 20 = .ok (.invokevirtual 380, 3) := by decide +kernel
theorem dX12_laid_23 : decode cX12_laid 23 = .ok (.aload_n 0, 1) := by decide +kernel
theorem dX12_laid_24 : decode cX12_laid 24 = .ok (.iload_n 1, 1) := by decide +kernel
theorem dX12_laid_25 : decode cX12_laid 25 = .ok (.iconst 0, 1) := by decide +kernel
theorem dX12_laid_26 : decode cX12_laid 26 = .ok (.invokevirtual 383, 3) := by decide +kernel
theorem dX12_laid_29 : decode cX12_laid 29 = .ok (.istore_n 3, 1) := by decide +kernel
theorem dX12_laid_30 : decode cX12_laid 30 = .ok (.iload_n 3, 1) := by decide +kernel
theorem dX12_laid_31 : decode cX12_laid 31 = .ok (.ldc_w 326, 3) := by decide +kernel
theorem dX12_laid_34 : decode cX12_laid 34 = .ok (.if_icmp .eq 8, 3) := by decide +kernel
theorem dX12_laid_37 : decode cX12_laid 37 = .ok (.iload_n 2, 1) := by decide +kernel
theorem dX12_laid_38 : decode cX12_laid 38 = .ok (.iconst (-1), 1) := by decide +kernel
theorem dX12_laid_39 : decode cX12_laid 39 = .ok (.if_icmp .ne 16, 3) := by decide +kernel
theorem dX12_laid_42 : decode cX12_laid 42 = .ok (.iload_n 3, 1) := by decide +kernel
theorem dX12_laid_43 : decode cX12_laid 43 = .ok (.ldc_w 326, 3) := by decide +kernel
theorem dX12_laid_46 : decode cX12_laid 46 = .ok (.if_icmp .ne 7, 3) := by decide +kernel
theorem dX12_laid_49 : decode cX12_laid 49 = .ok (.iconst (-1), 1) := by decide +kernel
theorem dX12_laid_50 : decode cX12_laid 50 = .ok (.goto 4, 3) := by decide +kernel
theorem dX12_laid_53 : decode cX12_laid 53 = .ok (.iload_n 3, 1) := by decide +kernel
theorem dX12_laid_54 : decode cX12_laid 54 = .ok (.ireturn, 1) := by decide +kernel
theorem dX12_laid_55 : decode cX12_laid 55 = .ok (.aload_n 0, 1) := by decide +kernel
theorem dX12_laid_56 : decode cX12_laid 56 = .ok (.iload_n 1, 1) := by decide +kernel
theorem dX12_laid_57 : decode cX12_laid 57 = .ok (.invokevirtual 386, 3) := by decide +kernel
theorem dX12_laid_60 : decode cX12_laid 60 = .ok (.iload_n 2, 1) := by decide +kernel
theorem dX12_laid_61 : decode cX12_laid 61 = .ok (.iconst 0, 1) := by decide +kernel
theorem dX12_laid_62 : decode cX12_laid 62 = .ok (.aload_n 0, 1) := by decide +kernel
theorem dX12_laid_63 : decode cX12_laid 63 = .ok (.invokevirtual 94, 3) := by decide +kernel
theorem dX12_laid_66 : decode cX12_laid 66 = .ok (.iconst 1, 1) := by decide +kernel
theorem dX12_laid_67 : decode cX12_laid 67 = .ok (.isub, 1) := by decide +kernel
theorem dX12_laid_68 : decode cX12_laid 68 = .ok (.invokestatic 90, 3) := by decide +kernel
theorem dX12_laid_71 : decode cX12_laid 71 = .ok (.ifCond .eq 12, 3) := by decide +kernel
theorem dX12_laid_74 : decode cX12_laid 74 = .ok (.aload_n 0, 1) := by decide +kernel
theorem dX12_laid_75 : decode cX12_laid 75 = .ok (.getfield 48, 3) := by decide +kernel
theorem dX12_laid_78 : decode cX12_laid 78 = .ok (.iload_n 2, 1) := by decide +kernel
theorem dX12_laid_79 : decode cX12_laid 79 = .ok (.iaload, 1) := by decide +kernel
theorem dX12_laid_80 : decode cX12_laid 80 = .ok (.goto 4, 3) := by decide +kernel
theorem dX12_laid_83 : decode cX12_laid 83 = .ok (.iconst (-1), 1) := by decide +kernel
theorem dX12_laid_84 : decode cX12_laid 84 = .ok (.ireturn, 1) := by decide +kernel
theorem dX12_best_0 : decode cX12_best 0 = .ok (.aload_n 0, 1) := by decide +kernel
theorem dX12_best_1 : decode cX12_best 1 = .ok (.iconst 0, 1) := by decide +kernel
theorem dX12_best_2 : decode cX12_best 2 = .ok (.putfield 3, 3) := by decide +kernel
theorem dX12_best_5 : decode cX12_best 5 = .ok (.aload_n 0, 1) := by decide +kernel
theorem dX12_best_6 : decode cX12_best 6 = .ok (.invokevirtual 380, 3) := by decide +kernel
theorem dX12_best_9 : decode cX12_best 9 = .ok (.iconst 0, 1) := by decide +kernel
theorem dX12_best_10 : decode cX12_best 10 = .ok (.istore_n 2, 1) := by decide +kernel
theorem dX12_best_11 : decode cX12_best 11 = .ok (.ldc_w 326, 3) := by decide +kernel
theorem dX12_best_14 : decode cX12_best 14 = .ok (.istore_n 3, 1) := by decide +kernel
theorem dX12_best_15 : decode cX12_best 15 = .ok (.iconst 0, 1) := by decide +kernel
theorem dX12_best_16 : decode cX12_best 16 = .ok (.istore 4, 2) := by decide +kernel
theorem dX12_best_18 : decode cX12_best 18 = .ok (.iload 4, 2) := by decide +kernel
theorem dX12_best_20 : decode cX12_best 20 = .ok (.bipush 120, 2) := by decide +kernel
theorem dX12_best_22 : decode cX12_best 22 = .ok (.if_icmp .gt 33, 3) := by decide +kernel
theorem dX12_best_25 : decode cX12_best 25 = .ok (.aload_n 0, 1) := by decide +kernel
theorem dX12_best_26 : decode cX12_best 26 = .ok (.iload 4, 2) := by decide +kernel
theorem dX12_best_28 : decode cX12_best 28 = .ok (.iconst 0, 1) := by decide +kernel
theorem dX12_best_29 : decode cX12_best 29 = .ok (.invokevirtual 383, 3) := by decide +kernel
theorem dX12_best_32 : decode cX12_best 32 = .ok (.istore 5, 2) := by decide +kernel
theorem dX12_best_34 : decode cX12_best 34 = .ok (.iload 5, 2) := by decide +kernel
theorem dX12_best_36 : decode cX12_best 36 = .ok (.iload_n 3, 1) := by decide +kernel
theorem dX12_best_37 : decode cX12_best 37 = .ok (.if_icmp .lt 6, 3) := by decide +kernel
theorem dX12_best_40 : decode cX12_best 40 = .ok (.goto 9, 3) := by decide +kernel
theorem dX12_best_43 : decode cX12_best 43 = .ok (.iload 4, 2) := by decide +kernel
theorem dX12_best_45 : decode cX12_best 45 = .ok (.istore_n 2, 1) := by decide +kernel
theorem dX12_best_46 : decode cX12_best 46 = .ok (.iload 5, 2) := by decide +kernel
theorem dX12_best_48 : decode cX12_best 48 = .ok (.istore_n 3, 1) := by decide +kernel
theorem dX12_best_49 : decode cX12_best 49 = .ok (.iinc 4 1, 3) := by decide +kernel
theorem dX12_best_52 : decode cX12_best 52 = .ok (.goto (-34), 3) := by decide +kernel
theorem dX12_best_55 : decode cX12_best 55 = .ok (.iload_n 3, 1) := by decide +kernel
theorem dX12_best_56 : decode cX12_best 56 = .ok (.ldc_w 326, 3) := by decide +kernel
theorem dX12_best_59 : decode cX12_best 59 = .ok (.if_icmp .ne 7, 3) := by decide +kernel
theorem dX12_best_62 : decode cX12_best 62 = .ok (.iconst (-1), 1) := by decide +kernel
theorem dX12_best_63 : decode cX12_best 63 = .ok (.goto 12, 3) := by decide +kernel
theorem dX12_best_66 : decode cX12_best 66 = .ok (.iload_n 1, 1) := by decide +kernel
theorem dX12_best_67 : decode cX12_best 67 = .ok (.ifCond .eq 7, 3) := by decide +kernel
theorem dX12_best_70 : decode cX12_best 70 = .ok (.iload_n 3, 1) := by decide +kernel
theorem dX12_best_71 : decode cX12_best 71 = .ok (.goto 4, 3) := by decide +kernel
theorem dX12_best_74 : decode cX12_best 74 = .ok (.iload_n 2, 1) := by decide +kernel
theorem dX12_best_75 : decode cX12_best 75 = .ok (.ireturn, 1) := by decide +kernel
theorem dX12_inch_0 : decode cX12_inch 0 = .ok (.aload_n 0, 1) := by decide +kernel
theorem dX12_inch_1 : decode cX12_inch 1 = .ok (.iconst 0, 1) := by decide +kernel
theorem dX12_inch_2 : decode cX12_inch 2 = .ok (.putfield 3, 3) := by decide +kernel
theorem dX12_inch_5 : decode cX12_inch 5 = .ok (.aload_n 0, 1) := by decide +kernel
theorem dX12_inch_6 : decode cX12_inch 6 = .ok (.iload_n 1, 1) := by decide +kernel
theorem dX12_inch_7 : decode cX12_inch 7 = .ok (.invokestatic 377, 3) := by decide +kernel
theorem dX12_inch_10 : decode cX12_inch 10 = .ok (.iconst 1, 1) := by decide +kernel
theorem dX12_inch_11 : decode cX12_inch 11 = .ok (.invokevirtual 282, 3) := by decide +kernel
theorem dX12_inch_14 : decode cX12_inch 14 = .ok (.ifCond .eq 5, 3) := by decide +kernel
theorem dX12_inch_17 : decode cX12_inch 17 = .ok (.iconst 0, 1) := by decide +kernel
theorem dX12_inch_18 : decode cX12_inch 18 = .ok (.ireturn, 1) := by decide +kernel
theorem dX12_inch_19 : decode cX12_inch 19 = .ok (.aload_n 0, 1) := by decide +kernel
theorem dX12_inch_20 : decode cX12_inch 20 = .ok (.invokevirtual 380, 3) := by decide +kernel
theorem dX12_inch_23 : decode cX12_inch 23 = .ok (.aload_n 0, 1) := by decide +kernel
theorem dX12_inch_24 : decode cX12_inch 24 = .ok (.iload_n 1, 1) := by decide +kernel
theorem dX12_inch_25 : decode cX12_inch 25 = .ok (.iconst 0, 1) := by decide +kernel
theorem dX12_inch_26 : decode cX12_inch 26 = .ok (.invokevirtual 383, 3) := by decide +kernel
theorem dX12_inch_29 : decode cX12_inch 29 = .ok (.istore_n 2, 1) := by decide +kernel
theorem dX12_inch_30 : decode cX12_inch 30 = .ok (.aload_n 0, 1) := by decide +kernel
theorem dX12_inch_31 : decode cX12_inch 31 = .ok (.iload_n 1, 1) := by decide +kernel
theorem dX12_inch_32 : decode cX12_inch 32 = .ok (.bipush 12, 2) := by decide +kernel
theorem dX12_inch_34 : decode cX12_inch 34 = .ok (.invokevirtual 383, 3) := by decide +kernel
theorem dX12_inch_37 : decode cX12_inch 37 = .ok (.istore_n 3, 1) := by decide +kernel
theorem dX12_inch_38 : decode cX12_inch 38 = .ok (.iload_n 2, 1) := by decide +kernel
theorem dX12_inch_39 : decode cX12_inch 39 = .ok (.ldc_w 326, 3) := by decide +kernel
theorem dX12_inch_42 : decode cX12_inch 42 = .ok (.if_icmp .eq 10, 3) := by decide +kernel
theorem dX12_inch_45 : decode cX12_inch 45 = .ok (.iload_n 3, 1) := by decide +kernel
theorem dX12_inch_46 : decode cX12_inch 46 = .ok (.ldc_w 326, 3) := by decide +kernel
theorem dX12_inch_49 : decode cX12_inch 49 = .ok (.if_icmp .ne 9, 3) := by decide +kernel
theorem dX12_inch_52 : decode cX12_inch 52 = .ok (.sipush (-9999), 3) := by decide +kernel
theorem dX12_inch_55 : decode cX12_inch 55 = .ok (.goto 6, 3) := by decide +kernel
theorem dX12_inch_58 : decode cX12_inch 58 = .ok (.iload_n 2, 1) := by decide +kernel
theorem dX12_inch_59 : decode cX12_inch 59 = .ok (.iload_n 3, 1) := by decide +kernel
theorem dX12_inch_60 : decode cX12_inch 60 = .ok (.isub, 1) := by decide +kernel
theorem dX12_inch_61 : decode cX12_inch 61 = .ok (.ireturn, 1) := by decide +kernel
theorem dX12_nextLetter_0 : decode cX12_nextLetter 0 = .ok (.aload_n 0, 1) := by decide +kernel
theorem dX12_nextLetter_1 : decode cX12_nextLetter 1 = .ok (.getfield 13, 3) := by decide +kernel
theorem dX12_nextLetter_4 : decode cX12_nextLetter 4 = .ok (.bipush 12, 2) := by decide +kernel
theorem dX12_nextLetter_6 : decode cX12_nextLetter 6 = .ok (.iaload, 1) := by decide +kernel
theorem dX12_nextLetter_7 : decode cX12_nextLetter 7 = .ok (.istore_n 1, 1) := by decide +kernel
theorem dX12_nextLetter_8 : decode cX12_nextLetter 8 = .ok (.iconst 0, 1) := by decide +kernel
theorem dX12_nextLetter_9 : decode cX12_nextLetter 9 = .ok (.istore_n 2, 1) := by decide +kernel
theorem dX12_nextLetter_10 : decode cX12_nextLetter 10 = .ok (.iload_n 2, 1) := by decide +kernel
theorem dX12_nextLetter_11 : decode cX12_nextLetter 11 = .ok (.aload_n 0, 1) := by decide +kernel
theorem dX12_nextLetter_12 : decode cX12_nextLetter 12 = .ok (.invokevirtual 68, 3) := by decide +kernel
theorem dX12_nextLetter_15 : decode cX12_nextLetter 15 = .ok (.if_icmp .ge 33, 3) := by decide +kernel
theorem dX12_nextLetter_18 : decode cX12_nextLetter 18 = .ok (.aload_n 0, 1) := by decide +kernel
theorem dX12_nextLetter_19 : decode cX12_nextLetter 19 = .ok (.iload_n 2, 1) := by decide +kernel
theorem dX12_nextLetter_20 : decode cX12_nextLetter 20 = .ok (.invokevirtual 390, 3) := by decide +kernel
theorem dX12_nextLetter_23 : decode cX12_nextLetter 23 = .ok (.ifCond .ne 19, 3) := by decide +kernel
theorem dX12_nextLetter_26 : decode cX12_nextLetter 26 = .ok (.iload_n 1, 1) := by decide +kernel
theorem dX12_nextLetter_27 : decode cX12_nextLetter 27 = .ok (.ifCond .lt 13, 3) := by decide +kernel
theorem dX12_nextLetter_30 : decode cX12_nextLetter 30 = .ok (.iload_n 2, 1) := by decide +kernel
theorem dX12_nextLetter_31 : decode cX12_nextLetter 31 = .ok (.iload_n 1, 1) := by decide +kernel
theorem dX12_nextLetter_32 : decode cX12_nextLetter 32 = .ok (.isub, 1) := by decide +kernel
theorem dX12_nextLetter_33 : decode cX12_nextLetter 33 = .ok (.invokestatic 359, 3) := by decide +kernel
theorem dX12_nextLetter_36 : decode cX12_nextLetter 36 = .ok (.iconst 1, 1) := by decide +kernel
theorem dX12_nextLetter_37 : decode cX12_nextLetter 37 = .ok (.if_icmp .eq 5, 3) := by decide +kernel
theorem dX12_nextLetter_40 : decode cX12_nextLetter 40 = .ok (.iload_n 2, 1) := by decide +kernel
theorem dX12_nextLetter_41 : decode cX12_nextLetter 41 = .ok (.ireturn, 1) := by decide +kernel
theorem dX12_nextLetter_42 : decode cX12_nextLetter 42 = .ok (.iinc 2 1, 3) := by decide +kernel
theorem dX12_nextLetter_45 : decode cX12_nextLetter 45 = .ok (.goto (-35), 3) := by decide +kernel
theorem dX12_nextLetter_48 : decode cX12_nextLetter 48 = .ok (.iconst (-1), 1) := by decide +kernel
theorem dX12_nextLetter_49 : decode cX12_nextLetter 49 = .ok (.ireturn, 1) := by decide +kernel
theorem dX12_gapOf_0 : decode cX12_gapOf 0 = .ok (.iload_n 1, 1) := by decide +kernel
theorem dX12_gapOf_1 : decode cX12_gapOf 1 = .ok (.aload_n 0, 1) := by decide +kernel
theorem dX12_gapOf_2 : decode cX12_gapOf 2 = .ok (.invokevirtual 94, 3) := by decide +kernel
theorem dX12_gapOf_5 : decode cX12_gapOf 5 = .ok (.if_icmp .ge 7, 3) := by decide +kernel
theorem dX12_gapOf_8 : decode cX12_gapOf 8 = .ok (.iload_n 1, 1) := by decide +kernel
theorem dX12_gapOf_9 : decode cX12_gapOf 9 = .ok (.goto 9, 3) := by decide +kernel
theorem dX12_gapOf_12 : decode cX12_gapOf 12 = .ok (.aload_n 0, 1) := by decide +kernel
theorem dX12_gapOf_13 : decode cX12_gapOf 13 = .ok (.invokevirtual 94, 3) := by decide +kernel
theorem dX12_gapOf_16 : decode cX12_gapOf 16 = .ok (.iconst 1, 1) := by decide +kernel
theorem dX12_gapOf_17 : decode cX12_gapOf 17 = .ok (.isub, 1) := by decide +kernel
theorem dX12_gapOf_18 : decode cX12_gapOf 18 = .ok (.ireturn, 1) := by decide +kernel
theorem dX12_slipsBy_0 : decode cX12_slipsBy 0 = .ok (.aload_n 0, 1) := by decide +kernel
theorem dX12_slipsBy_1 : decode cX12_slipsBy 1 = .ok (.bipush 100, 2) := by decide +kernel
theorem dX12_slipsBy_3 : decode cX12_slipsBy 3 = .ok (.invokevirtual 393, 3) := by decide +kernel
theorem dX12_slipsBy_6 : decode cX12_slipsBy 6 = .ok (.aload_n 0, 1) := by decide +kernel
theorem dX12_slipsBy_7 : decode cX12_slipsBy 7 = .ok (.getfield 13, 3) := by decide +kernel
theorem dX12_slipsBy_10 : decode cX12_slipsBy 10 = .ok (.sipush 215, 3) := by decide +kernel
theorem dX12_slipsBy_13 : decode cX12_slipsBy 13 = .ok (.iconst 2, 1) := by decide +kernel
theorem dX12_slipsBy_14 : decode cX12_slipsBy 14 = .ok (.iload_n 2, 1) := by decide +kernel
theorem dX12_slipsBy_15 : decode cX12_slipsBy 15 = .ok (.imul, 1) := by decide +kernel
theorem dX12_slipsBy_16 : decode cX12_slipsBy 16 = .ok (.iadd, 1) := by decide +kernel
theorem dX12_slipsBy_17 : decode cX12_slipsBy 17 = .ok (.iconst 1, 1) := by decide +kernel
theorem dX12_slipsBy_18 : decode cX12_slipsBy 18 = .ok (.iadd, 1) := by decide +kernel
theorem dX12_slipsBy_19 : decode cX12_slipsBy 19 = .ok (.iaload, 1) := by decide +kernel
theorem dX12_slipsBy_20 : decode cX12_slipsBy 20 = .ok (.if_icmp .ge 10, 3) := by decide +kernel
theorem dX12_slipsBy_23 : decode cX12_slipsBy 23 = .ok (.aload_n 0, 1) := by decide +kernel
theorem dX12_slipsBy_24 : decode cX12_slipsBy 24 = .ok (.invokevirtual 94, 3) := by decide +kernel
theorem dX12_slipsBy_27 : decode cX12_slipsBy 27 = .ok (.ifCond .ne 5, 3) := by decide +kernel
theorem dX12_slipsBy_30 : decode cX12_slipsBy 30 = .ok (.iconst 0, 1) := by decide +kernel
theorem dX12_slipsBy_31 : decode cX12_slipsBy 31 = .ok (.ireturn, 1) := by decide +kernel
theorem dX12_slipsBy_32 : decode cX12_slipsBy 32 = .ok (.aload_n 0, 1) := by decide +kernel
theorem dX12_slipsBy_33 : decode cX12_slipsBy 33 = .ok (.iload_n 1, 1) := by decide +kernel
theorem dX12_slipsBy_34 : decode cX12_slipsBy 34 = .ok (.invokevirtual 396, 3) := by decide +kernel
theorem dX12_slipsBy_37 : decode cX12_slipsBy 37 = .ok (.istore_n 3, 1) := by decide +kernel
theorem dX12_slipsBy_38 : decode cX12_slipsBy 38 = .ok (.aload_n 0, 1) := by decide +kernel
theorem dX12_slipsBy_39 : decode cX12_slipsBy 39 = .ok (.iload_n 3, 1) := by decide +kernel
theorem dX12_slipsBy_40 : decode cX12_slipsBy 40 = .ok (.invokevirtual 319, 3) := by decide +kernel
theorem dX12_slipsBy_43 : decode cX12_slipsBy 43 = .ok (.istore 4, 2) := by decide +kernel
theorem dX12_slipsBy_45 : decode cX12_slipsBy 45 = .ok (.aload_n 0, 1) := by decide +kernel
theorem dX12_slipsBy_46 : decode cX12_slipsBy 46 = .ok (.iload_n 3, 1) := by decide +kernel
theorem dX12_slipsBy_47 : decode cX12_slipsBy 47 = .ok (.iconst 3, 1) := by decide +kernel
theorem dX12_slipsBy_48 : decode cX12_slipsBy 48 = .ok (.iconst 0, 1) := by decide +kernel
theorem dX12_slipsBy_49 : decode cX12_slipsBy 49 = .ok (.bipush 30, 2) := by decide +kernel
theorem dX12_slipsBy_51 : decode cX12_slipsBy 51 = .ok (.iload 4, 2) := by decide +kernel
theorem dX12_slipsBy_53 : decode cX12_slipsBy 53 = .ok (.iconst 2, 1) := by decide +kernel
theorem dX12_slipsBy_54 : decode cX12_slipsBy 54 = .ok (.aload_n 0, 1) := by decide +kernel
theorem dX12_slipsBy_55 : decode cX12_slipsBy 55 = .ok (.iconst 2, 1) := by decide +kernel
theorem dX12_slipsBy_56 : decode cX12_slipsBy 56 = .ok (.invokevirtual 393, 3) := by decide +kernel
theorem dX12_slipsBy_59 : decode cX12_slipsBy 59 = .ok (.imul, 1) := by decide +kernel
theorem dX12_slipsBy_60 : decode cX12_slipsBy 60 = .ok (.iadd, 1) := by decide +kernel
theorem dX12_slipsBy_61 : decode cX12_slipsBy 61 = .ok (.iconst 1, 1) := by decide +kernel
theorem dX12_slipsBy_62 : decode cX12_slipsBy 62 = .ok (.isub, 1) := by decide +kernel
theorem dX12_slipsBy_63 : decode cX12_slipsBy 63 = .ok (.invokestatic 310, 3) := by decide +kernel
theorem dX12_slipsBy_66 : decode cX12_slipsBy 66 = .ok (.invokestatic 72, 3) := by decide +kernel
theorem dX12_slipsBy_69 : decode cX12_slipsBy 69 = .ok (.invokevirtual 166, 3) := by decide +kernel
theorem dX12_slipsBy_72 : decode cX12_slipsBy 72 = .ok (.aload_n 0, 1) := by decide +kernel
theorem dX12_slipsBy_73 : decode cX12_slipsBy 73 = .ok (.iload_n 3, 1) := by decide +kernel
theorem dX12_slipsBy_74 : decode cX12_slipsBy 74 = .ok (.invokevirtual 319, 3) := by decide +kernel
theorem dX12_slipsBy_77 : decode cX12_slipsBy 77 = .ok (.iload 4, 2) := by decide +kernel
theorem dX12_slipsBy_79 : decode cX12_slipsBy 79 = .ok (.isub, 1) := by decide +kernel
theorem dX12_slipsBy_80 : decode cX12_slipsBy 80 = .ok (.ireturn, 1) := by decide +kernel
theorem dX12_isLogged_0 : decode cX12_isLogged 0 = .ok (.sipush 239, 3) := by decide +kernel
theorem dX12_isLogged_3 : decode cX12_isLogged 3 = .ok (.istore 4, 2) := by decide +kernel
theorem dX12_isLogged_5 : decode cX12_isLogged 5 = .ok (.iload 4, 2) := by decide +kernel
theorem dX12_isLogged_7 : decode cX12_isLogged 7 = .ok (.iconst 4, 1) := by decide +kernel
theorem dX12_isLogged_8 : decode cX12_isLogged 8 = .ok (.if_icmp .lt 33, 3) := by decide +kernel
theorem dX12_isLogged_11 : decode cX12_isLogged 11 = .ok (.aload_n 0, 1) := by decide +kernel
theorem dX12_isLogged_12 : decode cX12_isLogged 12 = .ok (.getfield 13, 3) := by decide +kernel
theorem dX12_isLogged_15 : decode cX12_isLogged 15 = .ok (.sipush 235, 3) := by decide +kernel
theorem dX12_isLogged_18 : decode cX12_isLogged 18 = .ok (.iload 4, 2) := by decide +kernel
theorem dX12_isLogged_20 : decode cX12_isLogged 20 = .ok (.iadd, 1) := by decide +kernel
theorem dX12_isLogged_21 : decode cX12_isLogged 21 = .ok (.aload_n 0, 1) := by decide +kernel
theorem dX12_isLogged_22 : decode cX12_isLogged 22 = .ok (.getfield 13, 3) := by decide +kernel
theorem dX12_isLogged_25 : decode cX12_isLogged 25 = .ok (.sipush 235, 3) := by decide +kernel
theorem dX12_isLogged_28 : decode cX12_isLogged 28 = .ok (.iload 4, 2) := by decide +kernel
theorem dX12_isLogged_30 : decode cX12_isLogged 30 = .ok (.iadd, 1) := by decide +kernel
theorem dX12_isLogged_31 : decode cX12_isLogged 31 = .ok (.iconst 4, 1) := by decide +kernel
theorem dX12_isLogged_32 : decode cX12_isLogged 32 = .ok (.isub, 1) := by decide +kernel
theorem dX12_isLogged_33 : decode cX12_isLogged 33 = .ok (.iaload, 1) := by decide +kernel
theorem dX12_isLogged_34 : decode cX12_isLogged 34 = .ok (.iastore, 1) := by decide +kernel
theorem dX12_isLogged_35 : decode cX12_isLogged 35 = .ok (.iinc 4 (-1), 3) := by decide +kernel
theorem dX12_isLogged_38 : decode cX12_isLogged 38 = .ok (.goto (-33), 3) := by decide +kernel
theorem dX12_isLogged_41 : decode cX12_isLogged 41 = .ok (.aload_n 0, 1) := by decide +kernel
theorem dX12_isLogged_42 : decode cX12_isLogged 42 = .ok (.getfield 13, 3) := by decide +kernel
theorem dX12_isLogged_45 : decode cX12_isLogged 45 = .ok (.sipush 235, 3) := by decide +kernel
theorem dX12_isLogged_48 : decode cX12_isLogged 48 = .ok (.aload_n 0, 1) := by decide +kernel
theorem dX12_isLogged_49 : decode cX12_isLogged 49 = .ok (.getfield 13, 3) := by decide +kernel
theorem dX12_isLogged_52 : decode cX12_isLogged 52 = .ok (.bipush 11, 2) := by decide +kernel
theorem dX12_isLogged_54 : decode cX12_isLogged 54 = .ok (.iaload, 1) := by decide +kernel
theorem dX12_isLogged_55 : decode cX12_isLogged 55 = .ok (.iastore, 1) := by decide +kernel
theorem dX12_isLogged_56 : decode cX12_isLogged 56 = .ok (.aload_n 0, 1) := by decide +kernel
theorem dX12_isLogged_57 : decode cX12_isLogged 57 = .ok (.getfield 13, 3) := by decide +kernel
theorem dX12_isLogged_60 : decode cX12_isLogged 60 = .ok (.sipush 236, 3) := by decide +kernel
theorem dX12_isLogged_63 : decode cX12_isLogged 63 = .ok (.iload_n 1, 1) := by decide +kernel
theorem dX12_isLogged_64 : decode cX12_isLogged 64 = .ok (.iastore, 1) := by decide +kernel
theorem dX12_isLogged_65 : decode cX12_isLogged 65 = .ok (.aload_n 0, 1) := by decide +kernel
theorem dX12_isLogged_66 : decode cX12_isLogged 66 = .ok (.getfield 13, 3) := by decide +kernel
theorem dX12_isLogged_69 : decode cX12_isLogged 69 = .ok (.sipush 237, 3) := by decide +kernel
theorem dX12_isLogged_72 : decode cX12_isLogged 72 = .ok (.iload_n 2, 1) := by decide +kernel
theorem dX12_isLogged_73 : decode cX12_isLogged 73 = .ok (.iastore, 1) := by decide +kernel
theorem dX12_isLogged_74 : decode cX12_isLogged 74 = .ok (.aload_n 0, 1) := by decide +kernel
theorem dX12_isLogged_75 : decode cX12_isLogged 75 = .ok (.getfield 13, 3) := by decide +kernel
theorem dX12_isLogged_78 : decode cX12_isLogged 78 = .ok (.sipush 238, 3) := by decide +kernel
theorem dX12_isLogged_81 : decode cX12_isLogged 81 = .ok (.iload_n 3, 1) := by decide +kernel
theorem dX12_isLogged_82 : decode cX12_isLogged 82 = .ok (.iastore, 1) := by decide +kernel
theorem dX12_isLogged_83 : decode cX12_isLogged 83 = .ok (.aload_n 0, 1) := by decide +kernel
theorem dX12_isLogged_84 : decode cX12_isLogged 84 = .ok (.getfield 13, 3) := by decide +kernel
theorem dX12_isLogged_87 : decode cX12_isLogged 87 = .ok (.bipush 13, 2) := by decide +kernel
theorem dX12_isLogged_89 : decode cX12_isLogged 89 = .ok (.bipush 60, 2) := by decide +kernel
theorem dX12_isLogged_91 : decode cX12_isLogged 91 = .ok (.aload_n 0, 1) := by decide +kernel
theorem dX12_isLogged_92 : decode cX12_isLogged 92 = .ok (.getfield 13, 3) := by decide +kernel
theorem dX12_isLogged_95 : decode cX12_isLogged 95 = .ok (.bipush 13, 2) := by decide +kernel
theorem dX12_isLogged_97 : decode cX12_isLogged 97 = .ok (.iaload, 1) := by decide +kernel
theorem dX12_isLogged_98 : decode cX12_isLogged 98 = .ok (.iconst 1, 1) := by decide +kernel
theorem dX12_isLogged_99 : decode cX12_isLogged 99 = .ok (.iadd, 1) := by decide +kernel
theorem dX12_isLogged_100 : decode cX12_isLogged 100 = .ok (.invokestatic 310, 3) := by decide +kernel
theorem dX12_isLogged_103 : decode cX12_isLogged 103 = .ok (.iastore, 1) := by decide +kernel
theorem dX12_isLogged_104 : decode cX12_isLogged 104 = .ok (.return_, 1) := by decide +kernel
theorem dX12_paints_0 : decode cX12_paints 0 = .ok (.aload_n 0, 1) := by decide +kernel
theorem dX12_paints_1 : decode cX12_paints 1 = .ok (.invokevirtual 399, 3) := by decide +kernel
theorem dX12_paints_4 : decode cX12_paints 4 = .ok (.istore_n 2, 1) := by decide +kernel
theorem dX12_paints_5 : decode cX12_paints 5 = .ok (.iload_n 2, 1) := by decide +kernel
theorem dX12_paints_6 : decode cX12_paints 6 = .ok (.ifCond .lt 28, 3) := by decide +kernel
theorem dX12_paints_9 : decode cX12_paints 9 = .ok (.aload_n 0, 1) := by decide +kernel
theorem dX12_paints_10 : decode cX12_paints 10 = .ok (.iload_n 2, 1) := by decide +kernel
theorem dX12_paints_11 : decode cX12_paints 11 = .ok (.iconst 2, 1) := by decide +kernel
theorem dX12_paints_12 : decode cX12_paints 12 = .ok (.aload_n 0, 1) := by decide +kernel
theorem dX12_paints_13 : decode cX12_paints 13 = .ok (.getfield 13, 3) := by decide +kernel
theorem dX12_paints_16 : decode cX12_paints 16 = .ok (.bipush 11, 2) := by decide +kernel
theorem dX12_paints_18 : decode cX12_paints 18 = .ok (.iaload, 1) := by decide +kernel
theorem dX12_paints_19 : decode cX12_paints 19 = .ok (.invokevirtual 166, 3) := by decide +kernel
theorem dX12_paints_22 : decode cX12_paints 22 = .ok (.aload_n 0, 1) := by decide +kernel
theorem dX12_paints_23 : decode cX12_paints 23 = .ok (.iload_n 2, 1) := by decide +kernel
theorem dX12_paints_24 : decode cX12_paints 24 = .ok (.iload_n 1, 1) := by decide +kernel
theorem dX12_paints_25 : decode cX12_paints 25 = .ok (.aload_n 0, 1) := by decide +kernel
theorem dX12_paints_26 : decode cX12_paints 26 = .ok (.iload_n 2, 1) := by decide +kernel
theorem dX12_paints_27 : decode cX12_paints 27 = .ok (.iload_n 1, 1) := by decide +kernel
theorem dX12_paints_28 : decode cX12_paints 28 = .ok (.invokevirtual 402, 3) := by decide +kernel
theorem dX12_paints_31 : decode cX12_paints 31 = .ok (.invokevirtual 405, 3) := by decide +kernel
theorem dX12_paints_34 : decode cX12_paints 34 = .ok (.aload_n 0, 1) := by decide +kernel
theorem dX12_paints_35 : decode cX12_paints 35 = .ok (.getfield 13, 3) := by decide +kernel
theorem dX12_paints_38 : decode cX12_paints 38 = .ok (.bipush 12, 2) := by decide +kernel
theorem dX12_paints_40 : decode cX12_paints 40 = .ok (.iload_n 2, 1) := by decide +kernel
theorem dX12_paints_41 : decode cX12_paints 41 = .ok (.iastore, 1) := by decide +kernel
theorem dX12_paints_42 : decode cX12_paints 42 = .ok (.aload_n 0, 1) := by decide +kernel
theorem dX12_paints_43 : decode cX12_paints 43 = .ok (.getfield 13, 3) := by decide +kernel
theorem dX12_paints_46 : decode cX12_paints 46 = .ok (.bipush 11, 2) := by decide +kernel
theorem dX12_paints_48 : decode cX12_paints 48 = .ok (.dup2, 1) := by decide +kernel
theorem dX12_paints_49 : decode cX12_paints 49 = .ok (.iaload, 1) := by decide +kernel
theorem dX12_paints_50 : decode cX12_paints 50 = .ok (.iconst 1, 1) := by decide +kernel
theorem dX12_paints_51 : decode cX12_paints 51 = .ok (.iadd, 1) := by decide +kernel
theorem dX12_paints_52 : decode cX12_paints 52 = .ok (.iastore, 1) := by decide +kernel
theorem dX12_paints_53 : decode cX12_paints 53 = .ok (.iload_n 2, 1) := by decide +kernel
theorem dX12_paints_54 : decode cX12_paints 54 = .ok (.ireturn, 1) := by decide +kernel
theorem dX12_paint_0 : decode cX12_paint 0 = .ok (.aload_n 0, 1) := by decide +kernel
theorem dX12_paint_1 : decode cX12_paint 1 = .ok (.iconst 0, 1) := by decide +kernel
theorem dX12_paint_2 : decode cX12_paint 2 = .ok (.putfield 3, 3) := by decide +kernel
theorem dX12_paint_5 : decode cX12_paint 5 = .ok (.aload_n 0, 1) := by decide +kernel
theorem dX12_paint_6 : decode cX12_paint 6 = .ok (.aload_n 0, 1) := by decide +kernel
theorem dX12_paint_7 : decode cX12_paint 7 = .ok (.iload_n 1, 1) := by decide +kernel
theorem dX12_paint_8 : decode cX12_paint 8 = .ok (.invokevirtual 408, 3) := by decide +kernel
theorem dX12_paint_11 : decode cX12_paint 11 = .ok (.iconst 1, 1) := by decide +kernel
theorem dX12_paint_12 : decode cX12_paint 12 = .ok (.invokevirtual 282, 3) := by decide +kernel
theorem dX12_paint_15 : decode cX12_paint 15 = .ok (.ifCond .eq 5, 3) := by decide +kernel
theorem dX12_paint_18 : decode cX12_paint 18 = .ok (.iconst 0, 1) := by decide +kernel
theorem dX12_paint_19 : decode cX12_paint 19 = .ok (.ireturn, 1) := by decide +kernel
theorem dX12_paint_20 : decode cX12_paint 20 = .ok (.aload_n 0, 1) := by decide +kernel
theorem dX12_paint_21 : decode cX12_paint 21 = .ok (.invokevirtual 356, 3) := by decide +kernel
theorem dX12_paint_24 : decode cX12_paint 24 = .ok (.aload_n 0, 1) := by decide +kernel
theorem dX12_paint_25 : decode cX12_paint 25 = .ok (.iload_n 1, 1) := by decide +kernel
theorem dX12_paint_26 : decode cX12_paint 26 = .ok (.invokevirtual 411, 3) := by decide +kernel
theorem dX12_paint_29 : decode cX12_paint 29 = .ok (.ireturn, 1) := by decide +kernel
theorem dX12_painted_0 : decode cX12_painted 0 = .ok (.iconst 0, 1) := by decide +kernel
theorem dX12_painted_1 : decode cX12_painted 1 = .ok (.istore_n 1, 1) := by decide +kernel
theorem dX12_painted_2 : decode cX12_painted 2 = .ok (.iconst 0, 1) := by decide +kernel
theorem dX12_painted_3 : decode cX12_painted 3 = .ok (.istore_n 2, 1) := by decide +kernel
theorem dX12_painted_4 : decode cX12_painted 4 = .ok (.iload_n 2, 1) := by decide +kernel
theorem dX12_painted_5 : decode cX12_painted 5 = .ok (.aload_n 0, 1) := by decide +kernel
theorem dX12_painted_6 : decode cX12_painted 6 = .ok (.invokevirtual 68, 3) := by decide +kernel
theorem dX12_painted_9 : decode cX12_painted 9 = .ok (.if_icmp .ge 27, 3) := by decide +kernel
theorem dX12_painted_12 : decode cX12_painted 12 = .ok (.iload_n 1, 1) := by decide +kernel
theorem dX12_painted_13 : decode cX12_painted 13 = .ok (.aload_n 0, 1) := by decide +kernel
theorem dX12_painted_14 : decode cX12_painted 14 = .ok (.iload_n 2, 1) := by decide +kernel
theorem dX12_painted_15 : decode cX12_painted 15 = .ok (.invokevirtual 390, 3) := by decide +kernel
theorem dX12_painted_18 : decode cX12_painted 18 = .ok (.ifCond .eq 9, 3) := by decide +kernel
theorem dX12_painted_21 : decode cX12_painted 21 = .ok (.iconst 1, 1) := by decide +kernel
theorem dX12_painted_22 : decode cX12_painted 22 = .ok (.iload_n 2, 1) := by decide +kernel
theorem dX12_painted_23 : decode cX12_painted 23 = .ok (.ishl, 1) := by decide +kernel
theorem dX12_painted_24 : decode cX12_painted 24 = .ok (.goto 4, 3) := by decide +kernel
theorem dX12_painted_27 : decode cX12_painted 27 = .ok (.iconst 0, 1) := by decide +kernel
theorem dX12_painted_28 : decode cX12_painted 28 = .ok (.ior, 1) := by decide +kernel
theorem dX12_painted_29 : decode cX12_painted 29 = .ok (.istore_n 1, 1) := by decide +kernel
theorem dX12_painted_30 : decode cX12_painted 30 = .ok (.iinc 2 1, 3) := by decide +kernel
theorem dX12_painted_33 : decode cX12_painted 33 = .ok (.goto (-29), 3) := by decide +kernel
theorem dX12_painted_36 : decode cX12_painted 36 = .ok (.iload_n 1, 1) := by decide +kernel
theorem dX12_painted_37 : decode cX12_painted 37 = .ok (.ireturn, 1) := by decide +kernel
theorem dX12_allLetters_0 : decode cX12_allLetters 0 = .ok (.iconst 1, 1) := by decide +kernel
theorem dX12_allLetters_1 : decode cX12_allLetters 1 = .ok (.aload_n 0, 1) := by decide +kernel
theorem dX12_allLetters_2 : decode cX12_allLetters 2 = .ok (.invokevirtual 68, 3) := by decide +kernel
theorem dX12_allLetters_5 : decode cX12_allLetters 5 = .ok (.ishl, 1) := by decide +kernel
theorem dX12_allLetters_6 : decode cX12_allLetters 6 = .ok (.iconst 1, 1) := by decide +kernel
theorem dX12_allLetters_7 : decode cX12_allLetters 7 = .ok (.isub, 1) := by decide +kernel
theorem dX12_allLetters_8 : decode cX12_allLetters 8 = .ok (.ireturn, 1) := by decide +kernel
theorem dX12_keepsAll_0 : decode cX12_keepsAll 0 = .ok (.iconst 0, 1) := by decide +kernel
theorem dX12_keepsAll_1 : decode cX12_keepsAll 1 = .ok (.istore_n 1, 1) := by decide +kernel
theorem dX12_keepsAll_2 : decode cX12_keepsAll 2 = .ok (.iload_n 1, 1) := by decide +kernel
theorem dX12_keepsAll_3 : decode cX12_keepsAll 3 = .ok (.sipush 475, 3) := by decide +kernel
theorem dX12_keepsAll_6 : decode cX12_keepsAll 6 = .ok (.if_icmp .ge 21, 3) := by decide +kernel
theorem dX12_keepsAll_9 : decode cX12_keepsAll 9 = .ok (.aload_n 0, 1) := by decide +kernel
theorem dX12_keepsAll_10 : decode cX12_keepsAll 10 = .ok (.getfield 23, 3) := by decide +kernel
theorem dX12_keepsAll_13 : decode cX12_keepsAll 13 = .ok (.iload_n 1, 1) := by decide +kernel
theorem dX12_keepsAll_14 : decode cX12_keepsAll 14 = .ok (.aload_n 0, 1) := by decide +kernel
theorem dX12_keepsAll_15 : decode cX12_keepsAll 15 = .ok (.getfield 13, 3) := by decide +kernel
theorem dX12_keepsAll_18 : decode cX12_keepsAll 18 = .ok (.iload_n 1, 1) := by decide +kernel
theorem dX12_keepsAll_19 : decode cX12_keepsAll 19 = .ok (.iaload, 1) := by decide +kernel
theorem dX12_keepsAll_20 : decode cX12_keepsAll 20 = .ok (.iastore, 1) := by decide +kernel
theorem dX12_keepsAll_21 : decode cX12_keepsAll 21 = .ok (.iinc 1 1, 3) := by decide +kernel
theorem dX12_keepsAll_24 : decode cX12_keepsAll 24 = .ok (.goto (-22), 3) := by decide +kernel
theorem dX12_keepsAll_27 : decode cX12_keepsAll 27 = .ok (.return_, 1) := by decide +kernel
theorem dX12_bringsBack_0 : decode cX12_bringsBack 0 = .ok (.iconst 0, 1) := by decide +kernel
theorem dX12_bringsBack_1 : decode cX12_bringsBack 1 = .ok (.istore_n 1, 1) := by decide +kernel
theorem dX12_bringsBack_2 : decode cX12_bringsBack 2 = .ok (.iload_n 1, 1) := by decide +kernel
theorem dX12_bringsBack_3 : decode cX12_bringsBack 3 = .ok (.sipush 475, 3) := by decide +kernel
theorem dX12_bringsBack_6 : decode cX12_bringsBack 6 = .ok (.if_icmp .ge 21, 3) := by decide +kernel
theorem dX12_bringsBack_9 : decode cX12_bringsBack 9 = .ok (.aload_n 0, 1) := by decide +kernel
theorem dX12_bringsBack_10 : decode cX12_bringsBack 10 = .ok (.getfield 13, 3) := by decide +kernel
theorem dX12_bringsBack_13 : decode cX12_bringsBack 13 = .ok (.iload_n 1, 1) := by decide +kernel
theorem dX12_bringsBack_14 : decode cX12_bringsBack 14 = .ok (.aload_n 0, 1) := by decide +kernel
theorem dX12_bringsBack_15 : decode cX12_bringsBack 15 = .ok (.getfield 23, 3) := by decide +kernel
theorem dX12_bringsBack_18 : decode cX12_bringsBack 18 = .ok (.iload_n 1, 1) := by decide +kernel
theorem dX12_bringsBack_19 : decode cX12_bringsBack 19 = .ok (.iaload, 1) := by decide +kernel
theorem dX12_bringsBack_20 : decode cX12_bringsBack 20 = .ok (.iastore, 1) := by decide +kernel
theorem dX12_bringsBack_21 : decode cX12_bringsBack 21 = .ok (.iinc 1 1, 3) := by decide +kernel
theorem dX12_bringsBack_24 : decode cX12_bringsBack 24 = .ok (.goto (-22), 3) := by decide +kernel
theorem dX12_bringsBack_27 : decode cX12_bringsBack 27 = .ok (.return_, 1) := by decide +kernel
theorem dX12_order_0 : decode cX12_order 0 = .ok (.aload_n 0, 1) := by decide +kernel
theorem dX12_order_1 : decode cX12_order 1 = .ok (.iconst 0, 1) := by decide +kernel
theorem dX12_order_2 : decode cX12_order 2 = .ok (.putfield 3, 3) := by decide +kernel
theorem dX12_order_5 : decode cX12_order 5 = .ok (.aload_n 0, 1) := by decide +kernel
theorem dX12_order_6 : decode cX12_order 6 = .ok (.invokevirtual 414, 3) := by decide +kernel
theorem dX12_order_9 : decode cX12_order 9 = .ok (.iconst 0, 1) := by decide +kernel
theorem dX12_order_10 : decode cX12_order 10 = .ok (.istore_n 2, 1) := by decide +kernel
theorem dX12_order_11 : decode cX12_order 11 = .ok (.iconst (-1), 1) := by decide +kernel
theorem dX12_order_12 : decode cX12_order 12 = .ok (.istore_n 3, 1) := by decide +kernel
theorem dX12_order_13 : decode cX12_order 13 = .ok (.aload_n 0, 1) := by decide +kernel
theorem dX12_order_14 : decode cX12_order 14 = .ok (.invokevirtual 417, 3) := by decide +kernel
theorem dX12_order_17 : decode cX12_order 17 = .ok (.aload_n 0, 1) := by decide +kernel
theorem dX12_order_18 : decode cX12_order 18 = .ok (.invokevirtual 420, 3) := by decide +kernel
theorem dX12_order_21 : decode cX12_order 21 = .ok (.if_icmp .eq 49, 3) := by decide +kernel
theorem dX12_order_24 : decode cX12_order 24 = .ok (.aload_n 0, 1) := by decide +kernel
theorem dX12_order_25 : decode cX12_order 25 = .ok (.invokevirtual 399, 3) := by decide +kernel
theorem dX12_order_28 : decode cX12_order 28 = .ok (.istore 4, 2) := by decide +kernel
theorem dX12_order_30 : decode cX12_order 30 = .ok (.iload 4, 2) := by decide +kernel
theorem dX12_order_32 : decode cX12_order 32 = .ok (.ifCond .lt 11, 3) := by decide +kernel
theorem dX12_order_35 : decode cX12_order 35 = .ok (.aload_n 0, 1) := by decide +kernel
theorem dX12_order_36 : decode cX12_order 36 = .ok (.iload 4, 2) := by decide +kernel
theorem dX12_order_38 : decode cX12_order 38 = .ok (.iconst 2, 1) := by decide +kernel
theorem dX12_order_39 : decode cX12_order 39 = .ok (.iconst 0, 1) := by decide +kernel
theorem dX12_order_40 : decode cX12_order 40 = .ok (.invokevirtual 166, 3) := by decide +kernel
theorem dX12_order_43 : decode cX12_order 43 = .ok (.aload_n 0, 1) := by decide +kernel
theorem dX12_order_44 : decode cX12_order 44 = .ok (.getfield 13, 3) := by decide +kernel
theorem dX12_order_47 : decode cX12_order 47 = .ok (.bipush 12, 2) := by decide +kernel
theorem dX12_order_49 : decode cX12_order 49 = .ok (.iload 4, 2) := by decide +kernel
theorem dX12_order_51 : decode cX12_order 51 = .ok (.iastore, 1) := by decide +kernel
theorem dX12_order_52 : decode cX12_order 52 = .ok (.iload_n 2, 1) := by decide +kernel
theorem dX12_order_53 : decode cX12_order 53 = .ok (.iload_n 1, 1) := by decide +kernel
theorem dX12_order_54 : decode cX12_order 54 = .ok (.if_icmp .ne 8, 3) := by decide +kernel
theorem dX12_order_57 : decode cX12_order 57 = .ok (.iload 4, 2) := by decide +kernel
theorem dX12_order_59 : decode cX12_order 59 = .ok (.goto 4, 3) := by decide +kernel
theorem dX12_order_62 : decode cX12_order 62 = .ok (.iload_n 3, 1) := by decide +kernel
theorem dX12_order_63 : decode cX12_order 63 = .ok (.istore_n 3, 1) := by decide +kernel
theorem dX12_order_64 : decode cX12_order 64 = .ok (.iinc 2 1, 3) := by decide +kernel
theorem dX12_order_67 : decode cX12_order 67 = .ok (.goto (-54), 3) := by decide +kernel
theorem dX12_order_70 : decode cX12_order 70 = .ok (.aload_n 0, 1) := by decide +kernel
theorem dX12_order_71 : decode cX12_order 71 = .ok (.invokevirtual 423, 3) := by decide +kernel
theorem dX12_order_74 : decode cX12_order 74 = .ok (.iload_n 1, 1) := by decide +kernel
theorem dX12_order_75 : decode cX12_order 75 = .ok (.iconst (-1), 1) := by decide +kernel
theorem dX12_order_76 : decode cX12_order 76 = .ok (.if_icmp .ne 7, 3) := by decide +kernel
theorem dX12_order_79 : decode cX12_order 79 = .ok (.iload_n 2, 1) := by decide +kernel
theorem dX12_order_80 : decode cX12_order 80 = .ok (.goto 4, 3) := by decide +kernel
theorem dX12_order_83 : decode cX12_order 83 = .ok (.iload_n 3, 1) := by decide +kernel
theorem dX12_order_84 : decode cX12_order 84 = .ok (.ireturn, 1) := by decide +kernel
theorem dX12_brushAt_0 : decode cX12_brushAt 0 = .ok (.iload_n 2, 1) := by decide +kernel
theorem dX12_brushAt_1 : decode cX12_brushAt 1 = .ok (.ifCond .ge 8, 3) := by decide +kernel
theorem dX12_brushAt_4 : decode cX12_brushAt 4 = .ok (.bipush 14, 2) := by decide +kernel
theorem dX12_brushAt_6 : decode cX12_brushAt 6 = .ok (.goto 4, 3) := by decide +kernel
theorem dX12_brushAt_9 : decode cX12_brushAt 9 = .ok (.iload_n 2, 1) := by decide +kernel
theorem dX12_brushAt_10 : decode cX12_brushAt 10 = .ok (.bipush 12, 2) := by decide +kernel
theorem dX12_brushAt_12 : decode cX12_brushAt 12 = .ok (.ishl, 1) := by decide +kernel
theorem dX12_brushAt_13 : decode cX12_brushAt 13 = .ok (.iload_n 1, 1) := by decide +kernel
theorem dX12_brushAt_14 : decode cX12_brushAt 14 = .ok (.ior, 1) := by decide +kernel
theorem dX12_brushAt_15 : decode cX12_brushAt 15 = .ok (.ireturn, 1) := by decide +kernel
theorem dX12_brushes_0 : decode cX12_brushes 0 = .ok (.iload_n 3, 1) := by decide +kernel
theorem dX12_brushes_1 : decode cX12_brushes 1 = .ok (.ifCond .ge 9, 3) := by decide +kernel
theorem dX12_brushes_4 : decode cX12_brushes 4 = .ok (.ldc_w 326, 3) := by decide +kernel
theorem dX12_brushes_7 : decode cX12_brushes 7 = .ok (.goto 16, 3) := by decide +kernel
theorem dX12_brushes_10 : decode cX12_brushes 10 = .ok (.iconst 1, 1) := by decide +kernel
theorem dX12_brushes_11 : decode cX12_brushes 11 = .ok (.aload_n 0, 1) := by decide +kernel
theorem dX12_brushes_12 : decode cX12_brushes 12 = .ok (.getfield 52, 3) := by decide +kernel
theorem dX12_brushes_15 : decode cX12_brushes 15 = .ok (.aload_n 0, 1) := by decide +kernel
theorem dX12_brushes_16 : decode cX12_brushes 16 = .ok (.iload_n 2, 1) := by decide +kernel
theorem dX12_brushes_17 : decode cX12_brushes 17 = .ok (.iconst (-1), 1) := by decide +kernel
theorem dX12_brushes_18 : decode cX12_brushes 18 = .ok (.invokevirtual 426, 3) := by decide +kernel
theorem dX12_brushes_21 : decode cX12_brushes 21 = .ok (.iaload, 1) := by decide +kernel
theorem dX12_brushes_22 : decode cX12_brushes 22 = .ok (.iadd, 1) := by decide +kernel
theorem dX12_brushes_23 : decode cX12_brushes 23 = .ok (.istore 4, 2) := by decide +kernel
theorem dX12_brushes_25 : decode cX12_brushes 25 = .ok (.iconst 0, 1) := by decide +kernel
theorem dX12_brushes_26 : decode cX12_brushes 26 = .ok (.istore 5, 2) := by decide +kernel
theorem dX12_brushes_28 : decode cX12_brushes 28 = .ok (.iload 5, 2) := by decide +kernel
theorem dX12_brushes_30 : decode cX12_brushes 30 = .ok (.iload_n 1, 1) := by decide +kernel
theorem dX12_brushes_31 : decode cX12_brushes 31 = .ok (.if_icmp .ge 69, 3) := by decide +kernel
theorem dX12_brushes_34 : decode cX12_brushes 34 = .ok (.iload_n 2, 1) := by decide +kernel
theorem dX12_brushes_35 : decode cX12_brushes 35 = .ok (.iload 5, 2) := by decide +kernel
theorem dX12_brushes_37 : decode cX12_brushes 37 = .ok (.invokestatic 429, 3) := by decide +kernel
theorem dX12_brushes_40 : decode cX12_brushes 40 = .ok (.ifCond .ne 54, 3) := by decide +kernel
theorem dX12_brushes_43 : decode cX12_brushes 43 = .ok (.iload_n 3, 1) := by decide +kernel
theorem dX12_brushes_44 : decode cX12_brushes 44 = .ok (.ifCond .lt 19, 3) := by decide +kernel
theorem dX12_brushes_47 : decode cX12_brushes 47 = .ok (.aload_n 0, 1) := by decide +kernel
theorem dX12_brushes_48 : decode cX12_brushes 48 = .ok (.getfield 55, 3) := by decide +kernel
theorem dX12_brushes_51 : decode cX12_brushes 51 = .ok (.iload 5, 2) := by decide +kernel
theorem dX12_brushes_53 : decode cX12_brushes 53 = .ok (.iaload, 1) := by decide +kernel
theorem dX12_brushes_54 : decode cX12_brushes 54 = .ok (.iload_n 3, 1) := by decide +kernel
theorem dX12_brushes_55 : decode cX12_brushes 55 = .ok (.isub, 1) := by decide +kernel
theorem dX12_brushes_56 : decode cX12_brushes 56 = .ok (.invokestatic 359, 3) := by decide +kernel
theorem dX12_brushes_59 : decode cX12_brushes 59 = .ok (.iconst 1, 1) := by decide +kernel
theorem dX12_brushes_60 : decode cX12_brushes 60 = .ok (.if_icmp .eq 34, 3) := by decide +kernel
theorem dX12_brushes_63 : decode cX12_brushes 63 = .ok (.iload 4, 2) := by decide +kernel
theorem dX12_brushes_65 : decode cX12_brushes 65 = .ok (.iconst 1, 1) := by decide +kernel
theorem dX12_brushes_66 : decode cX12_brushes 66 = .ok (.aload_n 0, 1) := by decide +kernel
theorem dX12_brushes_67 : decode cX12_brushes 67 = .ok (.getfield 52, 3) := by decide +kernel
theorem dX12_brushes_70 : decode cX12_brushes 70 = .ok (.aload_n 0, 1) := by decide +kernel
theorem dX12_brushes_71 : decode cX12_brushes 71 = .ok (.iload_n 2, 1) := by decide +kernel
theorem dX12_brushes_72 : decode cX12_brushes 72 = .ok (.iconst 1, 1) := by decide +kernel
theorem dX12_brushes_73 : decode cX12_brushes 73 = .ok (.iload 5, 2) := by decide +kernel
theorem dX12_brushes_75 : decode cX12_brushes 75 = .ok (.ishl, 1) := by decide +kernel
theorem dX12_brushes_76 : decode cX12_brushes 76 = .ok (.ior, 1) := by decide +kernel
theorem dX12_brushes_77 : decode cX12_brushes 77 = .ok (.aload_n 0, 1) := by decide +kernel
theorem dX12_brushes_78 : decode cX12_brushes 78 = .ok (.getfield 55, 3) := by decide +kernel
theorem dX12_brushes_81 : decode cX12_brushes 81 = .ok (.iload 5, 2) := by decide +kernel
theorem dX12_brushes_83 : decode cX12_brushes 83 = .ok (.iaload, 1) := by decide +kernel
theorem dX12_brushes_84 : decode cX12_brushes 84 = .ok (.invokevirtual 426, 3) := by decide +kernel
theorem dX12_brushes_87 : decode cX12_brushes 87 = .ok (.iaload, 1) := by decide +kernel
theorem dX12_brushes_88 : decode cX12_brushes 88 = .ok (.iadd, 1) := by decide +kernel
theorem dX12_brushes_89 : decode cX12_brushes 89 = .ok (.invokestatic 310, 3) := by decide +kernel
theorem dX12_brushes_92 : decode cX12_brushes 92 = .ok (.istore 4, 2) := by decide +kernel
theorem dX12_brushes_94 : decode cX12_brushes 94 = .ok (.iinc 5 1, 3) := by decide +kernel
theorem dX12_brushes_97 : decode cX12_brushes 97 = .ok (.goto (-69), 3) := by decide +kernel
theorem dX12_brushes_100 : decode cX12_brushes 100 = .ok (.iload 4, 2) := by decide +kernel
theorem dX12_brushes_102 : decode cX12_brushes 102 = .ok (.ireturn, 1) := by decide +kernel
theorem dX12_brush_0 : decode cX12_brush 0 = .ok (.aload_n 0, 1) := by decide +kernel
theorem dX12_brush_1 : decode cX12_brush 1 = .ok (.iconst 0, 1) := by decide +kernel
theorem dX12_brush_2 : decode cX12_brush 2 = .ok (.putfield 3, 3) := by decide +kernel
theorem dX12_brush_5 : decode cX12_brush 5 = .ok (.iconst 0, 1) := by decide +kernel
theorem dX12_brush_6 : decode cX12_brush 6 = .ok (.istore_n 1, 1) := by decide +kernel
theorem dX12_brush_7 : decode cX12_brush 7 = .ok (.iconst 0, 1) := by decide +kernel
theorem dX12_brush_8 : decode cX12_brush 8 = .ok (.istore_n 2, 1) := by decide +kernel
theorem dX12_brush_9 : decode cX12_brush 9 = .ok (.iload_n 2, 1) := by decide +kernel
theorem dX12_brush_10 : decode cX12_brush 10 = .ok (.aload_n 0, 1) := by decide +kernel
theorem dX12_brush_11 : decode cX12_brush 11 = .ok (.invokevirtual 68, 3) := by decide +kernel
theorem dX12_brush_14 : decode cX12_brush 14 = .ok (.if_icmp .ge 30, 3) := by decide +kernel
theorem dX12_brush_17 : decode cX12_brush 17 = .ok (.aload_n 0, 1) := by decide +kernel
theorem dX12_brush_18 : decode cX12_brush 18 = .ok (.iload_n 2, 1) := by decide +kernel
theorem dX12_brush_19 : decode cX12_brush 19 = .ok (.invokevirtual 390, 3) := by decide +kernel
theorem dX12_brush_22 : decode cX12_brush 22 = .ok (.ifCond .eq 6, 3) := by decide +kernel
theorem dX12_brush_25 : decode cX12_brush 25 = .ok (.goto 13, 3) := by decide +kernel
theorem dX12_brush_28 : decode cX12_brush 28 = .ok (.aload_n 0, 1) := by decide +kernel
theorem dX12_brush_29 : decode cX12_brush 29 = .ok (.getfield 55, 3) := by decide +kernel
theorem dX12_brush_32 : decode cX12_brush 32 = .ok (.iload_n 1, 1) := by decide +kernel
theorem dX12_brush_33 : decode cX12_brush 33 = .ok (.iload_n 2, 1) := by decide +kernel
theorem dX12_brush_34 : decode cX12_brush 34 = .ok (.iastore, 1) := by decide +kernel
theorem dX12_brush_35 : decode cX12_brush 35 = .ok (.iinc 1 1, 3) := by decide +kernel
theorem dX12_brush_38 : decode cX12_brush 38 = .ok (.iinc 2 1, 3) := by decide +kernel
theorem dX12_brush_41 : decode cX12_brush 41 = .ok (.goto (-32), 3) := by decide +kernel
theorem dX12_brush_44 : decode cX12_brush 44 = .ok (.iload_n 1, 1) := by decide +kernel
theorem dX12_brush_45 : decode cX12_brush 45 = .ok (.bipush 12, 2) := by decide +kernel
theorem dX12_brush_47 : decode cX12_brush 47 = .ok (.if_icmp .le 6, 3) := by decide +kernel
theorem dX12_brush_50 : decode cX12_brush 50 = .ok (.bipush (-3), 2) := by decide +kernel
theorem dX12_brush_52 : decode cX12_brush 52 = .ok (.ireturn, 1) := by decide +kernel
theorem dX12_brush_53 : decode cX12_brush 53 = .ok (.iconst 1, 1) := by decide +kernel
theorem dX12_brush_54 : decode cX12_brush 54 = .ok (.iload_n 1, 1) := by decide +kernel
theorem dX12_brush_55 : decode cX12_brush 55 = .ok (.ishl, 1) := by decide +kernel
theorem dX12_brush_56 : decode cX12_brush 56 = .ok (.iconst 1, 1) := by decide +kernel
theorem dX12_brush_57 : decode cX12_brush 57 = .ok (.isub, 1) := by decide +kernel
theorem dX12_brush_58 : decode cX12_brush 58 = .ok (.istore_n 2, 1) := by decide +kernel
theorem dX12_brush_59 : decode cX12_brush 59 = .ok (.iload_n 2, 1) := by decide +kernel
theorem dX12_brush_60 : decode cX12_brush 60 = .ok (.istore_n 3, 1) := by decide +kernel
theorem dX12_brush_61 : decode cX12_brush 61 = .ok (.iload_n 3, 1) := by decide +kernel
theorem dX12_brush_62 : decode cX12_brush 62 = .ok (.ifCond .lt 56, 3) := by decide +kernel
theorem dX12_brush_65 : decode cX12_brush 65 = .ok (.iconst (-1), 1) := by decide +kernel
theorem dX12_brush_66 : decode cX12_brush 66 = .ok (.istore 4, 2) := by decide +kernel
theorem dX12_brush_68 : decode cX12_brush 68 = .ok (.iload 4, 2) := by decide +kernel
theorem dX12_brush_70 : decode cX12_brush 70 = .ok (.aload_n 0, 1) := by decide +kernel
theorem dX12_brush_71 : decode cX12_brush 71 = .ok (.invokevirtual 68, 3) := by decide +kernel
theorem dX12_brush_74 : decode cX12_brush 74 = .ok (.if_icmp .ge 38, 3) := by decide +kernel
theorem dX12_brush_77 : decode cX12_brush 77 = .ok (.aload_n 0, 1) := by decide +kernel
theorem dX12_brush_78 : decode cX12_brush 78 = .ok (.getfield 52, 3) := by decide +kernel
theorem dX12_brush_81 : decode cX12_brush 81 = .ok (.aload_n 0, 1) := by decide +kernel
theorem dX12_brush_82 : decode cX12_brush 82 = .ok (.iload_n 3, 1) := by decide +kernel
theorem dX12_brush_83 : decode cX12_brush 83 = .ok (.iload 4, 2) := by decide +kernel
theorem dX12_brush_85 : decode cX12_brush 85 = .ok (.invokevirtual 426, 3) := by decide +kernel
theorem dX12_brush_88 : decode cX12_brush 88 = .ok (.iload_n 3, 1) := by decide +kernel
theorem dX12_brush_89 : decode cX12_brush 89 = .ok (.iload_n 2, 1) := by decide +kernel
theorem dX12_brush_90 : decode cX12_brush 90 = .ok (.if_icmp .ne 7, 3) := by decide +kernel
theorem dX12_brush_93 : decode cX12_brush 93 = .ok (.iconst 0, 1) := by decide +kernel
theorem dX12_brush_94 : decode cX12_brush 94 = .ok (.goto 11, 3) := by decide +kernel
theorem dX12_brush_97 : decode cX12_brush 97 = .ok (.aload_n 0, 1) := by decide +kernel
theorem dX12_brush_98 : decode cX12_brush 98 = .ok (.iload_n 1, 1) := by decide +kernel
theorem dX12_brush_99 : decode cX12_brush 99 = .ok (.iload_n 3, 1) := by decide +kernel
theorem dX12_brush_100 : decode cX12_brush 100 = .ok (.iload 4, 2) := by decide +kernel
theorem dX12_brush_102 : decode cX12_brush 102 = .ok (.invokevirtual 432, 3) := by decide +kernel
theorem dX12_brush_105 : decode cX12_brush 105 = .ok (.iastore, 1) := by decide +kernel
theorem dX12_brush_106 : decode cX12_brush 106 = .ok (.iinc 4 1, 3) := by decide +kernel
theorem dX12_brush_109 : decode cX12_brush 109 = .ok (.goto (-41), 3) := by decide +kernel
theorem dX12_brush_112 : decode cX12_brush 112 = .ok (.iinc 3 (-1), 3) := by decide +kernel
theorem dX12_brush_115 : decode cX12_brush 115 = .ok (.goto (-54), 3) := by decide +kernel
theorem dX12_brush_118 : decode cX12_brush 118 = .ok (.aload_n 0, 1) := by decide +kernel
theorem dX12_brush_119 : decode cX12_brush 119 = .ok (.getfield 52, 3) := by decide +kernel
theorem dX12_brush_122 : decode cX12_brush 122 = .ok (.aload_n 0, 1) := by decide +kernel
theorem dX12_brush_123 : decode cX12_brush 123 = .ok (.iconst 0, 1) := by decide +kernel
theorem dX12_brush_124 : decode cX12_brush 124 = .ok (.aload_n 0, 1) := by decide +kernel
theorem dX12_brush_125 : decode cX12_brush 125 = .ok (.getfield 13, 3) := by decide +kernel
theorem dX12_brush_128 : decode cX12_brush 128 = .ok (.bipush 12, 2) := by decide +kernel
theorem dX12_brush_130 : decode cX12_brush 130 = .ok (.iaload, 1) := by decide +kernel
theorem dX12_brush_131 : decode cX12_brush 131 = .ok (.invokevirtual 426, 3) := by decide +kernel
theorem dX12_brush_134 : decode cX12_brush 134 = .ok (.iaload, 1) := by decide +kernel
theorem dX12_brush_135 : decode cX12_brush 135 = .ok (.ireturn, 1) := by decide +kernel
theorem dX12_unevenNow_0 : decode cX12_unevenNow 0 = .ok (.iconst 0, 1) := by decide +kernel
theorem dX12_unevenNow_1 : decode cX12_unevenNow 1 = .ok (.istore_n 1, 1) := by decide +kernel
theorem dX12_unevenNow_2 : decode cX12_unevenNow 2 = .ok (.ldc_w 326, 3) := by decide +kernel
theorem dX12_unevenNow_5 : decode cX12_unevenNow 5 = .ok (.istore_n 2, 1) := by decide +kernel
theorem dX12_unevenNow_6 : decode cX12_unevenNow 6 = .ok (.iconst 0, 1) := by decide +kernel
theorem dX12_unevenNow_7 : decode cX12_unevenNow 7 = .ok (.istore_n 3, 1) := by decide +kernel
theorem dX12_unevenNow_8 : decode cX12_unevenNow 8 = .ok (.iload_n 3, 1) := by decide +kernel
theorem dX12_unevenNow_9 : decode cX12_unevenNow 9 = .ok (.aload_n 0, 1) := by decide +kernel
theorem dX12_unevenNow_10 : decode cX12_unevenNow 10 = .ok (.invokevirtual 94, 3) := by decide +kernel
theorem dX12_unevenNow_13 : decode cX12_unevenNow 13 = .ok (.if_icmp .ge 29, 3) := by decide +kernel
theorem dX12_unevenNow_16 : decode cX12_unevenNow 16 = .ok (.iload_n 1, 1) := by decide +kernel
theorem dX12_unevenNow_17 : decode cX12_unevenNow 17 = .ok (.aload_n 0, 1) := by decide +kernel
theorem dX12_unevenNow_18 : decode cX12_unevenNow 18 = .ok (.iload_n 3, 1) := by decide +kernel
theorem dX12_unevenNow_19 : decode cX12_unevenNow 19 = .ok (.invokevirtual 345, 3) := by decide +kernel
theorem dX12_unevenNow_22 : decode cX12_unevenNow 22 = .ok (.invokestatic 72, 3) := by decide +kernel
theorem dX12_unevenNow_25 : decode cX12_unevenNow 25 = .ok (.istore_n 1, 1) := by decide +kernel
theorem dX12_unevenNow_26 : decode cX12_unevenNow 26 = .ok (.iload_n 2, 1) := by decide +kernel
theorem dX12_unevenNow_27 : decode cX12_unevenNow 27 = .ok (.aload_n 0, 1) := by decide +kernel
theorem dX12_unevenNow_28 : decode cX12_unevenNow 28 = .ok (.iload_n 3, 1) := by decide +kernel
theorem dX12_unevenNow_29 : decode cX12_unevenNow 29 = .ok (.invokevirtual 345, 3) := by decide +kernel
theorem dX12_unevenNow_32 : decode cX12_unevenNow 32 = .ok (.invokestatic 310, 3) := by decide +kernel
theorem dX12_unevenNow_35 : decode cX12_unevenNow 35 = .ok (.istore_n 2, 1) := by decide +kernel
theorem dX12_unevenNow_36 : decode cX12_unevenNow 36 = .ok (.iinc 3 1, 3) := by decide +kernel
theorem dX12_unevenNow_39 : decode cX12_unevenNow 39 = .ok (.goto (-31), 3) := by decide +kernel
theorem dX12_unevenNow_42 : decode cX12_unevenNow 42 = .ok (.aload_n 0, 1) := by decide +kernel
theorem dX12_unevenNow_43 : decode cX12_unevenNow 43 = .ok (.invokevirtual 94, 3) := by decide +kernel
theorem dX12_unevenNow_46 : decode cX12_unevenNow 46 = .ok (.iconst 2, 1) := by decide +kernel
theorem dX12_unevenNow_47 : decode cX12_unevenNow 47 = .ok (.if_icmp .ge 7, 3) := by decide +kernel
theorem dX12_unevenNow_50 : decode cX12_unevenNow 50 = .ok (.iconst 0, 1) := by decide +kernel
theorem dX12_unevenNow_51 : decode cX12_unevenNow 51 = .ok (.goto 6, 3) := by decide +kernel
theorem dX12_unevenNow_54 : decode cX12_unevenNow 54 = .ok (.iload_n 1, 1) := by decide +kernel
theorem dX12_unevenNow_55 : decode cX12_unevenNow 55 = .ok (.iload_n 2, 1) := by decide +kernel
theorem dX12_unevenNow_56 : decode cX12_unevenNow 56 = .ok (.isub, 1) := by decide +kernel
theorem dX12_unevenNow_57 : decode cX12_unevenNow 57 = .ok (.ireturn, 1) := by decide +kernel
theorem dX12_uneven_0 : decode cX12_uneven 0 = .ok (.aload_n 0, 1) := by decide +kernel
theorem dX12_uneven_1 : decode cX12_uneven 1 = .ok (.iconst 0, 1) := by decide +kernel
theorem dX12_uneven_2 : decode cX12_uneven 2 = .ok (.putfield 3, 3) := by decide +kernel
theorem dX12_uneven_5 : decode cX12_uneven 5 = .ok (.aload_n 0, 1) := by decide +kernel
theorem dX12_uneven_6 : decode cX12_uneven 6 = .ok (.invokevirtual 435, 3) := by decide +kernel
theorem dX12_uneven_9 : decode cX12_uneven 9 = .ok (.ireturn, 1) := by decide +kernel
theorem dX12_off_0 : decode cX12_off 0 = .ok (.aload_n 0, 1) := by decide +kernel
theorem dX12_off_1 : decode cX12_off 1 = .ok (.iconst 0, 1) := by decide +kernel
theorem dX12_off_2 : decode cX12_off 2 = .ok (.putfield 3, 3) := by decide +kernel
theorem dX12_off_5 : decode cX12_off 5 = .ok (.aload_n 0, 1) := by decide +kernel
theorem dX12_off_6 : decode cX12_off 6 = .ok (.iload_n 1, 1) := by decide +kernel
theorem dX12_off_7 : decode cX12_off 7 = .ok (.invokestatic 377, 3) := by decide +kernel
theorem dX12_off_10 : decode cX12_off 10 = .ok (.iconst 1, 1) := by decide +kernel
theorem dX12_off_11 : decode cX12_off 11 = .ok (.invokevirtual 282, 3) := by decide +kernel
theorem dX12_off_14 : decode cX12_off 14 = .ok (.ifCond .eq 5, 3) := by decide +kernel
theorem dX12_off_17 : decode cX12_off 17 = .ok (.iconst 0, 1) := by decide +kernel
theorem dX12_off_18 : decode cX12_off 18 = .ok (.ireturn, 1) := by decide +kernel
theorem dX12_off_19 : decode cX12_off 19 = .ok (.iconst 0, 1) := by decide +kernel
theorem dX12_off_20 : decode cX12_off 20 = .ok (.istore_n 2, 1) := by decide +kernel
theorem dX12_off_21 : decode cX12_off 21 = .ok (.iconst 0, 1) := by decide +kernel
theorem dX12_off_22 : decode cX12_off 22 = .ok (.istore_n 3, 1) := by decide +kernel
theorem dX12_off_23 : decode cX12_off 23 = .ok (.iload_n 3, 1) := by decide +kernel
theorem dX12_off_24 : decode cX12_off 24 = .ok (.aload_n 0, 1) := by decide +kernel
theorem dX12_off_25 : decode cX12_off 25 = .ok (.invokevirtual 94, 3) := by decide +kernel
theorem dX12_off_28 : decode cX12_off 28 = .ok (.if_icmp .ge 22, 3) := by decide +kernel
theorem dX12_off_31 : decode cX12_off 31 = .ok (.iload_n 2, 1) := by decide +kernel
theorem dX12_off_32 : decode cX12_off 32 = .ok (.aload_n 0, 1) := by decide +kernel
theorem dX12_off_33 : decode cX12_off 33 = .ok (.iload_n 3, 1) := by decide +kernel
theorem dX12_off_34 : decode cX12_off 34 = .ok (.invokevirtual 345, 3) := by decide +kernel
theorem dX12_off_37 : decode cX12_off 37 = .ok (.iload_n 1, 1) := by decide +kernel
theorem dX12_off_38 : decode cX12_off 38 = .ok (.isub, 1) := by decide +kernel
theorem dX12_off_39 : decode cX12_off 39 = .ok (.invokestatic 359, 3) := by decide +kernel
theorem dX12_off_42 : decode cX12_off 42 = .ok (.iadd, 1) := by decide +kernel
theorem dX12_off_43 : decode cX12_off 43 = .ok (.istore_n 2, 1) := by decide +kernel
theorem dX12_off_44 : decode cX12_off 44 = .ok (.iinc 3 1, 3) := by decide +kernel
theorem dX12_off_47 : decode cX12_off 47 = .ok (.goto (-24), 3) := by decide +kernel
theorem dX12_off_50 : decode cX12_off 50 = .ok (.iload_n 2, 1) := by decide +kernel
theorem dX12_off_51 : decode cX12_off 51 = .ok (.ireturn, 1) := by decide +kernel
theorem dX12_isFit_0 : decode cX12_isFit 0 = .ok (.aload_n 0, 1) := by decide +kernel
theorem dX12_isFit_1 : decode cX12_isFit 1 = .ok (.invokevirtual 438, 3) := by decide +kernel
theorem dX12_isFit_4 : decode cX12_isFit 4 = .ok (.aload_n 0, 1) := by decide +kernel
theorem dX12_isFit_5 : decode cX12_isFit 5 = .ok (.getfield 13, 3) := by decide +kernel
theorem dX12_isFit_8 : decode cX12_isFit 8 = .ok (.iconst 5, 1) := by decide +kernel
theorem dX12_isFit_9 : decode cX12_isFit 9 = .ok (.iaload, 1) := by decide +kernel
theorem dX12_isFit_10 : decode cX12_isFit 10 = .ok (.iadd, 1) := by decide +kernel
theorem dX12_isFit_11 : decode cX12_isFit 11 = .ok (.aload_n 0, 1) := by decide +kernel
theorem dX12_isFit_12 : decode cX12_isFit 12 = .ok (.getfield 13, 3) := by decide +kernel
theorem dX12_isFit_15 : decode cX12_isFit 15 = .ok (.iconst 2, 1) := by decide +kernel
theorem dX12_isFit_16 : decode cX12_isFit 16 = .ok (.iaload, 1) := by decide +kernel
theorem dX12_isFit_17 : decode cX12_isFit 17 = .ok (.aload_n 0, 1) := by decide +kernel
theorem dX12_isFit_18 : decode cX12_isFit 18 = .ok (.getfield 13, 3) := by decide +kernel
theorem dX12_isFit_21 : decode cX12_isFit 21 = .ok (.iconst 3, 1) := by decide +kernel
theorem dX12_isFit_22 : decode cX12_isFit 22 = .ok (.iaload, 1) := by decide +kernel
theorem dX12_isFit_23 : decode cX12_isFit 23 = .ok (.isub, 1) := by decide +kernel
theorem dX12_isFit_24 : decode cX12_isFit 24 = .ok (.if_icmp .gt 7, 3) := by decide +kernel
theorem dX12_isFit_27 : decode cX12_isFit 27 = .ok (.iconst 1, 1) := by decide +kernel
theorem dX12_isFit_28 : decode cX12_isFit 28 = .ok (.goto 4, 3) := by decide +kernel
theorem dX12_isFit_31 : decode cX12_isFit 31 = .ok (.iconst 0, 1) := by decide +kernel
theorem dX12_isFit_32 : decode cX12_isFit 32 = .ok (.ireturn, 1) := by decide +kernel
theorem dX12_fits_0 : decode cX12_fits 0 = .ok (.aload_n 0, 1) := by decide +kernel
theorem dX12_fits_1 : decode cX12_fits 1 = .ok (.iconst 0, 1) := by decide +kernel
theorem dX12_fits_2 : decode cX12_fits 2 = .ok (.putfield 3, 3) := by decide +kernel
theorem dX12_fits_5 : decode cX12_fits 5 = .ok (.aload_n 0, 1) := by decide +kernel
theorem dX12_fits_6 : decode cX12_fits 6 = .ok (.invokevirtual 441, 3) := by decide +kernel
theorem dX12_fits_9 : decode cX12_fits 9 = .ok (.ireturn, 1) := by decide +kernel
theorem dX12_nearest_0 : decode cX12_nearest 0 = .ok (.aload_n 0, 1) := by decide +kernel
theorem dX12_nearest_1 : decode cX12_nearest 1 = .ok (.iconst 0, 1) := by decide +kernel
theorem dX12_nearest_2 : decode cX12_nearest 2 = .ok (.putfield 3, 3) := by decide +kernel
theorem dX12_nearest_5 : decode cX12_nearest 5 = .ok (.aload_n 0, 1) := by decide +kernel
theorem dX12_nearest_6 : decode cX12_nearest 6 = .ok (.aload_n 0, 1) := by decide +kernel
theorem dX12_nearest_7 : decode cX12_nearest 7 = .ok (.iload_n 1, 1) := by decide +kernel
theorem dX12_nearest_8 : decode cX12_nearest 8 = .ok (.invokevirtual 342, 3) := by decide +kernel
theorem dX12_nearest_11 : decode cX12_nearest 11 = .ok (.iconst 1, 1) := by decide +kernel
theorem dX12_nearest_12 : decode cX12_nearest 12 = .ok (.invokevirtual 282, 3) := by decide +kernel
theorem dX12_nearest_15 : decode cX12_nearest 15 = .ok (.ifCond .ne 15, 3) := by decide +kernel
theorem dX12_nearest_18 : decode cX12_nearest 18 = .ok (.aload_n 0, 1) := by decide +kernel
theorem dX12_nearest_19 : decode cX12_nearest 19 = .ok (.iload_n 2, 1) := by decide +kernel
theorem dX12_nearest_20 : decode cX12_nearest 20 = .ok (.invokestatic 377, 3) := by decide +kernel
theorem dX12_nearest_23 : decode cX12_nearest 23 = .ok (.iconst 2, 1) := by decide +kernel
theorem dX12_nearest_24 : decode cX12_nearest 24 = .ok (.invokevirtual 282, 3) := by decide +kernel
theorem dX12_nearest_27 : decode cX12_nearest 27 = .ok (.ifCond .eq 5, 3) := by decide +kernel
theorem dX12_nearest_30 : decode cX12_nearest 30 = .ok (.iconst 0, 1) := by decide +kernel
theorem dX12_nearest_31 : decode cX12_nearest 31 = .ok (.ireturn, 1) := by decide +kernel
theorem dX12_nearest_32 : decode cX12_nearest 32 = .ok (.aload_n 0, 1) := by decide +kernel
theorem dX12_nearest_33 : decode cX12_nearest 33 = .ok (.invokevirtual 380, 3) := by decide +kernel
theorem dX12_nearest_36 : decode cX12_nearest 36 = .ok (.iconst 0, 1) := by decide +kernel
theorem dX12_nearest_37 : decode cX12_nearest 37 = .ok (.istore_n 3, 1) := by decide +kernel
theorem dX12_nearest_38 : decode cX12_nearest 38 = .ok (.iconst 1, 1) := by decide +kernel
theorem dX12_nearest_39 : decode cX12_nearest 39 = .ok (.istore 4, 2) := by decide +kernel
theorem dX12_nearest_41 : decode cX12_nearest 41 = .ok (.iload 4, 2) := by decide +kernel
theorem dX12_nearest_43 : decode cX12_nearest 43 = .ok (.bipush 31, 2) := by decide +kernel
theorem dX12_nearest_45 : decode cX12_nearest 45 = .ok (.if_icmp .ge 34, 3) := by decide +kernel
theorem dX12_nearest_48 : decode cX12_nearest 48 = .ok (.aload_n 0, 1) := by decide +kernel
theorem dX12_nearest_49 : decode cX12_nearest 49 = .ok (.iload_n 1, 1) := by decide +kernel
theorem dX12_nearest_50 : decode cX12_nearest 50 = .ok (.iload 4, 2) := by decide +kernel
theorem dX12_nearest_52 : decode cX12_nearest 52 = .ok (.iload_n 2, 1) := by decide +kernel
theorem dX12_nearest_53 : decode cX12_nearest 53 = .ok (.invokevirtual 371, 3) := by decide +kernel
theorem dX12_nearest_56 : decode cX12_nearest 56 = .ok (.aload_n 0, 1) := by decide +kernel
theorem dX12_nearest_57 : decode cX12_nearest 57 = .ok (.iload_n 1, 1) := by decide +kernel
theorem dX12_nearest_58 : decode cX12_nearest 58 = .ok (.iload_n 3, 1) := by decide +kernel
theorem dX12_nearest_59 : decode cX12_nearest 59 = .ok (.iload_n 2, 1) := by decide +kernel
theorem dX12_nearest_60 : decode cX12_nearest 60 = .ok (.invokevirtual 371, 3) := by decide +kernel
theorem dX12_nearest_63 : decode cX12_nearest 63 = .ok (.if_icmp .ge 8, 3) := by decide +kernel
theorem dX12_nearest_66 : decode cX12_nearest 66 = .ok (.iload 4, 2) := by decide +kernel
theorem dX12_nearest_68 : decode cX12_nearest 68 = .ok (.goto 4, 3) := by decide +kernel
theorem dX12_nearest_71 : decode cX12_nearest 71 = .ok (.iload_n 3, 1) := by decide +kernel
theorem dX12_nearest_72 : decode cX12_nearest 72 = .ok (.istore_n 3, 1) := by decide +kernel
theorem dX12_nearest_73 : decode cX12_nearest 73 = .ok (.iinc 4 1, 3) := by decide +kernel
theorem dX12_nearest_76 : decode cX12_nearest 76 = .ok (.goto (-35), 3) := by decide +kernel
theorem dX12_nearest_79 : decode cX12_nearest 79 = .ok (.iload_n 3, 1) := by decide +kernel
theorem dX12_nearest_80 : decode cX12_nearest 80 = .ok (.ireturn, 1) := by decide +kernel
theorem dX12_cannot_0 : decode cX12_cannot 0 = .ok (.aload_n 0, 1) := by decide +kernel
theorem dX12_cannot_1 : decode cX12_cannot 1 = .ok (.iconst 0, 1) := by decide +kernel
theorem dX12_cannot_2 : decode cX12_cannot 2 = .ok (.putfield 3, 3) := by decide +kernel
theorem dX12_cannot_5 : decode cX12_cannot 5 = .ok (.aload_n 0, 1) := by decide +kernel
theorem dX12_cannot_6 : decode cX12_cannot 6 = .ok (.iload_n 1, 1) := by decide +kernel
theorem dX12_cannot_7 : decode cX12_cannot 7 = .ok (.invokestatic 377, 3) := by decide +kernel
theorem dX12_cannot_10 : decode cX12_cannot 10 = .ok (.iconst 1, 1) := by decide +kernel
theorem dX12_cannot_11 : decode cX12_cannot 11 = .ok (.invokevirtual 282, 3) := by decide +kernel
theorem dX12_cannot_14 : decode cX12_cannot 14 = .ok (.ifCond .eq 5, 3) := by decide +kernel
theorem dX12_cannot_17 : decode cX12_cannot 17 = .ok (.iconst 0, 1) := by decide +kernel
theorem dX12_cannot_18 : decode cX12_cannot 18 = .ok (.ireturn, 1) := by decide +kernel
theorem dX12_cannot_19 : decode cX12_cannot 19 = .ok (.iconst 0, 1) := by decide +kernel
theorem dX12_cannot_20 : decode cX12_cannot 20 = .ok (.istore_n 2, 1) := by decide +kernel
theorem dX12_cannot_21 : decode cX12_cannot 21 = .ok (.iconst 0, 1) := by decide +kernel
theorem dX12_cannot_22 : decode cX12_cannot 22 = .ok (.istore_n 3, 1) := by decide +kernel
theorem dX12_cannot_23 : decode cX12_cannot 23 = .ok (.iload_n 3, 1) := by decide +kernel
theorem dX12_cannot_24 : decode cX12_cannot 24 = .ok (.aload_n 0, 1) := by decide +kernel
theorem dX12_cannot_25 : decode cX12_cannot 25 = .ok (.invokevirtual 94, 3) := by decide +kernel
theorem dX12_cannot_28 : decode cX12_cannot 28 = .ok (.if_icmp .ge 29, 3) := by decide +kernel
theorem dX12_cannot_31 : decode cX12_cannot 31 = .ok (.iload_n 2, 1) := by decide +kernel
theorem dX12_cannot_32 : decode cX12_cannot 32 = .ok (.aload_n 0, 1) := by decide +kernel
theorem dX12_cannot_33 : decode cX12_cannot 33 = .ok (.iload_n 3, 1) := by decide +kernel
theorem dX12_cannot_34 : decode cX12_cannot 34 = .ok (.iconst 0, 1) := by decide +kernel
theorem dX12_cannot_35 : decode cX12_cannot 35 = .ok (.invokevirtual 323, 3) := by decide +kernel
theorem dX12_cannot_38 : decode cX12_cannot 38 = .ok (.iload_n 1, 1) := by decide +kernel
theorem dX12_cannot_39 : decode cX12_cannot 39 = .ok (.if_icmp .le 9, 3) := by decide +kernel
theorem dX12_cannot_42 : decode cX12_cannot 42 = .ok (.iconst 1, 1) := by decide +kernel
theorem dX12_cannot_43 : decode cX12_cannot 43 = .ok (.iload_n 3, 1) := by decide +kernel
theorem dX12_cannot_44 : decode cX12_cannot 44 = .ok (.ishl, 1) := by decide +kernel
theorem dX12_cannot_45 : decode cX12_cannot 45 = .ok (.goto 4, 3) := by decide +kernel
theorem dX12_cannot_48 : decode cX12_cannot 48 = .ok (.iconst 0, 1) := by decide +kernel
theorem dX12_cannot_49 : decode cX12_cannot 49 = .ok (.ior, 1) := by decide +kernel
theorem dX12_cannot_50 : decode cX12_cannot 50 = .ok (.istore_n 2, 1) := by decide +kernel
theorem dX12_cannot_51 : decode cX12_cannot 51 = .ok (.iinc 3 1, 3) := by decide +kernel
theorem dX12_cannot_54 : decode cX12_cannot 54 = .ok (.goto (-31), 3) := by decide +kernel
theorem dX12_cannot_57 : decode cX12_cannot 57 = .ok (.iload_n 2, 1) := by decide +kernel
theorem dX12_cannot_58 : decode cX12_cannot 58 = .ok (.ireturn, 1) := by decide +kernel
theorem dX12_leastFor_0 : decode cX12_leastFor 0 = .ok (.iconst 0, 1) := by decide +kernel
theorem dX12_leastFor_1 : decode cX12_leastFor 1 = .ok (.istore_n 3, 1) := by decide +kernel
theorem dX12_leastFor_2 : decode cX12_leastFor 2 = .ok (.iload_n 3, 1) := by decide +kernel
theorem dX12_leastFor_3 : decode cX12_leastFor 3 = .ok (.bipush 30, 2) := by decide +kernel
theorem dX12_leastFor_5 : decode cX12_leastFor 5 = .ok (.if_icmp .ge 24, 3) := by decide +kernel
theorem dX12_leastFor_8 : decode cX12_leastFor 8 = .ok (.aload_n 0, 1) := by decide +kernel
theorem dX12_leastFor_9 : decode cX12_leastFor 9 = .ok (.getfield 42, 3) := by decide +kernel
theorem dX12_leastFor_12 : decode cX12_leastFor 12 = .ok (.bipush 31, 2) := by decide +kernel
theorem dX12_leastFor_14 : decode cX12_leastFor 14 = .ok (.iload_n 1, 1) := by decide +kernel
theorem dX12_leastFor_15 : decode cX12_leastFor 15 = .ok (.imul, 1) := by decide +kernel
theorem dX12_leastFor_16 : decode cX12_leastFor 16 = .ok (.iload_n 3, 1) := by decide +kernel
theorem dX12_leastFor_17 : decode cX12_leastFor 17 = .ok (.iadd, 1) := by decide +kernel
theorem dX12_leastFor_18 : decode cX12_leastFor 18 = .ok (.iaload, 1) := by decide +kernel
theorem dX12_leastFor_19 : decode cX12_leastFor 19 = .ok (.iload_n 2, 1) := by decide +kernel
theorem dX12_leastFor_20 : decode cX12_leastFor 20 = .ok (.if_icmp .ge 9, 3) := by decide +kernel
theorem dX12_leastFor_23 : decode cX12_leastFor 23 = .ok (.iinc 3 1, 3) := by decide +kernel
theorem dX12_leastFor_26 : decode cX12_leastFor 26 = .ok (.goto (-24), 3) := by decide +kernel
theorem dX12_leastFor_29 : decode cX12_leastFor 29 = .ok (.iload_n 3, 1) := by decide +kernel
theorem dX12_leastFor_30 : decode cX12_leastFor 30 = .ok (.ireturn, 1) := by decide +kernel
theorem dX12_shortBy_0 : decode cX12_shortBy 0 = .ok (.iconst 2, 1) := by decide +kernel
theorem dX12_shortBy_1 : decode cX12_shortBy 1 = .ok (.aload_n 0, 1) := by decide +kernel
theorem dX12_shortBy_2 : decode cX12_shortBy 2 = .ok (.getfield 13, 3) := by decide +kernel
theorem dX12_shortBy_5 : decode cX12_shortBy 5 = .ok (.iconst 3, 1) := by decide +kernel
theorem dX12_shortBy_6 : decode cX12_shortBy 6 = .ok (.iaload, 1) := by decide +kernel
theorem dX12_shortBy_7 : decode cX12_shortBy 7 = .ok (.imul, 1) := by decide +kernel
theorem dX12_shortBy_8 : decode cX12_shortBy 8 = .ok (.aload_n 0, 1) := by decide +kernel
theorem dX12_shortBy_9 : decode cX12_shortBy 9 = .ok (.getfield 13, 3) := by decide +kernel
theorem dX12_shortBy_12 : decode cX12_shortBy 12 = .ok (.iconst 5, 1) := by decide +kernel
theorem dX12_shortBy_13 : decode cX12_shortBy 13 = .ok (.iaload, 1) := by decide +kernel
theorem dX12_shortBy_14 : decode cX12_shortBy 14 = .ok (.iadd, 1) := by decide +kernel
theorem dX12_shortBy_15 : decode cX12_shortBy 15 = .ok (.aload_n 0, 1) := by decide +kernel
theorem dX12_shortBy_16 : decode cX12_shortBy 16 = .ok (.getfield 13, 3) := by decide +kernel
theorem dX12_shortBy_19 : decode cX12_shortBy 19 = .ok (.iconst 2, 1) := by decide +kernel
theorem dX12_shortBy_20 : decode cX12_shortBy 20 = .ok (.iaload, 1) := by decide +kernel
theorem dX12_shortBy_21 : decode cX12_shortBy 21 = .ok (.isub, 1) := by decide +kernel
theorem dX12_shortBy_22 : decode cX12_shortBy 22 = .ok (.istore_n 3, 1) := by decide +kernel
theorem dX12_shortBy_23 : decode cX12_shortBy 23 = .ok (.iconst 0, 1) := by decide +kernel
theorem dX12_shortBy_24 : decode cX12_shortBy 24 = .ok (.istore 4, 2) := by decide +kernel
theorem dX12_shortBy_26 : decode cX12_shortBy 26 = .ok (.iload 4, 2) := by decide +kernel
theorem dX12_shortBy_28 : decode cX12_shortBy 28 = .ok (.iload_n 2, 1) := by decide +kernel
theorem dX12_shortBy_29 : decode cX12_shortBy 29 = .ok (.if_icmp .ge 38, 3) := by decide +kernel
theorem dX12_shortBy_32 : decode cX12_shortBy 32 = .ok (.iload_n 3, 1) := by decide +kernel
theorem dX12_shortBy_33 : decode cX12_shortBy 33 = .ok (.aload_n 0, 1) := by decide +kernel
theorem dX12_shortBy_34 : decode cX12_shortBy 34 = .ok (.iload 4, 2) := by decide +kernel
theorem dX12_shortBy_36 : decode cX12_shortBy 36 = .ok (.invokevirtual 333, 3) := by decide +kernel
theorem dX12_shortBy_39 : decode cX12_shortBy 39 = .ok (.iload 4, 2) := by decide +kernel
theorem dX12_shortBy_41 : decode cX12_shortBy 41 = .ok (.iload_n 2, 1) := by decide +kernel
theorem dX12_shortBy_42 : decode cX12_shortBy 42 = .ok (.iconst 1, 1) := by decide +kernel
theorem dX12_shortBy_43 : decode cX12_shortBy 43 = .ok (.isub, 1) := by decide +kernel
theorem dX12_shortBy_44 : decode cX12_shortBy 44 = .ok (.if_icmp .ge 13, 3) := by decide +kernel
theorem dX12_shortBy_47 : decode cX12_shortBy 47 = .ok (.aload_n 0, 1) := by decide +kernel
theorem dX12_shortBy_48 : decode cX12_shortBy 48 = .ok (.iload 4, 2) := by decide +kernel
theorem dX12_shortBy_50 : decode cX12_shortBy 50 = .ok (.iload_n 1, 1) := by decide +kernel
theorem dX12_shortBy_51 : decode cX12_shortBy 51 = .ok (.invokevirtual 444, 3) := by decide +kernel
theorem dX12_shortBy_54 : decode cX12_shortBy 54 = .ok (.goto 4, 3) := by decide +kernel
theorem dX12_shortBy_57 : decode cX12_shortBy 57 = .ok (.iconst 0, 1) := by decide +kernel
theorem dX12_shortBy_58 : decode cX12_shortBy 58 = .ok (.iadd, 1) := by decide +kernel
theorem dX12_shortBy_59 : decode cX12_shortBy 59 = .ok (.iadd, 1) := by decide +kernel
theorem dX12_shortBy_60 : decode cX12_shortBy 60 = .ok (.istore_n 3, 1) := by decide +kernel
theorem dX12_shortBy_61 : decode cX12_shortBy 61 = .ok (.iinc 4 1, 3) := by decide +kernel
theorem dX12_shortBy_64 : decode cX12_shortBy 64 = .ok (.goto (-38), 3) := by decide +kernel
theorem dX12_shortBy_67 : decode cX12_shortBy 67 = .ok (.iload_n 3, 1) := by decide +kernel
theorem dX12_shortBy_68 : decode cX12_shortBy 68 = .ok (.ireturn, 1) := by decide +kernel
theorem dX12_lacks_0 : decode cX12_lacks 0 = .ok (.aload_n 0, 1) := by decide +kernel
theorem dX12_lacks_1 : decode cX12_lacks 1 = .ok (.iconst 0, 1) := by decide +kernel
theorem dX12_lacks_2 : decode cX12_lacks 2 = .ok (.putfield 3, 3) := by decide +kernel
theorem dX12_lacks_5 : decode cX12_lacks 5 = .ok (.aload_n 0, 1) := by decide +kernel
theorem dX12_lacks_6 : decode cX12_lacks 6 = .ok (.iload_n 1, 1) := by decide +kernel
theorem dX12_lacks_7 : decode cX12_lacks 7 = .ok (.invokestatic 377, 3) := by decide +kernel
theorem dX12_lacks_10 : decode cX12_lacks 10 = .ok (.iconst 1, 1) := by decide +kernel
theorem dX12_lacks_11 : decode cX12_lacks 11 = .ok (.invokevirtual 282, 3) := by decide +kernel
theorem dX12_lacks_14 : decode cX12_lacks 14 = .ok (.ifCond .eq 5, 3) := by decide +kernel
theorem dX12_lacks_17 : decode cX12_lacks 17 = .ok (.iconst 0, 1) := by decide +kernel
theorem dX12_lacks_18 : decode cX12_lacks 18 = .ok (.ireturn, 1) := by decide +kernel
theorem dX12_lacks_19 : decode cX12_lacks 19 = .ok (.aload_n 0, 1) := by decide +kernel
theorem dX12_lacks_20 : decode cX12_lacks 20 = .ok (.invokevirtual 380, 3) := by decide +kernel
theorem dX12_lacks_23 : decode cX12_lacks 23 = .ok (.aload_n 0, 1) := by decide +kernel
theorem dX12_lacks_24 : decode cX12_lacks 24 = .ok (.iload_n 1, 1) := by decide +kernel
theorem dX12_lacks_25 : decode cX12_lacks 25 = .ok (.aload_n 0, 1) := by decide +kernel
theorem dX12_lacks_26 : decode cX12_lacks 26 = .ok (.invokevirtual 68, 3) := by decide +kernel
theorem dX12_lacks_29 : decode cX12_lacks 29 = .ok (.invokevirtual 447, 3) := by decide +kernel
theorem dX12_lacks_32 : decode cX12_lacks 32 = .ok (.ireturn, 1) := by decide +kernel
theorem dX12_harmBy_0 : decode cX12_harmBy 0 = .ok (.iload_n 2, 1) := by decide +kernel
theorem dX12_harmBy_1 : decode cX12_harmBy 1 = .ok (.iload_n 2, 1) := by decide +kernel
theorem dX12_harmBy_2 : decode cX12_harmBy 2 = .ok (.imul, 1) := by decide +kernel
theorem dX12_harmBy_3 : decode cX12_harmBy 3 = .ok (.aload_n 0, 1) := by decide +kernel
theorem dX12_harmBy_4 : decode cX12_harmBy 4 = .ok (.aload_n 0, 1) := by decide +kernel
theorem dX12_harmBy_5 : decode cX12_harmBy 5 = .ok (.iload_n 1, 1) := by decide +kernel
theorem dX12_harmBy_6 : decode cX12_harmBy 6 = .ok (.iconst 0, 1) := by decide +kernel
theorem dX12_harmBy_7 : decode cX12_harmBy 7 = .ok (.invokevirtual 78, 3) := by decide +kernel
theorem dX12_harmBy_10 : decode cX12_harmBy 10 = .ok (.invokevirtual 330, 3) := by decide +kernel
theorem dX12_harmBy_13 : decode cX12_harmBy 13 = .ok (.imul, 1) := by decide +kernel
theorem dX12_harmBy_14 : decode cX12_harmBy 14 = .ok (.ireturn, 1) := by decide +kernel
theorem dX12_canBe_0 : decode cX12_canBe 0 = .ok (.iload_n 2, 1) := by decide +kernel
theorem dX12_canBe_1 : decode cX12_canBe 1 = .ok (.ifCond .eq 24, 3) := by decide +kernel
theorem dX12_canBe_4 : decode cX12_canBe 4 = .ok (.aload_n 0, 1) := by decide +kernel
theorem dX12_canBe_5 : decode cX12_canBe 5 = .ok (.iload_n 1, 1) := by decide +kernel
theorem dX12_canBe_6 : decode cX12_canBe 6 = .ok (.iconst 1, 1) := by decide +kernel
theorem dX12_canBe_7 : decode cX12_canBe 7 = .ok (.invokevirtual 78, 3) := by decide +kernel
theorem dX12_canBe_10 : decode cX12_canBe 10 = .ok (.ifCond .ne 19, 3) := by decide +kernel
theorem dX12_canBe_13 : decode cX12_canBe 13 = .ok (.aload_n 0, 1) := by decide +kernel
theorem dX12_canBe_14 : decode cX12_canBe 14 = .ok (.iload_n 1, 1) := by decide +kernel
theorem dX12_canBe_15 : decode cX12_canBe 15 = .ok (.iconst 1, 1) := by decide +kernel
theorem dX12_canBe_16 : decode cX12_canBe 16 = .ok (.invokevirtual 84, 3) := by decide +kernel
theorem dX12_canBe_19 : decode cX12_canBe 19 = .ok (.iload_n 2, 1) := by decide +kernel
theorem dX12_canBe_20 : decode cX12_canBe 20 = .ok (.isub, 1) := by decide +kernel
theorem dX12_canBe_21 : decode cX12_canBe 21 = .ok (.iconst 1, 1) := by decide +kernel
theorem dX12_canBe_22 : decode cX12_canBe 22 = .ok (.if_icmp .lt 7, 3) := by decide +kernel
theorem dX12_canBe_25 : decode cX12_canBe 25 = .ok (.iconst 1, 1) := by decide +kernel
theorem dX12_canBe_26 : decode cX12_canBe 26 = .ok (.goto 4, 3) := by decide +kernel
theorem dX12_canBe_29 : decode cX12_canBe 29 = .ok (.iconst 0, 1) := by decide +kernel
theorem dX12_canBe_30 : decode cX12_canBe 30 = .ok (.ireturn, 1) := by decide +kernel
theorem dX12_harmFrom_0 : decode cX12_harmFrom 0 = .ok (.aload_n 0, 1) := by decide +kernel
theorem dX12_harmFrom_1 : decode cX12_harmFrom 1 = .ok (.getfield 58, 3) := by decide +kernel
theorem dX12_harmFrom_4 : decode cX12_harmFrom 4 = .ok (.bipush 43, 2) := by decide +kernel
theorem dX12_harmFrom_6 : decode cX12_harmFrom 6 = .ok (.iload_n 1, 1) := by decide +kernel
theorem dX12_harmFrom_7 : decode cX12_harmFrom 7 = .ok (.imul, 1) := by decide +kernel
theorem dX12_harmFrom_8 : decode cX12_harmFrom 8 = .ok (.iconst 0, 1) := by decide +kernel
theorem dX12_harmFrom_9 : decode cX12_harmFrom 9 = .ok (.iload_n 2, 1) := by decide +kernel
theorem dX12_harmFrom_10 : decode cX12_harmFrom 10 = .ok (.invokestatic 72, 3) := by decide +kernel
theorem dX12_harmFrom_13 : decode cX12_harmFrom 13 = .ok (.iadd, 1) := by decide +kernel
theorem dX12_harmFrom_14 : decode cX12_harmFrom 14 = .ok (.iaload, 1) := by decide +kernel
theorem dX12_harmFrom_15 : decode cX12_harmFrom 15 = .ok (.ireturn, 1) := by decide +kernel
theorem dX12_laysHarms_0 : decode cX12_laysHarms 0 = .ok (.iload_n 1, 1) := by decide +kernel
theorem dX12_laysHarms_1 : decode cX12_laysHarms 1 = .ok (.bipush 43, 2) := by decide +kernel
theorem dX12_laysHarms_3 : decode cX12_laysHarms 3 = .ok (.if_icmp .lt 7, 3) := by decide +kernel
theorem dX12_laysHarms_6 : decode cX12_laysHarms 6 = .ok (.ldc_w 326, 3) := by decide +kernel
theorem dX12_laysHarms_9 : decode cX12_laysHarms 9 = .ok (.ireturn, 1) := by decide +kernel
theorem dX12_laysHarms_10 : decode cX12_laysHarms 10 = .ok (.iconst 0, 1) := by decide +kernel
theorem dX12_laysHarms_11 : decode cX12_laysHarms 11 = .ok (.istore_n 2, 1) := by decide +kernel
theorem dX12_laysHarms_12 : decode cX12_laysHarms 12 = .ok (.iload_n 2, 1) := by decide +kernel
theorem dX12_laysHarms_13 : decode cX12_laysHarms 13 = .ok (.bipush 43, 2) := by decide +kernel
theorem dX12_laysHarms_15 : decode cX12_laysHarms 15 = .ok (.if_icmp .ge 34, 3) := by decide +kernel
theorem dX12_laysHarms_18 : decode cX12_laysHarms 18 = .ok (.aload_n 0, 1) := by decide +kernel
theorem dX12_laysHarms_19 : decode cX12_laysHarms 19 = .ok (.getfield 58, 3) := by decide +kernel
theorem dX12_laysHarms_22 : decode cX12_laysHarms 22 = .ok (.bipush 43, 2) := by decide +kernel
theorem dX12_laysHarms_24 : decode cX12_laysHarms 24 = .ok (.aload_n 0, 1) := by decide +kernel
theorem dX12_laysHarms_25 : decode cX12_laysHarms 25 = .ok (.invokevirtual 68, 3) := by decide +kernel
theorem dX12_laysHarms_28 : decode cX12_laysHarms 28 = .ok (.imul, 1) := by decide +kernel
theorem dX12_laysHarms_29 : decode cX12_laysHarms 29 = .ok (.iload_n 2, 1) := by decide +kernel
theorem dX12_laysHarms_30 : decode cX12_laysHarms 30 = .ok (.iadd, 1) := by decide +kernel
theorem dX12_laysHarms_31 : decode cX12_laysHarms 31 = .ok (.iload_n 2, 1) := by decide +kernel
theorem dX12_laysHarms_32 : decode cX12_laysHarms 32 = .ok (.ifCond .ne 7, 3) := by decide +kernel
theorem dX12_laysHarms_35 : decode cX12_laysHarms 35 = .ok (.iconst 0, 1) := by decide +kernel
theorem dX12_laysHarms_36 : decode cX12_laysHarms 36 = .ok (.goto 6, 3) := by decide +kernel
theorem dX12_laysHarms_39 : decode cX12_laysHarms 39 = .ok (.ldc_w 326, 3) := by decide +kernel
theorem dX12_laysHarms_42 : decode cX12_laysHarms 42 = .ok (.iastore, 1) := by decide +kernel
theorem dX12_laysHarms_43 : decode cX12_laysHarms 43 = .ok (.iinc 2 1, 3) := by decide +kernel
theorem dX12_laysHarms_46 : decode cX12_laysHarms 46 = .ok (.goto (-34), 3) := by decide +kernel
theorem dX12_laysHarms_49 : decode cX12_laysHarms 49 = .ok (.aload_n 0, 1) := by decide +kernel
theorem dX12_laysHarms_50 : decode cX12_laysHarms 50 = .ok (.invokevirtual 68, 3) := by decide +kernel
theorem dX12_laysHarms_53 : decode cX12_laysHarms 53 = .ok (.iconst 1, 1) := by decide +kernel
theorem dX12_laysHarms_54 : decode cX12_laysHarms 54 = .ok (.isub, 1) := by decide +kernel
theorem dX12_laysHarms_55 : decode cX12_laysHarms 55 = .ok (.istore_n 2, 1) := by decide +kernel
theorem dX12_laysHarms_56 : decode cX12_laysHarms 56 = .ok (.iload_n 2, 1) := by decide +kernel
theorem dX12_laysHarms_57 : decode cX12_laysHarms 57 = .ok (.ifCond .lt 98, 3) := by decide +kernel
theorem dX12_laysHarms_60 : decode cX12_laysHarms 60 = .ok (.iconst 0, 1) := by decide +kernel
theorem dX12_laysHarms_61 : decode cX12_laysHarms 61 = .ok (.istore_n 3, 1) := by decide +kernel
theorem dX12_laysHarms_62 : decode cX12_laysHarms 62 = .ok (.iload_n 3, 1) := by decide +kernel
theorem dX12_laysHarms_63 : decode cX12_laysHarms 63 = .ok (.bipush 43, 2) := by decide +kernel
theorem dX12_laysHarms_65 : decode cX12_laysHarms 65 = .ok (.if_icmp .ge 84, 3) := by decide +kernel
theorem dX12_laysHarms_68 : decode cX12_laysHarms 68 = .ok (.ldc_w 326, 3) := by decide +kernel
theorem dX12_laysHarms_71 : decode cX12_laysHarms 71 = .ok (.istore 4, 2) := by decide +kernel
theorem dX12_laysHarms_73 : decode cX12_laysHarms 73 = .ok (.iconst 0, 1) := by decide +kernel
theorem dX12_laysHarms_74 : decode cX12_laysHarms 74 = .ok (.istore 5, 2) := by decide +kernel
theorem dX12_laysHarms_76 : decode cX12_laysHarms 76 = .ok (.iload 5, 2) := by decide +kernel
theorem dX12_laysHarms_78 : decode cX12_laysHarms 78 = .ok (.iconst 3, 1) := by decide +kernel
theorem dX12_laysHarms_79 : decode cX12_laysHarms 79 = .ok (.if_icmp .gt 45, 3) := by decide +kernel
theorem dX12_laysHarms_82 : decode cX12_laysHarms 82 = .ok (.aload_n 0, 1) := by decide +kernel
theorem dX12_laysHarms_83 : decode cX12_laysHarms 83 = .ok (.iload_n 2, 1) := by decide +kernel
theorem dX12_laysHarms_84 : decode cX12_laysHarms 84 = .ok (.iload 5, 2) := by decide +kernel
theorem dX12_laysHarms_86 : decode cX12_laysHarms 86 = .ok (.invokevirtual 450, 3) := by decide +kernel
theorem dX12_laysHarms_89 : decode cX12_laysHarms 89 = .ok (.ifCond .eq 29, 3) := by decide +kernel
theorem dX12_laysHarms_92 : decode cX12_laysHarms 92 = .ok (.iload 4, 2) := by decide +kernel
theorem dX12_laysHarms_94 : decode cX12_laysHarms 94 = .ok (.aload_n 0, 1) := by decide +kernel
theorem dX12_laysHarms_95 : decode cX12_laysHarms 95 = .ok (.iload_n 2, 1) := by decide +kernel
theorem dX12_laysHarms_96 : decode cX12_laysHarms 96 = .ok (.iload 5, 2) := by decide +kernel
theorem dX12_laysHarms_98 : decode cX12_laysHarms 98 = .ok (.invokevirtual 453, 3) := by decide +kernel
theorem dX12_laysHarms_101 : decode cX12_laysHarms 101 = .ok (.aload_n 0, 1) := by decide +kernel
theorem dX12_laysHarms_102 : decode cX12_laysHarms 102 = .ok (.iload_n 2, 1) := by decide +kernel
theorem dX12_laysHarms_103 : decode cX12_laysHarms 103 = .ok (.iconst 1, 1) := by decide +kernel
theorem dX12_laysHarms_104 : decode cX12_laysHarms 104 = .ok (.iadd, 1) := by decide +kernel
theorem dX12_laysHarms_105 : decode cX12_laysHarms 105 = .ok (.iload_n 3, 1) := by decide +kernel
theorem dX12_laysHarms_106 : decode cX12_laysHarms 106 = .ok (.iload 5, 2) := by decide +kernel
theorem dX12_laysHarms_108 : decode cX12_laysHarms 108 = .ok (.isub, 1) := by decide +kernel
theorem dX12_laysHarms_109 : decode cX12_laysHarms 109 = .ok (.invokevirtual 456, 3) := by decide +kernel
theorem dX12_laysHarms_112 : decode cX12_laysHarms 112 = .ok (.iadd, 1) := by decide +kernel
theorem dX12_laysHarms_113 : decode cX12_laysHarms 113 = .ok (.invokestatic 310, 3) := by decide +kernel
theorem dX12_laysHarms_116 : decode cX12_laysHarms 116 = .ok (.istore 4, 2) := by decide +kernel
theorem dX12_laysHarms_118 : decode cX12_laysHarms 118 = .ok (.iinc 5 1, 3) := by decide +kernel
theorem dX12_laysHarms_121 : decode cX12_laysHarms 121 = .ok (.goto (-45), 3) := by decide +kernel
theorem dX12_laysHarms_124 : decode cX12_laysHarms 124 = .ok (.aload_n 0, 1) := by decide +kernel
theorem dX12_laysHarms_125 : decode cX12_laysHarms 125 = .ok (.getfield 58, 3) := by decide +kernel
theorem dX12_laysHarms_128 : decode cX12_laysHarms 128 = .ok (.bipush 43, 2) := by decide +kernel
theorem dX12_laysHarms_130 : decode cX12_laysHarms 130 = .ok (.iload_n 2, 1) := by decide +kernel
theorem dX12_laysHarms_131 : decode cX12_laysHarms 131 = .ok (.imul, 1) := by decide +kernel
theorem dX12_laysHarms_132 : decode cX12_laysHarms 132 = .ok (.iload_n 3, 1) := by decide +kernel
theorem dX12_laysHarms_133 : decode cX12_laysHarms 133 = .ok (.iadd, 1) := by decide +kernel
theorem dX12_laysHarms_134 : decode cX12_laysHarms 134 = .ok (.ldc_w 326, 3) := by decide +kernel
theorem dX12_laysHarms_137 : decode cX12_laysHarms 137 = .ok (.iload 4, 2) := by decide +kernel
theorem dX12_laysHarms_139 : decode cX12_laysHarms 139 = .ok (.invokestatic 310, 3) := by decide +kernel
theorem dX12_laysHarms_142 : decode cX12_laysHarms 142 = .ok (.iastore, 1) := by decide +kernel
theorem dX12_laysHarms_143 : decode cX12_laysHarms 143 = .ok (.iinc 3 1, 3) := by decide +kernel
theorem dX12_laysHarms_146 : decode cX12_laysHarms 146 = .ok (.goto (-84), 3) := by decide +kernel
theorem dX12_laysHarms_149 : decode cX12_laysHarms 149 = .ok (.iinc 2 (-1), 3) := by decide +kernel
theorem dX12_laysHarms_152 : decode cX12_laysHarms 152 = .ok (.goto (-96), 3) := by decide +kernel
theorem dX12_laysHarms_155 : decode cX12_laysHarms 155 = .ok (.aload_n 0, 1) := by decide +kernel
theorem dX12_laysHarms_156 : decode cX12_laysHarms 156 = .ok (.iconst 0, 1) := by decide +kernel
theorem dX12_laysHarms_157 : decode cX12_laysHarms 157 = .ok (.iload_n 1, 1) := by decide +kernel
theorem dX12_laysHarms_158 : decode cX12_laysHarms 158 = .ok (.invokevirtual 456, 3) := by decide +kernel
theorem dX12_laysHarms_161 : decode cX12_laysHarms 161 = .ok (.ireturn, 1) := by decide +kernel
theorem dX12_squeezes_0 : decode cX12_squeezes 0 = .ok (.iload_n 1, 1) := by decide +kernel
theorem dX12_squeezes_1 : decode cX12_squeezes 1 = .ok (.istore_n 2, 1) := by decide +kernel
theorem dX12_squeezes_2 : decode cX12_squeezes 2 = .ok (.iconst 0, 1) := by decide +kernel
theorem dX12_squeezes_3 : decode cX12_squeezes 3 = .ok (.istore_n 3, 1) := by decide +kernel
theorem dX12_squeezes_4 : decode cX12_squeezes 4 = .ok (.iconst 0, 1) := by decide +kernel
theorem dX12_squeezes_5 : decode cX12_squeezes 5 = .ok (.istore 4, 2) := by decide +kernel
theorem dX12_squeezes_7 : decode cX12_squeezes 7 = .ok (.iload 4, 2) := by decide +kernel
theorem dX12_squeezes_9 : decode cX12_squeezes 9 = .ok (.aload_n 0, 1) := by decide +kernel
theorem dX12_squeezes_10 : decode cX12_squeezes 10 = .ok (.invokevirtual 68, 3) := by decide +kernel
theorem dX12_squeezes_13 : decode cX12_squeezes 13 = .ok (.if_icmp .ge 81, 3) := by decide +kernel
theorem dX12_squeezes_16 : decode cX12_squeezes 16 = .ok (.iconst 0, 1) := by decide +kernel
theorem dX12_squeezes_17 : decode cX12_squeezes 17 = .ok (.istore 5, 2) := by decide +kernel
theorem dX12_squeezes_19 : decode cX12_squeezes 19 = .ok (.aload_n 0, 1) := by decide +kernel
theorem dX12_squeezes_20 : decode cX12_squeezes 20 = .ok (.iload 4, 2) := by decide +kernel
theorem dX12_squeezes_22 : decode cX12_squeezes 22 = .ok (.iload 5, 2) := by decide +kernel
theorem dX12_squeezes_24 : decode cX12_squeezes 24 = .ok (.invokevirtual 450, 3) := by decide +kernel
theorem dX12_squeezes_27 : decode cX12_squeezes 27 = .ok (.ifCond .eq 34, 3) := by decide +kernel
theorem dX12_squeezes_30 : decode cX12_squeezes 30 = .ok (.aload_n 0, 1) := by decide +kernel
theorem dX12_squeezes_31 : decode cX12_squeezes 31 = .ok (.iload 4, 2) := by decide +kernel
theorem dX12_squeezes_33 : decode cX12_squeezes 33 = .ok (.iload 5, 2) := by decide +kernel
theorem dX12_squeezes_35 : decode cX12_squeezes 35 = .ok (.invokevirtual 453, 3) := by decide +kernel
theorem dX12_squeezes_38 : decode cX12_squeezes 38 = .ok (.aload_n 0, 1) := by decide +kernel
theorem dX12_squeezes_39 : decode cX12_squeezes 39 = .ok (.iload 4, 2) := by decide +kernel
theorem dX12_squeezes_41 : decode cX12_squeezes 41 = .ok (.iconst 1, 1) := by decide +kernel
theorem dX12_squeezes_42 : decode cX12_squeezes 42 = .ok (.iadd, 1) := by decide +kernel
theorem dX12_squeezes_43 : decode cX12_squeezes 43 = .ok (.iload_n 2, 1) := by decide +kernel
theorem dX12_squeezes_44 : decode cX12_squeezes 44 = .ok (.iload 5, 2) := by decide +kernel
theorem dX12_squeezes_46 : decode cX12_squeezes 46 = .ok (.isub, 1) := by decide +kernel
theorem dX12_squeezes_47 : decode cX12_squeezes 47 = .ok (.invokevirtual 456, 3) := by decide +kernel
theorem dX12_squeezes_50 : decode cX12_squeezes 50 = .ok (.iadd, 1) := by decide +kernel
theorem dX12_squeezes_51 : decode cX12_squeezes 51 = .ok (.aload_n 0, 1) := by decide +kernel
theorem dX12_squeezes_52 : decode cX12_squeezes 52 = .ok (.iload 4, 2) := by decide +kernel
theorem dX12_squeezes_54 : decode cX12_squeezes 54 = .ok (.iload_n 2, 1) := by decide +kernel
theorem dX12_squeezes_55 : decode cX12_squeezes 55 = .ok (.invokevirtual 456, 3) := by decide +kernel
theorem dX12_squeezes_58 : decode cX12_squeezes 58 = .ok (.if_icmp .eq 9, 3) := by decide +kernel
theorem dX12_squeezes_61 : decode cX12_squeezes 61 = .ok (.iinc 5 1, 3) := by decide +kernel
theorem dX12_squeezes_64 : decode cX12_squeezes 64 = .ok (.goto (-45), 3) := by decide +kernel
theorem dX12_squeezes_67 : decode cX12_squeezes 67 = .ok (.iload_n 3, 1) := by decide +kernel
theorem dX12_squeezes_68 : decode cX12_squeezes 68 = .ok (.iload 5, 2) := by decide +kernel
theorem dX12_squeezes_70 : decode cX12_squeezes 70 = .ok (.ifCond .le 10, 3) := by decide +kernel
theorem dX12_squeezes_73 : decode cX12_squeezes 73 = .ok (.iconst 1, 1) := by decide +kernel
theorem dX12_squeezes_74 : decode cX12_squeezes 74 = .ok (.iload 4, 2) := by decide +kernel
theorem dX12_squeezes_76 : decode cX12_squeezes 76 = .ok (.ishl, 1) := by decide +kernel
theorem dX12_squeezes_77 : decode cX12_squeezes 77 = .ok (.goto 4, 3) := by decide +kernel
theorem dX12_squeezes_80 : decode cX12_squeezes 80 = .ok (.iconst 0, 1) := by decide +kernel
theorem dX12_squeezes_81 : decode cX12_squeezes 81 = .ok (.ior, 1) := by decide +kernel
theorem dX12_squeezes_82 : decode cX12_squeezes 82 = .ok (.istore_n 3, 1) := by decide +kernel
theorem dX12_squeezes_83 : decode cX12_squeezes 83 = .ok (.iload_n 2, 1) := by decide +kernel
theorem dX12_squeezes_84 : decode cX12_squeezes 84 = .ok (.iload 5, 2) := by decide +kernel
theorem dX12_squeezes_86 : decode cX12_squeezes 86 = .ok (.isub, 1) := by decide +kernel
theorem dX12_squeezes_87 : decode cX12_squeezes 87 = .ok (.istore_n 2, 1) := by decide +kernel
theorem dX12_squeezes_88 : decode cX12_squeezes 88 = .ok (.iinc 4 1, 3) := by decide +kernel
theorem dX12_squeezes_91 : decode cX12_squeezes 91 = .ok (.goto (-84), 3) := by decide +kernel
theorem dX12_squeezes_94 : decode cX12_squeezes 94 = .ok (.iload_n 3, 1) := by decide +kernel
theorem dX12_squeezes_95 : decode cX12_squeezes 95 = .ok (.ireturn, 1) := by decide +kernel
theorem dX12_squeeze_0 : decode cX12_squeeze 0 = .ok (.aload_n 0, 1) := by decide +kernel
theorem dX12_squeeze_1 : decode cX12_squeeze 1 = .ok (.iconst 0, 1) := by decide +kernel
theorem dX12_squeeze_2 : decode cX12_squeeze 2 = .ok (.putfield 3, 3) := by decide +kernel
theorem dX12_squeeze_5 : decode cX12_squeeze 5 = .ok (.aload_n 0, 1) := by decide +kernel
theorem dX12_squeeze_6 : decode cX12_squeeze 6 = .ok (.iload_n 1, 1) := by decide +kernel
theorem dX12_squeeze_7 : decode cX12_squeeze 7 = .ok (.invokestatic 377, 3) := by decide +kernel
theorem dX12_squeeze_10 : decode cX12_squeeze 10 = .ok (.iconst 1, 1) := by decide +kernel
theorem dX12_squeeze_11 : decode cX12_squeeze 11 = .ok (.invokevirtual 282, 3) := by decide +kernel
theorem dX12_squeeze_14 : decode cX12_squeeze 14 = .ok (.ifCond .eq 5, 3) := by decide +kernel
theorem dX12_squeeze_17 : decode cX12_squeeze 17 = .ok (.iconst 0, 1) := by decide +kernel
theorem dX12_squeeze_18 : decode cX12_squeeze 18 = .ok (.ireturn, 1) := by decide +kernel
theorem dX12_squeeze_19 : decode cX12_squeeze 19 = .ok (.aload_n 0, 1) := by decide +kernel
theorem dX12_squeeze_20 : decode cX12_squeeze 20 = .ok (.invokevirtual 380, 3) := by decide +kernel
theorem dX12_squeeze_23 : decode cX12_squeeze 23 = .ok (.aload_n 0, 1) := by decide +kernel
theorem dX12_squeeze_24 : decode cX12_squeeze 24 = .ok (.iload_n 1, 1) := by decide +kernel
theorem dX12_squeeze_25 : decode cX12_squeeze 25 = .ok (.aload_n 0, 1) := by decide +kernel
theorem dX12_squeeze_26 : decode cX12_squeeze 26 = .ok (.invokevirtual 68, 3) := by decide +kernel
theorem dX12_squeeze_29 : decode cX12_squeeze 29 = .ok (.invokevirtual 447, 3) := by decide +kernel
theorem dX12_squeeze_32 : decode cX12_squeeze 32 = .ok (.istore_n 3, 1) := by decide +kernel
theorem dX12_squeeze_33 : decode cX12_squeeze 33 = .ok (.aload_n 0, 1) := by decide +kernel
theorem dX12_squeeze_34 : decode cX12_squeeze 34 = .ok (.iload_n 3, 1) := by decide +kernel
theorem dX12_squeeze_35 : decode cX12_squeeze 35 = .ok (.invokevirtual 459, 3) := by decide +kernel
theorem dX12_squeeze_38 : decode cX12_squeeze 38 = .ok (.istore 4, 2) := by decide +kernel
theorem dX12_squeeze_40 : decode cX12_squeeze 40 = .ok (.iload 4, 2) := by decide +kernel
theorem dX12_squeeze_42 : decode cX12_squeeze 42 = .ok (.ldc_w 326, 3) := by decide +kernel
theorem dX12_squeeze_45 : decode cX12_squeeze 45 = .ok (.if_icmp .ne 7, 3) := by decide +kernel
theorem dX12_squeeze_48 : decode cX12_squeeze 48 = .ok (.iconst (-1), 1) := by decide +kernel
theorem dX12_squeeze_49 : decode cX12_squeeze 49 = .ok (.goto 17, 3) := by decide +kernel
theorem dX12_squeeze_52 : decode cX12_squeeze 52 = .ok (.iload_n 2, 1) := by decide +kernel
theorem dX12_squeeze_53 : decode cX12_squeeze 53 = .ok (.ifCond .eq 11, 3) := by decide +kernel
theorem dX12_squeeze_56 : decode cX12_squeeze 56 = .ok (.aload_n 0, 1) := by decide +kernel
theorem dX12_squeeze_57 : decode cX12_squeeze 57 = .ok (.iload_n 3, 1) := by decide +kernel
theorem dX12_squeeze_58 : decode cX12_squeeze 58 = .ok (.invokevirtual 462, 3) := by decide +kernel
theorem dX12_squeeze_61 : decode cX12_squeeze 61 = .ok (.goto 5, 3) := by decide +kernel
theorem dX12_squeeze_64 : decode cX12_squeeze 64 = .ok (.iload 4, 2) := by decide +kernel
theorem dX12_squeeze_66 : decode cX12_squeeze 66 = .ok (.ireturn, 1) := by decide +kernel
theorem dX12_dropped_0 : decode cX12_dropped 0 = .ok (.aload_n 0, 1) := by decide +kernel
theorem dX12_dropped_1 : decode cX12_dropped 1 = .ok (.iconst 0, 1) := by decide +kernel
theorem dX12_dropped_2 : decode cX12_dropped 2 = .ok (.putfield 3, 3) := by decide +kernel
theorem dX12_dropped_5 : decode cX12_dropped 5 = .ok (.aload_n 0, 1) := by decide +kernel
theorem dX12_dropped_6 : decode cX12_dropped 6 = .ok (.iload_n 1, 1) := by decide +kernel
theorem dX12_dropped_7 : decode cX12_dropped 7 = .ok (.invokestatic 377, 3) := by decide +kernel
theorem dX12_dropped_10 : decode cX12_dropped 10 = .ok (.iconst 1, 1) := by decide +kernel
theorem dX12_dropped_11 : decode cX12_dropped 11 = .ok (.invokevirtual 282, 3) := by decide +kernel
theorem dX12_dropped_14 : decode cX12_dropped 14 = .ok (.ifCond .eq 5, 3) := by decide +kernel
theorem dX12_dropped_17 : decode cX12_dropped 17 = .ok (.iconst 0, 1) := by decide +kernel
theorem dX12_dropped_18 : decode cX12_dropped 18 = .ok (.ireturn, 1) := by decide +kernel
theorem dX12_dropped_19 : decode cX12_dropped 19 = .ok (.aload_n 0, 1) := by decide +kernel
theorem dX12_dropped_20 : decode cX12_dropped 20 = .ok (.invokevirtual 380, 3) := by decide +kernel
theorem dX12_dropped_23 : decode cX12_dropped 23 = .ok (.iconst 0, 1) := by decide +kernel
theorem dX12_dropped_24 : decode cX12_dropped 24 = .ok (.istore_n 2, 1) := by decide +kernel
theorem dX12_dropped_25 : decode cX12_dropped 25 = .ok (.iload_n 2, 1) := by decide +kernel
theorem dX12_dropped_26 : decode cX12_dropped 26 = .ok (.aload_n 0, 1) := by decide +kernel
theorem dX12_dropped_27 : decode cX12_dropped 27 = .ok (.invokevirtual 68, 3) := by decide +kernel
theorem dX12_dropped_30 : decode cX12_dropped 30 = .ok (.if_icmp .ge 25, 3) := by decide +kernel
theorem dX12_dropped_33 : decode cX12_dropped 33 = .ok (.aload_n 0, 1) := by decide +kernel
theorem dX12_dropped_34 : decode cX12_dropped 34 = .ok (.iload_n 1, 1) := by decide +kernel
theorem dX12_dropped_35 : decode cX12_dropped 35 = .ok (.aload_n 0, 1) := by decide +kernel
theorem dX12_dropped_36 : decode cX12_dropped 36 = .ok (.invokevirtual 68, 3) := by decide +kernel
theorem dX12_dropped_39 : decode cX12_dropped 39 = .ok (.iload_n 2, 1) := by decide +kernel
theorem dX12_dropped_40 : decode cX12_dropped 40 = .ok (.isub, 1) := by decide +kernel
theorem dX12_dropped_41 : decode cX12_dropped 41 = .ok (.invokevirtual 447, 3) := by decide +kernel
theorem dX12_dropped_44 : decode cX12_dropped 44 = .ok (.ifCond .gt 5, 3) := by decide +kernel
theorem dX12_dropped_47 : decode cX12_dropped 47 = .ok (.iload_n 2, 1) := by decide +kernel
theorem dX12_dropped_48 : decode cX12_dropped 48 = .ok (.ireturn, 1) := by decide +kernel
theorem dX12_dropped_49 : decode cX12_dropped 49 = .ok (.iinc 2 1, 3) := by decide +kernel
theorem dX12_dropped_52 : decode cX12_dropped 52 = .ok (.goto (-27), 3) := by decide +kernel
theorem dX12_dropped_55 : decode cX12_dropped 55 = .ok (.iconst (-1), 1) := by decide +kernel
theorem dX12_dropped_56 : decode cX12_dropped 56 = .ok (.ireturn, 1) := by decide +kernel
theorem dX12_inkAhead_0 : decode cX12_inkAhead 0 = .ok (.iconst 0, 1) := by decide +kernel
theorem dX12_inkAhead_1 : decode cX12_inkAhead 1 = .ok (.istore_n 2, 1) := by decide +kernel
theorem dX12_inkAhead_2 : decode cX12_inkAhead 2 = .ok (.iconst 0, 1) := by decide +kernel
theorem dX12_inkAhead_3 : decode cX12_inkAhead 3 = .ok (.istore_n 3, 1) := by decide +kernel
theorem dX12_inkAhead_4 : decode cX12_inkAhead 4 = .ok (.iload_n 3, 1) := by decide +kernel
theorem dX12_inkAhead_5 : decode cX12_inkAhead 5 = .ok (.aload_n 0, 1) := by decide +kernel
theorem dX12_inkAhead_6 : decode cX12_inkAhead 6 = .ok (.invokevirtual 68, 3) := by decide +kernel
theorem dX12_inkAhead_9 : decode cX12_inkAhead 9 = .ok (.if_icmp .ge 82, 3) := by decide +kernel
theorem dX12_inkAhead_12 : decode cX12_inkAhead 12 = .ok (.aload_n 0, 1) := by decide +kernel
theorem dX12_inkAhead_13 : decode cX12_inkAhead 13 = .ok (.iload_n 3, 1) := by decide +kernel
theorem dX12_inkAhead_14 : decode cX12_inkAhead 14 = .ok (.invokevirtual 336, 3) := by decide +kernel
theorem dX12_inkAhead_17 : decode cX12_inkAhead 17 = .ok (.istore 4, 2) := by decide +kernel
theorem dX12_inkAhead_19 : decode cX12_inkAhead 19 = .ok (.iconst 0, 1) := by decide +kernel
theorem dX12_inkAhead_20 : decode cX12_inkAhead 20 = .ok (.istore 5, 2) := by decide +kernel
theorem dX12_inkAhead_22 : decode cX12_inkAhead 22 = .ok (.iload 5, 2) := by decide +kernel
theorem dX12_inkAhead_24 : decode cX12_inkAhead 24 = .ok (.iconst 5, 1) := by decide +kernel
theorem dX12_inkAhead_25 : decode cX12_inkAhead 25 = .ok (.if_icmp .ge 60, 3) := by decide +kernel
theorem dX12_inkAhead_28 : decode cX12_inkAhead 28 = .ok (.iload 4, 2) := by decide +kernel
theorem dX12_inkAhead_30 : decode cX12_inkAhead 30 = .ok (.aload_n 0, 1) := by decide +kernel
theorem dX12_inkAhead_31 : decode cX12_inkAhead 31 = .ok (.iload_n 3, 1) := by decide +kernel
theorem dX12_inkAhead_32 : decode cX12_inkAhead 32 = .ok (.iconst 2, 1) := by decide +kernel
theorem dX12_inkAhead_33 : decode cX12_inkAhead 33 = .ok (.iload 5, 2) := by decide +kernel
theorem dX12_inkAhead_35 : decode cX12_inkAhead 35 = .ok (.iadd, 1) := by decide +kernel
theorem dX12_inkAhead_36 : decode cX12_inkAhead 36 = .ok (.invokevirtual 84, 3) := by decide +kernel
theorem dX12_inkAhead_39 : decode cX12_inkAhead 39 = .ok (.iadd, 1) := by decide +kernel
theorem dX12_inkAhead_40 : decode cX12_inkAhead 40 = .ok (.istore 6, 2) := by decide +kernel
theorem dX12_inkAhead_42 : decode cX12_inkAhead 42 = .ok (.iload 4, 2) := by decide +kernel
theorem dX12_inkAhead_44 : decode cX12_inkAhead 44 = .ok (.aload_n 0, 1) := by decide +kernel
theorem dX12_inkAhead_45 : decode cX12_inkAhead 45 = .ok (.iload_n 3, 1) := by decide +kernel
theorem dX12_inkAhead_46 : decode cX12_inkAhead 46 = .ok (.invokevirtual 333, 3) := by decide +kernel
theorem dX12_inkAhead_49 : decode cX12_inkAhead 49 = .ok (.iadd, 1) := by decide +kernel
theorem dX12_inkAhead_50 : decode cX12_inkAhead 50 = .ok (.aload_n 0, 1) := by decide +kernel
theorem dX12_inkAhead_51 : decode cX12_inkAhead 51 = .ok (.iload_n 3, 1) := by decide +kernel
theorem dX12_inkAhead_52 : decode cX12_inkAhead 52 = .ok (.bipush 7, 2) := by decide +kernel
theorem dX12_inkAhead_54 : decode cX12_inkAhead 54 = .ok (.iload 5, 2) := by decide +kernel
theorem dX12_inkAhead_56 : decode cX12_inkAhead 56 = .ok (.iadd, 1) := by decide +kernel
theorem dX12_inkAhead_57 : decode cX12_inkAhead 57 = .ok (.invokevirtual 84, 3) := by decide +kernel
theorem dX12_inkAhead_60 : decode cX12_inkAhead 60 = .ok (.isub, 1) := by decide +kernel
theorem dX12_inkAhead_61 : decode cX12_inkAhead 61 = .ok (.istore 7, 2) := by decide +kernel
theorem dX12_inkAhead_63 : decode cX12_inkAhead 63 = .ok (.iload_n 2, 1) := by decide +kernel
theorem dX12_inkAhead_64 : decode cX12_inkAhead 64 = .ok (.iconst 0, 1) := by decide +kernel
theorem dX12_inkAhead_65 : decode cX12_inkAhead 65 = .ok (.iload_n 1, 1) := by decide +kernel
theorem dX12_inkAhead_66 : decode cX12_inkAhead 66 = .ok (.iload 7, 2) := by decide +kernel
theorem dX12_inkAhead_68 : decode cX12_inkAhead 68 = .ok (.invokestatic 310, 3) := by decide +kernel
theorem dX12_inkAhead_71 : decode cX12_inkAhead 71 = .ok (.iload 6, 2) := by decide +kernel
theorem dX12_inkAhead_73 : decode cX12_inkAhead 73 = .ok (.isub, 1) := by decide +kernel
theorem dX12_inkAhead_74 : decode cX12_inkAhead 74 = .ok (.invokestatic 72, 3) := by decide +kernel
theorem dX12_inkAhead_77 : decode cX12_inkAhead 77 = .ok (.iadd, 1) := by decide +kernel
theorem dX12_inkAhead_78 : decode cX12_inkAhead 78 = .ok (.istore_n 2, 1) := by decide +kernel
theorem dX12_inkAhead_79 : decode cX12_inkAhead 79 = .ok (.iinc 5 1, 3) := by decide +kernel
theorem dX12_inkAhead_82 : decode cX12_inkAhead 82 = .ok (.goto (-60), 3) := by decide +kernel
theorem dX12_inkAhead_85 : decode cX12_inkAhead 85 = .ok (.iinc 3 1, 3) := by decide +kernel
theorem dX12_inkAhead_88 : decode cX12_inkAhead 88 = .ok (.goto (-84), 3) := by decide +kernel
theorem dX12_inkAhead_91 : decode cX12_inkAhead 91 = .ok (.iload_n 2, 1) := by decide +kernel
theorem dX12_inkAhead_92 : decode cX12_inkAhead 92 = .ok (.ireturn, 1) := by decide +kernel
theorem dX12_middleOf_0 : decode cX12_middleOf 0 = .ok (.aload_n 0, 1) := by decide +kernel
theorem dX12_middleOf_1 : decode cX12_middleOf 1 = .ok (.ldc_w 326, 3) := by decide +kernel
theorem dX12_middleOf_4 : decode cX12_middleOf 4 = .ok (.invokevirtual 465, 3) := by decide +kernel
theorem dX12_middleOf_7 : decode cX12_middleOf 7 = .ok (.istore_n 1, 1) := by decide +kernel
theorem dX12_middleOf_8 : decode cX12_middleOf 8 = .ok (.iconst 0, 1) := by decide +kernel
theorem dX12_middleOf_9 : decode cX12_middleOf 9 = .ok (.istore_n 2, 1) := by decide +kernel
theorem dX12_middleOf_10 : decode cX12_middleOf 10 = .ok (.iconst 2, 1) := by decide +kernel
theorem dX12_middleOf_11 : decode cX12_middleOf 11 = .ok (.aload_n 0, 1) := by decide +kernel
theorem dX12_middleOf_12 : decode cX12_middleOf 12 = .ok (.iload_n 2, 1) := by decide +kernel
theorem dX12_middleOf_13 : decode cX12_middleOf 13 = .ok (.invokevirtual 465, 3) := by decide +kernel
theorem dX12_middleOf_16 : decode cX12_middleOf 16 = .ok (.imul, 1) := by decide +kernel
theorem dX12_middleOf_17 : decode cX12_middleOf 17 = .ok (.iload_n 1, 1) := by decide +kernel
theorem dX12_middleOf_18 : decode cX12_middleOf 18 = .ok (.if_icmp .ge 9, 3) := by decide +kernel
theorem dX12_middleOf_21 : decode cX12_middleOf 21 = .ok (.iinc 2 1, 3) := by decide +kernel
theorem dX12_middleOf_24 : decode cX12_middleOf 24 = .ok (.goto (-14), 3) := by decide +kernel
theorem dX12_middleOf_27 : decode cX12_middleOf 27 = .ok (.iload_n 2, 1) := by decide +kernel
theorem dX12_middleOf_28 : decode cX12_middleOf 28 = .ok (.ireturn, 1) := by decide +kernel
theorem dX12_middle_0 : decode cX12_middle 0 = .ok (.aload_n 0, 1) := by decide +kernel
theorem dX12_middle_1 : decode cX12_middle 1 = .ok (.iconst 0, 1) := by decide +kernel
theorem dX12_middle_2 : decode cX12_middle 2 = .ok (.putfield 3, 3) := by decide +kernel
theorem dX12_middle_5 : decode cX12_middle 5 = .ok (.aload_n 0, 1) := by decide +kernel
theorem dX12_middle_6 : decode cX12_middle 6 = .ok (.invokevirtual 468, 3) := by decide +kernel
theorem dX12_middle_9 : decode cX12_middle 9 = .ok (.iload_n 1, 1) := by decide +kernel
theorem dX12_middle_10 : decode cX12_middle 10 = .ok (.ifCond .eq 14, 3) := by decide +kernel
theorem dX12_middle_13 : decode cX12_middle 13 = .ok (.aload_n 0, 1) := by decide +kernel
theorem dX12_middle_14 : decode cX12_middle 14 = .ok (.getfield 13, 3) := by decide +kernel
theorem dX12_middle_17 : decode cX12_middle 17 = .ok (.iconst 2, 1) := by decide +kernel
theorem dX12_middle_18 : decode cX12_middle 18 = .ok (.iaload, 1) := by decide +kernel
theorem dX12_middle_19 : decode cX12_middle 19 = .ok (.iconst 2, 1) := by decide +kernel
theorem dX12_middle_20 : decode cX12_middle 20 = .ok (.idiv, 1) := by decide +kernel
theorem dX12_middle_21 : decode cX12_middle 21 = .ok (.goto 4, 3) := by decide +kernel
theorem dX12_middle_24 : decode cX12_middle 24 = .ok (.iconst 0, 1) := by decide +kernel
theorem dX12_middle_25 : decode cX12_middle 25 = .ok (.isub, 1) := by decide +kernel
theorem dX12_middle_26 : decode cX12_middle 26 = .ok (.ireturn, 1) := by decide +kernel
theorem dX12_strength_0 : decode cX12_strength 0 = .ok (.iconst 0, 1) := by decide +kernel
theorem dX12_strength_1 : decode cX12_strength 1 = .ok (.aload_n 0, 1) := by decide +kernel
theorem dX12_strength_2 : decode cX12_strength 2 = .ok (.getfield 13, 3) := by decide +kernel
theorem dX12_strength_5 : decode cX12_strength 5 = .ok (.bipush 6, 2) := by decide +kernel
theorem dX12_strength_7 : decode cX12_strength 7 = .ok (.iaload, 1) := by decide +kernel
theorem dX12_strength_8 : decode cX12_strength 8 = .ok (.aload_n 0, 1) := by decide +kernel
theorem dX12_strength_9 : decode cX12_strength 9 = .ok (.iload_n 1, 1) := by decide +kernel
theorem dX12_strength_10 : decode cX12_strength 10 = .ok (.iload_n 2, 1) := by decide +kernel
theorem dX12_strength_11 : decode cX12_strength 11 = .ok (.invokevirtual 353, 3) := by decide +kernel
theorem dX12_strength_14 : decode cX12_strength 14 = .ok (.isub, 1) := by decide +kernel
theorem dX12_strength_15 : decode cX12_strength 15 = .ok (.invokestatic 72, 3) := by decide +kernel
theorem dX12_strength_18 : decode cX12_strength 18 = .ok (.ireturn, 1) := by decide +kernel
theorem dX12_runsBy_0 : decode cX12_runsBy 0 = .ok (.aload_n 0, 1) := by decide +kernel
theorem dX12_runsBy_1 : decode cX12_runsBy 1 = .ok (.iload_n 1, 1) := by decide +kernel
theorem dX12_runsBy_2 : decode cX12_runsBy 2 = .ok (.iload_n 2, 1) := by decide +kernel
theorem dX12_runsBy_3 : decode cX12_runsBy 3 = .ok (.invokevirtual 471, 3) := by decide +kernel
theorem dX12_runsBy_6 : decode cX12_runsBy 6 = .ok (.istore_n 3, 1) := by decide +kernel
theorem dX12_runsBy_7 : decode cX12_runsBy 7 = .ok (.iconst 0, 1) := by decide +kernel
theorem dX12_runsBy_8 : decode cX12_runsBy 8 = .ok (.istore 4, 2) := by decide +kernel
theorem dX12_runsBy_10 : decode cX12_runsBy 10 = .ok (.iconst 0, 1) := by decide +kernel
theorem dX12_runsBy_11 : decode cX12_runsBy 11 = .ok (.istore 5, 2) := by decide +kernel
theorem dX12_runsBy_13 : decode cX12_runsBy 13 = .ok (.iload 5, 2) := by decide +kernel
theorem dX12_runsBy_15 : decode cX12_runsBy 15 = .ok (.aload_n 0, 1) := by decide +kernel
theorem dX12_runsBy_16 : decode cX12_runsBy 16 = .ok (.invokevirtual 94, 3) := by decide +kernel
theorem dX12_runsBy_19 : decode cX12_runsBy 19 = .ok (.if_icmp .ge 34, 3) := by decide +kernel
theorem dX12_runsBy_22 : decode cX12_runsBy 22 = .ok (.iload 4, 2) := by decide +kernel
theorem dX12_runsBy_24 : decode cX12_runsBy 24 = .ok (.iload_n 3, 1) := by decide +kernel
theorem dX12_runsBy_25 : decode cX12_runsBy 25 = .ok (.aload_n 0, 1) := by decide +kernel
theorem dX12_runsBy_26 : decode cX12_runsBy 26 = .ok (.iload 5, 2) := by decide +kernel
theorem dX12_runsBy_28 : decode cX12_runsBy 28 = .ok (.invokevirtual 347, 3) := by decide +kernel
theorem dX12_runsBy_31 : decode cX12_runsBy 31 = .ok (.imul, 1) := by decide +kernel
theorem dX12_runsBy_32 : decode cX12_runsBy 32 = .ok (.iload_n 1, 1) := by decide +kernel
theorem dX12_runsBy_33 : decode cX12_runsBy 33 = .ok (.if_icmp .ge 10, 3) := by decide +kernel
theorem dX12_runsBy_36 : decode cX12_runsBy 36 = .ok (.iconst 1, 1) := by decide +kernel
theorem dX12_runsBy_37 : decode cX12_runsBy 37 = .ok (.iload 5, 2) := by decide +kernel
theorem dX12_runsBy_39 : decode cX12_runsBy 39 = .ok (.ishl, 1) := by decide +kernel
theorem dX12_runsBy_40 : decode cX12_runsBy 40 = .ok (.goto 4, 3) := by decide +kernel
theorem dX12_runsBy_43 : decode cX12_runsBy 43 = .ok (.iconst 0, 1) := by decide +kernel
theorem dX12_runsBy_44 : decode cX12_runsBy 44 = .ok (.ior, 1) := by decide +kernel
theorem dX12_runsBy_45 : decode cX12_runsBy 45 = .ok (.istore 4, 2) := by decide +kernel
theorem dX12_runsBy_47 : decode cX12_runsBy 47 = .ok (.iinc 5 1, 3) := by decide +kernel
theorem dX12_runsBy_50 : decode cX12_runsBy 50 = .ok (.goto (-37), 3) := by decide +kernel
theorem dX12_runsBy_53 : decode cX12_runsBy 53 = .ok (.iload 4, 2) := by decide +kernel
theorem dX12_runsBy_55 : decode cX12_runsBy 55 = .ok (.ireturn, 1) := by decide +kernel
theorem dX12_isRead_0 : decode cX12_isRead 0 = .ok (.aload_n 0, 1) := by decide +kernel
theorem dX12_isRead_1 : decode cX12_isRead 1 = .ok (.invokevirtual 94, 3) := by decide +kernel
theorem dX12_isRead_4 : decode cX12_isRead 4 = .ok (.ifCond .ne 20, 3) := by decide +kernel
theorem dX12_isRead_7 : decode cX12_isRead 7 = .ok (.aload_n 0, 1) := by decide +kernel
theorem dX12_isRead_8 : decode cX12_isRead 8 = .ok (.iload_n 1, 1) := by decide +kernel
theorem dX12_isRead_9 : decode cX12_isRead 9 = .ok (.iload_n 2, 1) := by decide +kernel
theorem dX12_isRead_10 : decode cX12_isRead 10 = .ok (.invokevirtual 471, 3) := by decide +kernel
theorem dX12_isRead_13 : decode cX12_isRead 13 = .ok (.ifCond .le 7, 3) := by decide +kernel
theorem dX12_isRead_16 : decode cX12_isRead 16 = .ok (.iconst 1, 1) := by decide +kernel
theorem dX12_isRead_17 : decode cX12_isRead 17 = .ok (.goto 21, 3) := by decide +kernel
theorem dX12_isRead_20 : decode cX12_isRead 20 = .ok (.iconst 0, 1) := by decide +kernel
theorem dX12_isRead_21 : decode cX12_isRead 21 = .ok (.goto 17, 3) := by decide +kernel
theorem dX12_isRead_24 : decode cX12_isRead 24 = .ok (.aload_n 0, 1) := by decide +kernel
theorem dX12_isRead_25 : decode cX12_isRead 25 = .ok (.iload_n 1, 1) := by decide +kernel
theorem dX12_isRead_26 : decode cX12_isRead 26 = .ok (.iload_n 2, 1) := by decide +kernel
theorem dX12_isRead_27 : decode cX12_isRead 27 = .ok (.invokevirtual 474, 3) := by decide +kernel
theorem dX12_isRead_30 : decode cX12_isRead 30 = .ok (.ifCond .ne 7, 3) := by decide +kernel
theorem dX12_isRead_33 : decode cX12_isRead 33 = .ok (.iconst 1, 1) := by decide +kernel
theorem dX12_isRead_34 : decode cX12_isRead 34 = .ok (.goto 4, 3) := by decide +kernel
theorem dX12_isRead_37 : decode cX12_isRead 37 = .ok (.iconst 0, 1) := by decide +kernel
theorem dX12_isRead_38 : decode cX12_isRead 38 = .ok (.ireturn, 1) := by decide +kernel
theorem dX12_read_0 : decode cX12_read 0 = .ok (.aload_n 0, 1) := by decide +kernel
theorem dX12_read_1 : decode cX12_read 1 = .ok (.iconst 0, 1) := by decide +kernel
theorem dX12_read_2 : decode cX12_read 2 = .ok (.putfield 3, 3) := by decide +kernel
theorem dX12_read_5 : decode cX12_read 5 = .ok (.aload_n 0, 1) := by decide +kernel
theorem dX12_read_6 : decode cX12_read 6 = .ok (.iload_n 1, 1) := by decide +kernel
theorem dX12_read_7 : decode cX12_read 7 = .ok (.iload_n 2, 1) := by decide +kernel
theorem dX12_read_8 : decode cX12_read 8 = .ok (.invokestatic 350, 3) := by decide +kernel
theorem dX12_read_11 : decode cX12_read 11 = .ok (.iconst 1, 1) := by decide +kernel
theorem dX12_read_12 : decode cX12_read 12 = .ok (.invokevirtual 282, 3) := by decide +kernel
theorem dX12_read_15 : decode cX12_read 15 = .ok (.ifCond .ne 16, 3) := by decide +kernel
theorem dX12_read_18 : decode cX12_read 18 = .ok (.aload_n 0, 1) := by decide +kernel
theorem dX12_read_19 : decode cX12_read 19 = .ok (.iload_n 1, 1) := by decide +kernel
theorem dX12_read_20 : decode cX12_read 20 = .ok (.iload_n 2, 1) := by decide +kernel
theorem dX12_read_21 : decode cX12_read 21 = .ok (.invokevirtual 477, 3) := by decide +kernel
theorem dX12_read_24 : decode cX12_read 24 = .ok (.ifCond .eq 7, 3) := by decide +kernel
theorem dX12_read_27 : decode cX12_read 27 = .ok (.iconst 1, 1) := by decide +kernel
theorem dX12_read_28 : decode cX12_read 28 = .ok (.goto 4, 3) := by decide +kernel
theorem dX12_read_31 : decode cX12_read 31 = .ok (.iconst 0, 1) := by decide +kernel
theorem dX12_read_32 : decode cX12_read 32 = .ok (.ireturn, 1) := by decide +kernel
theorem dX12_farBy_0 : decode cX12_farBy 0 = .ok (.iconst 0, 1) := by decide +kernel
theorem dX12_farBy_1 : decode cX12_farBy 1 = .ok (.istore_n 2, 1) := by decide +kernel
theorem dX12_farBy_2 : decode cX12_farBy 2 = .ok (.iload_n 2, 1) := by decide +kernel
theorem dX12_farBy_3 : decode cX12_farBy 3 = .ok (.bipush 60, 2) := by decide +kernel
theorem dX12_farBy_5 : decode cX12_farBy 5 = .ok (.if_icmp .ge 20, 3) := by decide +kernel
theorem dX12_farBy_8 : decode cX12_farBy 8 = .ok (.aload_n 0, 1) := by decide +kernel
theorem dX12_farBy_9 : decode cX12_farBy 9 = .ok (.iload_n 2, 1) := by decide +kernel
theorem dX12_farBy_10 : decode cX12_farBy 10 = .ok (.iconst 1, 1) := by decide +kernel
theorem dX12_farBy_11 : decode cX12_farBy 11 = .ok (.iadd, 1) := by decide +kernel
theorem dX12_farBy_12 : decode cX12_farBy 12 = .ok (.iload_n 1, 1) := by decide +kernel
theorem dX12_farBy_13 : decode cX12_farBy 13 = .ok (.invokevirtual 477, 3) := by decide +kernel
theorem dX12_farBy_16 : decode cX12_farBy 16 = .ok (.ifCond .eq 9, 3) := by decide +kernel
theorem dX12_farBy_19 : decode cX12_farBy 19 = .ok (.iinc 2 1, 3) := by decide +kernel
theorem dX12_farBy_22 : decode cX12_farBy 22 = .ok (.goto (-20), 3) := by decide +kernel
theorem dX12_farBy_25 : decode cX12_farBy 25 = .ok (.iload_n 2, 1) := by decide +kernel
theorem dX12_farBy_26 : decode cX12_farBy 26 = .ok (.ireturn, 1) := by decide +kernel
theorem dX12_far_0 : decode cX12_far 0 = .ok (.aload_n 0, 1) := by decide +kernel
theorem dX12_far_1 : decode cX12_far 1 = .ok (.iconst 0, 1) := by decide +kernel
theorem dX12_far_2 : decode cX12_far 2 = .ok (.putfield 3, 3) := by decide +kernel
theorem dX12_far_5 : decode cX12_far 5 = .ok (.aload_n 0, 1) := by decide +kernel
theorem dX12_far_6 : decode cX12_far 6 = .ok (.iload_n 1, 1) := by decide +kernel
theorem dX12_far_7 : decode cX12_far 7 = .ok (.iconst 0, 1) := by decide +kernel
theorem dX12_far_8 : decode cX12_far 8 = .ok (.bipush 9, 2) := by decide +kernel
theorem dX12_far_10 : decode cX12_far 10 = .ok (.invokestatic 90, 3) := by decide +kernel
theorem dX12_far_13 : decode cX12_far 13 = .ok (.ifCond .ne 7, 3) := by decide +kernel
theorem dX12_far_16 : decode cX12_far 16 = .ok (.iconst 1, 1) := by decide +kernel
theorem dX12_far_17 : decode cX12_far 17 = .ok (.goto 4, 3) := by decide +kernel
theorem dX12_far_20 : decode cX12_far 20 = .ok (.iconst 0, 1) := by decide +kernel
theorem dX12_far_21 : decode cX12_far 21 = .ok (.iconst 1, 1) := by decide +kernel
theorem dX12_far_22 : decode cX12_far 22 = .ok (.invokevirtual 282, 3) := by decide +kernel
theorem dX12_far_25 : decode cX12_far 25 = .ok (.ifCond .eq 7, 3) := by decide +kernel
theorem dX12_far_28 : decode cX12_far 28 = .ok (.iconst 0, 1) := by decide +kernel
theorem dX12_far_29 : decode cX12_far 29 = .ok (.goto 8, 3) := by decide +kernel
theorem dX12_far_32 : decode cX12_far 32 = .ok (.aload_n 0, 1) := by decide +kernel
theorem dX12_far_33 : decode cX12_far 33 = .ok (.iload_n 1, 1) := by decide +kernel
theorem dX12_far_34 : decode cX12_far 34 = .ok (.invokevirtual 480, 3) := by decide +kernel
theorem dX12_far_37 : decode cX12_far 37 = .ok (.ireturn, 1) := by decide +kernel
theorem dX12_runs_0 : decode cX12_runs 0 = .ok (.aload_n 0, 1) := by decide +kernel
theorem dX12_runs_1 : decode cX12_runs 1 = .ok (.iconst 0, 1) := by decide +kernel
theorem dX12_runs_2 : decode cX12_runs 2 = .ok (.putfield 3, 3) := by decide +kernel
theorem dX12_runs_5 : decode cX12_runs 5 = .ok (.aload_n 0, 1) := by decide +kernel
theorem dX12_runs_6 : decode cX12_runs 6 = .ok (.iload_n 1, 1) := by decide +kernel
theorem dX12_runs_7 : decode cX12_runs 7 = .ok (.iload_n 2, 1) := by decide +kernel
theorem dX12_runs_8 : decode cX12_runs 8 = .ok (.invokestatic 350, 3) := by decide +kernel
theorem dX12_runs_11 : decode cX12_runs 11 = .ok (.iconst 1, 1) := by decide +kernel
theorem dX12_runs_12 : decode cX12_runs 12 = .ok (.invokevirtual 282, 3) := by decide +kernel
theorem dX12_runs_15 : decode cX12_runs 15 = .ok (.ifCond .eq 7, 3) := by decide +kernel
theorem dX12_runs_18 : decode cX12_runs 18 = .ok (.iconst 0, 1) := by decide +kernel
theorem dX12_runs_19 : decode cX12_runs 19 = .ok (.goto 9, 3) := by decide +kernel
theorem dX12_runs_22 : decode cX12_runs 22 = .ok (.aload_n 0, 1) := by decide +kernel
theorem dX12_runs_23 : decode cX12_runs 23 = .ok (.iload_n 1, 1) := by decide +kernel
theorem dX12_runs_24 : decode cX12_runs 24 = .ok (.iload_n 2, 1) := by decide +kernel
theorem dX12_runs_25 : decode cX12_runs 25 = .ok (.invokevirtual 474, 3) := by decide +kernel
theorem dX12_runs_28 : decode cX12_runs 28 = .ok (.ireturn, 1) := by decide +kernel
theorem dX12_bears_0 : decode cX12_bears 0 = .ok (.aload_n 0, 1) := by decide +kernel
theorem dX12_bears_1 : decode cX12_bears 1 = .ok (.iconst 0, 1) := by decide +kernel
theorem dX12_bears_2 : decode cX12_bears 2 = .ok (.putfield 3, 3) := by decide +kernel
theorem dX12_bears_5 : decode cX12_bears 5 = .ok (.aload_n 0, 1) := by decide +kernel
theorem dX12_bears_6 : decode cX12_bears 6 = .ok (.iload_n 1, 1) := by decide +kernel
theorem dX12_bears_7 : decode cX12_bears 7 = .ok (.iload_n 2, 1) := by decide +kernel
theorem dX12_bears_8 : decode cX12_bears 8 = .ok (.invokestatic 350, 3) := by decide +kernel
theorem dX12_bears_11 : decode cX12_bears 11 = .ok (.iconst 1, 1) := by decide +kernel
theorem dX12_bears_12 : decode cX12_bears 12 = .ok (.invokevirtual 282, 3) := by decide +kernel
theorem dX12_bears_15 : decode cX12_bears 15 = .ok (.ifCond .eq 5, 3) := by decide +kernel
theorem dX12_bears_18 : decode cX12_bears 18 = .ok (.iconst 0, 1) := by decide +kernel
theorem dX12_bears_19 : decode cX12_bears 19 = .ok (.ireturn, 1) := by decide +kernel
theorem dX12_bears_20 : decode cX12_bears 20 = .ok (.aload_n 0, 1) := by decide +kernel
theorem dX12_bears_21 : decode cX12_bears 21 = .ok (.getfield 13, 3) := by decide +kernel
theorem dX12_bears_24 : decode cX12_bears 24 = .ok (.iconst 5, 1) := by decide +kernel
theorem dX12_bears_25 : decode cX12_bears 25 = .ok (.iaload, 1) := by decide +kernel
theorem dX12_bears_26 : decode cX12_bears 26 = .ok (.istore_n 3, 1) := by decide +kernel
theorem dX12_bears_27 : decode cX12_bears 27 = .ok (.iconst (-1), 1) := by decide +kernel
theorem dX12_bears_28 : decode cX12_bears 28 = .ok (.istore 4, 2) := by decide +kernel
theorem dX12_bears_30 : decode cX12_bears 30 = .ok (.iconst 0, 1) := by decide +kernel
theorem dX12_bears_31 : decode cX12_bears 31 = .ok (.istore 5, 2) := by decide +kernel
theorem dX12_bears_33 : decode cX12_bears 33 = .ok (.iload 5, 2) := by decide +kernel
theorem dX12_bears_35 : decode cX12_bears 35 = .ok (.bipush 10, 2) := by decide +kernel
theorem dX12_bears_37 : decode cX12_bears 37 = .ok (.if_icmp .ge 42, 3) := by decide +kernel
theorem dX12_bears_40 : decode cX12_bears 40 = .ok (.aload_n 0, 1) := by decide +kernel
theorem dX12_bears_41 : decode cX12_bears 41 = .ok (.getfield 13, 3) := by decide +kernel
theorem dX12_bears_44 : decode cX12_bears 44 = .ok (.iconst 5, 1) := by decide +kernel
theorem dX12_bears_45 : decode cX12_bears 45 = .ok (.iload 5, 2) := by decide +kernel
theorem dX12_bears_47 : decode cX12_bears 47 = .ok (.iastore, 1) := by decide +kernel
theorem dX12_bears_48 : decode cX12_bears 48 = .ok (.aload_n 0, 1) := by decide +kernel
theorem dX12_bears_49 : decode cX12_bears 49 = .ok (.invokevirtual 441, 3) := by decide +kernel
theorem dX12_bears_52 : decode cX12_bears 52 = .ok (.ifCond .eq 17, 3) := by decide +kernel
theorem dX12_bears_55 : decode cX12_bears 55 = .ok (.aload_n 0, 1) := by decide +kernel
theorem dX12_bears_56 : decode cX12_bears 56 = .ok (.iload_n 1, 1) := by decide +kernel
theorem dX12_bears_57 : decode cX12_bears 57 = .ok (.iload_n 2, 1) := by decide +kernel
theorem dX12_bears_58 : decode cX12_bears 58 = .ok (.invokevirtual 477, 3) := by decide +kernel
theorem dX12_bears_61 : decode cX12_bears 61 = .ok (.ifCond .eq 8, 3) := by decide +kernel
theorem dX12_bears_64 : decode cX12_bears 64 = .ok (.iload 5, 2) := by decide +kernel
theorem dX12_bears_66 : decode cX12_bears 66 = .ok (.goto 5, 3) := by decide +kernel
theorem dX12_bears_69 : decode cX12_bears 69 = .ok (.iload 4, 2) := by decide +kernel
theorem dX12_bears_71 : decode cX12_bears 71 = .ok (.istore 4, 2) := by decide +kernel
theorem dX12_bears_73 : decode cX12_bears 73 = .ok (.iinc 5 1, 3) := by decide +kernel
theorem dX12_bears_76 : decode cX12_bears 76 = .ok (.goto (-43), 3) := by decide +kernel
theorem dX12_bears_79 : decode cX12_bears 79 = .ok (.aload_n 0, 1) := by decide +kernel
theorem dX12_bears_80 : decode cX12_bears 80 = .ok (.getfield 13, 3) := by decide +kernel
theorem dX12_bears_83 : decode cX12_bears 83 = .ok (.iconst 5, 1) := by decide +kernel
theorem dX12_bears_84 : decode cX12_bears 84 = .ok (.iload_n 3, 1) := by decide +kernel
theorem dX12_bears_85 : decode cX12_bears 85 = .ok (.iastore, 1) := by decide +kernel
theorem dX12_bears_86 : decode cX12_bears 86 = .ok (.iload 4, 2) := by decide +kernel
theorem dX12_bears_88 : decode cX12_bears 88 = .ok (.ireturn, 1) := by decide +kernel
theorem dX12_lamp_0 : decode cX12_lamp 0 = .ok (.aload_n 0, 1) := by decide +kernel
theorem dX12_lamp_1 : decode cX12_lamp 1 = .ok (.iconst 0, 1) := by decide +kernel
theorem dX12_lamp_2 : decode cX12_lamp 2 = .ok (.putfield 3, 3) := by decide +kernel
theorem dX12_lamp_5 : decode cX12_lamp 5 = .ok (.iconst 0, 1) := by decide +kernel
theorem dX12_lamp_6 : decode cX12_lamp 6 = .ok (.istore_n 1, 1) := by decide +kernel
theorem dX12_lamp_7 : decode cX12_lamp 7 = .ok (.iconst 1, 1) := by decide +kernel
theorem dX12_lamp_8 : decode cX12_lamp 8 = .ok (.istore_n 2, 1) := by decide +kernel
theorem dX12_lamp_9 : decode cX12_lamp 9 = .ok (.iload_n 2, 1) := by decide +kernel
theorem dX12_lamp_10 : decode cX12_lamp 10 = .ok (.bipush 10, 2) := by decide +kernel
theorem dX12_lamp_12 : decode cX12_lamp 12 = .ok (.if_icmp .ge 28, 3) := by decide +kernel
theorem dX12_lamp_15 : decode cX12_lamp 15 = .ok (.aload_n 0, 1) := by decide +kernel
theorem dX12_lamp_16 : decode cX12_lamp 16 = .ok (.iload_n 2, 1) := by decide +kernel
theorem dX12_lamp_17 : decode cX12_lamp 17 = .ok (.invokevirtual 480, 3) := by decide +kernel
theorem dX12_lamp_20 : decode cX12_lamp 20 = .ok (.aload_n 0, 1) := by decide +kernel
theorem dX12_lamp_21 : decode cX12_lamp 21 = .ok (.iload_n 1, 1) := by decide +kernel
theorem dX12_lamp_22 : decode cX12_lamp 22 = .ok (.invokevirtual 480, 3) := by decide +kernel
theorem dX12_lamp_25 : decode cX12_lamp 25 = .ok (.if_icmp .le 7, 3) := by decide +kernel
theorem dX12_lamp_28 : decode cX12_lamp 28 = .ok (.iload_n 2, 1) := by decide +kernel
theorem dX12_lamp_29 : decode cX12_lamp 29 = .ok (.goto 4, 3) := by decide +kernel
theorem dX12_lamp_32 : decode cX12_lamp 32 = .ok (.iload_n 1, 1) := by decide +kernel
theorem dX12_lamp_33 : decode cX12_lamp 33 = .ok (.istore_n 1, 1) := by decide +kernel
theorem dX12_lamp_34 : decode cX12_lamp 34 = .ok (.iinc 2 1, 3) := by decide +kernel
theorem dX12_lamp_37 : decode cX12_lamp 37 = .ok (.goto (-28), 3) := by decide +kernel
theorem dX12_lamp_40 : decode cX12_lamp 40 = .ok (.iload_n 1, 1) := by decide +kernel
theorem dX12_lamp_41 : decode cX12_lamp 41 = .ok (.ireturn, 1) := by decide +kernel
theorem dX12_seenFrom_0 : decode cX12_seenFrom 0 = .ok (.iconst 0, 1) := by decide +kernel
theorem dX12_seenFrom_1 : decode cX12_seenFrom 1 = .ok (.istore_n 2, 1) := by decide +kernel
theorem dX12_seenFrom_2 : decode cX12_seenFrom 2 = .ok (.ldc_w 326, 3) := by decide +kernel
theorem dX12_seenFrom_5 : decode cX12_seenFrom 5 = .ok (.istore_n 3, 1) := by decide +kernel
theorem dX12_seenFrom_6 : decode cX12_seenFrom 6 = .ok (.iconst 0, 1) := by decide +kernel
theorem dX12_seenFrom_7 : decode cX12_seenFrom 7 = .ok (.istore 4, 2) := by decide +kernel
theorem dX12_seenFrom_9 : decode cX12_seenFrom 9 = .ok (.iload 4, 2) := by decide +kernel
theorem dX12_seenFrom_11 : decode cX12_seenFrom 11 = .ok (.aload_n 0, 1) := by decide +kernel
theorem dX12_seenFrom_12 : decode cX12_seenFrom 12 = .ok (.invokevirtual 94, 3) := by decide +kernel
theorem dX12_seenFrom_15 : decode cX12_seenFrom 15 = .ok (.if_icmp .ge 52, 3) := by decide +kernel
theorem dX12_seenFrom_18 : decode cX12_seenFrom 18 = .ok (.aload_n 0, 1) := by decide +kernel
theorem dX12_seenFrom_19 : decode cX12_seenFrom 19 = .ok (.iload 4, 2) := by decide +kernel
theorem dX12_seenFrom_21 : decode cX12_seenFrom 21 = .ok (.aload_n 0, 1) := by decide +kernel
theorem dX12_seenFrom_22 : decode cX12_seenFrom 22 = .ok (.iload 4, 2) := by decide +kernel
theorem dX12_seenFrom_24 : decode cX12_seenFrom 24 = .ok (.invokevirtual 319, 3) := by decide +kernel
theorem dX12_seenFrom_27 : decode cX12_seenFrom 27 = .ok (.iconst 0, 1) := by decide +kernel
theorem dX12_seenFrom_28 : decode cX12_seenFrom 28 = .ok (.bipush 100, 2) := by decide +kernel
theorem dX12_seenFrom_30 : decode cX12_seenFrom 30 = .ok (.iload_n 1, 1) := by decide +kernel
theorem dX12_seenFrom_31 : decode cX12_seenFrom 31 = .ok (.iload 4, 2) := by decide +kernel
theorem dX12_seenFrom_33 : decode cX12_seenFrom 33 = .ok (.imul, 1) := by decide +kernel
theorem dX12_seenFrom_34 : decode cX12_seenFrom 34 = .ok (.isub, 1) := by decide +kernel
theorem dX12_seenFrom_35 : decode cX12_seenFrom 35 = .ok (.invokestatic 72, 3) := by decide +kernel
theorem dX12_seenFrom_38 : decode cX12_seenFrom 38 = .ok (.imul, 1) := by decide +kernel
theorem dX12_seenFrom_39 : decode cX12_seenFrom 39 = .ok (.bipush 100, 2) := by decide +kernel
theorem dX12_seenFrom_41 : decode cX12_seenFrom 41 = .ok (.idiv, 1) := by decide +kernel
theorem dX12_seenFrom_42 : decode cX12_seenFrom 42 = .ok (.invokevirtual 323, 3) := by decide +kernel
theorem dX12_seenFrom_45 : decode cX12_seenFrom 45 = .ok (.istore 5, 2) := by decide +kernel
theorem dX12_seenFrom_47 : decode cX12_seenFrom 47 = .ok (.iload_n 2, 1) := by decide +kernel
theorem dX12_seenFrom_48 : decode cX12_seenFrom 48 = .ok (.iload 5, 2) := by decide +kernel
theorem dX12_seenFrom_50 : decode cX12_seenFrom 50 = .ok (.invokestatic 72, 3) := by decide +kernel
theorem dX12_seenFrom_53 : decode cX12_seenFrom 53 = .ok (.istore_n 2, 1) := by decide +kernel
theorem dX12_seenFrom_54 : decode cX12_seenFrom 54 = .ok (.iload_n 3, 1) := by decide +kernel
theorem dX12_seenFrom_55 : decode cX12_seenFrom 55 = .ok (.iload 5, 2) := by decide +kernel
theorem dX12_seenFrom_57 : decode cX12_seenFrom 57 = .ok (.invokestatic 310, 3) := by decide +kernel
theorem dX12_seenFrom_60 : decode cX12_seenFrom 60 = .ok (.istore_n 3, 1) := by decide +kernel
theorem dX12_seenFrom_61 : decode cX12_seenFrom 61 = .ok (.iinc 4 1, 3) := by decide +kernel
theorem dX12_seenFrom_64 : decode cX12_seenFrom 64 = .ok (.goto (-55), 3) := by decide +kernel
theorem dX12_seenFrom_67 : decode cX12_seenFrom 67 = .ok (.aload_n 0, 1) := by decide +kernel
theorem dX12_seenFrom_68 : decode cX12_seenFrom 68 = .ok (.invokevirtual 94, 3) := by decide +kernel
theorem dX12_seenFrom_71 : decode cX12_seenFrom 71 = .ok (.iconst 2, 1) := by decide +kernel
theorem dX12_seenFrom_72 : decode cX12_seenFrom 72 = .ok (.if_icmp .ge 7, 3) := by decide +kernel
theorem dX12_seenFrom_75 : decode cX12_seenFrom 75 = .ok (.iconst 0, 1) := by decide +kernel
theorem dX12_seenFrom_76 : decode cX12_seenFrom 76 = .ok (.goto 6, 3) := by decide +kernel
theorem dX12_seenFrom_79 : decode cX12_seenFrom 79 = .ok (.iload_n 2, 1) := by decide +kernel
theorem dX12_seenFrom_80 : decode cX12_seenFrom 80 = .ok (.iload_n 3, 1) := by decide +kernel
theorem dX12_seenFrom_81 : decode cX12_seenFrom 81 = .ok (.isub, 1) := by decide +kernel
theorem dX12_seenFrom_82 : decode cX12_seenFrom 82 = .ok (.ireturn, 1) := by decide +kernel
theorem dX12_aslant_0 : decode cX12_aslant 0 = .ok (.aload_n 0, 1) := by decide +kernel
theorem dX12_aslant_1 : decode cX12_aslant 1 = .ok (.iconst 0, 1) := by decide +kernel
theorem dX12_aslant_2 : decode cX12_aslant 2 = .ok (.putfield 3, 3) := by decide +kernel
theorem dX12_aslant_5 : decode cX12_aslant 5 = .ok (.aload_n 0, 1) := by decide +kernel
theorem dX12_aslant_6 : decode cX12_aslant 6 = .ok (.iload_n 1, 1) := by decide +kernel
theorem dX12_aslant_7 : decode cX12_aslant 7 = .ok (.iconst 0, 1) := by decide +kernel
theorem dX12_aslant_8 : decode cX12_aslant 8 = .ok (.bipush 9, 2) := by decide +kernel
theorem dX12_aslant_10 : decode cX12_aslant 10 = .ok (.invokestatic 90, 3) := by decide +kernel
theorem dX12_aslant_13 : decode cX12_aslant 13 = .ok (.ifCond .ne 7, 3) := by decide +kernel
theorem dX12_aslant_16 : decode cX12_aslant 16 = .ok (.iconst 1, 1) := by decide +kernel
theorem dX12_aslant_17 : decode cX12_aslant 17 = .ok (.goto 4, 3) := by decide +kernel
theorem dX12_aslant_20 : decode cX12_aslant 20 = .ok (.iconst 0, 1) := by decide +kernel
theorem dX12_aslant_21 : decode cX12_aslant 21 = .ok (.iconst 1, 1) := by decide +kernel
theorem dX12_aslant_22 : decode cX12_aslant 22 = .ok (.invokevirtual 282, 3) := by decide +kernel
theorem dX12_aslant_25 : decode cX12_aslant 25 = .ok (.ifCond .eq 7, 3) := by decide +kernel
theorem dX12_aslant_28 : decode cX12_aslant 28 = .ok (.iconst 0, 1) := by decide +kernel
theorem dX12_aslant_29 : decode cX12_aslant 29 = .ok (.goto 8, 3) := by decide +kernel
theorem dX12_aslant_32 : decode cX12_aslant 32 = .ok (.aload_n 0, 1) := by decide +kernel
theorem dX12_aslant_33 : decode cX12_aslant 33 = .ok (.iload_n 1, 1) := by decide +kernel
theorem dX12_aslant_34 : decode cX12_aslant 34 = .ok (.invokevirtual 483, 3) := by decide +kernel
theorem dX12_aslant_37 : decode cX12_aslant 37 = .ok (.ireturn, 1) := by decide +kernel
theorem dX12_from_0 : decode cX12_from 0 = .ok (.aload_n 0, 1) := by decide +kernel
theorem dX12_from_1 : decode cX12_from 1 = .ok (.iconst 0, 1) := by decide +kernel
theorem dX12_from_2 : decode cX12_from 2 = .ok (.putfield 3, 3) := by decide +kernel
theorem dX12_from_5 : decode cX12_from 5 = .ok (.iconst 0, 1) := by decide +kernel
theorem dX12_from_6 : decode cX12_from 6 = .ok (.istore_n 1, 1) := by decide +kernel
theorem dX12_from_7 : decode cX12_from 7 = .ok (.iconst 1, 1) := by decide +kernel
theorem dX12_from_8 : decode cX12_from 8 = .ok (.istore_n 2, 1) := by decide +kernel
theorem dX12_from_9 : decode cX12_from 9 = .ok (.iload_n 2, 1) := by decide +kernel
theorem dX12_from_10 : decode cX12_from 10 = .ok (.bipush 10, 2) := by decide +kernel
theorem dX12_from_12 : decode cX12_from 12 = .ok (.if_icmp .ge 28, 3) := by decide +kernel
theorem dX12_from_15 : decode cX12_from 15 = .ok (.aload_n 0, 1) := by decide +kernel
theorem dX12_from_16 : decode cX12_from 16 = .ok (.iload_n 2, 1) := by decide +kernel
theorem dX12_from_17 : decode cX12_from 17 = .ok (.invokevirtual 483, 3) := by decide +kernel
theorem dX12_from_20 : decode cX12_from 20 = .ok (.aload_n 0, 1) := by decide +kernel
theorem dX12_from_21 : decode cX12_from 21 = .ok (.iload_n 1, 1) := by decide +kernel
theorem dX12_from_22 : decode cX12_from 22 = .ok (.invokevirtual 483, 3) := by decide +kernel
theorem dX12_from_25 : decode cX12_from 25 = .ok (.if_icmp .ge 7, 3) := by decide +kernel
theorem dX12_from_28 : decode cX12_from 28 = .ok (.iload_n 2, 1) := by decide +kernel
theorem dX12_from_29 : decode cX12_from 29 = .ok (.goto 4, 3) := by decide +kernel
theorem dX12_from_32 : decode cX12_from 32 = .ok (.iload_n 1, 1) := by decide +kernel
theorem dX12_from_33 : decode cX12_from 33 = .ok (.istore_n 1, 1) := by decide +kernel
theorem dX12_from_34 : decode cX12_from 34 = .ok (.iinc 2 1, 3) := by decide +kernel
theorem dX12_from_37 : decode cX12_from 37 = .ok (.goto (-28), 3) := by decide +kernel
theorem dX12_from_40 : decode cX12_from 40 = .ok (.iload_n 1, 1) := by decide +kernel
theorem dX12_from_41 : decode cX12_from 41 = .ok (.ireturn, 1) := by decide +kernel
theorem dX12_ends_0 : decode cX12_ends 0 = .ok (.aload_n 0, 1) := by decide +kernel
theorem dX12_ends_1 : decode cX12_ends 1 = .ok (.iconst 0, 1) := by decide +kernel
theorem dX12_ends_2 : decode cX12_ends 2 = .ok (.putfield 3, 3) := by decide +kernel
theorem dX12_ends_5 : decode cX12_ends 5 = .ok (.aload_n 0, 1) := by decide +kernel
theorem dX12_ends_6 : decode cX12_ends 6 = .ok (.iload_n 1, 1) := by decide +kernel
theorem dX12_ends_7 : decode cX12_ends 7 = .ok (.iconst 0, 1) := by decide +kernel
theorem dX12_ends_8 : decode cX12_ends 8 = .ok (.bipush 30, 2) := by decide +kernel
theorem dX12_ends_10 : decode cX12_ends 10 = .ok (.invokestatic 90, 3) := by decide +kernel
theorem dX12_ends_13 : decode cX12_ends 13 = .ok (.ifCond .ne 7, 3) := by decide +kernel
theorem dX12_ends_16 : decode cX12_ends 16 = .ok (.iconst 1, 1) := by decide +kernel
theorem dX12_ends_17 : decode cX12_ends 17 = .ok (.goto 4, 3) := by decide +kernel
theorem dX12_ends_20 : decode cX12_ends 20 = .ok (.iconst 0, 1) := by decide +kernel
theorem dX12_ends_21 : decode cX12_ends 21 = .ok (.iconst 1, 1) := by decide +kernel
theorem dX12_ends_22 : decode cX12_ends 22 = .ok (.invokevirtual 282, 3) := by decide +kernel
theorem dX12_ends_25 : decode cX12_ends 25 = .ok (.ifCond .eq 5, 3) := by decide +kernel
theorem dX12_ends_28 : decode cX12_ends 28 = .ok (.iconst 0, 1) := by decide +kernel
theorem dX12_ends_29 : decode cX12_ends 29 = .ok (.ireturn, 1) := by decide +kernel
theorem dX12_ends_30 : decode cX12_ends 30 = .ok (.aload_n 0, 1) := by decide +kernel
theorem dX12_ends_31 : decode cX12_ends 31 = .ok (.invokevirtual 68, 3) := by decide +kernel
theorem dX12_ends_34 : decode cX12_ends 34 = .ok (.iconst 2, 1) := by decide +kernel
theorem dX12_ends_35 : decode cX12_ends 35 = .ok (.if_icmp .ge 9, 3) := by decide +kernel
theorem dX12_ends_38 : decode cX12_ends 38 = .ok (.sipush (-999), 3) := by decide +kernel
theorem dX12_ends_41 : decode cX12_ends 41 = .ok (.goto 17, 3) := by decide +kernel
theorem dX12_ends_44 : decode cX12_ends 44 = .ok (.aload_n 0, 1) := by decide +kernel
theorem dX12_ends_45 : decode cX12_ends 45 = .ok (.iconst 0, 1) := by decide +kernel
theorem dX12_ends_46 : decode cX12_ends 46 = .ok (.invokevirtual 368, 3) := by decide +kernel
theorem dX12_ends_49 : decode cX12_ends 49 = .ok (.iload_n 1, 1) := by decide +kernel
theorem dX12_ends_50 : decode cX12_ends 50 = .ok (.aload_n 0, 1) := by decide +kernel
theorem dX12_ends_51 : decode cX12_ends 51 = .ok (.invokevirtual 68, 3) := by decide +kernel
theorem dX12_ends_54 : decode cX12_ends 54 = .ok (.iconst 2, 1) := by decide +kernel
theorem dX12_ends_55 : decode cX12_ends 55 = .ok (.isub, 1) := by decide +kernel
theorem dX12_ends_56 : decode cX12_ends 56 = .ok (.imul, 1) := by decide +kernel
theorem dX12_ends_57 : decode cX12_ends 57 = .ok (.isub, 1) := by decide +kernel
theorem dX12_ends_58 : decode cX12_ends 58 = .ok (.ireturn, 1) := by decide +kernel
theorem dX12_isWhites_0 : decode cX12_isWhites 0 = .ok (.aload_n 0, 1) := by decide +kernel
theorem dX12_isWhites_1 : decode cX12_isWhites 1 = .ok (.invokevirtual 271, 3) := by decide +kernel
theorem dX12_isWhites_4 : decode cX12_isWhites 4 = .ok (.aload_n 0, 1) := by decide +kernel
theorem dX12_isWhites_5 : decode cX12_isWhites 5 = .ok (.getfield 107, 3) := by decide +kernel
theorem dX12_isWhites_8 : decode cX12_isWhites 8 = .ok (.iconst 2, 1) := by decide +kernel
theorem dX12_isWhites_9 : decode cX12_isWhites 9 = .ok (.irem, 1) := by decide +kernel
theorem dX12_isWhites_10 : decode cX12_isWhites 10 = .ok (.ifCond .ne 7, 3) := by decide +kernel
theorem dX12_isWhites_13 : decode cX12_isWhites 13 = .ok (.iconst 1, 1) := by decide +kernel
theorem dX12_isWhites_14 : decode cX12_isWhites 14 = .ok (.goto 4, 3) := by decide +kernel
theorem dX12_isWhites_17 : decode cX12_isWhites 17 = .ok (.iconst 0, 1) := by decide +kernel
theorem dX12_isWhites_18 : decode cX12_isWhites 18 = .ok (.ireturn, 1) := by decide +kernel
theorem dX12_toldWhite_0 : decode cX12_toldWhite 0 = .ok (.aload_n 0, 1) := by decide +kernel
theorem dX12_toldWhite_1 : decode cX12_toldWhite 1 = .ok (.getfield 29, 3) := by decide +kernel
theorem dX12_toldWhite_4 : decode cX12_toldWhite 4 = .ok (.iload_n 1, 1) := by decide +kernel
theorem dX12_toldWhite_5 : decode cX12_toldWhite 5 = .ok (.baload, 1) := by decide +kernel
theorem dX12_toldWhite_6 : decode cX12_toldWhite 6 = .ok (.sipush 255, 3) := by decide +kernel
theorem dX12_toldWhite_9 : decode cX12_toldWhite 9 = .ok (.iand, 1) := by decide +kernel
theorem dX12_toldWhite_10 : decode cX12_toldWhite 10 = .ok (.sipush 256, 3) := by decide +kernel
theorem dX12_toldWhite_13 : decode cX12_toldWhite 13 = .ok (.imul, 1) := by decide +kernel
theorem dX12_toldWhite_14 : decode cX12_toldWhite 14 = .ok (.aload_n 0, 1) := by decide +kernel
theorem dX12_toldWhite_15 : decode cX12_toldWhite 15 = .ok (.getfield 29, 3) := by decide +kernel
theorem dX12_toldWhite_18 : decode cX12_toldWhite 18 = .ok (.iload_n 1, 1) := by decide +kernel
theorem dX12_toldWhite_19 : decode cX12_toldWhite 19 = .ok (.iconst 1, 1) := by decide +kernel
theorem dX12_toldWhite_20 : decode cX12_toldWhite 20 = .ok (.iadd, 1) := by decide +kernel
theorem dX12_toldWhite_21 : decode cX12_toldWhite 21 = .ok (.baload, 1) := by decide +kernel
theorem dX12_toldWhite_22 : decode cX12_toldWhite 22 = .ok (.sipush 255, 3) := by decide +kernel
theorem dX12_toldWhite_25 : decode cX12_toldWhite 25 = .ok (.iand, 1) := by decide +kernel
theorem dX12_toldWhite_26 : decode cX12_toldWhite 26 = .ok (.iadd, 1) := by decide +kernel
theorem dX12_toldWhite_27 : decode cX12_toldWhite 27 = .ok (.ireturn, 1) := by decide +kernel
theorem dX12_writersWhite_0 : decode cX12_writersWhite 0 = .ok (.aload_n 0, 1) := by decide +kernel
theorem dX12_writersWhite_1 : decode cX12_writersWhite 1 = .ok (.getfield 13, 3) := by decide +kernel
theorem dX12_writersWhite_4 : decode cX12_writersWhite 4 = .ok (.sipush 215, 3) := by decide +kernel
theorem dX12_writersWhite_7 : decode cX12_writersWhite 7 = .ok (.iconst 2, 1) := by decide +kernel
theorem dX12_writersWhite_8 : decode cX12_writersWhite 8 = .ok (.iload_n 1, 1) := by decide +kernel
theorem dX12_writersWhite_9 : decode cX12_writersWhite 9 = .ok (.imul, 1) := by decide +kernel
theorem dX12_writersWhite_10 : decode cX12_writersWhite 10 = .ok (.iadd, 1) := by decide +kernel
theorem dX12_writersWhite_11 : decode cX12_writersWhite 11 = .ok (.iaload, 1) := by decide +kernel
theorem dX12_writersWhite_12 : decode cX12_writersWhite 12 = .ok (.ireturn, 1) := by decide +kernel
theorem dX12_offOf_0 : decode cX12_offOf 0 = .ok (.iconst 0, 1) := by decide +kernel
theorem dX12_offOf_1 : decode cX12_offOf 1 = .ok (.istore_n 2, 1) := by decide +kernel
theorem dX12_offOf_2 : decode cX12_offOf 2 = .ok (.iconst 0, 1) := by decide +kernel
theorem dX12_offOf_3 : decode cX12_offOf 3 = .ok (.istore_n 3, 1) := by decide +kernel
theorem dX12_offOf_4 : decode cX12_offOf 4 = .ok (.iload_n 3, 1) := by decide +kernel
theorem dX12_offOf_5 : decode cX12_offOf 5 = .ok (.aload_n 0, 1) := by decide +kernel
theorem dX12_offOf_6 : decode cX12_offOf 6 = .ok (.getfield 107, 3) := by decide +kernel
theorem dX12_offOf_9 : decode cX12_offOf 9 = .ok (.if_icmp .ge 26, 3) := by decide +kernel
theorem dX12_offOf_12 : decode cX12_offOf 12 = .ok (.iload_n 2, 1) := by decide +kernel
theorem dX12_offOf_13 : decode cX12_offOf 13 = .ok (.aload_n 0, 1) := by decide +kernel
theorem dX12_offOf_14 : decode cX12_offOf 14 = .ok (.iload_n 3, 1) := by decide +kernel
theorem dX12_offOf_15 : decode cX12_offOf 15 = .ok (.invokevirtual 486, 3) := by decide +kernel
theorem dX12_offOf_18 : decode cX12_offOf 18 = .ok (.aload_n 0, 1) := by decide +kernel
theorem dX12_offOf_19 : decode cX12_offOf 19 = .ok (.iload_n 1, 1) := by decide +kernel
theorem dX12_offOf_20 : decode cX12_offOf 20 = .ok (.invokevirtual 489, 3) := by decide +kernel
theorem dX12_offOf_23 : decode cX12_offOf 23 = .ok (.isub, 1) := by decide +kernel
theorem dX12_offOf_24 : decode cX12_offOf 24 = .ok (.invokestatic 359, 3) := by decide +kernel
theorem dX12_offOf_27 : decode cX12_offOf 27 = .ok (.iadd, 1) := by decide +kernel
theorem dX12_offOf_28 : decode cX12_offOf 28 = .ok (.istore_n 2, 1) := by decide +kernel
theorem dX12_offOf_29 : decode cX12_offOf 29 = .ok (.iinc 3 2, 3) := by decide +kernel
theorem dX12_offOf_32 : decode cX12_offOf 32 = .ok (.goto (-28), 3) := by decide +kernel
theorem dX12_offOf_35 : decode cX12_offOf 35 = .ok (.iload_n 2, 1) := by decide +kernel
theorem dX12_offOf_36 : decode cX12_offOf 36 = .ok (.ireturn, 1) := by decide +kernel
theorem dX12_wrote_0 : decode cX12_wrote 0 = .ok (.aload_n 0, 1) := by decide +kernel
theorem dX12_wrote_1 : decode cX12_wrote 1 = .ok (.invokevirtual 492, 3) := by decide +kernel
theorem dX12_wrote_4 : decode cX12_wrote 4 = .ok (.istore_n 1, 1) := by decide +kernel
theorem dX12_wrote_5 : decode cX12_wrote 5 = .ok (.aload_n 0, 1) := by decide +kernel
theorem dX12_wrote_6 : decode cX12_wrote 6 = .ok (.iload_n 1, 1) := by decide +kernel
theorem dX12_wrote_7 : decode cX12_wrote 7 = .ok (.ifCond .ne 7, 3) := by decide +kernel
theorem dX12_wrote_10 : decode cX12_wrote 10 = .ok (.iconst 1, 1) := by decide +kernel
theorem dX12_wrote_11 : decode cX12_wrote 11 = .ok (.goto 4, 3) := by decide +kernel
theorem dX12_wrote_14 : decode cX12_wrote 14 = .ok (.iconst 0, 1) := by decide +kernel
theorem dX12_wrote_15 : decode cX12_wrote 15 = .ok (.iconst 1, 1) := by decide +kernel
theorem dX12_wrote_16 : decode cX12_wrote 16 = .ok (.invokevirtual 282, 3) := by decide +kernel
theorem dX12_wrote_19 : decode cX12_wrote 19 = .ok (.ifCond .eq 5, 3) := by decide +kernel
theorem dX12_wrote_22 : decode cX12_wrote 22 = .ok (.iconst 0, 1) := by decide +kernel
theorem dX12_wrote_23 : decode cX12_wrote 23 = .ok (.ireturn, 1) := by decide +kernel
theorem dX12_wrote_24 : decode cX12_wrote 24 = .ok (.iconst (-1), 1) := by decide +kernel
theorem dX12_wrote_25 : decode cX12_wrote 25 = .ok (.istore_n 2, 1) := by decide +kernel
theorem dX12_wrote_26 : decode cX12_wrote 26 = .ok (.iconst 0, 1) := by decide +kernel
theorem dX12_wrote_27 : decode cX12_wrote 27 = .ok (.istore_n 3, 1) := by decide +kernel
theorem dX12_wrote_28 : decode cX12_wrote 28 = .ok (.iload_n 3, 1) := by decide +kernel
theorem dX12_wrote_29 : decode cX12_wrote 29 = .ok (.aload_n 0, 1) := by decide +kernel
theorem dX12_wrote_30 : decode cX12_wrote 30 = .ok (.invokevirtual 97, 3) := by decide +kernel
theorem dX12_wrote_33 : decode cX12_wrote 33 = .ok (.if_icmp .ge 32, 3) := by decide +kernel
theorem dX12_wrote_36 : decode cX12_wrote 36 = .ok (.iload_n 2, 1) := by decide +kernel
theorem dX12_wrote_37 : decode cX12_wrote 37 = .ok (.ifCond .lt 16, 3) := by decide +kernel
theorem dX12_wrote_40 : decode cX12_wrote 40 = .ok (.aload_n 0, 1) := by decide +kernel
theorem dX12_wrote_41 : decode cX12_wrote 41 = .ok (.iload_n 3, 1) := by decide +kernel
theorem dX12_wrote_42 : decode cX12_wrote 42 = .ok (.invokevirtual 495, 3) := by decide +kernel
theorem dX12_wrote_45 : decode cX12_wrote 45 = .ok (.aload_n 0, 1) := by decide +kernel
theorem dX12_wrote_46 : decode cX12_wrote 46 = .ok (.iload_n 2, 1) := by decide +kernel
theorem dX12_wrote_47 : decode cX12_wrote 47 = .ok (.invokevirtual 495, 3) := by decide +kernel
theorem dX12_wrote_50 : decode cX12_wrote 50 = .ok (.if_icmp .ge 7, 3) := by decide +kernel
theorem dX12_wrote_53 : decode cX12_wrote 53 = .ok (.iload_n 3, 1) := by decide +kernel
theorem dX12_wrote_54 : decode cX12_wrote 54 = .ok (.goto 4, 3) := by decide +kernel
theorem dX12_wrote_57 : decode cX12_wrote 57 = .ok (.iload_n 2, 1) := by decide +kernel
theorem dX12_wrote_58 : decode cX12_wrote 58 = .ok (.istore_n 2, 1) := by decide +kernel
theorem dX12_wrote_59 : decode cX12_wrote 59 = .ok (.iinc 3 1, 3) := by decide +kernel
theorem dX12_wrote_62 : decode cX12_wrote 62 = .ok (.goto (-34), 3) := by decide +kernel
theorem dX12_wrote_65 : decode cX12_wrote 65 = .ok (.iload_n 2, 1) := by decide +kernel
theorem dX12_wrote_66 : decode cX12_wrote 66 = .ok (.ireturn, 1) := by decide +kernel
theorem dX12_likely_0 : decode cX12_likely 0 = .ok (.aload_n 0, 1) := by decide +kernel
theorem dX12_likely_1 : decode cX12_likely 1 = .ok (.invokevirtual 492, 3) := by decide +kernel
theorem dX12_likely_4 : decode cX12_likely 4 = .ok (.istore_n 2, 1) := by decide +kernel
theorem dX12_likely_5 : decode cX12_likely 5 = .ok (.aload_n 0, 1) := by decide +kernel
theorem dX12_likely_6 : decode cX12_likely 6 = .ok (.aload_n 0, 1) := by decide +kernel
theorem dX12_likely_7 : decode cX12_likely 7 = .ok (.iload_n 1, 1) := by decide +kernel
theorem dX12_likely_8 : decode cX12_likely 8 = .ok (.invokevirtual 408, 3) := by decide +kernel
theorem dX12_likely_11 : decode cX12_likely 11 = .ok (.iconst 1, 1) := by decide +kernel
theorem dX12_likely_12 : decode cX12_likely 12 = .ok (.invokevirtual 282, 3) := by decide +kernel
theorem dX12_likely_15 : decode cX12_likely 15 = .ok (.ifCond .ne 20, 3) := by decide +kernel
theorem dX12_likely_18 : decode cX12_likely 18 = .ok (.aload_n 0, 1) := by decide +kernel
theorem dX12_likely_19 : decode cX12_likely 19 = .ok (.iload_n 2, 1) := by decide +kernel
theorem dX12_likely_20 : decode cX12_likely 20 = .ok (.ifCond .ne 7, 3) := by decide +kernel
theorem dX12_likely_23 : decode cX12_likely 23 = .ok (.iconst 1, 1) := by decide +kernel
theorem dX12_likely_24 : decode cX12_likely 24 = .ok (.goto 4, 3) := by decide +kernel
theorem dX12_likely_27 : decode cX12_likely 27 = .ok (.iconst 0, 1) := by decide +kernel
theorem dX12_likely_28 : decode cX12_likely 28 = .ok (.iconst 2, 1) := by decide +kernel
theorem dX12_likely_29 : decode cX12_likely 29 = .ok (.invokevirtual 282, 3) := by decide +kernel
theorem dX12_likely_32 : decode cX12_likely 32 = .ok (.ifCond .eq 5, 3) := by decide +kernel
theorem dX12_likely_35 : decode cX12_likely 35 = .ok (.iconst 0, 1) := by decide +kernel
theorem dX12_likely_36 : decode cX12_likely 36 = .ok (.ireturn, 1) := by decide +kernel
theorem dX12_likely_37 : decode cX12_likely 37 = .ok (.iconst 0, 1) := by decide +kernel
theorem dX12_likely_38 : decode cX12_likely 38 = .ok (.istore_n 3, 1) := by decide +kernel
theorem dX12_likely_39 : decode cX12_likely 39 = .ok (.iconst 0, 1) := by decide +kernel
theorem dX12_likely_40 : decode cX12_likely 40 = .ok (.istore 4, 2) := by decide +kernel
theorem dX12_likely_42 : decode cX12_likely 42 = .ok (.iload 4, 2) := by decide +kernel
theorem dX12_likely_44 : decode cX12_likely 44 = .ok (.aload_n 0, 1) := by decide +kernel
theorem dX12_likely_45 : decode cX12_likely 45 = .ok (.getfield 107, 3) := by decide +kernel
theorem dX12_likely_48 : decode cX12_likely 48 = .ok (.if_icmp .ge 37, 3) := by decide +kernel
theorem dX12_likely_51 : decode cX12_likely 51 = .ok (.iload_n 3, 1) := by decide +kernel
theorem dX12_likely_52 : decode cX12_likely 52 = .ok (.aload_n 0, 1) := by decide +kernel
theorem dX12_likely_53 : decode cX12_likely 53 = .ok (.iload 4, 2) := by decide +kernel
theorem dX12_likely_55 : decode cX12_likely 55 = .ok (.invokevirtual 486, 3) := by decide +kernel
theorem dX12_likely_58 : decode cX12_likely 58 = .ok (.aload_n 0, 1) := by decide +kernel
theorem dX12_likely_59 : decode cX12_likely 59 = .ok (.iload_n 1, 1) := by decide +kernel
theorem dX12_likely_60 : decode cX12_likely 60 = .ok (.invokevirtual 489, 3) := by decide +kernel
theorem dX12_likely_63 : decode cX12_likely 63 = .ok (.isub, 1) := by decide +kernel
theorem dX12_likely_64 : decode cX12_likely 64 = .ok (.invokestatic 359, 3) := by decide +kernel
theorem dX12_likely_67 : decode cX12_likely 67 = .ok (.bipush 10, 2) := by decide +kernel
theorem dX12_likely_69 : decode cX12_likely 69 = .ok (.if_icmp .gt 7, 3) := by decide +kernel
theorem dX12_likely_72 : decode cX12_likely 72 = .ok (.iconst 1, 1) := by decide +kernel
theorem dX12_likely_73 : decode cX12_likely 73 = .ok (.goto 4, 3) := by decide +kernel
theorem dX12_likely_76 : decode cX12_likely 76 = .ok (.iconst 0, 1) := by decide +kernel
theorem dX12_likely_77 : decode cX12_likely 77 = .ok (.iadd, 1) := by decide +kernel
theorem dX12_likely_78 : decode cX12_likely 78 = .ok (.istore_n 3, 1) := by decide +kernel
theorem dX12_likely_79 : decode cX12_likely 79 = .ok (.iinc 4 2, 3) := by decide +kernel
theorem dX12_likely_82 : decode cX12_likely 82 = .ok (.goto (-40), 3) := by decide +kernel
theorem dX12_likely_85 : decode cX12_likely 85 = .ok (.iload_n 3, 1) := by decide +kernel
theorem dX12_likely_86 : decode cX12_likely 86 = .ok (.ireturn, 1) := by decide +kernel
theorem dX12_lookers_0 : decode cX12_lookers 0 = .ok (.aload_n 0, 1) := by decide +kernel
theorem dX12_lookers_1 : decode cX12_lookers 1 = .ok (.iconst 0, 1) := by decide +kernel
theorem dX12_lookers_2 : decode cX12_lookers 2 = .ok (.putfield 3, 3) := by decide +kernel
theorem dX12_lookers_5 : decode cX12_lookers 5 = .ok (.aload_n 0, 1) := by decide +kernel
theorem dX12_lookers_6 : decode cX12_lookers 6 = .ok (.invokevirtual 435, 3) := by decide +kernel
theorem dX12_lookers_9 : decode cX12_lookers 9 = .ok (.istore_n 2, 1) := by decide +kernel
theorem dX12_lookers_10 : decode cX12_lookers 10 = .ok (.iconst 0, 1) := by decide +kernel
theorem dX12_lookers_11 : decode cX12_lookers 11 = .ok (.istore_n 3, 1) := by decide +kernel
theorem dX12_lookers_12 : decode cX12_lookers 12 = .ok (.iconst 0, 1) := by decide +kernel
theorem dX12_lookers_13 : decode cX12_lookers 13 = .ok (.istore 4, 2) := by decide +kernel
theorem dX12_lookers_15 : decode cX12_lookers 15 = .ok (.iload 4, 2) := by decide +kernel
theorem dX12_lookers_17 : decode cX12_lookers 17 = .ok (.aload_n 0, 1) := by decide +kernel
theorem dX12_lookers_18 : decode cX12_lookers 18 = .ok (.getfield 13, 3) := by decide +kernel
theorem dX12_lookers_21 : decode cX12_lookers 21 = .ok (.bipush 8, 2) := by decide +kernel
theorem dX12_lookers_23 : decode cX12_lookers 23 = .ok (.iaload, 1) := by decide +kernel
theorem dX12_lookers_24 : decode cX12_lookers 24 = .ok (.if_icmp .ge 32, 3) := by decide +kernel
theorem dX12_lookers_27 : decode cX12_lookers 27 = .ok (.iload_n 3, 1) := by decide +kernel
theorem dX12_lookers_28 : decode cX12_lookers 28 = .ok (.iload_n 2, 1) := by decide +kernel
theorem dX12_lookers_29 : decode cX12_lookers 29 = .ok (.aload_n 0, 1) := by decide +kernel
theorem dX12_lookers_30 : decode cX12_lookers 30 = .ok (.getfield 13, 3) := by decide +kernel
theorem dX12_lookers_33 : decode cX12_lookers 33 = .ok (.sipush 227, 3) := by decide +kernel
theorem dX12_lookers_36 : decode cX12_lookers 36 = .ok (.iload 4, 2) := by decide +kernel
theorem dX12_lookers_38 : decode cX12_lookers 38 = .ok (.iadd, 1) := by decide +kernel
theorem dX12_lookers_39 : decode cX12_lookers 39 = .ok (.iaload, 1) := by decide +kernel
theorem dX12_lookers_40 : decode cX12_lookers 40 = .ok (.if_icmp .ge 7, 3) := by decide +kernel
theorem dX12_lookers_43 : decode cX12_lookers 43 = .ok (.iconst 1, 1) := by decide +kernel
theorem dX12_lookers_44 : decode cX12_lookers 44 = .ok (.goto 4, 3) := by decide +kernel
theorem dX12_lookers_47 : decode cX12_lookers 47 = .ok (.iconst 0, 1) := by decide +kernel
theorem dX12_lookers_48 : decode cX12_lookers 48 = .ok (.iadd, 1) := by decide +kernel
theorem dX12_lookers_49 : decode cX12_lookers 49 = .ok (.istore_n 3, 1) := by decide +kernel
theorem dX12_lookers_50 : decode cX12_lookers 50 = .ok (.iinc 4 1, 3) := by decide +kernel
theorem dX12_lookers_53 : decode cX12_lookers 53 = .ok (.goto (-38), 3) := by decide +kernel
theorem dX12_lookers_56 : decode cX12_lookers 56 = .ok (.aload_n 0, 1) := by decide +kernel
theorem dX12_lookers_57 : decode cX12_lookers 57 = .ok (.getfield 13, 3) := by decide +kernel
theorem dX12_lookers_60 : decode cX12_lookers 60 = .ok (.bipush 8, 2) := by decide +kernel
theorem dX12_lookers_62 : decode cX12_lookers 62 = .ok (.iaload, 1) := by decide +kernel
theorem dX12_lookers_63 : decode cX12_lookers 63 = .ok (.iload_n 3, 1) := by decide +kernel
theorem dX12_lookers_64 : decode cX12_lookers 64 = .ok (.isub, 1) := by decide +kernel
theorem dX12_lookers_65 : decode cX12_lookers 65 = .ok (.istore 4, 2) := by decide +kernel
theorem dX12_lookers_67 : decode cX12_lookers 67 = .ok (.iload_n 1, 1) := by decide +kernel
theorem dX12_lookers_68 : decode cX12_lookers 68 = .ok (.ifCond .eq 21, 3) := by decide +kernel
theorem dX12_lookers_71 : decode cX12_lookers 71 = .ok (.iload_n 3, 1) := by decide +kernel
theorem dX12_lookers_72 : decode cX12_lookers 72 = .ok (.iload_n 3, 1) := by decide +kernel
theorem dX12_lookers_73 : decode cX12_lookers 73 = .ok (.iconst 1, 1) := by decide +kernel
theorem dX12_lookers_74 : decode cX12_lookers 74 = .ok (.isub, 1) := by decide +kernel
theorem dX12_lookers_75 : decode cX12_lookers 75 = .ok (.imul, 1) := by decide +kernel
theorem dX12_lookers_76 : decode cX12_lookers 76 = .ok (.iload 4, 2) := by decide +kernel
theorem dX12_lookers_78 : decode cX12_lookers 78 = .ok (.iload 4, 2) := by decide +kernel
theorem dX12_lookers_80 : decode cX12_lookers 80 = .ok (.iconst 1, 1) := by decide +kernel
theorem dX12_lookers_81 : decode cX12_lookers 81 = .ok (.isub, 1) := by decide +kernel
theorem dX12_lookers_82 : decode cX12_lookers 82 = .ok (.imul, 1) := by decide +kernel
theorem dX12_lookers_83 : decode cX12_lookers 83 = .ok (.iadd, 1) := by decide +kernel
theorem dX12_lookers_84 : decode cX12_lookers 84 = .ok (.iconst 2, 1) := by decide +kernel
theorem dX12_lookers_85 : decode cX12_lookers 85 = .ok (.idiv, 1) := by decide +kernel
theorem dX12_lookers_86 : decode cX12_lookers 86 = .ok (.goto 4, 3) := by decide +kernel
theorem dX12_lookers_89 : decode cX12_lookers 89 = .ok (.iload_n 3, 1) := by decide +kernel
theorem dX12_lookers_90 : decode cX12_lookers 90 = .ok (.ireturn, 1) := by decide +kernel
theorem dX12_tries_0 : decode cX12_tries 0 = .ok (.iconst 0, 1) := by decide +kernel
theorem dX12_tries_1 : decode cX12_tries 1 = .ok (.istore_n 3, 1) := by decide +kernel
theorem dX12_tries_2 : decode cX12_tries 2 = .ok (.iload_n 3, 1) := by decide +kernel
theorem dX12_tries_3 : decode cX12_tries 3 = .ok (.iload_n 2, 1) := by decide +kernel
theorem dX12_tries_4 : decode cX12_tries 4 = .ok (.if_icmp .ge 15, 3) := by decide +kernel
theorem dX12_tries_7 : decode cX12_tries 7 = .ok (.aload_n 0, 1) := by decide +kernel
theorem dX12_tries_8 : decode cX12_tries 8 = .ok (.iload_n 1, 1) := by decide +kernel
theorem dX12_tries_9 : decode cX12_tries 9 = .ok (.invokevirtual 411, 3) := by decide +kernel
theorem dX12_tries_12 : decode cX12_tries 12 = .ok (.pop, 1) := by decide +kernel
theorem dX12_tries_13 : decode cX12_tries 13 = .ok (.iinc 3 1, 3) := by decide +kernel
theorem dX12_tries_16 : decode cX12_tries 16 = .ok (.goto (-14), 3) := by decide +kernel
theorem dX12_tries_19 : decode cX12_tries 19 = .ok (.return_, 1) := by decide +kernel
theorem dX12_trial_0 : decode cX12_trial 0 = .ok (.aload_n 0, 1) := by decide +kernel
theorem dX12_trial_1 : decode cX12_trial 1 = .ok (.iconst 0, 1) := by decide +kernel
theorem dX12_trial_2 : decode cX12_trial 2 = .ok (.putfield 3, 3) := by decide +kernel
theorem dX12_trial_5 : decode cX12_trial 5 = .ok (.aload_n 0, 1) := by decide +kernel
theorem dX12_trial_6 : decode cX12_trial 6 = .ok (.aload_n 0, 1) := by decide +kernel
theorem dX12_trial_7 : decode cX12_trial 7 = .ok (.iload_n 1, 1) := by decide +kernel
theorem dX12_trial_8 : decode cX12_trial 8 = .ok (.invokevirtual 408, 3) := by decide +kernel
theorem dX12_trial_11 : decode cX12_trial 11 = .ok (.iconst 1, 1) := by decide +kernel
theorem dX12_trial_12 : decode cX12_trial 12 = .ok (.invokevirtual 282, 3) := by decide +kernel
theorem dX12_trial_15 : decode cX12_trial 15 = .ok (.ifCond .ne 26, 3) := by decide +kernel
theorem dX12_trial_18 : decode cX12_trial 18 = .ok (.aload_n 0, 1) := by decide +kernel
theorem dX12_trial_19 : decode cX12_trial 19 = .ok (.iload_n 2, 1) := by decide +kernel
theorem dX12_trial_20 : decode cX12_trial 20 = .ok (.iconst 0, 1) := by decide +kernel
theorem dX12_trial_21 : decode cX12_trial 21 = .ok (.bipush 40, 2) := by decide +kernel
theorem dX12_trial_23 : decode cX12_trial 23 = .ok (.invokestatic 90, 3) := by decide +kernel
theorem dX12_trial_26 : decode cX12_trial 26 = .ok (.ifCond .ne 7, 3) := by decide +kernel
theorem dX12_trial_29 : decode cX12_trial 29 = .ok (.iconst 1, 1) := by decide +kernel
theorem dX12_trial_30 : decode cX12_trial 30 = .ok (.goto 4, 3) := by decide +kernel
theorem dX12_trial_33 : decode cX12_trial 33 = .ok (.iconst 0, 1) := by decide +kernel
theorem dX12_trial_34 : decode cX12_trial 34 = .ok (.iconst 2, 1) := by decide +kernel
theorem dX12_trial_35 : decode cX12_trial 35 = .ok (.invokevirtual 282, 3) := by decide +kernel
theorem dX12_trial_38 : decode cX12_trial 38 = .ok (.ifCond .eq 5, 3) := by decide +kernel
theorem dX12_trial_41 : decode cX12_trial 41 = .ok (.iconst 0, 1) := by decide +kernel
theorem dX12_trial_42 : decode cX12_trial 42 = .ok (.ireturn, 1) := by decide +kernel
theorem dX12_trial_43 : decode cX12_trial 43 = .ok (.aload_n 0, 1) := by decide +kernel
theorem dX12_trial_44 : decode cX12_trial 44 = .ok (.invokevirtual 414, 3) := by decide +kernel
theorem dX12_trial_47 : decode cX12_trial 47 = .ok (.aload_n 0, 1) := by decide +kernel
theorem dX12_trial_48 : decode cX12_trial 48 = .ok (.iload_n 1, 1) := by decide +kernel
theorem dX12_trial_49 : decode cX12_trial 49 = .ok (.iload_n 2, 1) := by decide +kernel
theorem dX12_trial_50 : decode cX12_trial 50 = .ok (.invokevirtual 498, 3) := by decide +kernel
theorem dX12_trial_53 : decode cX12_trial 53 = .ok (.iload_n 3, 1) := by decide +kernel
theorem dX12_trial_54 : decode cX12_trial 54 = .ok (.ifCond .eq 13, 3) := by decide +kernel
theorem dX12_trial_57 : decode cX12_trial 57 = .ok (.aload_n 0, 1) := by decide +kernel
theorem dX12_trial_58 : decode cX12_trial 58 = .ok (.invokevirtual 417, 3) := by decide +kernel
theorem dX12_trial_61 : decode cX12_trial 61 = .ok (.invokestatic 501, 3) := by decide +kernel
theorem dX12_trial_64 : decode cX12_trial 64 = .ok (.goto 7, 3) := by decide +kernel
theorem dX12_trial_67 : decode cX12_trial 67 = .ok (.aload_n 0, 1) := by decide +kernel
theorem dX12_trial_68 : decode cX12_trial 68 = .ok (.invokevirtual 435, 3) := by decide +kernel
theorem dX12_trial_71 : decode cX12_trial 71 = .ok (.istore 4, 2) := by decide +kernel
theorem dX12_trial_73 : decode cX12_trial 73 = .ok (.aload_n 0, 1) := by decide +kernel
theorem dX12_trial_74 : decode cX12_trial 74 = .ok (.invokevirtual 423, 3) := by decide +kernel
theorem dX12_trial_77 : decode cX12_trial 77 = .ok (.iload 4, 2) := by decide +kernel
theorem dX12_trial_79 : decode cX12_trial 79 = .ok (.ireturn, 1) := by decide +kernel
theorem dX12_span_0 : decode cX12_span 0 = .ok (.aload_n 0, 1) := by decide +kernel
theorem dX12_span_1 : decode cX12_span 1 = .ok (.iconst 0, 1) := by decide +kernel
theorem dX12_span_2 : decode cX12_span 2 = .ok (.putfield 3, 3) := by decide +kernel
theorem dX12_span_5 : decode cX12_span 5 = .ok (.aload_n 0, 1) := by decide +kernel
theorem dX12_span_6 : decode cX12_span 6 = .ok (.aload_n 0, 1) := by decide +kernel
theorem dX12_span_7 : decode cX12_span 7 = .ok (.iload_n 1, 1) := by decide +kernel
theorem dX12_span_8 : decode cX12_span 8 = .ok (.invokevirtual 408, 3) := by decide +kernel
theorem dX12_span_11 : decode cX12_span 11 = .ok (.iconst 1, 1) := by decide +kernel
theorem dX12_span_12 : decode cX12_span 12 = .ok (.invokevirtual 282, 3) := by decide +kernel
theorem dX12_span_15 : decode cX12_span 15 = .ok (.ifCond .ne 26, 3) := by decide +kernel
theorem dX12_span_18 : decode cX12_span 18 = .ok (.aload_n 0, 1) := by decide +kernel
theorem dX12_span_19 : decode cX12_span 19 = .ok (.iload_n 2, 1) := by decide +kernel
theorem dX12_span_20 : decode cX12_span 20 = .ok (.iconst 0, 1) := by decide +kernel
theorem dX12_span_21 : decode cX12_span 21 = .ok (.bipush 40, 2) := by decide +kernel
theorem dX12_span_23 : decode cX12_span 23 = .ok (.invokestatic 90, 3) := by decide +kernel
theorem dX12_span_26 : decode cX12_span 26 = .ok (.ifCond .ne 7, 3) := by decide +kernel
theorem dX12_span_29 : decode cX12_span 29 = .ok (.iconst 1, 1) := by decide +kernel
theorem dX12_span_30 : decode cX12_span 30 = .ok (.goto 4, 3) := by decide +kernel
theorem dX12_span_33 : decode cX12_span 33 = .ok (.iconst 0, 1) := by decide +kernel
theorem dX12_span_34 : decode cX12_span 34 = .ok (.iconst 2, 1) := by decide +kernel
theorem dX12_span_35 : decode cX12_span 35 = .ok (.invokevirtual 282, 3) := by decide +kernel
theorem dX12_span_38 : decode cX12_span 38 = .ok (.ifCond .eq 5, 3) := by decide +kernel
theorem dX12_span_41 : decode cX12_span 41 = .ok (.iconst 0, 1) := by decide +kernel
theorem dX12_span_42 : decode cX12_span 42 = .ok (.ireturn, 1) := by decide +kernel
theorem dX12_span_43 : decode cX12_span 43 = .ok (.aload_n 0, 1) := by decide +kernel
theorem dX12_span_44 : decode cX12_span 44 = .ok (.invokevirtual 414, 3) := by decide +kernel
theorem dX12_span_47 : decode cX12_span 47 = .ok (.iconst (-1), 1) := by decide +kernel
theorem dX12_span_48 : decode cX12_span 48 = .ok (.istore 4, 2) := by decide +kernel
theorem dX12_span_50 : decode cX12_span 50 = .ok (.iconst 1, 1) := by decide +kernel
theorem dX12_span_51 : decode cX12_span 51 = .ok (.istore 5, 2) := by decide +kernel
theorem dX12_span_53 : decode cX12_span 53 = .ok (.iload 5, 2) := by decide +kernel
theorem dX12_span_55 : decode cX12_span 55 = .ok (.bipush 6, 2) := by decide +kernel
theorem dX12_span_57 : decode cX12_span 57 = .ok (.if_icmp .gt 67, 3) := by decide +kernel
theorem dX12_span_60 : decode cX12_span 60 = .ok (.aload_n 0, 1) := by decide +kernel
theorem dX12_span_61 : decode cX12_span 61 = .ok (.getfield 13, 3) := by decide +kernel
theorem dX12_span_64 : decode cX12_span 64 = .ok (.bipush 14, 2) := by decide +kernel
theorem dX12_span_66 : decode cX12_span 66 = .ok (.iload 5, 2) := by decide +kernel
theorem dX12_span_68 : decode cX12_span 68 = .ok (.iastore, 1) := by decide +kernel
theorem dX12_span_69 : decode cX12_span 69 = .ok (.aload_n 0, 1) := by decide +kernel
theorem dX12_span_70 : decode cX12_span 70 = .ok (.iload_n 1, 1) := by decide +kernel
theorem dX12_span_71 : decode cX12_span 71 = .ok (.iload_n 2, 1) := by decide +kernel
theorem dX12_span_72 : decode cX12_span 72 = .ok (.invokevirtual 498, 3) := by decide +kernel
theorem dX12_span_75 : decode cX12_span 75 = .ok (.aload_n 0, 1) := by decide +kernel
theorem dX12_span_76 : decode cX12_span 76 = .ok (.invokevirtual 435, 3) := by decide +kernel
theorem dX12_span_79 : decode cX12_span 79 = .ok (.istore 6, 2) := by decide +kernel
theorem dX12_span_81 : decode cX12_span 81 = .ok (.aload_n 0, 1) := by decide +kernel
theorem dX12_span_82 : decode cX12_span 82 = .ok (.invokevirtual 423, 3) := by decide +kernel
theorem dX12_span_85 : decode cX12_span 85 = .ok (.iload 4, 2) := by decide +kernel
theorem dX12_span_87 : decode cX12_span 87 = .ok (.ifCond .ge 8, 3) := by decide +kernel
theorem dX12_span_90 : decode cX12_span 90 = .ok (.iload 6, 2) := by decide +kernel
theorem dX12_span_92 : decode cX12_span 92 = .ok (.goto 24, 3) := by decide +kernel
theorem dX12_span_95 : decode cX12_span 95 = .ok (.iload_n 3, 1) := by decide +kernel
theorem dX12_span_96 : decode cX12_span 96 = .ok (.ifCond .eq 13, 3) := by decide +kernel
theorem dX12_span_99 : decode cX12_span 99 = .ok (.iload 4, 2) := by decide +kernel
theorem dX12_span_101 : decode cX12_span 101 = .ok (.iload 6, 2) := by decide +kernel
theorem dX12_span_103 : decode cX12_span 103 = .ok (.invokestatic 72, 3) := by decide +kernel
theorem dX12_span_106 : decode cX12_span 106 = .ok (.goto 10, 3) := by decide +kernel
theorem dX12_span_109 : decode cX12_span 109 = .ok (.iload 4, 2) := by decide +kernel
theorem dX12_span_111 : decode cX12_span 111 = .ok (.iload 6, 2) := by decide +kernel
theorem dX12_span_113 : decode cX12_span 113 = .ok (.invokestatic 310, 3) := by decide +kernel
theorem dX12_span_116 : decode cX12_span 116 = .ok (.istore 4, 2) := by decide +kernel
theorem dX12_span_118 : decode cX12_span 118 = .ok (.iinc 5 1, 3) := by decide +kernel
theorem dX12_span_121 : decode cX12_span 121 = .ok (.goto (-68), 3) := by decide +kernel
theorem dX12_span_124 : decode cX12_span 124 = .ok (.iload 4, 2) := by decide +kernel
theorem dX12_span_126 : decode cX12_span 126 = .ok (.ireturn, 1) := by decide +kernel
theorem dX12_ofLog_0 : decode cX12_ofLog 0 = .ok (.aload_n 0, 1) := by decide +kernel
theorem dX12_ofLog_1 : decode cX12_ofLog 1 = .ok (.getfield 13, 3) := by decide +kernel
theorem dX12_ofLog_4 : decode cX12_ofLog 4 = .ok (.sipush 235, 3) := by decide +kernel
theorem dX12_ofLog_7 : decode cX12_ofLog 7 = .ok (.iconst 4, 1) := by decide +kernel
theorem dX12_ofLog_8 : decode cX12_ofLog 8 = .ok (.iload_n 1, 1) := by decide +kernel
theorem dX12_ofLog_9 : decode cX12_ofLog 9 = .ok (.imul, 1) := by decide +kernel
theorem dX12_ofLog_10 : decode cX12_ofLog 10 = .ok (.iadd, 1) := by decide +kernel
theorem dX12_ofLog_11 : decode cX12_ofLog 11 = .ok (.iload_n 2, 1) := by decide +kernel
theorem dX12_ofLog_12 : decode cX12_ofLog 12 = .ok (.iadd, 1) := by decide +kernel
theorem dX12_ofLog_13 : decode cX12_ofLog 13 = .ok (.iaload, 1) := by decide +kernel
theorem dX12_ofLog_14 : decode cX12_ofLog 14 = .ok (.ireturn, 1) := by decide +kernel
theorem dX12_slips_0 : decode cX12_slips 0 = .ok (.aload_n 0, 1) := by decide +kernel
theorem dX12_slips_1 : decode cX12_slips 1 = .ok (.iconst 0, 1) := by decide +kernel
theorem dX12_slips_2 : decode cX12_slips 2 = .ok (.putfield 3, 3) := by decide +kernel
theorem dX12_slips_5 : decode cX12_slips 5 = .ok (.aload_n 0, 1) := by decide +kernel
theorem dX12_slips_6 : decode cX12_slips 6 = .ok (.iload_n 1, 1) := by decide +kernel
theorem dX12_slips_7 : decode cX12_slips 7 = .ok (.iconst (-1), 1) := by decide +kernel
theorem dX12_slips_8 : decode cX12_slips 8 = .ok (.if_icmp .eq 15, 3) := by decide +kernel
theorem dX12_slips_11 : decode cX12_slips 11 = .ok (.aload_n 0, 1) := by decide +kernel
theorem dX12_slips_12 : decode cX12_slips 12 = .ok (.iload_n 1, 1) := by decide +kernel
theorem dX12_slips_13 : decode cX12_slips 13 = .ok (.invokevirtual 408, 3) := by decide +kernel
theorem dX12_slips_16 : decode cX12_slips 16 = .ok (.ifCond .eq 7, 3) := by decide +kernel
theorem dX12_slips_19 : decode cX12_slips 19 = .ok (.iconst 1, 1) := by decide +kernel
theorem dX12_slips_20 : decode cX12_slips 20 = .ok (.goto 4, 3) := by decide +kernel
theorem dX12_slips_23 : decode cX12_slips 23 = .ok (.iconst 0, 1) := by decide +kernel
theorem dX12_slips_24 : decode cX12_slips 24 = .ok (.iconst 1, 1) := by decide +kernel
theorem dX12_slips_25 : decode cX12_slips 25 = .ok (.invokevirtual 282, 3) := by decide +kernel
theorem dX12_slips_28 : decode cX12_slips 28 = .ok (.ifCond .eq 5, 3) := by decide +kernel
theorem dX12_slips_31 : decode cX12_slips 31 = .ok (.iconst 0, 1) := by decide +kernel
theorem dX12_slips_32 : decode cX12_slips 32 = .ok (.ireturn, 1) := by decide +kernel
theorem dX12_slips_33 : decode cX12_slips 33 = .ok (.iconst 0, 1) := by decide +kernel
theorem dX12_slips_34 : decode cX12_slips 34 = .ok (.istore_n 2, 1) := by decide +kernel
theorem dX12_slips_35 : decode cX12_slips 35 = .ok (.iconst 0, 1) := by decide +kernel
theorem dX12_slips_36 : decode cX12_slips 36 = .ok (.istore_n 3, 1) := by decide +kernel
theorem dX12_slips_37 : decode cX12_slips 37 = .ok (.iload_n 3, 1) := by decide +kernel
theorem dX12_slips_38 : decode cX12_slips 38 = .ok (.aload_n 0, 1) := by decide +kernel
theorem dX12_slips_39 : decode cX12_slips 39 = .ok (.getfield 13, 3) := by decide +kernel
theorem dX12_slips_42 : decode cX12_slips 42 = .ok (.bipush 13, 2) := by decide +kernel
theorem dX12_slips_44 : decode cX12_slips 44 = .ok (.iaload, 1) := by decide +kernel
theorem dX12_slips_45 : decode cX12_slips 45 = .ok (.if_icmp .ge 41, 3) := by decide +kernel
theorem dX12_slips_48 : decode cX12_slips 48 = .ok (.iload_n 2, 1) := by decide +kernel
theorem dX12_slips_49 : decode cX12_slips 49 = .ok (.aload_n 0, 1) := by decide +kernel
theorem dX12_slips_50 : decode cX12_slips 50 = .ok (.iload_n 3, 1) := by decide +kernel
theorem dX12_slips_51 : decode cX12_slips 51 = .ok (.iconst 3, 1) := by decide +kernel
theorem dX12_slips_52 : decode cX12_slips 52 = .ok (.invokevirtual 506, 3) := by decide +kernel
theorem dX12_slips_55 : decode cX12_slips 55 = .ok (.ifCond .eq 22, 3) := by decide +kernel
theorem dX12_slips_58 : decode cX12_slips 58 = .ok (.iload_n 1, 1) := by decide +kernel
theorem dX12_slips_59 : decode cX12_slips 59 = .ok (.iconst (-1), 1) := by decide +kernel
theorem dX12_slips_60 : decode cX12_slips 60 = .ok (.if_icmp .eq 13, 3) := by decide +kernel
theorem dX12_slips_63 : decode cX12_slips 63 = .ok (.aload_n 0, 1) := by decide +kernel
theorem dX12_slips_64 : decode cX12_slips 64 = .ok (.iload_n 3, 1) := by decide +kernel
theorem dX12_slips_65 : decode cX12_slips 65 = .ok (.iconst 2, 1) := by decide +kernel
theorem dX12_slips_66 : decode cX12_slips 66 = .ok (.invokevirtual 506, 3) := by decide +kernel
theorem dX12_slips_69 : decode cX12_slips 69 = .ok (.iload_n 1, 1) := by decide +kernel
theorem dX12_slips_70 : decode cX12_slips 70 = .ok (.if_icmp .ne 7, 3) := by decide +kernel
theorem dX12_slips_73 : decode cX12_slips 73 = .ok (.iconst 1, 1) := by decide +kernel
theorem dX12_slips_74 : decode cX12_slips 74 = .ok (.goto 4, 3) := by decide +kernel
theorem dX12_slips_77 : decode cX12_slips 77 = .ok (.iconst 0, 1) := by decide +kernel
theorem dX12_slips_78 : decode cX12_slips 78 = .ok (.iadd, 1) := by decide +kernel
theorem dX12_slips_79 : decode cX12_slips 79 = .ok (.istore_n 2, 1) := by decide +kernel
theorem dX12_slips_80 : decode cX12_slips 80 = .ok (.iinc 3 1, 3) := by decide +kernel
theorem dX12_slips_83 : decode cX12_slips 83 = .ok (.goto (-46), 3) := by decide +kernel
theorem dX12_slips_86 : decode cX12_slips 86 = .ok (.iload_n 2, 1) := by decide +kernel
theorem dX12_slips_87 : decode cX12_slips 87 = .ok (.ireturn, 1) := by decide +kernel
theorem dX12_log_0 : decode cX12_log 0 = .ok (.aload_n 0, 1) := by decide +kernel
theorem dX12_log_1 : decode cX12_log 1 = .ok (.iconst 0, 1) := by decide +kernel
theorem dX12_log_2 : decode cX12_log 2 = .ok (.putfield 3, 3) := by decide +kernel
theorem dX12_log_5 : decode cX12_log 5 = .ok (.aload_n 0, 1) := by decide +kernel
theorem dX12_log_6 : decode cX12_log 6 = .ok (.iload_n 2, 1) := by decide +kernel
theorem dX12_log_7 : decode cX12_log 7 = .ok (.iconst 0, 1) := by decide +kernel
theorem dX12_log_8 : decode cX12_log 8 = .ok (.iconst 3, 1) := by decide +kernel
theorem dX12_log_9 : decode cX12_log 9 = .ok (.invokestatic 90, 3) := by decide +kernel
theorem dX12_log_12 : decode cX12_log 12 = .ok (.ifCond .ne 7, 3) := by decide +kernel
theorem dX12_log_15 : decode cX12_log 15 = .ok (.iconst 1, 1) := by decide +kernel
theorem dX12_log_16 : decode cX12_log 16 = .ok (.goto 4, 3) := by decide +kernel
theorem dX12_log_19 : decode cX12_log 19 = .ok (.iconst 0, 1) := by decide +kernel
theorem dX12_log_20 : decode cX12_log 20 = .ok (.iconst 1, 1) := by decide +kernel
theorem dX12_log_21 : decode cX12_log 21 = .ok (.invokevirtual 282, 3) := by decide +kernel
theorem dX12_log_24 : decode cX12_log 24 = .ok (.ifCond .eq 5, 3) := by decide +kernel
theorem dX12_log_27 : decode cX12_log 27 = .ok (.iconst 0, 1) := by decide +kernel
theorem dX12_log_28 : decode cX12_log 28 = .ok (.ireturn, 1) := by decide +kernel
theorem dX12_log_29 : decode cX12_log 29 = .ok (.iload_n 1, 1) := by decide +kernel
theorem dX12_log_30 : decode cX12_log 30 = .ok (.iconst 0, 1) := by decide +kernel
theorem dX12_log_31 : decode cX12_log 31 = .ok (.aload_n 0, 1) := by decide +kernel
theorem dX12_log_32 : decode cX12_log 32 = .ok (.getfield 13, 3) := by decide +kernel
theorem dX12_log_35 : decode cX12_log 35 = .ok (.bipush 13, 2) := by decide +kernel
theorem dX12_log_37 : decode cX12_log 37 = .ok (.iaload, 1) := by decide +kernel
theorem dX12_log_38 : decode cX12_log 38 = .ok (.iconst 1, 1) := by decide +kernel
theorem dX12_log_39 : decode cX12_log 39 = .ok (.isub, 1) := by decide +kernel
theorem dX12_log_40 : decode cX12_log 40 = .ok (.invokestatic 90, 3) := by decide +kernel
theorem dX12_log_43 : decode cX12_log 43 = .ok (.ifCond .eq 12, 3) := by decide +kernel
theorem dX12_log_46 : decode cX12_log 46 = .ok (.aload_n 0, 1) := by decide +kernel
theorem dX12_log_47 : decode cX12_log 47 = .ok (.iload_n 1, 1) := by decide +kernel
theorem dX12_log_48 : decode cX12_log 48 = .ok (.iload_n 2, 1) := by decide +kernel
theorem dX12_log_49 : decode cX12_log 49 = .ok (.invokevirtual 506, 3) := by decide +kernel
theorem dX12_log_52 : decode cX12_log 52 = .ok (.goto 5, 3) := by decide +kernel
theorem dX12_log_55 : decode cX12_log 55 = .ok (.bipush (-99), 2) := by decide +kernel
theorem dX12_log_57 : decode cX12_log 57 = .ok (.ireturn, 1) := by decide +kernel
theorem dX12_seed_0 : decode cX12_seed 0 = .ok (.aload_n 0, 1) := by decide +kernel
theorem dX12_seed_1 : decode cX12_seed 1 = .ok (.iconst 0, 1) := by decide +kernel
theorem dX12_seed_2 : decode cX12_seed 2 = .ok (.putfield 3, 3) := by decide +kernel
theorem dX12_seed_5 : decode cX12_seed 5 = .ok (.aload_n 0, 1) := by decide +kernel
theorem dX12_seed_6 : decode cX12_seed 6 = .ok (.getfield 13, 3) := by decide +kernel
theorem dX12_seed_9 : decode cX12_seed 9 = .ok (.bipush 14, 2) := by decide +kernel
theorem dX12_seed_11 : decode cX12_seed 11 = .ok (.iaload, 1) := by decide +kernel
theorem dX12_seed_12 : decode cX12_seed 12 = .ok (.istore_n 2, 1) := by decide +kernel
theorem dX12_seed_13 : decode cX12_seed 13 = .ok (.aload_n 0, 1) := by decide +kernel
theorem dX12_seed_14 : decode cX12_seed 14 = .ok (.getfield 13, 3) := by decide +kernel
theorem dX12_seed_17 : decode cX12_seed 17 = .ok (.bipush 14, 2) := by decide +kernel
theorem dX12_seed_19 : decode cX12_seed 19 = .ok (.iload_n 1, 1) := by decide +kernel
theorem dX12_seed_20 : decode cX12_seed 20 = .ok (.iastore, 1) := by decide +kernel
theorem dX12_seed_21 : decode cX12_seed 21 = .ok (.iload_n 2, 1) := by decide +kernel
theorem dX12_seed_22 : decode cX12_seed 22 = .ok (.ireturn, 1) := by decide +kernel
theorem dX12_count_0 : decode cX12_count 0 = .ok (.aload_n 0, 1) := by decide +kernel
theorem dX12_count_1 : decode cX12_count 1 = .ok (.iconst 0, 1) := by decide +kernel
theorem dX12_count_2 : decode cX12_count 2 = .ok (.putfield 3, 3) := by decide +kernel
theorem dX12_count_5 : decode cX12_count 5 = .ok (.iload_n 1, 1) := by decide +kernel
theorem dX12_count_6 : decode cX12_count 6 = .ok (.tableswitch 93 10 15 #[38, 62, 70, 75, 80, 88], 38) := by decide +kernel
theorem dX12_count_44 : decode cX12_count 44 = .ok (.aload_n 0, 1) := by decide +kernel
theorem dX12_count_45 : decode cX12_count 45 = .ok (.getfield 13, 3) := by decide +kernel
theorem dX12_count_48 : decode cX12_count 48 = .ok (.bipush 10, 2) := by decide +kernel
theorem dX12_count_50 : decode cX12_count 50 = .ok (.iaload, 1) := by decide +kernel
theorem dX12_count_51 : decode cX12_count 51 = .ok (.iconst 1, 1) := by decide +kernel
theorem dX12_count_52 : decode cX12_count 52 = .ok (.if_icmp .ne 14, 3) := by decide +kernel
theorem dX12_count_55 : decode cX12_count 55 = .ok (.aload_n 0, 1) := by decide +kernel
theorem dX12_count_56 : decode cX12_count 56 = .ok (.getfield 13, 3) := by decide +kernel
theorem dX12_count_59 : decode cX12_count 59 = .ok (.sipush 475, 3) := by decide +kernel
theorem dX12_count_62 : decode cX12_count 62 = .ok (.iaload, 1) := by decide +kernel
theorem dX12_count_63 : decode cX12_count 63 = .ok (.goto 4, 3) := by decide +kernel
theorem dX12_count_66 : decode cX12_count 66 = .ok (.iconst (-1), 1) := by decide +kernel
theorem dX12_count_67 : decode cX12_count 67 = .ok (.ireturn, 1) := by decide +kernel
theorem dX12_count_68 : decode cX12_count 68 = .ok (.aload_n 0, 1) := by decide +kernel
theorem dX12_count_69 : decode cX12_count 69 = .ok (.getfield 13, 3) := by decide +kernel
theorem dX12_count_72 : decode cX12_count 72 = .ok (.bipush 11, 2) := by decide +kernel
theorem dX12_count_74 : decode cX12_count 74 = .ok (.iaload, 1) := by decide +kernel
theorem dX12_count_75 : decode cX12_count 75 = .ok (.ireturn, 1) := by decide +kernel
theorem dX12_count_76 : decode cX12_count 76 = .ok (.aload_n 0, 1) := by decide +kernel
theorem dX12_count_77 : decode cX12_count 77 = .ok (.invokevirtual 438, 3) := by decide +kernel
theorem dX12_count_80 : decode cX12_count 80 = .ok (.ireturn, 1) := by decide +kernel
theorem dX12_count_81 : decode cX12_count 81 = .ok (.aload_n 0, 1) := by decide +kernel
theorem dX12_count_82 : decode cX12_count 82 = .ok (.invokevirtual 417, 3) := by decide +kernel
theorem dX12_count_85 : decode cX12_count 85 = .ok (.ireturn, 1) := by decide +kernel
theorem dX12_count_86 : decode cX12_count 86 = .ok (.aload_n 0, 1) := by decide +kernel
theorem dX12_count_87 : decode cX12_count 87 = .ok (.getfield 13, 3) := by decide +kernel
theorem dX12_count_90 : decode cX12_count 90 = .ok (.bipush 13, 2) := by decide +kernel
theorem dX12_count_92 : decode cX12_count 92 = .ok (.iaload, 1) := by decide +kernel
theorem dX12_count_93 : decode cX12_count 93 = .ok (.ireturn, 1) := by decide +kernel
theorem dX12_count_94 : decode cX12_count 94 = .ok (.aload_n 0, 1) := by decide +kernel
theorem dX12_count_95 : decode cX12_count 95 = .ok (.getfield 65, 3) := by decide +kernel
theorem dX12_count_98 : decode cX12_count 98 = .ok (.ireturn, 1) := by decide +kernel
theorem dX12_count_99 : decode cX12_count 99 = .ok (.iload_n 1, 1) := by decide +kernel
theorem dX12_count_100 : decode cX12_count 100 = .ok (.iconst 0, 1) := by decide +kernel
theorem dX12_count_101 : decode cX12_count 101 = .ok (.bipush 9, 2) := by decide +kernel
theorem dX12_count_103 : decode cX12_count 103 = .ok (.invokestatic 90, 3) := by decide +kernel
theorem dX12_count_106 : decode cX12_count 106 = .ok (.ifCond .eq 12, 3) := by decide +kernel
theorem dX12_count_109 : decode cX12_count 109 = .ok (.aload_n 0, 1) := by decide +kernel
theorem dX12_count_110 : decode cX12_count 110 = .ok (.getfield 13, 3) := by decide +kernel
theorem dX12_count_113 : decode cX12_count 113 = .ok (.iload_n 1, 1) := by decide +kernel
theorem dX12_count_114 : decode cX12_count 114 = .ok (.iaload, 1) := by decide +kernel
theorem dX12_count_115 : decode cX12_count 115 = .ok (.goto 4, 3) := by decide +kernel
theorem dX12_count_118 : decode cX12_count 118 = .ok (.iconst (-1), 1) := by decide +kernel
theorem dX12_count_119 : decode cX12_count 119 = .ok (.ireturn, 1) := by decide +kernel
