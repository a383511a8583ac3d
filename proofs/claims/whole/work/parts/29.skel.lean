/-! THE SKELETON behind both constructors; contracts with one end; calls of such -/
def SK : List mC := [(10, 16, [some 2, some 4, some 13, some 18, some 23, some 27, some 30, some 32, some 94, some 104, some 110, some 115, some 124, some 129, none, none]),
  (8, 5, [some 3, none, none, none, none]),
  (20, 400, []),
  (6, 17, [none, some 5, some 6, some 7, some 8, none, some 9, none, none, none, none, none, some 10, some 11, none, some 12, none]),
  (20, 12, []),
  (20, 12, []),
  (20, 60, []),
  (20, 60, []),
  (20, 14, []),
  (20, 6, []),
  (20, 6, []),
  (20, 8, []),
  (2, 6, [none, some 14, some 15, some 16, some 17, none]),
  (20, 12, []),
  (20, 12, []),
  (20, 12, []),
  (20, 400, []),
  (9, 11, [some 19, some 20, some 21, none, none, none, none, none, some 22, none, none]),
  (20, 13, []),
  (20, 14, []),
  (20, 14, []),
  (20, 240, []),
  (0, 6, [some 4, some 13, some 18, some 24, some 25, some 26]),
  (20, 9, []),
  (20, 40, []),
  (20, 403, []),
  (4, 6, [some 4, some 23, some 28, some 29, none, none]),
  (20, 1862, []),
  (20, 31, []),
  (5, 5, [some 4, some 18, some 23, some 31, none]),
  (20, 645, []),
  (1, 3, [some 33, none, none]),
  (23, 12, [some 34, some 39, some 44, some 49, some 54, some 59, some 64, some 69, some 74, some 79, some 84, some 89]),
  (9, 11, [some 35, some 36, some 37, none, none, none, none, none, some 38, none, none]),
  (20, 13, []),
  (20, 14, []),
  (20, 14, []),
  (20, 240, []),
  (9, 11, [some 40, some 41, some 42, none, none, none, none, none, some 43, none, none]),
  (20, 13, []),
  (20, 14, []),
  (20, 14, []),
  (20, 240, []),
  (9, 11, [some 45, some 46, some 47, none, none, none, none, none, some 48, none, none]),
  (20, 13, []),
  (20, 14, []),
  (20, 14, []),
  (20, 240, []),
  (9, 11, [some 50, some 51, some 52, none, none, none, none, none, some 53, none, none]),
  (20, 13, []),
  (20, 14, []),
  (20, 14, []),
  (20, 240, []),
  (9, 11, [some 55, some 56, some 57, none, none, none, none, none, some 58, none, none]),
  (20, 13, []),
  (20, 14, []),
  (20, 14, []),
  (20, 240, []),
  (9, 11, [some 60, some 61, some 62, none, none, none, none, none, some 63, none, none]),
  (20, 13, []),
  (20, 14, []),
  (20, 14, []),
  (20, 240, []),
  (9, 11, [some 65, some 66, some 67, none, none, none, none, none, some 68, none, none]),
  (20, 13, []),
  (20, 14, []),
  (20, 14, []),
  (20, 240, []),
  (9, 11, [some 70, some 71, some 72, none, none, none, none, none, some 73, none, none]),
  (20, 13, []),
  (20, 14, []),
  (20, 14, []),
  (20, 240, []),
  (9, 11, [some 75, some 76, some 77, none, none, none, none, none, some 78, none, none]),
  (20, 13, []),
  (20, 14, []),
  (20, 14, []),
  (20, 240, []),
  (9, 11, [some 80, some 81, some 82, none, none, none, none, none, some 83, none, none]),
  (20, 13, []),
  (20, 14, []),
  (20, 14, []),
  (20, 240, []),
  (9, 11, [some 85, some 86, some 87, none, none, none, none, none, some 88, none, none]),
  (20, 13, []),
  (20, 14, []),
  (20, 14, []),
  (20, 240, []),
  (9, 11, [some 90, some 91, some 92, none, none, none, none, none, some 93, none, none]),
  (20, 13, []),
  (20, 14, []),
  (20, 14, []),
  (20, 240, []),
  (7, 4, [some 2, none, some 95, none]),
  (6, 17, [none, some 96, some 97, some 98, some 99, none, some 100, none, none, none, none, none, some 101, some 102, none, some 103, none]),
  (20, 12, []),
  (20, 12, []),
  (20, 60, []),
  (20, 60, []),
  (20, 14, []),
  (20, 6, []),
  (20, 6, []),
  (20, 8, []),
  (3, 3, [some 2, none, some 105]),
  (2, 6, [none, some 106, some 107, some 108, some 109, none]),
  (20, 12, []),
  (20, 12, []),
  (20, 12, []),
  (20, 400, []),
  (9, 11, [some 111, some 112, some 113, none, none, none, none, none, some 114, none, none]),
  (20, 13, []),
  (20, 14, []),
  (20, 14, []),
  (20, 240, []),
  (6, 17, [none, some 116, some 117, some 118, some 119, none, some 120, none, none, none, none, none, some 121, some 122, none, some 123, none]),
  (20, 12, []),
  (20, 12, []),
  (20, 60, []),
  (20, 60, []),
  (20, 14, []),
  (20, 6, []),
  (20, 6, []),
  (20, 8, []),
  (2, 6, [none, some 125, some 126, some 127, some 128, none]),
  (20, 12, []),
  (20, 12, []),
  (20, 12, []),
  (20, 400, []),
  (9, 11, [some 130, some 131, some 132, none, none, none, none, none, some 133, none, none]),
  (20, 13, []),
  (20, 14, []),
  (20, 14, []),
  (20, 240, []),
  (11, 28, [none, some 135, some 136, some 137, some 138, some 139, none, none, some 140, none, none, none, none, none, none, some 141, none, some 142, none, none, none, none, some 143, some 144, some 145, some 146, some 147, some 148]),
  (20, 2173, []),
  (20, 1324, []),
  (20, 1324, []),
  (20, 475, []),
  (20, 5700, []),
  (21, 400, []),
  (20, 5, []),
  (20, 400, []),
  (20, 434, []),
  (20, 1862, []),
  (20, 14, []),
  (20, 61440, []),
  (20, 14, []),
  (20, 645, []),
  (22, 1, [])]
theorem sk_0 : SK[0]? = some (10, 16, [some 2, some 4, some 13, some 18, some 23, some 27, some 30, some 32, some 94, some 104, some 110, some 115, some 124, some 129, none, none]) := rfl
theorem sk_1 : SK[1]? = some (8, 5, [some 3, none, none, none, none]) := rfl
theorem sk_2 : SK[2]? = some (20, 400, []) := rfl
theorem sk_3 : SK[3]? = some (6, 17, [none, some 5, some 6, some 7, some 8, none, some 9, none, none, none, none, none, some 10, some 11, none, some 12, none]) := rfl
theorem sk_4 : SK[4]? = some (20, 12, []) := rfl
theorem sk_5 : SK[5]? = some (20, 12, []) := rfl
theorem sk_6 : SK[6]? = some (20, 60, []) := rfl
theorem sk_7 : SK[7]? = some (20, 60, []) := rfl
theorem sk_8 : SK[8]? = some (20, 14, []) := rfl
theorem sk_9 : SK[9]? = some (20, 6, []) := rfl
theorem sk_10 : SK[10]? = some (20, 6, []) := rfl
theorem sk_11 : SK[11]? = some (20, 8, []) := rfl
theorem sk_12 : SK[12]? = some (2, 6, [none, some 14, some 15, some 16, some 17, none]) := rfl
theorem sk_13 : SK[13]? = some (20, 12, []) := rfl
theorem sk_14 : SK[14]? = some (20, 12, []) := rfl
theorem sk_15 : SK[15]? = some (20, 12, []) := rfl
theorem sk_16 : SK[16]? = some (20, 400, []) := rfl
theorem sk_17 : SK[17]? = some (9, 11, [some 19, some 20, some 21, none, none, none, none, none, some 22, none, none]) := rfl
theorem sk_18 : SK[18]? = some (20, 13, []) := rfl
theorem sk_19 : SK[19]? = some (20, 14, []) := rfl
theorem sk_20 : SK[20]? = some (20, 14, []) := rfl
theorem sk_21 : SK[21]? = some (20, 240, []) := rfl
theorem sk_22 : SK[22]? = some (0, 6, [some 4, some 13, some 18, some 24, some 25, some 26]) := rfl
theorem sk_23 : SK[23]? = some (20, 9, []) := rfl
theorem sk_24 : SK[24]? = some (20, 40, []) := rfl
theorem sk_25 : SK[25]? = some (20, 403, []) := rfl
theorem sk_26 : SK[26]? = some (4, 6, [some 4, some 23, some 28, some 29, none, none]) := rfl
theorem sk_27 : SK[27]? = some (20, 1862, []) := rfl
theorem sk_28 : SK[28]? = some (20, 31, []) := rfl
theorem sk_29 : SK[29]? = some (5, 5, [some 4, some 18, some 23, some 31, none]) := rfl
theorem sk_30 : SK[30]? = some (20, 645, []) := rfl
theorem sk_31 : SK[31]? = some (1, 3, [some 33, none, none]) := rfl
theorem sk_32 : SK[32]? = some (23, 12, [some 34, some 39, some 44, some 49, some 54, some 59, some 64, some 69, some 74, some 79, some 84, some 89]) := rfl
theorem sk_33 : SK[33]? = some (9, 11, [some 35, some 36, some 37, none, none, none, none, none, some 38, none, none]) := rfl
theorem sk_34 : SK[34]? = some (20, 13, []) := rfl
theorem sk_35 : SK[35]? = some (20, 14, []) := rfl
theorem sk_36 : SK[36]? = some (20, 14, []) := rfl
theorem sk_37 : SK[37]? = some (20, 240, []) := rfl
theorem sk_38 : SK[38]? = some (9, 11, [some 40, some 41, some 42, none, none, none, none, none, some 43, none, none]) := rfl
theorem sk_39 : SK[39]? = some (20, 13, []) := rfl
theorem sk_40 : SK[40]? = some (20, 14, []) := rfl
theorem sk_41 : SK[41]? = some (20, 14, []) := rfl
theorem sk_42 : SK[42]? = some (20, 240, []) := rfl
theorem sk_43 : SK[43]? = some (9, 11, [some 45, some 46, some 47, none, none, none, none, none, some 48, none, none]) := rfl
theorem sk_44 : SK[44]? = some (20, 13, []) := rfl
theorem sk_45 : SK[45]? = some (20, 14, []) := rfl
theorem sk_46 : SK[46]? = some (20, 14, []) := rfl
theorem sk_47 : SK[47]? = some (20, 240, []) := rfl
theorem sk_48 : SK[48]? = some (9, 11, [some 50, some 51, some 52, none, none, none, none, none, some 53, none, none]) := rfl
theorem sk_49 : SK[49]? = some (20, 13, []) := rfl
theorem sk_50 : SK[50]? = some (20, 14, []) := rfl
theorem sk_51 : SK[51]? = some (20, 14, []) := rfl
theorem sk_52 : SK[52]? = some (20, 240, []) := rfl
theorem sk_53 : SK[53]? = some (9, 11, [some 55, some 56, some 57, none, none, none, none, none, some 58, none, none]) := rfl
theorem sk_54 : SK[54]? = some (20, 13, []) := rfl
theorem sk_55 : SK[55]? = some (20, 14, []) := rfl
theorem sk_56 : SK[56]? = some (20, 14, []) := rfl
theorem sk_57 : SK[57]? = some (20, 240, []) := rfl
theorem sk_58 : SK[58]? = some (9, 11, [some 60, some 61, some 62, none, none, none, none, none, some 63, none, none]) := rfl
theorem sk_59 : SK[59]? = some (20, 13, []) := rfl
theorem sk_60 : SK[60]? = some (20, 14, []) := rfl
theorem sk_61 : SK[61]? = some (20, 14, []) := rfl
theorem sk_62 : SK[62]? = some (20, 240, []) := rfl
theorem sk_63 : SK[63]? = some (9, 11, [some 65, some 66, some 67, none, none, none, none, none, some 68, none, none]) := rfl
theorem sk_64 : SK[64]? = some (20, 13, []) := rfl
theorem sk_65 : SK[65]? = some (20, 14, []) := rfl
theorem sk_66 : SK[66]? = some (20, 14, []) := rfl
theorem sk_67 : SK[67]? = some (20, 240, []) := rfl
theorem sk_68 : SK[68]? = some (9, 11, [some 70, some 71, some 72, none, none, none, none, none, some 73, none, none]) := rfl
theorem sk_69 : SK[69]? = some (20, 13, []) := rfl
theorem sk_70 : SK[70]? = some (20, 14, []) := rfl
theorem sk_71 : SK[71]? = some (20, 14, []) := rfl
theorem sk_72 : SK[72]? = some (20, 240, []) := rfl
theorem sk_73 : SK[73]? = some (9, 11, [some 75, some 76, some 77, none, none, none, none, none, some 78, none, none]) := rfl
theorem sk_74 : SK[74]? = some (20, 13, []) := rfl
theorem sk_75 : SK[75]? = some (20, 14, []) := rfl
theorem sk_76 : SK[76]? = some (20, 14, []) := rfl
theorem sk_77 : SK[77]? = some (20, 240, []) := rfl
theorem sk_78 : SK[78]? = some (9, 11, [some 80, some 81, some 82, none, none, none, none, none, some 83, none, none]) := rfl
theorem sk_79 : SK[79]? = some (20, 13, []) := rfl
theorem sk_80 : SK[80]? = some (20, 14, []) := rfl
theorem sk_81 : SK[81]? = some (20, 14, []) := rfl
theorem sk_82 : SK[82]? = some (20, 240, []) := rfl
theorem sk_83 : SK[83]? = some (9, 11, [some 85, some 86, some 87, none, none, none, none, none, some 88, none, none]) := rfl
theorem sk_84 : SK[84]? = some (20, 13, []) := rfl
theorem sk_85 : SK[85]? = some (20, 14, []) := rfl
theorem sk_86 : SK[86]? = some (20, 14, []) := rfl
theorem sk_87 : SK[87]? = some (20, 240, []) := rfl
theorem sk_88 : SK[88]? = some (9, 11, [some 90, some 91, some 92, none, none, none, none, none, some 93, none, none]) := rfl
theorem sk_89 : SK[89]? = some (20, 13, []) := rfl
theorem sk_90 : SK[90]? = some (20, 14, []) := rfl
theorem sk_91 : SK[91]? = some (20, 14, []) := rfl
theorem sk_92 : SK[92]? = some (20, 240, []) := rfl
theorem sk_93 : SK[93]? = some (7, 4, [some 2, none, some 95, none]) := rfl
theorem sk_94 : SK[94]? = some (6, 17, [none, some 96, some 97, some 98, some 99, none, some 100, none, none, none, none, none, some 101, some 102, none, some 103, none]) := rfl
theorem sk_95 : SK[95]? = some (20, 12, []) := rfl
theorem sk_96 : SK[96]? = some (20, 12, []) := rfl
theorem sk_97 : SK[97]? = some (20, 60, []) := rfl
theorem sk_98 : SK[98]? = some (20, 60, []) := rfl
theorem sk_99 : SK[99]? = some (20, 14, []) := rfl
theorem sk_100 : SK[100]? = some (20, 6, []) := rfl
theorem sk_101 : SK[101]? = some (20, 6, []) := rfl
theorem sk_102 : SK[102]? = some (20, 8, []) := rfl
theorem sk_103 : SK[103]? = some (3, 3, [some 2, none, some 105]) := rfl
theorem sk_104 : SK[104]? = some (2, 6, [none, some 106, some 107, some 108, some 109, none]) := rfl
theorem sk_105 : SK[105]? = some (20, 12, []) := rfl
theorem sk_106 : SK[106]? = some (20, 12, []) := rfl
theorem sk_107 : SK[107]? = some (20, 12, []) := rfl
theorem sk_108 : SK[108]? = some (20, 400, []) := rfl
theorem sk_109 : SK[109]? = some (9, 11, [some 111, some 112, some 113, none, none, none, none, none, some 114, none, none]) := rfl
theorem sk_110 : SK[110]? = some (20, 13, []) := rfl
theorem sk_111 : SK[111]? = some (20, 14, []) := rfl
theorem sk_112 : SK[112]? = some (20, 14, []) := rfl
theorem sk_113 : SK[113]? = some (20, 240, []) := rfl
theorem sk_114 : SK[114]? = some (6, 17, [none, some 116, some 117, some 118, some 119, none, some 120, none, none, none, none, none, some 121, some 122, none, some 123, none]) := rfl
theorem sk_115 : SK[115]? = some (20, 12, []) := rfl
theorem sk_116 : SK[116]? = some (20, 12, []) := rfl
theorem sk_117 : SK[117]? = some (20, 60, []) := rfl
theorem sk_118 : SK[118]? = some (20, 60, []) := rfl
theorem sk_119 : SK[119]? = some (20, 14, []) := rfl
theorem sk_120 : SK[120]? = some (20, 6, []) := rfl
theorem sk_121 : SK[121]? = some (20, 6, []) := rfl
theorem sk_122 : SK[122]? = some (20, 8, []) := rfl
theorem sk_123 : SK[123]? = some (2, 6, [none, some 125, some 126, some 127, some 128, none]) := rfl
theorem sk_124 : SK[124]? = some (20, 12, []) := rfl
theorem sk_125 : SK[125]? = some (20, 12, []) := rfl
theorem sk_126 : SK[126]? = some (20, 12, []) := rfl
theorem sk_127 : SK[127]? = some (20, 400, []) := rfl
theorem sk_128 : SK[128]? = some (9, 11, [some 130, some 131, some 132, none, none, none, none, none, some 133, none, none]) := rfl
theorem sk_129 : SK[129]? = some (20, 13, []) := rfl
theorem sk_130 : SK[130]? = some (20, 14, []) := rfl
theorem sk_131 : SK[131]? = some (20, 14, []) := rfl
theorem sk_132 : SK[132]? = some (20, 240, []) := rfl
theorem sk_133 : SK[133]? = some (11, 28, [none, some 135, some 136, some 137, some 138, some 139, none, none, some 140, none, none, none, none, none, none, some 141, none, some 142, none, none, none, none, some 143, some 144, some 145, some 146, some 147, some 148]) := rfl
theorem sk_134 : SK[134]? = some (20, 2173, []) := rfl
theorem sk_135 : SK[135]? = some (20, 1324, []) := rfl
theorem sk_136 : SK[136]? = some (20, 1324, []) := rfl
theorem sk_137 : SK[137]? = some (20, 475, []) := rfl
theorem sk_138 : SK[138]? = some (20, 5700, []) := rfl
theorem sk_139 : SK[139]? = some (21, 400, []) := rfl
theorem sk_140 : SK[140]? = some (20, 5, []) := rfl
theorem sk_141 : SK[141]? = some (20, 400, []) := rfl
theorem sk_142 : SK[142]? = some (20, 434, []) := rfl
theorem sk_143 : SK[143]? = some (20, 1862, []) := rfl
theorem sk_144 : SK[144]? = some (20, 14, []) := rfl
theorem sk_145 : SK[145]? = some (20, 61440, []) := rfl
theorem sk_146 : SK[146]? = some (20, 14, []) := rfl
theorem sk_147 : SK[147]? = some (20, 645, []) := rfl
theorem sk_148 : SK[148]? = some (22, 1, []) := rfl
def IsShop (t : Nat) : Prop := t < 900 ∧ SK[t]? = some (6, 17, [none, some (t + 2), some (t + 3), some (t + 4), some (t + 5), none, some (t + 6), none, none, none, none, none, some (t + 7), some (t + 8), none, some (t + 9), none]) ∧ SK[t + 1]? = some (20, 12, []) ∧ SK[t + 2]? = some (20, 12, []) ∧ SK[t + 3]? = some (20, 60, []) ∧ SK[t + 4]? = some (20, 60, []) ∧ SK[t + 5]? = some (20, 14, []) ∧ SK[t + 6]? = some (20, 6, []) ∧ SK[t + 7]? = some (20, 6, []) ∧ SK[t + 8]? = some (20, 8, [])
def IsLaw (t : Nat) : Prop := t < 900 ∧ SK[t]? = some (2, 6, [none, some (t + 2), some (t + 3), some (t + 4), some (t + 5), none]) ∧ SK[t + 1]? = some (20, 12, []) ∧ SK[t + 2]? = some (20, 12, []) ∧ SK[t + 3]? = some (20, 12, []) ∧ SK[t + 4]? = some (20, 400, [])
def IsWork (t : Nat) : Prop := t < 900 ∧ SK[t]? = some (9, 11, [some (t + 2), some (t + 3), some (t + 4), none, none, none, none, none, some (t + 5), none, none]) ∧ SK[t + 1]? = some (20, 13, []) ∧ SK[t + 2]? = some (20, 14, []) ∧ SK[t + 3]? = some (20, 14, []) ∧ SK[t + 4]? = some (20, 240, [])
theorem shop_3 : IsShop 3 := ⟨by decide, rfl, rfl, rfl, rfl, rfl, rfl, rfl, rfl, rfl⟩
theorem shop_94 : IsShop 94 := ⟨by decide, rfl, rfl, rfl, rfl, rfl, rfl, rfl, rfl, rfl⟩
theorem shop_114 : IsShop 114 := ⟨by decide, rfl, rfl, rfl, rfl, rfl, rfl, rfl, rfl, rfl⟩
theorem law_12 : IsLaw 12 := ⟨by decide, rfl, rfl, rfl, rfl, rfl⟩
theorem law_104 : IsLaw 104 := ⟨by decide, rfl, rfl, rfl, rfl, rfl⟩
theorem law_123 : IsLaw 123 := ⟨by decide, rfl, rfl, rfl, rfl, rfl⟩
theorem work_17 : IsWork 17 := ⟨by decide, rfl, rfl, rfl, rfl, rfl⟩
theorem work_109 : IsWork 109 := ⟨by decide, rfl, rfl, rfl, rfl, rfl⟩
theorem work_128 : IsWork 128 := ⟨by decide, rfl, rfl, rfl, rfl, rfl⟩
theorem work_33 : IsWork 33 := ⟨by decide, rfl, rfl, rfl, rfl, rfl⟩
theorem work_38 : IsWork 38 := ⟨by decide, rfl, rfl, rfl, rfl, rfl⟩
theorem work_43 : IsWork 43 := ⟨by decide, rfl, rfl, rfl, rfl, rfl⟩
theorem work_48 : IsWork 48 := ⟨by decide, rfl, rfl, rfl, rfl, rfl⟩
theorem work_53 : IsWork 53 := ⟨by decide, rfl, rfl, rfl, rfl, rfl⟩
theorem work_58 : IsWork 58 := ⟨by decide, rfl, rfl, rfl, rfl, rfl⟩
theorem work_63 : IsWork 63 := ⟨by decide, rfl, rfl, rfl, rfl, rfl⟩
theorem work_68 : IsWork 68 := ⟨by decide, rfl, rfl, rfl, rfl, rfl⟩
theorem work_73 : IsWork 73 := ⟨by decide, rfl, rfl, rfl, rfl, rfl⟩
theorem work_78 : IsWork 78 := ⟨by decide, rfl, rfl, rfl, rfl, rfl⟩
theorem work_83 : IsWork 83 := ⟨by decide, rfl, rfl, rfl, rfl, rfl⟩
theorem work_88 : IsWork 88 := ⟨by decide, rfl, rfl, rfl, rfl, rfl⟩
def rI (v : Int) (D : mD) : mZ := fun o h => o = .inl (some (mI v)) ∧ h = (SK, D, false)
def rV (D : mD) : mZ := fun o h => o = .inl none ∧ h = (SK, D, false)
def rX (i : Nat) (D : mD) : mZ := fun o h => o = .inr i ∧ h = (SK, D, false)
section MJ10
variable {Ω : mO} {M M' : mM} {d c k : Nat} {Z : mZ} {pc pc' : Nat} {ls : List (Option mV)} {st rest : List mV} {D D1 : mD}
def lle : List (Option mV) → List (Option mV) → Prop
  | [], _ => True
  | none :: a, _ :: b => lle a b
  | some v :: a, o :: b => o = some v ∧ lle a b
  | _ :: _, [] => False
theorem lle_at : ∀ {a b : List (Option mV)}, lle a b → ∀ (i : Nat) (v : mV), a[i]? = some (some v) → b[i]? = some (some v)
  | [], b, _, i, v, hi => by simp at hi
  | none :: a, [], h, _, _, _ => h.elim
  | some _ :: a, [], h, _, _, _ => h.elim
  | none :: a, o :: b, h, i, v, hi => by
    cases i with
    | zero => simp at hi
    | succ i => simpa using lle_at (a := a) (b := b) h i v (by simpa using hi)
  | some u :: a, o :: b, h, i, v, hi => by
    obtain ⟨h1, h2⟩ := h
    cases i with
    | zero => simp at hi; subst hi; simp [h1]
    | succ i => simpa using lle_at (a := a) (b := b) h2 i v (by simpa using hi)
/-- forget what locals held -/
theorem j_weak {h : mH} {c0 k0 : Nat} {ls' : List (Option mV)} (hw : lle ls' ls) (kk : J Ω M d c k Z pc ls' st h c0 k0) : J Ω M d c k Z pc ls st h c0 k0 := by
  intro p e s m args below meth cd H locs la X w hS hl
  refine kk p e s m args below meth cd H locs la X w hS (lv_less hl (fun q hq => ?_))
  obtain ⟨v, h1, h2, h3⟩ := lvs_mem.mp hq
  exact lvs_mem.mpr ⟨v, lle_at hw _ _ h1, h2, h3⟩
theorem j_cVi {i n a ci : Nat} {rs : List (Option Nat)} {C : String} {T : u_T} {N nn : Nat} {ty : Nat → FieldType} (as : List mV) (rest : List mV) {v : Int} (hM : CM d 0 0 M' (mR a :: as) (SK, D, false) (rI v D1)) (w : Cw M.1.cls M' i n) (K : Kc ci C T N ty) (hi : Cond.instanceMethod M'.1 ∈ WSg) (hs : Cond.selects C M'.1 M'.1 ∈ WSg)
    (hd : decode M.2.1 pc = .ok (.invokevirtual i, 3)) (hn : pc + 3 = pc') (hlen : as.length = n) (ht : M.2.2.2.2 = []) (ha : a < 1000000) (hk : SK[a]? = some (ci, nn, rs)) (hst : st = as.reverse ++ mR a :: rest) (hrs : ((rest.map (cv Ω)).map fun v => v.category).sum ≤ 8)
    (kk : J Ω M (d + 1) c k Z pc' ls (mI v :: rest) (SK, D1, false) 0 0) : J Ω M (d + 1) c k Z pc ls st (SK, D, false) 0 0 :=
  j_callV hM w K hi hs hd hn (Nat.le_refl _) hlen ht ha hk hst hrs (Nat.zero_le _) (Nat.zero_le _) (fun v' h' hz => by obtain ⟨e1, e2⟩ := hz; cases e1; cases e2; exact kk) (fun i h' hz => by cases hz.1)
theorem j_cVv {i n a ci : Nat} {rs : List (Option Nat)} {C : String} {T : u_T} {N nn : Nat} {ty : Nat → FieldType} (as : List mV) (rest : List mV) (hM : CM d 0 0 M' (mR a :: as) (SK, D, false) (rV D1)) (w : Cw M.1.cls M' i n) (K : Kc ci C T N ty) (hi : Cond.instanceMethod M'.1 ∈ WSg) (hs : Cond.selects C M'.1 M'.1 ∈ WSg)
    (hd : decode M.2.1 pc = .ok (.invokevirtual i, 3)) (hn : pc + 3 = pc') (hlen : as.length = n) (ht : M.2.2.2.2 = []) (ha : a < 1000000) (hk : SK[a]? = some (ci, nn, rs)) (hst : st = as.reverse ++ mR a :: rest) (hrs : ((rest.map (cv Ω)).map fun v => v.category).sum ≤ 8)
    (kk : J Ω M (d + 1) c k Z pc' ls rest (SK, D1, false) 0 0) : J Ω M (d + 1) c k Z pc ls st (SK, D, false) 0 0 :=
  j_callV hM w K hi hs hd hn (Nat.le_refl _) hlen ht ha hk hst hrs (Nat.zero_le _) (Nat.zero_le _) (fun v' h' hz => by obtain ⟨e1, e2⟩ := hz; cases e1; cases e2; exact kk) (fun i h' hz => by cases hz.1)
/-- a call that throws, where nothing is caught -/
theorem j_cVx {i n a ci x : Nat} {rs : List (Option Nat)} {C : String} {T : u_T} {N nn : Nat} {ty : Nat → FieldType} (as : List mV) (rest : List mV) (hM : CM d 1 6 M' (mR a :: as) (SK, D, false) (rX x D1)) (w : Cw M.1.cls M' i n) (K : Kc ci C T N ty) (hi : Cond.instanceMethod M'.1 ∈ WSg) (hs : Cond.selects C M'.1 M'.1 ∈ WSg)
    (hd : decode M.2.1 pc = .ok (.invokevirtual i, 3)) (hlen : as.length = n) (ht : M.2.2.2.2 = []) (ha : a < 1000000) (hk : SK[a]? = some (ci, nn, rs)) (hst : st = as.reverse ++ mR a :: rest) (hrs : ((rest.map (cv Ω)).map fun v => v.category).sum ≤ 8) (hc : 1 ≤ c) (hk6 : 6 ≤ k)
    (hz : Z (.inr x) (SK, D1, false)) : J Ω M (d + 1) c k Z pc ls st (SK, D, false) 0 0 :=
  j_callV hM w K hi hs hd rfl (Nat.le_refl _) hlen ht ha hk hst hrs (by omega) (by omega) (fun v' h' hz => by cases hz.1) (fun i h' hz' => by obtain ⟨e1, e2⟩ := hz'; cases e1; cases e2; exact hz)
theorem j_cSi {i n : Nat} (as : List mV) (rest : List mV) {v : Int} (hM : CM d 0 0 M' as (SK, D, false) (rI v D1)) (w : Cw M.1.cls M' i n) (hi : Cond.static M'.1 ∈ WSg)
    (hd : decode M.2.1 pc = .ok (.invokestatic i, 3)) (hn : pc + 3 = pc') (hlen : as.length = n) (ht : M.2.2.2.2 = []) (hst : st = as.reverse ++ rest) (hrs : ((rest.map (cv Ω)).map fun v => v.category).sum ≤ 8)
    (kk : J Ω M (d + 1) c k Z pc' ls (mI v :: rest) (SK, D1, false) 0 0) : J Ω M (d + 1) c k Z pc ls st (SK, D, false) 0 0 :=
  j_callS hM w hi hd hn (Nat.le_refl _) hlen ht hst hrs (Nat.zero_le _) (Nat.zero_le _) (fun v' h' hz => by obtain ⟨e1, e2⟩ := hz; cases e1; cases e2; exact kk) (fun i h' hz => by cases hz.1)
theorem j_cSv {i n : Nat} (as : List mV) (rest : List mV) (hM : CM d 0 0 M' as (SK, D, false) (rV D1)) (w : Cw M.1.cls M' i n) (hi : Cond.static M'.1 ∈ WSg)
    (hd : decode M.2.1 pc = .ok (.invokestatic i, 3)) (hn : pc + 3 = pc') (hlen : as.length = n) (ht : M.2.2.2.2 = []) (hst : st = as.reverse ++ rest) (hrs : ((rest.map (cv Ω)).map fun v => v.category).sum ≤ 8)
    (kk : J Ω M (d + 1) c k Z pc' ls rest (SK, D1, false) 0 0) : J Ω M (d + 1) c k Z pc ls st (SK, D, false) 0 0 :=
  j_callS hM w hi hd hn (Nat.le_refl _) hlen ht hst hrs (Nat.zero_le _) (Nat.zero_le _) (fun v' h' hz => by obtain ⟨e1, e2⟩ := hz; cases e1; cases e2; exact kk) (fun i h' hz => by cases hz.1)
end MJ10
