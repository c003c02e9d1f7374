/-! the layouts: 1 of the class, 2 of the reference; links, by the places of their words -/
def L1 : List Kd := [(0, 8, [some 1, some 4, some 14, some 39, some 45, some 24, some 26, some 28, some 32, some 36, some 38]), (0, 6, [some 2, none, some 3, none]), (2, 200, []), (1, 5, []), (0, 0, [none, none, none, none, some 5, some 6, some 7, some 8, some 9, some 10, some 11, some 12, some 13]), (1, 3, []), (1, 3, []), (1, 3, []), (1, 7, []), (1, 7, []), (1, 7, []), (1, 7, []), (1, 7, []), (0, 7, [none, none, none, none]), (0, 0, [none, none, none, none, some 15, some 16, some 17, some 18, some 19, some 20, some 21, some 22, some 23]), (1, 3, []), (1, 3, []), (1, 3, []), (1, 7, []), (1, 7, []), (1, 7, []), (1, 7, []), (1, 7, []), (0, 7, [none, none, none, none]), (0, 4, [some 25, none, none]), (4, 8, [some 51]), (0, 4, [some 27, none, none]), (4, 2, [some 99]), (0, 3, [some 29, some 30, some 31, none]), (1, 6, []), (1, 6, []), (1, 6, []), (0, 2, [some 33, some 34, some 35, none, none]), (4, 8, [some 111]), (1, 7, []), (1, 7, []), (0, 1, [some 37, none, none, none, none, none]), (4, 5, [some 159]), (3, 41, []), (0, 5, [none, some 40, some 41, some 42, some 43, some 44]), (1, 3, []), (1, 3, []), (1, 3, []), (1, 7, []), (1, 7, []), (0, 5, [none, some 46, some 47, some 48, some 49, some 50]), (1, 3, []), (1, 3, []), (1, 3, []), (1, 7, []), (1, 7, []), (0, 5, [none, some 52, some 53, some 54, some 55, some 56]), (1, 3, []), (1, 3, []), (1, 3, []), (1, 7, []), (1, 7, []), (0, 5, [none, some 58, some 59, some 60, some 61, some 62]), (1, 3, []), (1, 3, []), (1, 3, []), (1, 7, []), (1, 7, []), (0, 5, [none, some 64, some 65, some 66, some 67, some 68]), (1, 3, []), (1, 3, []), (1, 3, []), (1, 7, []), (1, 7, []), (0, 5, [none, some 70, some 71, some 72, some 73, some 74]), (1, 3, []), (1, 3, []), (1, 3, []), (1, 7, []), (1, 7, []), (0, 5, [none, some 76, some 77, some 78, some 79, some 80]), (1, 3, []), (1, 3, []), (1, 3, []), (1, 7, []), (1, 7, []), (0, 5, [none, some 82, some 83, some 84, some 85, some 86]), (1, 3, []), (1, 3, []), (1, 3, []), (1, 7, []), (1, 7, []), (0, 5, [none, some 88, some 89, some 90, some 91, some 92]), (1, 3, []), (1, 3, []), (1, 3, []), (1, 7, []), (1, 7, []), (0, 5, [none, some 94, some 95, some 96, some 97, some 98]), (1, 3, []), (1, 3, []), (1, 3, []), (1, 7, []), (1, 7, []), (0, 5, [none, some 100, some 101, some 102, some 103, some 104]), (1, 3, []), (1, 3, []), (1, 3, []), (1, 7, []), (1, 7, []), (0, 5, [none, some 106, some 107, some 108, some 109, some 110]), (1, 3, []), (1, 3, []), (1, 3, []), (1, 7, []), (1, 7, []), (0, 5, [none, some 112, some 113, some 114, some 115, some 116]), (1, 3, []), (1, 3, []), (1, 3, []), (1, 7, []), (1, 7, []), (0, 5, [none, some 118, some 119, some 120, some 121, some 122]), (1, 3, []), (1, 3, []), (1, 3, []), (1, 7, []), (1, 7, []), (0, 5, [none, some 124, some 125, some 126, some 127, some 128]), (1, 3, []), (1, 3, []), (1, 3, []), (1, 7, []), (1, 7, []), (0, 5, [none, some 130, some 131, some 132, some 133, some 134]), (1, 3, []), (1, 3, []), (1, 3, []), (1, 7, []), (1, 7, []), (0, 5, [none, some 136, some 137, some 138, some 139, some 140]), (1, 3, []), (1, 3, []), (1, 3, []), (1, 7, []), (1, 7, []), (0, 5, [none, some 142, some 143, some 144, some 145, some 146]), (1, 3, []), (1, 3, []), (1, 3, []), (1, 7, []), (1, 7, []), (0, 5, [none, some 148, some 149, some 150, some 151, some 152]), (1, 3, []), (1, 3, []), (1, 3, []), (1, 7, []), (1, 7, []), (0, 5, [none, some 154, some 155, some 156, some 157, some 158]), (1, 3, []), (1, 3, []), (1, 3, []), (1, 7, []), (1, 7, []), (0, 5, [none, some 160, some 161, some 162, some 163, some 164]), (1, 3, []), (1, 3, []), (1, 3, []), (1, 7, []), (1, 7, []), (0, 5, [none, some 166, some 167, some 168, some 169, some 170]), (1, 3, []), (1, 3, []), (1, 3, []), (1, 7, []), (1, 7, []), (0, 5, [none, some 172, some 173, some 174, some 175, some 176]), (1, 3, []), (1, 3, []), (1, 3, []), (1, 7, []), (1, 7, []), (0, 5, [none, some 178, some 179, some 180, some 181, some 182]), (1, 3, []), (1, 3, []), (1, 3, []), (1, 7, []), (1, 7, []), (0, 5, [none, some 184, some 185, some 186, some 187, some 188]), (1, 3, []), (1, 3, []), (1, 3, []), (1, 7, []), (1, 7, [])]
def L2 : List Kd := [(0, 9, [some 1, none, none, none, none, none, some 2, none, some 3, some 4, some 5, some 6, some 7, none, some 8, some 9, some 10, some 11, none, none, none, none, none, none, some 12, none, some 13, some 14, some 15, some 16, some 17, some 18]), (1, 380, []), (1, 3, []), (1, 7, []), (1, 7, []), (1, 7, []), (1, 7, []), (1, 7, []), (1, 6, []), (1, 6, []), (1, 6, []), (1, 200, []), (1, 9, []), (1, 35, []), (1, 8, []), (1, 8, []), (1, 7, []), (1, 246, []), (1, 2401, [])]
theorem k1_0 : L1[0]? = some (0, 8, [some 1, some 4, some 14, some 39, some 45, some 24, some 26, some 28, some 32, some 36, some 38]) := rfl
theorem k1_1 : L1[1]? = some (0, 6, [some 2, none, some 3, none]) := rfl
theorem k1_2 : L1[2]? = some (2, 200, []) := rfl
theorem k1_3 : L1[3]? = some (1, 5, []) := rfl
theorem k1_4 : L1[4]? = some (0, 0, [none, none, none, none, some 5, some 6, some 7, some 8, some 9, some 10, some 11, some 12, some 13]) := rfl
theorem k1_5 : L1[5]? = some (1, 3, []) := rfl
theorem k1_6 : L1[6]? = some (1, 3, []) := rfl
theorem k1_7 : L1[7]? = some (1, 3, []) := rfl
theorem k1_8 : L1[8]? = some (1, 7, []) := rfl
theorem k1_9 : L1[9]? = some (1, 7, []) := rfl
theorem k1_10 : L1[10]? = some (1, 7, []) := rfl
theorem k1_11 : L1[11]? = some (1, 7, []) := rfl
theorem k1_12 : L1[12]? = some (1, 7, []) := rfl
theorem k1_13 : L1[13]? = some (0, 7, [none, none, none, none]) := rfl
theorem k1_14 : L1[14]? = some (0, 0, [none, none, none, none, some 15, some 16, some 17, some 18, some 19, some 20, some 21, some 22, some 23]) := rfl
theorem k1_15 : L1[15]? = some (1, 3, []) := rfl
theorem k1_16 : L1[16]? = some (1, 3, []) := rfl
theorem k1_17 : L1[17]? = some (1, 3, []) := rfl
theorem k1_18 : L1[18]? = some (1, 7, []) := rfl
theorem k1_19 : L1[19]? = some (1, 7, []) := rfl
theorem k1_20 : L1[20]? = some (1, 7, []) := rfl
theorem k1_21 : L1[21]? = some (1, 7, []) := rfl
theorem k1_22 : L1[22]? = some (1, 7, []) := rfl
theorem k1_23 : L1[23]? = some (0, 7, [none, none, none, none]) := rfl
theorem k1_24 : L1[24]? = some (0, 4, [some 25, none, none]) := rfl
theorem k1_25 : L1[25]? = some (4, 8, [some 51]) := rfl
theorem k1_26 : L1[26]? = some (0, 4, [some 27, none, none]) := rfl
theorem k1_27 : L1[27]? = some (4, 2, [some 99]) := rfl
theorem k1_28 : L1[28]? = some (0, 3, [some 29, some 30, some 31, none]) := rfl
theorem k1_29 : L1[29]? = some (1, 6, []) := rfl
theorem k1_30 : L1[30]? = some (1, 6, []) := rfl
theorem k1_31 : L1[31]? = some (1, 6, []) := rfl
theorem k1_32 : L1[32]? = some (0, 2, [some 33, some 34, some 35, none, none]) := rfl
theorem k1_33 : L1[33]? = some (4, 8, [some 111]) := rfl
theorem k1_34 : L1[34]? = some (1, 7, []) := rfl
theorem k1_35 : L1[35]? = some (1, 7, []) := rfl
theorem k1_36 : L1[36]? = some (0, 1, [some 37, none, none, none, none, none]) := rfl
theorem k1_37 : L1[37]? = some (4, 5, [some 159]) := rfl
theorem k1_38 : L1[38]? = some (3, 41, []) := rfl
theorem k1_39 : L1[39]? = some (0, 5, [none, some 40, some 41, some 42, some 43, some 44]) := rfl
theorem k1_40 : L1[40]? = some (1, 3, []) := rfl
theorem k1_41 : L1[41]? = some (1, 3, []) := rfl
theorem k1_42 : L1[42]? = some (1, 3, []) := rfl
theorem k1_43 : L1[43]? = some (1, 7, []) := rfl
theorem k1_44 : L1[44]? = some (1, 7, []) := rfl
theorem k1_45 : L1[45]? = some (0, 5, [none, some 46, some 47, some 48, some 49, some 50]) := rfl
theorem k1_46 : L1[46]? = some (1, 3, []) := rfl
theorem k1_47 : L1[47]? = some (1, 3, []) := rfl
theorem k1_48 : L1[48]? = some (1, 3, []) := rfl
theorem k1_49 : L1[49]? = some (1, 7, []) := rfl
theorem k1_50 : L1[50]? = some (1, 7, []) := rfl
theorem k1_51 : L1[51]? = some (0, 5, [none, some 52, some 53, some 54, some 55, some 56]) := rfl
theorem k1_52 : L1[52]? = some (1, 3, []) := rfl
theorem k1_53 : L1[53]? = some (1, 3, []) := rfl
theorem k1_54 : L1[54]? = some (1, 3, []) := rfl
theorem k1_55 : L1[55]? = some (1, 7, []) := rfl
theorem k1_56 : L1[56]? = some (1, 7, []) := rfl
theorem k1_57 : L1[57]? = some (0, 5, [none, some 58, some 59, some 60, some 61, some 62]) := rfl
theorem k1_58 : L1[58]? = some (1, 3, []) := rfl
theorem k1_59 : L1[59]? = some (1, 3, []) := rfl
theorem k1_60 : L1[60]? = some (1, 3, []) := rfl
theorem k1_61 : L1[61]? = some (1, 7, []) := rfl
theorem k1_62 : L1[62]? = some (1, 7, []) := rfl
theorem k1_63 : L1[63]? = some (0, 5, [none, some 64, some 65, some 66, some 67, some 68]) := rfl
theorem k1_64 : L1[64]? = some (1, 3, []) := rfl
theorem k1_65 : L1[65]? = some (1, 3, []) := rfl
theorem k1_66 : L1[66]? = some (1, 3, []) := rfl
theorem k1_67 : L1[67]? = some (1, 7, []) := rfl
theorem k1_68 : L1[68]? = some (1, 7, []) := rfl
theorem k1_69 : L1[69]? = some (0, 5, [none, some 70, some 71, some 72, some 73, some 74]) := rfl
theorem k1_70 : L1[70]? = some (1, 3, []) := rfl
theorem k1_71 : L1[71]? = some (1, 3, []) := rfl
theorem k1_72 : L1[72]? = some (1, 3, []) := rfl
theorem k1_73 : L1[73]? = some (1, 7, []) := rfl
theorem k1_74 : L1[74]? = some (1, 7, []) := rfl
theorem k1_75 : L1[75]? = some (0, 5, [none, some 76, some 77, some 78, some 79, some 80]) := rfl
theorem k1_76 : L1[76]? = some (1, 3, []) := rfl
theorem k1_77 : L1[77]? = some (1, 3, []) := rfl
theorem k1_78 : L1[78]? = some (1, 3, []) := rfl
theorem k1_79 : L1[79]? = some (1, 7, []) := rfl
theorem k1_80 : L1[80]? = some (1, 7, []) := rfl
theorem k1_81 : L1[81]? = some (0, 5, [none, some 82, some 83, some 84, some 85, some 86]) := rfl
theorem k1_82 : L1[82]? = some (1, 3, []) := rfl
theorem k1_83 : L1[83]? = some (1, 3, []) := rfl
theorem k1_84 : L1[84]? = some (1, 3, []) := rfl
theorem k1_85 : L1[85]? = some (1, 7, []) := rfl
theorem k1_86 : L1[86]? = some (1, 7, []) := rfl
theorem k1_87 : L1[87]? = some (0, 5, [none, some 88, some 89, some 90, some 91, some 92]) := rfl
theorem k1_88 : L1[88]? = some (1, 3, []) := rfl
theorem k1_89 : L1[89]? = some (1, 3, []) := rfl
theorem k1_90 : L1[90]? = some (1, 3, []) := rfl
theorem k1_91 : L1[91]? = some (1, 7, []) := rfl
theorem k1_92 : L1[92]? = some (1, 7, []) := rfl
theorem k1_93 : L1[93]? = some (0, 5, [none, some 94, some 95, some 96, some 97, some 98]) := rfl
theorem k1_94 : L1[94]? = some (1, 3, []) := rfl
theorem k1_95 : L1[95]? = some (1, 3, []) := rfl
theorem k1_96 : L1[96]? = some (1, 3, []) := rfl
theorem k1_97 : L1[97]? = some (1, 7, []) := rfl
theorem k1_98 : L1[98]? = some (1, 7, []) := rfl
theorem k1_99 : L1[99]? = some (0, 5, [none, some 100, some 101, some 102, some 103, some 104]) := rfl
theorem k1_100 : L1[100]? = some (1, 3, []) := rfl
theorem k1_101 : L1[101]? = some (1, 3, []) := rfl
theorem k1_102 : L1[102]? = some (1, 3, []) := rfl
theorem k1_103 : L1[103]? = some (1, 7, []) := rfl
theorem k1_104 : L1[104]? = some (1, 7, []) := rfl
theorem k1_105 : L1[105]? = some (0, 5, [none, some 106, some 107, some 108, some 109, some 110]) := rfl
theorem k1_106 : L1[106]? = some (1, 3, []) := rfl
theorem k1_107 : L1[107]? = some (1, 3, []) := rfl
theorem k1_108 : L1[108]? = some (1, 3, []) := rfl
theorem k1_109 : L1[109]? = some (1, 7, []) := rfl
theorem k1_110 : L1[110]? = some (1, 7, []) := rfl
theorem k1_111 : L1[111]? = some (0, 5, [none, some 112, some 113, some 114, some 115, some 116]) := rfl
theorem k1_112 : L1[112]? = some (1, 3, []) := rfl
theorem k1_113 : L1[113]? = some (1, 3, []) := rfl
theorem k1_114 : L1[114]? = some (1, 3, []) := rfl
theorem k1_115 : L1[115]? = some (1, 7, []) := rfl
theorem k1_116 : L1[116]? = some (1, 7, []) := rfl
theorem k1_117 : L1[117]? = some (0, 5, [none, some 118, some 119, some 120, some 121, some 122]) := rfl
theorem k1_118 : L1[118]? = some (1, 3, []) := rfl
theorem k1_119 : L1[119]? = some (1, 3, []) := rfl
theorem k1_120 : L1[120]? = some (1, 3, []) := rfl
theorem k1_121 : L1[121]? = some (1, 7, []) := rfl
theorem k1_122 : L1[122]? = some (1, 7, []) := rfl
theorem k1_123 : L1[123]? = some (0, 5, [none, some 124, some 125, some 126, some 127, some 128]) := rfl
theorem k1_124 : L1[124]? = some (1, 3, []) := rfl
theorem k1_125 : L1[125]? = some (1, 3, []) := rfl
theorem k1_126 : L1[126]? = some (1, 3, []) := rfl
theorem k1_127 : L1[127]? = some (1, 7, []) := rfl
theorem k1_128 : L1[128]? = some (1, 7, []) := rfl
theorem k1_129 : L1[129]? = some (0, 5, [none, some 130, some 131, some 132, some 133, some 134]) := rfl
theorem k1_130 : L1[130]? = some (1, 3, []) := rfl
theorem k1_131 : L1[131]? = some (1, 3, []) := rfl
theorem k1_132 : L1[132]? = some (1, 3, []) := rfl
theorem k1_133 : L1[133]? = some (1, 7, []) := rfl
theorem k1_134 : L1[134]? = some (1, 7, []) := rfl
theorem k1_135 : L1[135]? = some (0, 5, [none, some 136, some 137, some 138, some 139, some 140]) := rfl
theorem k1_136 : L1[136]? = some (1, 3, []) := rfl
theorem k1_137 : L1[137]? = some (1, 3, []) := rfl
theorem k1_138 : L1[138]? = some (1, 3, []) := rfl
theorem k1_139 : L1[139]? = some (1, 7, []) := rfl
theorem k1_140 : L1[140]? = some (1, 7, []) := rfl
theorem k1_141 : L1[141]? = some (0, 5, [none, some 142, some 143, some 144, some 145, some 146]) := rfl
theorem k1_142 : L1[142]? = some (1, 3, []) := rfl
theorem k1_143 : L1[143]? = some (1, 3, []) := rfl
theorem k1_144 : L1[144]? = some (1, 3, []) := rfl
theorem k1_145 : L1[145]? = some (1, 7, []) := rfl
theorem k1_146 : L1[146]? = some (1, 7, []) := rfl
theorem k1_147 : L1[147]? = some (0, 5, [none, some 148, some 149, some 150, some 151, some 152]) := rfl
theorem k1_148 : L1[148]? = some (1, 3, []) := rfl
theorem k1_149 : L1[149]? = some (1, 3, []) := rfl
theorem k1_150 : L1[150]? = some (1, 3, []) := rfl
theorem k1_151 : L1[151]? = some (1, 7, []) := rfl
theorem k1_152 : L1[152]? = some (1, 7, []) := rfl
theorem k1_153 : L1[153]? = some (0, 5, [none, some 154, some 155, some 156, some 157, some 158]) := rfl
theorem k1_154 : L1[154]? = some (1, 3, []) := rfl
theorem k1_155 : L1[155]? = some (1, 3, []) := rfl
theorem k1_156 : L1[156]? = some (1, 3, []) := rfl
theorem k1_157 : L1[157]? = some (1, 7, []) := rfl
theorem k1_158 : L1[158]? = some (1, 7, []) := rfl
theorem k1_159 : L1[159]? = some (0, 5, [none, some 160, some 161, some 162, some 163, some 164]) := rfl
theorem k1_160 : L1[160]? = some (1, 3, []) := rfl
theorem k1_161 : L1[161]? = some (1, 3, []) := rfl
theorem k1_162 : L1[162]? = some (1, 3, []) := rfl
theorem k1_163 : L1[163]? = some (1, 7, []) := rfl
theorem k1_164 : L1[164]? = some (1, 7, []) := rfl
theorem k1_165 : L1[165]? = some (0, 5, [none, some 166, some 167, some 168, some 169, some 170]) := rfl
theorem k1_166 : L1[166]? = some (1, 3, []) := rfl
theorem k1_167 : L1[167]? = some (1, 3, []) := rfl
theorem k1_168 : L1[168]? = some (1, 3, []) := rfl
theorem k1_169 : L1[169]? = some (1, 7, []) := rfl
theorem k1_170 : L1[170]? = some (1, 7, []) := rfl
theorem k1_171 : L1[171]? = some (0, 5, [none, some 172, some 173, some 174, some 175, some 176]) := rfl
theorem k1_172 : L1[172]? = some (1, 3, []) := rfl
theorem k1_173 : L1[173]? = some (1, 3, []) := rfl
theorem k1_174 : L1[174]? = some (1, 3, []) := rfl
theorem k1_175 : L1[175]? = some (1, 7, []) := rfl
theorem k1_176 : L1[176]? = some (1, 7, []) := rfl
theorem k1_177 : L1[177]? = some (0, 5, [none, some 178, some 179, some 180, some 181, some 182]) := rfl
theorem k1_178 : L1[178]? = some (1, 3, []) := rfl
theorem k1_179 : L1[179]? = some (1, 3, []) := rfl
theorem k1_180 : L1[180]? = some (1, 3, []) := rfl
theorem k1_181 : L1[181]? = some (1, 7, []) := rfl
theorem k1_182 : L1[182]? = some (1, 7, []) := rfl
theorem k1_183 : L1[183]? = some (0, 5, [none, some 184, some 185, some 186, some 187, some 188]) := rfl
theorem k1_184 : L1[184]? = some (1, 3, []) := rfl
theorem k1_185 : L1[185]? = some (1, 3, []) := rfl
theorem k1_186 : L1[186]? = some (1, 3, []) := rfl
theorem k1_187 : L1[187]? = some (1, 7, []) := rfl
theorem k1_188 : L1[188]? = some (1, 7, []) := rfl
theorem k2_0 : L2[0]? = some (0, 9, [some 1, none, none, none, none, none, some 2, none, some 3, some 4, some 5, some 6, some 7, none, some 8, some 9, some 10, some 11, none, none, none, none, none, none, some 12, none, some 13, some 14, some 15, some 16, some 17, some 18]) := rfl
theorem k2_1 : L2[1]? = some (1, 380, []) := rfl
theorem k2_2 : L2[2]? = some (1, 3, []) := rfl
theorem k2_3 : L2[3]? = some (1, 7, []) := rfl
theorem k2_4 : L2[4]? = some (1, 7, []) := rfl
theorem k2_5 : L2[5]? = some (1, 7, []) := rfl
theorem k2_6 : L2[6]? = some (1, 7, []) := rfl
theorem k2_7 : L2[7]? = some (1, 7, []) := rfl
theorem k2_8 : L2[8]? = some (1, 6, []) := rfl
theorem k2_9 : L2[9]? = some (1, 6, []) := rfl
theorem k2_10 : L2[10]? = some (1, 6, []) := rfl
theorem k2_11 : L2[11]? = some (1, 200, []) := rfl
theorem k2_12 : L2[12]? = some (1, 9, []) := rfl
theorem k2_13 : L2[13]? = some (1, 35, []) := rfl
theorem k2_14 : L2[14]? = some (1, 8, []) := rfl
theorem k2_15 : L2[15]? = some (1, 8, []) := rfl
theorem k2_16 : L2[16]? = some (1, 7, []) := rfl
theorem k2_17 : L2[17]? = some (1, 246, []) := rfl
theorem k2_18 : L2[18]? = some (1, 2401, []) := rfl
def isStand (K : Nat) : Prop := L1[K]? = some (0, 5, [none, some (K + 1), some (K + 2), some (K + 3), some (K + 4), some (K + 5)]) ∧ L1[K + 1]? = some (1, 3, []) ∧ L1[K + 2]? = some (1, 3, []) ∧ L1[K + 3]? = some (1, 3, []) ∧ L1[K + 4]? = some (1, 7, []) ∧ L1[K + 5]? = some (1, 7, [])
def isCity (K : Nat) : Prop := L1[K]? = some (0, 0, [none, none, none, none, some (K + 1), some (K + 2), some (K + 3), some (K + 4), some (K + 5), some (K + 6), some (K + 7), some (K + 8), some (K + 9)]) ∧ L1[K + 1]? = some (1, 3, []) ∧ L1[K + 2]? = some (1, 3, []) ∧ L1[K + 3]? = some (1, 3, []) ∧ L1[K + 4]? = some (1, 7, []) ∧ L1[K + 5]? = some (1, 7, []) ∧ L1[K + 6]? = some (1, 7, []) ∧ L1[K + 7]? = some (1, 7, []) ∧ L1[K + 8]? = some (1, 7, []) ∧ L1[K + 9]? = some (0, 7, [none, none, none, none])
theorem st_39 : isStand 39 := ⟨rfl, rfl, rfl, rfl, rfl, rfl⟩
theorem st_45 : isStand 45 := ⟨rfl, rfl, rfl, rfl, rfl, rfl⟩
theorem st_51 : isStand 51 := ⟨rfl, rfl, rfl, rfl, rfl, rfl⟩
theorem st_57 : isStand 57 := ⟨rfl, rfl, rfl, rfl, rfl, rfl⟩
theorem st_63 : isStand 63 := ⟨rfl, rfl, rfl, rfl, rfl, rfl⟩
theorem st_69 : isStand 69 := ⟨rfl, rfl, rfl, rfl, rfl, rfl⟩
theorem st_75 : isStand 75 := ⟨rfl, rfl, rfl, rfl, rfl, rfl⟩
theorem st_81 : isStand 81 := ⟨rfl, rfl, rfl, rfl, rfl, rfl⟩
theorem st_87 : isStand 87 := ⟨rfl, rfl, rfl, rfl, rfl, rfl⟩
theorem st_93 : isStand 93 := ⟨rfl, rfl, rfl, rfl, rfl, rfl⟩
theorem st_99 : isStand 99 := ⟨rfl, rfl, rfl, rfl, rfl, rfl⟩
theorem st_105 : isStand 105 := ⟨rfl, rfl, rfl, rfl, rfl, rfl⟩
theorem st_111 : isStand 111 := ⟨rfl, rfl, rfl, rfl, rfl, rfl⟩
theorem st_117 : isStand 117 := ⟨rfl, rfl, rfl, rfl, rfl, rfl⟩
theorem st_123 : isStand 123 := ⟨rfl, rfl, rfl, rfl, rfl, rfl⟩
theorem st_129 : isStand 129 := ⟨rfl, rfl, rfl, rfl, rfl, rfl⟩
theorem st_135 : isStand 135 := ⟨rfl, rfl, rfl, rfl, rfl, rfl⟩
theorem st_141 : isStand 141 := ⟨rfl, rfl, rfl, rfl, rfl, rfl⟩
theorem st_147 : isStand 147 := ⟨rfl, rfl, rfl, rfl, rfl, rfl⟩
theorem st_153 : isStand 153 := ⟨rfl, rfl, rfl, rfl, rfl, rfl⟩
theorem st_159 : isStand 159 := ⟨rfl, rfl, rfl, rfl, rfl, rfl⟩
theorem st_165 : isStand 165 := ⟨rfl, rfl, rfl, rfl, rfl, rfl⟩
theorem st_171 : isStand 171 := ⟨rfl, rfl, rfl, rfl, rfl, rfl⟩
theorem st_177 : isStand 177 := ⟨rfl, rfl, rfl, rfl, rfl, rfl⟩
theorem st_183 : isStand 183 := ⟨rfl, rfl, rfl, rfl, rfl, rfl⟩
theorem ct_4 : isCity 4 := ⟨rfl, rfl, rfl, rfl, rfl, rfl, rfl, rfl, rfl, rfl⟩
theorem ct_14 : isCity 14 := ⟨rfl, rfl, rfl, rfl, rfl, rfl, rfl, rfl, rfl, rfl⟩
theorem fl_stn_51 : ∀ j, j < 8 → isStand (51 + 6 * j)
  | 0, _ => st_51
  | 1, _ => st_57
  | 2, _ => st_63
  | 3, _ => st_69
  | 4, _ => st_75
  | 5, _ => st_81
  | 6, _ => st_87
  | 7, _ => st_93
  | j + 8, h => absurd h (by omega)
theorem fl_st_51 {i : Int32} (h : 0 ≤ i.toInt ∧ i.toInt < 8) : isStand (51 + 6 * i.toNatClampNeg) := fl_stn_51 _ (by have h1 : i.toNatClampNeg = i.toInt.toNat := rfl; omega)
theorem fl_stn_99 : ∀ j, j < 2 → isStand (99 + 6 * j)
  | 0, _ => st_99
  | 1, _ => st_105
  | j + 2, h => absurd h (by omega)
theorem fl_st_99 {i : Int32} (h : 0 ≤ i.toInt ∧ i.toInt < 2) : isStand (99 + 6 * i.toNatClampNeg) := fl_stn_99 _ (by have h1 : i.toNatClampNeg = i.toInt.toNat := rfl; omega)
theorem fl_stn_111 : ∀ j, j < 8 → isStand (111 + 6 * j)
  | 0, _ => st_111
  | 1, _ => st_117
  | 2, _ => st_123
  | 3, _ => st_129
  | 4, _ => st_135
  | 5, _ => st_141
  | 6, _ => st_147
  | 7, _ => st_153
  | j + 8, h => absurd h (by omega)
theorem fl_st_111 {i : Int32} (h : 0 ≤ i.toInt ∧ i.toInt < 8) : isStand (111 + 6 * i.toNatClampNeg) := fl_stn_111 _ (by have h1 : i.toNatClampNeg = i.toInt.toNat := rfl; omega)
theorem fl_stn_159 : ∀ j, j < 5 → isStand (159 + 6 * j)
  | 0, _ => st_159
  | 1, _ => st_165
  | 2, _ => st_171
  | 3, _ => st_177
  | 4, _ => st_183
  | j + 5, h => absurd h (by omega)
theorem fl_st_159 {i : Int32} (h : 0 ≤ i.toInt ∧ i.toInt < 5) : isStand (159 + 6 * i.toNatClampNeg) := fl_stn_159 _ (by have h1 : i.toNatClampNeg = i.toInt.toNat := rfl; omega)
theorem fl_one3 : ∀ i q, L1[i]? = some q → q.1 = 3 → i = 38 := by
  have h : ∀ i, i < 189 → ∀ q, L1[i]? = some q → q.1 = 3 → i = 38 := by
    intro i hi q hq h3
    have : ((List.range 189).all fun i => match L1[i]? with | some q => decide (q.1 = 3 → i = 38) | none => true) = true := by decide +kernel
    have h1 := List.all_eq_true.mp this i (List.mem_range.mpr hi)
    rw [hq] at h1
    exact of_decide_eq_true h1 h3
  intro i q hq h3
  exact h i (by have := (List.getElem?_eq_some_iff.mp hq).1; exact this) q hq h3
theorem fl_nz {v : Int32} (h : v = 0 ∨ v = 1) : narrow .boolean (.int v) = .int v := by rcases h with rfl | rfl <;> rfl
theorem fl_fz {v : Int32} (h : v = 0 ∨ v = 1) : fits .boolean (.int v) = true := by rcases h with rfl | rfl <;> rfl
theorem fl_r1 {d : Nat} (h : 1 ≤ d) : 1 ≤ (fl_rm d).frames := h
theorem fl_r2 {d : Nat} {n : Nat} (h : 1 ≤ d) (h2 : n ≤ 8) : n + 13 ≤ (fl_rm d).locals := by show n + 13 ≤ 64 * d; omega
theorem fl_nfw : nativeFrameWords "java/lang/System" "arraycopy" 5 + 11 ≤ 50 := by decide +kernel
theorem fl_r3 {d : Nat} {n : Nat} (h : 1 ≤ d) (h2 : n ≤ 8) : n + (nativeFrameWords "java/lang/System" "arraycopy" 5 + 11) ≤ (fl_rm d).locals := by
  have := fl_nfw
  show n + _ ≤ 64 * d
  omega
theorem inU_X0 : ∀ w ∈ u_ws RX0 TX0 13, w ∈ fl_U := fl_ws [149, 151, 153, 155, 157, 159, 161, 163, 165, 167, 169, 171, 173] (by decide +kernel) (by decide +kernel)
theorem inU_X1 : ∀ w ∈ u_ws RX1 TX1 6, w ∈ fl_U := fl_ws [302, 304, 306, 308, 310, 312] (by decide +kernel) (by decide +kernel)
theorem inU_X2 : ∀ w ∈ u_ws RX2 TX2 5, w ∈ fl_U := fl_ws [275, 277, 279, 281, 283] (by decide +kernel) (by decide +kernel)
theorem inU_X3 : ∀ w ∈ u_ws RX3 TX3 4, w ∈ fl_U := fl_ws [250, 252, 254, 256] (by decide +kernel) (by decide +kernel)
theorem inU_X4 : ∀ w ∈ u_ws RX4 TX4 3, w ∈ fl_U := fl_ws [229, 231, 233] (by decide +kernel) (by decide +kernel)
theorem inU_X5 : ∀ w ∈ u_ws RX5 TX5 6, w ∈ fl_U := fl_ws [200, 202, 204, 206, 208, 210] (by decide +kernel) (by decide +kernel)
theorem inU_X6 : ∀ w ∈ u_ws RX6 TX6 4, w ∈ fl_U := fl_ws [81, 83, 85, 87] (by decide +kernel) (by decide +kernel)
theorem inU_X7 : ∀ w ∈ u_ws RX7 TX7 4, w ∈ fl_U := fl_ws [112, 114, 116, 118] (by decide +kernel) (by decide +kernel)
theorem inU_X8 : ∀ w ∈ u_ws RX8 TX8 11, w ∈ fl_U := fl_ws [433, 435, 437, 439, 441, 443, 445, 447, 449, 451, 453] (by decide +kernel) (by decide +kernel)
theorem inU_X9 : ∀ w ∈ u_ws RX9 TX9 32, w ∈ fl_U := fl_ws [778, 780, 782, 784, 786, 788, 790, 792, 794, 796, 798, 800, 802, 804, 806, 808, 810, 812, 814, 816, 818, 820, 822, 824, 826, 828, 830, 832, 834, 836, 838, 840] (by decide +kernel) (by decide +kernel)
theorem wq_0 : Cond.selects "CabTears$Text" ⟨"CabTears$Text", "readNumbers", "(II)Z"⟩ ⟨"CabTears$Text", "readNumbers", "(II)Z"⟩ ∈ fl_U := fl_w1 0 (by decide +kernel) (by decide +kernel)
theorem wq_1 : Cond.selects "CabTears$Text" ⟨"CabTears$Text", "tell", "(LCabTears$City;C)Z"⟩ ⟨"CabTears$Text", "tell", "(LCabTears$City;C)Z"⟩ ∈ fl_U := fl_w1 1 (by decide +kernel) (by decide +kernel)
theorem wq_2 : Cond.selects "CabTears" ⟨"CabTears", "begin", "()V"⟩ ⟨"CabTears", "begin", "()V"⟩ ∈ fl_U := fl_w1 2 (by decide +kernel) (by decide +kernel)
theorem wq_3 : Cond.selects "CabTears$Orders" ⟨"CabTears$Orders", "keepIfFewer", "(I)V"⟩ ⟨"CabTears$Orders", "keepIfFewer", "(I)V"⟩ ∈ fl_U := fl_w1 3 (by decide +kernel) (by decide +kernel)
theorem wq_4 : Cond.selects "CabTears" ⟨"CabTears", "lateFrom", "(II)I"⟩ ⟨"CabTears", "lateFrom", "(II)I"⟩ ∈ fl_U := fl_w1 4 (by decide +kernel) (by decide +kernel)
theorem wq_5 : Cond.selects "CabTears" ⟨"CabTears", "liveOneDay", "()V"⟩ ⟨"CabTears", "liveOneDay", "()V"⟩ ∈ fl_U := fl_w1 5 (by decide +kernel) (by decide +kernel)
theorem wq_6 : Cond.selects "CabTears" ⟨"CabTears", "dayLike", "(I)I"⟩ ⟨"CabTears", "dayLike", "(I)I"⟩ ∈ fl_U := fl_w1 6 (by decide +kernel) (by decide +kernel)
theorem wq_7 : Cond.selects "CabTears" ⟨"CabTears", "tearsOfOthers", "(I)I"⟩ ⟨"CabTears", "tearsOfOthers", "(I)I"⟩ ∈ fl_U := fl_w1 7 (by decide +kernel) (by decide +kernel)
theorem wq_8 : Cond.selects "CabTears" ⟨"CabTears", "fitsSeen", "(III)Z"⟩ ⟨"CabTears", "fitsSeen", "(III)Z"⟩ ∈ fl_U := fl_w1 8 (by decide +kernel) (by decide +kernel)
theorem wq_9 : Cond.selects "CabTears" ⟨"CabTears", "lateAmong", "(I)I"⟩ ⟨"CabTears", "lateAmong", "(I)I"⟩ ∈ fl_U := fl_w1 9 (by decide +kernel) (by decide +kernel)
theorem wq_10 : Cond.selects "CabTears" ⟨"CabTears", "howManyWept", "()I"⟩ ⟨"CabTears", "howManyWept", "()I"⟩ ∈ fl_U := fl_w1 10 (by decide +kernel) (by decide +kernel)
theorem wq_11 : Cond.selects "CabTearsModel" ⟨"CabTearsModel", "addsCab", "(III)V"⟩ ⟨"CabTearsModel", "addsCab", "(III)V"⟩ ∈ fl_U := fl_w1 11 (by decide +kernel) (by decide +kernel)
theorem wq_12 : Cond.selects "CabTearsModel" ⟨"CabTearsModel", "addsFare", "(IIIII)V"⟩ ⟨"CabTearsModel", "addsFare", "(IIIII)V"⟩ ∈ fl_U := fl_w1 12 (by decide +kernel) (by decide +kernel)
theorem wq_13 : Cond.selects "CabTearsModel" ⟨"CabTearsModel", "begins", "()V"⟩ ⟨"CabTearsModel", "begins", "()V"⟩ ∈ fl_U := fl_w1 13 (by decide +kernel) (by decide +kernel)
theorem wq_14 : Cond.selects "CabTearsModel" ⟨"CabTearsModel", "faultOf", "()I"⟩ ⟨"CabTearsModel", "faultOf", "()I"⟩ ∈ fl_U := fl_w1 14 (by decide +kernel) (by decide +kernel)
theorem wq_15 : Cond.selects "CabTearsModel" ⟨"CabTearsModel", "takesItem", "()Z"⟩ ⟨"CabTearsModel", "takesItem", "()Z"⟩ ∈ fl_U := fl_w1 15 (by decide +kernel) (by decide +kernel)
theorem wq_16 : Cond.selects "CabTearsModel" ⟨"CabTearsModel", "letterAt", "(I)I"⟩ ⟨"CabTearsModel", "letterAt", "(I)I"⟩ ∈ fl_U := fl_w1 16 (by decide +kernel) (by decide +kernel)
theorem wq_17 : Cond.selects "CabTearsModel" ⟨"CabTearsModel", "takesRows", "()Z"⟩ ⟨"CabTearsModel", "takesRows", "()Z"⟩ ∈ fl_U := fl_w1 17 (by decide +kernel) (by decide +kernel)
theorem wq_18 : Cond.selects "CabTearsModel" ⟨"CabTearsModel", "takesNumber", "(III)Z"⟩ ⟨"CabTearsModel", "takesNumber", "(III)Z"⟩ ∈ fl_U := fl_w1 18 (by decide +kernel) (by decide +kernel)
theorem wq_19 : Cond.selects "CabTearsModel" ⟨"CabTearsModel", "takesCab", "()Z"⟩ ⟨"CabTearsModel", "takesCab", "()Z"⟩ ∈ fl_U := fl_w1 19 (by decide +kernel) (by decide +kernel)
theorem wq_20 : Cond.selects "CabTearsModel" ⟨"CabTearsModel", "takesFare", "()Z"⟩ ⟨"CabTearsModel", "takesFare", "()Z"⟩ ∈ fl_U := fl_w1 20 (by decide +kernel) (by decide +kernel)
theorem wq_21 : Cond.selects "CabTearsModel" ⟨"CabTearsModel", "places", "()I"⟩ ⟨"CabTearsModel", "places", "()I"⟩ ∈ fl_U := fl_w1 21 (by decide +kernel) (by decide +kernel)
theorem wq_22 : Cond.selects "CabTearsModel" ⟨"CabTearsModel", "isPlace", "(I)Z"⟩ ⟨"CabTearsModel", "isPlace", "(I)Z"⟩ ∈ fl_U := fl_w1 22 (by decide +kernel) (by decide +kernel)
theorem wq_23 : Cond.selects "CabTearsModel" ⟨"CabTearsModel", "farOf", "(II)I"⟩ ⟨"CabTearsModel", "farOf", "(II)I"⟩ ∈ fl_U := fl_w1 23 (by decide +kernel) (by decide +kernel)
theorem wq_24 : Cond.selects "CabTearsModel" ⟨"CabTearsModel", "isCab", "(I)Z"⟩ ⟨"CabTearsModel", "isCab", "(I)Z"⟩ ∈ fl_U := fl_w1 24 (by decide +kernel) (by decide +kernel)
theorem wq_25 : Cond.selects "CabTearsModel" ⟨"CabTearsModel", "isFare", "(I)Z"⟩ ⟨"CabTearsModel", "isFare", "(I)Z"⟩ ∈ fl_U := fl_w1 25 (by decide +kernel) (by decide +kernel)
theorem wq_26 : Cond.selects "CabTearsModel" ⟨"CabTearsModel", "minds", "()V"⟩ ⟨"CabTearsModel", "minds", "()V"⟩ ∈ fl_U := fl_w1 26 (by decide +kernel) (by decide +kernel)
theorem wq_27 : Cond.selects "CabTearsModel" ⟨"CabTearsModel", "copy", "(II)V"⟩ ⟨"CabTearsModel", "copy", "(II)V"⟩ ∈ fl_U := fl_w1 27 (by decide +kernel) (by decide +kernel)
theorem wq_28 : Cond.selects "CabTearsModel" ⟨"CabTearsModel", "ridesAsOneDoes", "(III)Z"⟩ ⟨"CabTearsModel", "ridesAsOneDoes", "(III)Z"⟩ ∈ fl_U := fl_w1 28 (by decide +kernel) (by decide +kernel)
theorem wq_29 : Cond.selects "CabTearsModel" ⟨"CabTearsModel", "lateBy", "(III)I"⟩ ⟨"CabTearsModel", "lateBy", "(III)I"⟩ ∈ fl_U := fl_w1 29 (by decide +kernel) (by decide +kernel)
theorem wq_30 : Cond.selects "CabTearsModel" ⟨"CabTearsModel", "freeBy", "(III)I"⟩ ⟨"CabTearsModel", "freeBy", "(III)I"⟩ ∈ fl_U := fl_w1 30 (by decide +kernel) (by decide +kernel)
theorem wq_31 : Cond.selects "CabTearsModel" ⟨"CabTearsModel", "setsOut", "(II)I"⟩ ⟨"CabTearsModel", "setsOut", "(II)I"⟩ ∈ fl_U := fl_w1 31 (by decide +kernel) (by decide +kernel)
theorem wq_32 : Cond.selects "CabTearsModel" ⟨"CabTearsModel", "goesBy", "(III)Z"⟩ ⟨"CabTearsModel", "goesBy", "(III)Z"⟩ ∈ fl_U := fl_w1 32 (by decide +kernel) (by decide +kernel)
theorem wq_33 : Cond.selects "CabTearsModel" ⟨"CabTearsModel", "weeps", "(II)Z"⟩ ⟨"CabTearsModel", "weeps", "(II)Z"⟩ ∈ fl_U := fl_w1 33 (by decide +kernel) (by decide +kernel)
theorem wq_34 : Cond.selects "CabTearsModel" ⟨"CabTearsModel", "rides", "(IIIZ)V"⟩ ⟨"CabTearsModel", "rides", "(IIIZ)V"⟩ ∈ fl_U := fl_w1 34 (by decide +kernel) (by decide +kernel)
theorem wq_35 : Cond.selects "CabTearsModel" ⟨"CabTearsModel", "sends", "(III)V"⟩ ⟨"CabTearsModel", "sends", "(III)V"⟩ ∈ fl_U := fl_w1 35 (by decide +kernel) (by decide +kernel)
theorem wq_36 : Cond.selects "CabTearsModel" ⟨"CabTearsModel", "soonestIn", "(II)I"⟩ ⟨"CabTearsModel", "soonestIn", "(II)I"⟩ ∈ fl_U := fl_w1 36 (by decide +kernel) (by decide +kernel)
theorem wq_37 : Cond.selects "CabTearsModel" ⟨"CabTearsModel", "ordersRest", "()I"⟩ ⟨"CabTearsModel", "ordersRest", "()I"⟩ ∈ fl_U := fl_w1 37 (by decide +kernel) (by decide +kernel)
theorem wq_38 : Cond.selects "CabTearsModel" ⟨"CabTearsModel", "rest", "()I"⟩ ⟨"CabTearsModel", "rest", "()I"⟩ ∈ fl_U := fl_w1 38 (by decide +kernel) (by decide +kernel)
theorem wq_39 : Cond.selects "CabTearsModel" ⟨"CabTearsModel", "tries", "()V"⟩ ⟨"CabTearsModel", "tries", "()V"⟩ ∈ fl_U := fl_w1 39 (by decide +kernel) (by decide +kernel)
theorem wq_40 : Cond.selects "CabTearsModel" ⟨"CabTearsModel", "laysDay", "(I)V"⟩ ⟨"CabTearsModel", "laysDay", "(I)V"⟩ ∈ fl_U := fl_w1 40 (by decide +kernel) (by decide +kernel)
theorem wq_41 : Cond.selects "CabTearsModel" ⟨"CabTearsModel", "areLike", "(II)Z"⟩ ⟨"CabTearsModel", "areLike", "(II)Z"⟩ ∈ fl_U := fl_w1 41 (by decide +kernel) (by decide +kernel)
theorem wq_42 : Cond.selects "CabTearsModel" ⟨"CabTearsModel", "weepBy", "(IIZ)I"⟩ ⟨"CabTearsModel", "weepBy", "(IIZ)I"⟩ ∈ fl_U := fl_w1 42 (by decide +kernel) (by decide +kernel)
theorem wq_43 : Cond.selects "CabTearsModel" ⟨"CabTearsModel", "isSeen", "(I)Z"⟩ ⟨"CabTearsModel", "isSeen", "(I)Z"⟩ ∈ fl_U := fl_w1 43 (by decide +kernel) (by decide +kernel)
theorem wq_45 : Cond.initialized "CabTears" ∈ fl_U := fl_w1 45 (by decide +kernel) (by decide +kernel)
theorem wq_46 : Cond.initialized "CabTears$Text" ∈ fl_U := fl_w1 46 (by decide +kernel) (by decide +kernel)
theorem wq_47 : Cond.initialized "CabTears$City" ∈ fl_U := fl_w1 47 (by decide +kernel) (by decide +kernel)
theorem wq_49 : Cond.initialized "CabTears$Stand" ∈ fl_U := fl_w1 49 (by decide +kernel) (by decide +kernel)
theorem wq_50 : Cond.initialized "CabTears$Shelf" ∈ fl_U := fl_w1 50 (by decide +kernel) (by decide +kernel)
theorem wq_51 : Cond.initialized "java/lang/Math" ∈ fl_U := fl_w1 51 (by decide +kernel) (by decide +kernel)
theorem wq_52 : Cond.initialized "CabTears$Seen" ∈ fl_U := fl_w1 52 (by decide +kernel) (by decide +kernel)
theorem wq_53 : Cond.initialized "CabTears$Orders" ∈ fl_U := fl_w1 53 (by decide +kernel) (by decide +kernel)
theorem wq_54 : Cond.initialized "CabTears$Duel" ∈ fl_U := fl_w1 54 (by decide +kernel) (by decide +kernel)
theorem wq_59 : Cond.initialized "java/lang/System" ∈ fl_U := fl_w1 59 (by decide +kernel) (by decide +kernel)
theorem wq_60 : Cond.initialized "CabTearsModel" ∈ fl_U := fl_w1 60 (by decide +kernel) (by decide +kernel)
theorem wq_61 : Cond.initialized "java/lang/Integer" ∈ fl_U := fl_w1 61 (by decide +kernel) (by decide +kernel)
theorem wq_76 : Cond.fieldLink "CabTears$Text" 9 "CabTears$Text" "letters" "[C" ∈ fl_U := fl_w1 76 (by decide +kernel) (by decide +kernel)
theorem wq_77 : Cond.fieldLink "CabTears" 93 "CabTears$Text" "length" "I" ∈ fl_U := fl_w1 77 (by decide +kernel) (by decide +kernel)
theorem wq_78 : Cond.fieldLink "CabTears$Text" 19 "CabTears$Text" "length" "I" ∈ fl_U := fl_w1 78 (by decide +kernel) (by decide +kernel)
theorem wq_79 : Cond.fieldLink "CabTears$Text" 15 "CabTears$Text" "numbers" "[I" ∈ fl_U := fl_w1 79 (by decide +kernel) (by decide +kernel)
theorem wq_80 : Cond.fieldLink "CabTears$Text" 36 "CabTears$Text" "told" "I" ∈ fl_U := fl_w1 80 (by decide +kernel) (by decide +kernel)
theorem wq_104 : Cond.fieldLink "CabTears$City" 103 "CabTears$Trip" "free" "I" ∈ fl_U := fl_w1 104 (by decide +kernel) (by decide +kernel)
theorem wq_105 : Cond.fieldLink "CabTears" 192 "CabTears$Trip" "free" "I" ∈ fl_U := fl_w1 105 (by decide +kernel) (by decide +kernel)
theorem wq_106 : Cond.fieldLink "CabTears$City" 105 "CabTears$Trip" "late" "I" ∈ fl_U := fl_w1 106 (by decide +kernel) (by decide +kernel)
theorem wq_107 : Cond.fieldLink "CabTears" 196 "CabTears$Trip" "late" "I" ∈ fl_U := fl_w1 107 (by decide +kernel) (by decide +kernel)
theorem wq_108 : Cond.fieldLink "CabTears$City" 108 "CabTears$Trip" "weeps" "Z" ∈ fl_U := fl_w1 108 (by decide +kernel) (by decide +kernel)
theorem wq_109 : Cond.fieldLink "CabTears" 198 "CabTears$Trip" "weeps" "Z" ∈ fl_U := fl_w1 109 (by decide +kernel) (by decide +kernel)
theorem wq_110 : Cond.fieldLink "CabTears$City" 96 "CabTears$Trip" "by" "Z" ∈ fl_U := fl_w1 110 (by decide +kernel) (by decide +kernel)
theorem wq_111 : Cond.fieldLink "CabTears" 202 "CabTears$Trip" "by" "Z" ∈ fl_U := fl_w1 111 (by decide +kernel) (by decide +kernel)
theorem wq_121 : Cond.fieldLink "CabTears$City" 43 "CabTears$City" "rows" "I" ∈ fl_U := fl_w1 121 (by decide +kernel) (by decide +kernel)
theorem wq_122 : Cond.fieldLink "CabTears$City" 47 "CabTears$City" "columns" "I" ∈ fl_U := fl_w1 122 (by decide +kernel) (by decide +kernel)
theorem wq_123 : Cond.fieldLink "CabTears" 286 "CabTears$City" "columns" "I" ∈ fl_U := fl_w1 123 (by decide +kernel) (by decide +kernel)
theorem wq_124 : Cond.fieldLink "CabTears$City" 50 "CabTears$City" "cabs" "I" ∈ fl_U := fl_w1 124 (by decide +kernel) (by decide +kernel)
theorem wq_125 : Cond.fieldLink "CabTears" 103 "CabTears$City" "cabs" "I" ∈ fl_U := fl_w1 125 (by decide +kernel) (by decide +kernel)
theorem wq_126 : Cond.fieldLink "CabTears$City" 53 "CabTears$City" "fares" "I" ∈ fl_U := fl_w1 126 (by decide +kernel) (by decide +kernel)
theorem wq_127 : Cond.fieldLink "CabTears$Orders" 40 "CabTears$City" "fares" "I" ∈ fl_U := fl_w1 127 (by decide +kernel) (by decide +kernel)
theorem wq_128 : Cond.fieldLink "CabTears$Duel" 52 "CabTears$City" "fares" "I" ∈ fl_U := fl_w1 128 (by decide +kernel) (by decide +kernel)
theorem wq_129 : Cond.fieldLink "CabTears" 106 "CabTears$City" "fares" "I" ∈ fl_U := fl_w1 129 (by decide +kernel) (by decide +kernel)
theorem wq_130 : Cond.fieldLink "CabTears$City" 9 "CabTears$City" "cabKind" "[I" ∈ fl_U := fl_w1 130 (by decide +kernel) (by decide +kernel)
theorem wq_131 : Cond.fieldLink "CabTears" 123 "CabTears$City" "cabKind" "[I" ∈ fl_U := fl_w1 131 (by decide +kernel) (by decide +kernel)
theorem wq_132 : Cond.fieldLink "CabTears$City" 15 "CabTears$City" "cabPlace" "[I" ∈ fl_U := fl_w1 132 (by decide +kernel) (by decide +kernel)
theorem wq_133 : Cond.fieldLink "CabTears$Stand" 27 "CabTears$City" "cabPlace" "[I" ∈ fl_U := fl_w1 133 (by decide +kernel) (by decide +kernel)
theorem wq_134 : Cond.fieldLink "CabTears$City" 18 "CabTears$City" "cabWeptIn" "[I" ∈ fl_U := fl_w1 134 (by decide +kernel) (by decide +kernel)
theorem wq_135 : Cond.fieldLink "CabTears$Stand" 38 "CabTears$City" "cabWeptIn" "[I" ∈ fl_U := fl_w1 135 (by decide +kernel) (by decide +kernel)
theorem wq_136 : Cond.fieldLink "CabTears$City" 21 "CabTears$City" "fareKind" "[I" ∈ fl_U := fl_w1 136 (by decide +kernel) (by decide +kernel)
theorem wq_137 : Cond.fieldLink "CabTears$Orders" 45 "CabTears$City" "fareKind" "[I" ∈ fl_U := fl_w1 137 (by decide +kernel) (by decide +kernel)
theorem wq_138 : Cond.fieldLink "CabTears" 139 "CabTears$City" "fareKind" "[I" ∈ fl_U := fl_w1 138 (by decide +kernel) (by decide +kernel)
theorem wq_139 : Cond.fieldLink "CabTears$City" 24 "CabTears$City" "from" "[I" ∈ fl_U := fl_w1 139 (by decide +kernel) (by decide +kernel)
theorem wq_140 : Cond.fieldLink "CabTears" 142 "CabTears$City" "from" "[I" ∈ fl_U := fl_w1 140 (by decide +kernel) (by decide +kernel)
theorem wq_141 : Cond.fieldLink "CabTears$City" 27 "CabTears$City" "to" "[I" ∈ fl_U := fl_w1 141 (by decide +kernel) (by decide +kernel)
theorem wq_142 : Cond.fieldLink "CabTears" 145 "CabTears$City" "to" "[I" ∈ fl_U := fl_w1 142 (by decide +kernel) (by decide +kernel)
theorem wq_143 : Cond.fieldLink "CabTears$City" 30 "CabTears$City" "since" "[I" ∈ fl_U := fl_w1 143 (by decide +kernel) (by decide +kernel)
theorem wq_144 : Cond.fieldLink "CabTears" 148 "CabTears$City" "since" "[I" ∈ fl_U := fl_w1 144 (by decide +kernel) (by decide +kernel)
theorem wq_145 : Cond.fieldLink "CabTears$City" 33 "CabTears$City" "bears" "[I" ∈ fl_U := fl_w1 145 (by decide +kernel) (by decide +kernel)
theorem wq_146 : Cond.fieldLink "CabTears" 151 "CabTears$City" "bears" "[I" ∈ fl_U := fl_w1 146 (by decide +kernel) (by decide +kernel)
theorem wq_147 : Cond.fieldLink "CabTears$City" 39 "CabTears$City" "trip" "LCabTears$Trip;" ∈ fl_U := fl_w1 147 (by decide +kernel) (by decide +kernel)
theorem wq_148 : Cond.fieldLink "CabTears" 188 "CabTears$City" "trip" "LCabTears$Trip;" ∈ fl_U := fl_w1 148 (by decide +kernel) (by decide +kernel)
theorem wq_182 : Cond.fieldLink "CabTears$Stand" 44 "CabTears$Stand" "now" "I" ∈ fl_U := fl_w1 182 (by decide +kernel) (by decide +kernel)
theorem wq_183 : Cond.fieldLink "CabTears" 175 "CabTears$Stand" "now" "I" ∈ fl_U := fl_w1 183 (by decide +kernel) (by decide +kernel)
theorem wq_184 : Cond.fieldLink "CabTears$City" 87 "CabTears$Stand" "now" "I" ∈ fl_U := fl_w1 184 (by decide +kernel) (by decide +kernel)
theorem wq_185 : Cond.fieldLink "CabTears$Stand" 9 "CabTears$Stand" "place" "[I" ∈ fl_U := fl_w1 185 (by decide +kernel) (by decide +kernel)
theorem wq_186 : Cond.fieldLink "CabTears" 127 "CabTears$Stand" "place" "[I" ∈ fl_U := fl_w1 186 (by decide +kernel) (by decide +kernel)
theorem wq_187 : Cond.fieldLink "CabTears$City" 100 "CabTears$Stand" "place" "[I" ∈ fl_U := fl_w1 187 (by decide +kernel) (by decide +kernel)
theorem wq_188 : Cond.fieldLink "CabTears$Stand" 15 "CabTears$Stand" "free" "[I" ∈ fl_U := fl_w1 188 (by decide +kernel) (by decide +kernel)
theorem wq_189 : Cond.fieldLink "CabTears" 130 "CabTears$Stand" "free" "[I" ∈ fl_U := fl_w1 189 (by decide +kernel) (by decide +kernel)
theorem wq_190 : Cond.fieldLink "CabTears$City" 90 "CabTears$Stand" "free" "[I" ∈ fl_U := fl_w1 190 (by decide +kernel) (by decide +kernel)
theorem wq_191 : Cond.fieldLink "CabTears$Stand" 18 "CabTears$Stand" "weptIn" "[I" ∈ fl_U := fl_w1 191 (by decide +kernel) (by decide +kernel)
theorem wq_192 : Cond.fieldLink "CabTears" 133 "CabTears$Stand" "weptIn" "[I" ∈ fl_U := fl_w1 192 (by decide +kernel) (by decide +kernel)
theorem wq_193 : Cond.fieldLink "CabTears$City" 78 "CabTears$Stand" "weptIn" "[I" ∈ fl_U := fl_w1 193 (by decide +kernel) (by decide +kernel)
theorem wq_194 : Cond.fieldLink "CabTears$Stand" 21 "CabTears$Stand" "late" "[I" ∈ fl_U := fl_w1 194 (by decide +kernel) (by decide +kernel)
theorem wq_195 : Cond.fieldLink "CabTears" 157 "CabTears$Stand" "late" "[I" ∈ fl_U := fl_w1 195 (by decide +kernel) (by decide +kernel)
theorem wq_196 : Cond.fieldLink "CabTears$City" 111 "CabTears$Stand" "late" "[I" ∈ fl_U := fl_w1 196 (by decide +kernel) (by decide +kernel)
theorem wq_197 : Cond.fieldLink "CabTears$Stand" 24 "CabTears$Stand" "tears" "[I" ∈ fl_U := fl_w1 197 (by decide +kernel) (by decide +kernel)
theorem wq_198 : Cond.fieldLink "CabTears" 160 "CabTears$Stand" "tears" "[I" ∈ fl_U := fl_w1 198 (by decide +kernel) (by decide +kernel)
theorem wq_199 : Cond.fieldLink "CabTears$City" 113 "CabTears$Stand" "tears" "[I" ∈ fl_U := fl_w1 199 (by decide +kernel) (by decide +kernel)
theorem wq_220 : Cond.static ⟨"java/lang/Math", "max", "(II)I"⟩ ∈ fl_U := fl_w1 220 (by decide +kernel) (by decide +kernel)
theorem wq_221 : Cond.code ⟨"java/lang/Math", "max", "(II)I"⟩ prog_13_method_65_code 2 (Option.some FieldType.int) ∈ fl_U := fl_w1 221 (by decide +kernel) (by decide +kernel)
theorem wq_225 : Cond.fieldLink "CabTears$Shelf" 15 "CabTears$Shelf" "stands" "[LCabTears$Stand;" ∈ fl_U := fl_w1 225 (by decide +kernel) (by decide +kernel)
theorem wq_226 : Cond.fieldLink "CabTears$Shelf" 22 "CabTears$Shelf" "top" "I" ∈ fl_U := fl_w1 226 (by decide +kernel) (by decide +kernel)
theorem wq_227 : Cond.fieldLink "CabTears$Shelf" 30 "CabTears$Shelf" "held" "I" ∈ fl_U := fl_w1 227 (by decide +kernel) (by decide +kernel)
theorem wq_228 : Cond.fieldLink "CabTears" 182 "CabTears$Shelf" "held" "I" ∈ fl_U := fl_w1 228 (by decide +kernel) (by decide +kernel)
theorem wq_242 : Cond.fieldLink "CabTears$Seen" 9 "CabTears$Seen" "cab" "[I" ∈ fl_U := fl_w1 242 (by decide +kernel) (by decide +kernel)
theorem wq_243 : Cond.fieldLink "CabTears" 298 "CabTears$Seen" "cab" "[I" ∈ fl_U := fl_w1 243 (by decide +kernel) (by decide +kernel)
theorem wq_244 : Cond.fieldLink "CabTears$Seen" 15 "CabTears$Seen" "fare" "[I" ∈ fl_U := fl_w1 244 (by decide +kernel) (by decide +kernel)
theorem wq_245 : Cond.fieldLink "CabTears" 301 "CabTears$Seen" "fare" "[I" ∈ fl_U := fl_w1 245 (by decide +kernel) (by decide +kernel)
theorem wq_246 : Cond.fieldLink "CabTears$Seen" 18 "CabTears$Seen" "step" "[I" ∈ fl_U := fl_w1 246 (by decide +kernel) (by decide +kernel)
theorem wq_247 : Cond.fieldLink "CabTears" 308 "CabTears$Seen" "step" "[I" ∈ fl_U := fl_w1 247 (by decide +kernel) (by decide +kernel)
theorem wq_248 : Cond.fieldLink "CabTears$Seen" 21 "CabTears$Seen" "held" "I" ∈ fl_U := fl_w1 248 (by decide +kernel) (by decide +kernel)
theorem wq_249 : Cond.fieldLink "CabTears" 256 "CabTears$Seen" "held" "I" ∈ fl_U := fl_w1 249 (by decide +kernel) (by decide +kernel)
theorem wq_267 : Cond.fieldLink "CabTears$Orders" 11 "CabTears$Orders" "stands" "[LCabTears$Stand;" ∈ fl_U := fl_w1 267 (by decide +kernel) (by decide +kernel)
theorem wq_268 : Cond.fieldLink "CabTears$Orders" 17 "CabTears$Orders" "tried" "[I" ∈ fl_U := fl_w1 268 (by decide +kernel) (by decide +kernel)
theorem wq_269 : Cond.fieldLink "CabTears$Orders" 21 "CabTears$Orders" "best" "[I" ∈ fl_U := fl_w1 269 (by decide +kernel) (by decide +kernel)
theorem wq_270 : Cond.fieldLink "CabTears" 217 "CabTears$Orders" "best" "[I" ∈ fl_U := fl_w1 270 (by decide +kernel) (by decide +kernel)
theorem wq_271 : Cond.fieldLink "CabTears$Orders" 33 "CabTears$Orders" "length" "I" ∈ fl_U := fl_w1 271 (by decide +kernel) (by decide +kernel)
theorem wq_272 : Cond.fieldLink "CabTears" 216 "CabTears$Orders" "length" "I" ∈ fl_U := fl_w1 272 (by decide +kernel) (by decide +kernel)
theorem wq_273 : Cond.fieldLink "CabTears$Orders" 37 "CabTears$Orders" "fewest" "I" ∈ fl_U := fl_w1 273 (by decide +kernel) (by decide +kernel)
theorem wq_274 : Cond.fieldLink "CabTears" 213 "CabTears$Orders" "fewest" "I" ∈ fl_U := fl_w1 274 (by decide +kernel) (by decide +kernel)
theorem wq_294 : Cond.fieldLink "CabTears$Duel" 11 "CabTears$Duel" "stands" "[LCabTears$Stand;" ∈ fl_U := fl_w1 294 (by decide +kernel) (by decide +kernel)
theorem wq_295 : Cond.fieldLink "CabTears$Duel" 22 "CabTears$Duel" "first" "I" ∈ fl_U := fl_w1 295 (by decide +kernel) (by decide +kernel)
theorem wq_296 : Cond.fieldLink "CabTears$Duel" 26 "CabTears$Duel" "second" "I" ∈ fl_U := fl_w1 296 (by decide +kernel) (by decide +kernel)
theorem wq_297 : Cond.fieldLink "CabTears$Duel" 39 "CabTears$Duel" "turns" "I" ∈ fl_U := fl_w1 297 (by decide +kernel) (by decide +kernel)
theorem wq_298 : Cond.fieldLink "CabTears$Duel" 49 "CabTears$Duel" "outcome" "I" ∈ fl_U := fl_w1 298 (by decide +kernel) (by decide +kernel)
theorem wq_299 : Cond.fieldLink "CabTears" 248 "CabTears$Duel" "outcome" "I" ∈ fl_U := fl_w1 299 (by decide +kernel) (by decide +kernel)
theorem wq_300 : Cond.fieldLink "CabTears$Duel" 42 "CabTears$Duel" "opening" "I" ∈ fl_U := fl_w1 300 (by decide +kernel) (by decide +kernel)
theorem wq_301 : Cond.fieldLink "CabTears" 251 "CabTears$Duel" "opening" "I" ∈ fl_U := fl_w1 301 (by decide +kernel) (by decide +kernel)
theorem wq_364 : Cond.methodLink "CabTears" 85 ⟨"CabTears$Text", "add", "(C)Z"⟩ ∈ fl_U := fl_w1 364 (by decide +kernel) (by decide +kernel)
theorem wq_365 : Cond.instanceMethod ⟨"CabTears$Text", "add", "(C)Z"⟩ ∈ fl_U := fl_w1 365 (by decide +kernel) (by decide +kernel)
theorem wq_366 : Cond.selects "CabTears$Text" ⟨"CabTears$Text", "add", "(C)Z"⟩ ⟨"CabTears$Text", "add", "(C)Z"⟩ ∈ fl_U := fl_w1 366 (by decide +kernel) (by decide +kernel)
theorem wq_367 : Cond.code ⟨"CabTears$Text", "add", "(C)Z"⟩ prog_8_method_2_code 2 (Option.some FieldType.boolean) ∈ fl_U := fl_w1 367 (by decide +kernel) (by decide +kernel)
theorem wq_368 : Cond.methodLink "CabTears" 89 ⟨"CabTears$Text", "readInto", "(LCabTears$City;)I"⟩ ∈ fl_U := fl_w1 368 (by decide +kernel) (by decide +kernel)
theorem wq_369 : Cond.instanceMethod ⟨"CabTears$Text", "readInto", "(LCabTears$City;)I"⟩ ∈ fl_U := fl_w1 369 (by decide +kernel) (by decide +kernel)
theorem wq_370 : Cond.selects "CabTears$Text" ⟨"CabTears$Text", "readInto", "(LCabTears$City;)I"⟩ ⟨"CabTears$Text", "readInto", "(LCabTears$City;)I"⟩ ∈ fl_U := fl_w1 370 (by decide +kernel) (by decide +kernel)
theorem wq_371 : Cond.code ⟨"CabTears$Text", "readInto", "(LCabTears$City;)I"⟩ prog_8_method_3_code 4 (Option.some FieldType.int) ∈ fl_U := fl_w1 371 (by decide +kernel) (by decide +kernel)
theorem wq_372 : Cond.methodLink "CabTears$Text" 23 ⟨"CabTears$City", "clear", "()V"⟩ ∈ fl_U := fl_w1 372 (by decide +kernel) (by decide +kernel)
theorem wq_373 : Cond.instanceMethod ⟨"CabTears$City", "clear", "()V"⟩ ∈ fl_U := fl_w1 373 (by decide +kernel) (by decide +kernel)
theorem wq_374 : Cond.selects "CabTears$City" ⟨"CabTears$City", "clear", "()V"⟩ ⟨"CabTears$City", "clear", "()V"⟩ ∈ fl_U := fl_w1 374 (by decide +kernel) (by decide +kernel)
theorem wq_375 : Cond.code ⟨"CabTears$City", "clear", "()V"⟩ prog_2_method_2_code 1 (Option.none : Option FieldType) ∈ fl_U := fl_w1 375 (by decide +kernel) (by decide +kernel)
theorem wq_376 : Cond.methodLink "CabTears$Text" 28 ⟨"CabTears$Text", "readNumbers", "(II)Z"⟩ ∈ fl_U := fl_w1 376 (by decide +kernel) (by decide +kernel)
theorem wq_378 : Cond.instanceMethod ⟨"CabTears$Text", "readNumbers", "(II)Z"⟩ ∈ fl_U := fl_w1 378 (by decide +kernel) (by decide +kernel)
theorem wq_379 : Cond.code ⟨"CabTears$Text", "readNumbers", "(II)Z"⟩ prog_8_method_4_code 7 (Option.some FieldType.boolean) ∈ fl_U := fl_w1 379 (by decide +kernel) (by decide +kernel)
theorem wq_380 : Cond.methodLink "CabTears$Text" 32 ⟨"CabTears$Text", "tell", "(LCabTears$City;C)Z"⟩ ∈ fl_U := fl_w1 380 (by decide +kernel) (by decide +kernel)
theorem wq_382 : Cond.instanceMethod ⟨"CabTears$Text", "tell", "(LCabTears$City;C)Z"⟩ ∈ fl_U := fl_w1 382 (by decide +kernel) (by decide +kernel)
theorem wq_383 : Cond.code ⟨"CabTears$Text", "tell", "(LCabTears$City;C)Z"⟩ prog_8_method_5_code 3 (Option.some FieldType.boolean) ∈ fl_U := fl_w1 383 (by decide +kernel) (by decide +kernel)
theorem wq_384 : Cond.methodLink "CabTears$Text" 39 ⟨"CabTears$City", "build", "(II)Z"⟩ ∈ fl_U := fl_w1 384 (by decide +kernel) (by decide +kernel)
theorem wq_385 : Cond.instanceMethod ⟨"CabTears$City", "build", "(II)Z"⟩ ∈ fl_U := fl_w1 385 (by decide +kernel) (by decide +kernel)
theorem wq_386 : Cond.selects "CabTears$City" ⟨"CabTears$City", "build", "(II)Z"⟩ ⟨"CabTears$City", "build", "(II)Z"⟩ ∈ fl_U := fl_w1 386 (by decide +kernel) (by decide +kernel)
theorem wq_387 : Cond.code ⟨"CabTears$City", "build", "(II)Z"⟩ prog_2_method_3_code 3 (Option.some FieldType.boolean) ∈ fl_U := fl_w1 387 (by decide +kernel) (by decide +kernel)
theorem wq_389 : Cond.static ⟨"CabTears", "within", "(III)Z"⟩ ∈ fl_U := fl_w1 389 (by decide +kernel) (by decide +kernel)
theorem wq_390 : Cond.code ⟨"CabTears", "within", "(III)Z"⟩ prog_1_method_29_code 3 (Option.some FieldType.boolean) ∈ fl_U := fl_w1 390 (by decide +kernel) (by decide +kernel)
theorem wq_391 : Cond.methodLink "CabTears$Text" 42 ⟨"CabTears$City", "addCab", "(III)Z"⟩ ∈ fl_U := fl_w1 391 (by decide +kernel) (by decide +kernel)
theorem wq_392 : Cond.instanceMethod ⟨"CabTears$City", "addCab", "(III)Z"⟩ ∈ fl_U := fl_w1 392 (by decide +kernel) (by decide +kernel)
theorem wq_393 : Cond.selects "CabTears$City" ⟨"CabTears$City", "addCab", "(III)Z"⟩ ⟨"CabTears$City", "addCab", "(III)Z"⟩ ∈ fl_U := fl_w1 393 (by decide +kernel) (by decide +kernel)
theorem wq_394 : Cond.code ⟨"CabTears$City", "addCab", "(III)Z"⟩ prog_2_method_4_code 4 (Option.some FieldType.boolean) ∈ fl_U := fl_w1 394 (by decide +kernel) (by decide +kernel)
theorem wq_395 : Cond.methodLink "CabTears$City" 60 ⟨"CabTears$City", "hasPlace", "(I)Z"⟩ ∈ fl_U := fl_w1 395 (by decide +kernel) (by decide +kernel)
theorem wq_396 : Cond.instanceMethod ⟨"CabTears$City", "hasPlace", "(I)Z"⟩ ∈ fl_U := fl_w1 396 (by decide +kernel) (by decide +kernel)
theorem wq_397 : Cond.selects "CabTears$City" ⟨"CabTears$City", "hasPlace", "(I)Z"⟩ ⟨"CabTears$City", "hasPlace", "(I)Z"⟩ ∈ fl_U := fl_w1 397 (by decide +kernel) (by decide +kernel)
theorem wq_398 : Cond.code ⟨"CabTears$City", "hasPlace", "(I)Z"⟩ prog_2_method_7_code 2 (Option.some FieldType.boolean) ∈ fl_U := fl_w1 398 (by decide +kernel) (by decide +kernel)
theorem wq_399 : Cond.methodLink "CabTears$City" 64 ⟨"CabTears$City", "places", "()I"⟩ ∈ fl_U := fl_w1 399 (by decide +kernel) (by decide +kernel)
theorem wq_400 : Cond.instanceMethod ⟨"CabTears$City", "places", "()I"⟩ ∈ fl_U := fl_w1 400 (by decide +kernel) (by decide +kernel)
theorem wq_401 : Cond.selects "CabTears$City" ⟨"CabTears$City", "places", "()I"⟩ ⟨"CabTears$City", "places", "()I"⟩ ∈ fl_U := fl_w1 401 (by decide +kernel) (by decide +kernel)
theorem wq_402 : Cond.code ⟨"CabTears$City", "places", "()I"⟩ prog_2_method_6_code 1 (Option.some FieldType.int) ∈ fl_U := fl_w1 402 (by decide +kernel) (by decide +kernel)
theorem wq_403 : Cond.methodLink "CabTears$Text" 46 ⟨"CabTears$City", "addFare", "([I)Z"⟩ ∈ fl_U := fl_w1 403 (by decide +kernel) (by decide +kernel)
theorem wq_404 : Cond.instanceMethod ⟨"CabTears$City", "addFare", "([I)Z"⟩ ∈ fl_U := fl_w1 404 (by decide +kernel) (by decide +kernel)
theorem wq_405 : Cond.selects "CabTears$City" ⟨"CabTears$City", "addFare", "([I)Z"⟩ ⟨"CabTears$City", "addFare", "([I)Z"⟩ ∈ fl_U := fl_w1 405 (by decide +kernel) (by decide +kernel)
theorem wq_406 : Cond.code ⟨"CabTears$City", "addFare", "([I)Z"⟩ prog_2_method_5_code 3 (Option.some FieldType.boolean) ∈ fl_U := fl_w1 406 (by decide +kernel) (by decide +kernel)
theorem wq_407 : Cond.methodLink "CabTears" 96 ⟨"CabTears", "begin", "()V"⟩ ∈ fl_U := fl_w1 407 (by decide +kernel) (by decide +kernel)
theorem wq_409 : Cond.instanceMethod ⟨"CabTears", "begin", "()V"⟩ ∈ fl_U := fl_w1 409 (by decide +kernel) (by decide +kernel)
theorem wq_410 : Cond.code ⟨"CabTears", "begin", "()V"⟩ prog_1_method_30_code 1 (Option.none : Option FieldType) ∈ fl_U := fl_w1 410 (by decide +kernel) (by decide +kernel)
theorem wq_411 : Cond.methodLink "CabTears" 292 ⟨"CabTears$Stand", "begin", "(LCabTears$City;)V"⟩ ∈ fl_U := fl_w1 411 (by decide +kernel) (by decide +kernel)
theorem wq_412 : Cond.instanceMethod ⟨"CabTears$Stand", "begin", "(LCabTears$City;)V"⟩ ∈ fl_U := fl_w1 412 (by decide +kernel) (by decide +kernel)
theorem wq_413 : Cond.selects "CabTears$Stand" ⟨"CabTears$Stand", "begin", "(LCabTears$City;)V"⟩ ⟨"CabTears$Stand", "begin", "(LCabTears$City;)V"⟩ ∈ fl_U := fl_w1 413 (by decide +kernel) (by decide +kernel)
theorem wq_414 : Cond.code ⟨"CabTears$Stand", "begin", "(LCabTears$City;)V"⟩ prog_7_method_2_code 2 (Option.none : Option FieldType) ∈ fl_U := fl_w1 414 (by decide +kernel) (by decide +kernel)
theorem wq_415 : Cond.methodLink "CabTears$Stand" 32 ⟨"java/lang/System", "arraycopy", "(Ljava/lang/Object;ILjava/lang/Object;II)V"⟩ ∈ fl_U := fl_w1 415 (by decide +kernel) (by decide +kernel)
theorem wq_416 : Cond.static ⟨"java/lang/System", "arraycopy", "(Ljava/lang/Object;ILjava/lang/Object;II)V"⟩ ∈ fl_U := fl_w1 416 (by decide +kernel) (by decide +kernel)
theorem wq_417 : Cond.native ⟨"java/lang/System", "arraycopy", "(Ljava/lang/Object;ILjava/lang/Object;II)V"⟩ ∈ fl_U := fl_w1 417 (by decide +kernel) (by decide +kernel)
theorem wq_418 : Cond.methodLink "CabTears$Stand" 41 ⟨"CabTears$Stand", "dawn", "()V"⟩ ∈ fl_U := fl_w1 418 (by decide +kernel) (by decide +kernel)
theorem wq_419 : Cond.instanceMethod ⟨"CabTears$Stand", "dawn", "()V"⟩ ∈ fl_U := fl_w1 419 (by decide +kernel) (by decide +kernel)
theorem wq_420 : Cond.selects "CabTears$Stand" ⟨"CabTears$Stand", "dawn", "()V"⟩ ⟨"CabTears$Stand", "dawn", "()V"⟩ ∈ fl_U := fl_w1 420 (by decide +kernel) (by decide +kernel)
theorem wq_421 : Cond.code ⟨"CabTears$Stand", "dawn", "()V"⟩ prog_7_method_3_code 2 (Option.none : Option FieldType) ∈ fl_U := fl_w1 421 (by decide +kernel) (by decide +kernel)
theorem wq_422 : Cond.fieldLink "CabTears" 12 "CabTears" "text" "LCabTears$Text;" ∈ fl_U := fl_w1 422 (by decide +kernel) (by decide +kernel)
theorem wq_423 : Cond.fieldLink "CabTears" 19 "CabTears" "city" "LCabTears$City;" ∈ fl_U := fl_w1 423 (by decide +kernel) (by decide +kernel)
theorem wq_424 : Cond.fieldLink "CabTears" 23 "CabTears" "draft" "LCabTears$City;" ∈ fl_U := fl_w1 424 (by decide +kernel) (by decide +kernel)
theorem wq_425 : Cond.fieldLink "CabTears" 29 "CabTears" "stand" "LCabTears$Stand;" ∈ fl_U := fl_w1 425 (by decide +kernel) (by decide +kernel)
theorem wq_426 : Cond.fieldLink "CabTears" 33 "CabTears" "trial" "LCabTears$Stand;" ∈ fl_U := fl_w1 426 (by decide +kernel) (by decide +kernel)
theorem wq_427 : Cond.fieldLink "CabTears" 41 "CabTears" "done" "LCabTears$Shelf;" ∈ fl_U := fl_w1 427 (by decide +kernel) (by decide +kernel)
theorem wq_428 : Cond.fieldLink "CabTears" 45 "CabTears" "kept" "LCabTears$Shelf;" ∈ fl_U := fl_w1 428 (by decide +kernel) (by decide +kernel)
theorem wq_429 : Cond.fieldLink "CabTears" 51 "CabTears" "seen" "LCabTears$Seen;" ∈ fl_U := fl_w1 429 (by decide +kernel) (by decide +kernel)
theorem wq_430 : Cond.fieldLink "CabTears" 58 "CabTears" "orders" "LCabTears$Orders;" ∈ fl_U := fl_w1 430 (by decide +kernel) (by decide +kernel)
theorem wq_431 : Cond.fieldLink "CabTears" 65 "CabTears" "duel" "LCabTears$Duel;" ∈ fl_U := fl_w1 431 (by decide +kernel) (by decide +kernel)
theorem wq_432 : Cond.fieldLink "CabTears" 69 "CabTears" "days" "[J" ∈ fl_U := fl_w1 432 (by decide +kernel) (by decide +kernel)
theorem wq_462 : Cond.methodLink "CabTears" 99 ⟨"CabTears", "within", "(III)Z"⟩ ∈ fl_U := fl_w1 462 (by decide +kernel) (by decide +kernel)
theorem wq_475 : Cond.methodLink "CabTears" 109 ⟨"CabTears$City", "places", "()I"⟩ ∈ fl_U := fl_w1 475 (by decide +kernel) (by decide +kernel)
theorem wq_480 : Cond.methodLink "CabTears" 112 ⟨"CabTears$City", "hasPlace", "(I)Z"⟩ ∈ fl_U := fl_w1 480 (by decide +kernel) (by decide +kernel)
theorem wq_481 : Cond.methodLink "CabTears" 116 ⟨"CabTears$City", "steps", "(II)I"⟩ ∈ fl_U := fl_w1 481 (by decide +kernel) (by decide +kernel)
theorem wq_482 : Cond.instanceMethod ⟨"CabTears$City", "steps", "(II)I"⟩ ∈ fl_U := fl_w1 482 (by decide +kernel) (by decide +kernel)
theorem wq_483 : Cond.selects "CabTears$City" ⟨"CabTears$City", "steps", "(II)I"⟩ ⟨"CabTears$City", "steps", "(II)I"⟩ ∈ fl_U := fl_w1 483 (by decide +kernel) (by decide +kernel)
theorem wq_484 : Cond.code ⟨"CabTears$City", "steps", "(II)I"⟩ prog_2_method_10_code 4 (Option.some FieldType.int) ∈ fl_U := fl_w1 484 (by decide +kernel) (by decide +kernel)
theorem wq_485 : Cond.methodLink "CabTears$City" 68 ⟨"java/lang/Math", "max", "(II)I"⟩ ∈ fl_U := fl_w1 485 (by decide +kernel) (by decide +kernel)
theorem wq_486 : Cond.methodLink "CabTears$City" 74 ⟨"java/lang/Math", "abs", "(I)I"⟩ ∈ fl_U := fl_w1 486 (by decide +kernel) (by decide +kernel)
theorem wq_487 : Cond.static ⟨"java/lang/Math", "abs", "(I)I"⟩ ∈ fl_U := fl_w1 487 (by decide +kernel) (by decide +kernel)
theorem wq_488 : Cond.code ⟨"java/lang/Math", "abs", "(I)I"⟩ prog_13_method_59_code 1 (Option.some FieldType.int) ∈ fl_U := fl_w1 488 (by decide +kernel) (by decide +kernel)
theorem wq_493 : Cond.methodLink "CabTears" 120 ⟨"CabTears$City", "hasCab", "(I)Z"⟩ ∈ fl_U := fl_w1 493 (by decide +kernel) (by decide +kernel)
theorem wq_494 : Cond.instanceMethod ⟨"CabTears$City", "hasCab", "(I)Z"⟩ ∈ fl_U := fl_w1 494 (by decide +kernel) (by decide +kernel)
theorem wq_495 : Cond.selects "CabTears$City" ⟨"CabTears$City", "hasCab", "(I)Z"⟩ ⟨"CabTears$City", "hasCab", "(I)Z"⟩ ∈ fl_U := fl_w1 495 (by decide +kernel) (by decide +kernel)
theorem wq_496 : Cond.code ⟨"CabTears$City", "hasCab", "(I)Z"⟩ prog_2_method_8_code 2 (Option.some FieldType.boolean) ∈ fl_U := fl_w1 496 (by decide +kernel) (by decide +kernel)
theorem wq_501 : Cond.methodLink "CabTears" 136 ⟨"CabTears$City", "hasFare", "(I)Z"⟩ ∈ fl_U := fl_w1 501 (by decide +kernel) (by decide +kernel)
theorem wq_502 : Cond.instanceMethod ⟨"CabTears$City", "hasFare", "(I)Z"⟩ ∈ fl_U := fl_w1 502 (by decide +kernel) (by decide +kernel)
theorem wq_503 : Cond.selects "CabTears$City" ⟨"CabTears$City", "hasFare", "(I)Z"⟩ ⟨"CabTears$City", "hasFare", "(I)Z"⟩ ∈ fl_U := fl_w1 503 (by decide +kernel) (by decide +kernel)
theorem wq_504 : Cond.code ⟨"CabTears$City", "hasFare", "(I)Z"⟩ prog_2_method_9_code 2 (Option.some FieldType.boolean) ∈ fl_U := fl_w1 504 (by decide +kernel) (by decide +kernel)
theorem wq_505 : Cond.methodLink "CabTears" 154 ⟨"CabTears$Stand", "isTaken", "(I)Z"⟩ ∈ fl_U := fl_w1 505 (by decide +kernel) (by decide +kernel)
theorem wq_506 : Cond.instanceMethod ⟨"CabTears$Stand", "isTaken", "(I)Z"⟩ ∈ fl_U := fl_w1 506 (by decide +kernel) (by decide +kernel)
theorem wq_507 : Cond.selects "CabTears$Stand" ⟨"CabTears$Stand", "isTaken", "(I)Z"⟩ ⟨"CabTears$Stand", "isTaken", "(I)Z"⟩ ∈ fl_U := fl_w1 507 (by decide +kernel) (by decide +kernel)
theorem wq_508 : Cond.code ⟨"CabTears$Stand", "isTaken", "(I)Z"⟩ prog_7_method_4_code 2 (Option.some FieldType.boolean) ∈ fl_U := fl_w1 508 (by decide +kernel) (by decide +kernel)
theorem wq_513 : Cond.methodLink "CabTears" 163 ⟨"CabTears$Shelf", "put", "(LCabTears$Stand;)V"⟩ ∈ fl_U := fl_w1 513 (by decide +kernel) (by decide +kernel)
theorem wq_514 : Cond.instanceMethod ⟨"CabTears$Shelf", "put", "(LCabTears$Stand;)V"⟩ ∈ fl_U := fl_w1 514 (by decide +kernel) (by decide +kernel)
theorem wq_515 : Cond.selects "CabTears$Shelf" ⟨"CabTears$Shelf", "put", "(LCabTears$Stand;)V"⟩ ⟨"CabTears$Shelf", "put", "(LCabTears$Stand;)V"⟩ ∈ fl_U := fl_w1 515 (by decide +kernel) (by decide +kernel)
theorem wq_516 : Cond.code ⟨"CabTears$Shelf", "put", "(LCabTears$Stand;)V"⟩ prog_6_method_2_code 2 (Option.none : Option FieldType) ∈ fl_U := fl_w1 516 (by decide +kernel) (by decide +kernel)
theorem wq_517 : Cond.methodLink "CabTears$Shelf" 26 ⟨"CabTears$Stand", "copy", "(LCabTears$Stand;)V"⟩ ∈ fl_U := fl_w1 517 (by decide +kernel) (by decide +kernel)
theorem wq_518 : Cond.instanceMethod ⟨"CabTears$Stand", "copy", "(LCabTears$Stand;)V"⟩ ∈ fl_U := fl_w1 518 (by decide +kernel) (by decide +kernel)
theorem wq_519 : Cond.selects "CabTears$Stand" ⟨"CabTears$Stand", "copy", "(LCabTears$Stand;)V"⟩ ⟨"CabTears$Stand", "copy", "(LCabTears$Stand;)V"⟩ ∈ fl_U := fl_w1 519 (by decide +kernel) (by decide +kernel)
theorem wq_520 : Cond.code ⟨"CabTears$Stand", "copy", "(LCabTears$Stand;)V"⟩ prog_7_method_5_code 2 (Option.none : Option FieldType) ∈ fl_U := fl_w1 520 (by decide +kernel) (by decide +kernel)
theorem wq_521 : Cond.methodLink "CabTears$Shelf" 33 ⟨"java/lang/Math", "min", "(II)I"⟩ ∈ fl_U := fl_w1 521 (by decide +kernel) (by decide +kernel)
theorem wq_522 : Cond.static ⟨"java/lang/Math", "min", "(II)I"⟩ ∈ fl_U := fl_w1 522 (by decide +kernel) (by decide +kernel)
theorem wq_523 : Cond.code ⟨"java/lang/Math", "min", "(II)I"⟩ prog_13_method_69_code 2 (Option.some FieldType.int) ∈ fl_U := fl_w1 523 (by decide +kernel) (by decide +kernel)
theorem wq_524 : Cond.methodLink "CabTears" 167 ⟨"CabTears$City", "drive", "(LCabTears$Stand;II)Z"⟩ ∈ fl_U := fl_w1 524 (by decide +kernel) (by decide +kernel)
theorem wq_525 : Cond.instanceMethod ⟨"CabTears$City", "drive", "(LCabTears$Stand;II)Z"⟩ ∈ fl_U := fl_w1 525 (by decide +kernel) (by decide +kernel)
theorem wq_526 : Cond.selects "CabTears$City" ⟨"CabTears$City", "drive", "(LCabTears$Stand;II)Z"⟩ ⟨"CabTears$City", "drive", "(LCabTears$Stand;II)Z"⟩ ∈ fl_U := fl_w1 526 (by decide +kernel) (by decide +kernel)
theorem wq_527 : Cond.code ⟨"CabTears$City", "drive", "(LCabTears$Stand;II)Z"⟩ prog_2_method_15_code 5 (Option.some FieldType.boolean) ∈ fl_U := fl_w1 527 (by decide +kernel) (by decide +kernel)
theorem wq_528 : Cond.methodLink "CabTears$City" 116 ⟨"CabTears$City", "reckon", "(LCabTears$Stand;II)V"⟩ ∈ fl_U := fl_w1 528 (by decide +kernel) (by decide +kernel)
theorem wq_529 : Cond.instanceMethod ⟨"CabTears$City", "reckon", "(LCabTears$Stand;II)V"⟩ ∈ fl_U := fl_w1 529 (by decide +kernel) (by decide +kernel)
theorem wq_530 : Cond.selects "CabTears$City" ⟨"CabTears$City", "reckon", "(LCabTears$Stand;II)V"⟩ ⟨"CabTears$City", "reckon", "(LCabTears$Stand;II)V"⟩ ∈ fl_U := fl_w1 530 (by decide +kernel) (by decide +kernel)
theorem wq_531 : Cond.code ⟨"CabTears$City", "reckon", "(LCabTears$Stand;II)V"⟩ prog_2_method_11_code 4 (Option.none : Option FieldType) ∈ fl_U := fl_w1 531 (by decide +kernel) (by decide +kernel)
theorem wq_532 : Cond.methodLink "CabTears$City" 83 ⟨"CabTears$City", "reckonAs", "(LCabTears$Stand;IIII)V"⟩ ∈ fl_U := fl_w1 532 (by decide +kernel) (by decide +kernel)
theorem wq_533 : Cond.instanceMethod ⟨"CabTears$City", "reckonAs", "(LCabTears$Stand;IIII)V"⟩ ∈ fl_U := fl_w1 533 (by decide +kernel) (by decide +kernel)
theorem wq_534 : Cond.selects "CabTears$City" ⟨"CabTears$City", "reckonAs", "(LCabTears$Stand;IIII)V"⟩ ⟨"CabTears$City", "reckonAs", "(LCabTears$Stand;IIII)V"⟩ ∈ fl_U := fl_w1 534 (by decide +kernel) (by decide +kernel)
theorem wq_535 : Cond.code ⟨"CabTears$City", "reckonAs", "(LCabTears$Stand;IIII)V"⟩ prog_2_method_12_code 9 (Option.none : Option FieldType) ∈ fl_U := fl_w1 535 (by decide +kernel) (by decide +kernel)
theorem wq_536 : Cond.methodLink "CabTears$City" 93 ⟨"CabTears$City", "steps", "(II)I"⟩ ∈ fl_U := fl_w1 536 (by decide +kernel) (by decide +kernel)
theorem wq_537 : Cond.methodLink "CabTears$City" 120 ⟨"CabTears$City", "settle", "(LCabTears$Stand;IIZ)V"⟩ ∈ fl_U := fl_w1 537 (by decide +kernel) (by decide +kernel)
theorem wq_538 : Cond.instanceMethod ⟨"CabTears$City", "settle", "(LCabTears$Stand;IIZ)V"⟩ ∈ fl_U := fl_w1 538 (by decide +kernel) (by decide +kernel)
theorem wq_539 : Cond.selects "CabTears$City" ⟨"CabTears$City", "settle", "(LCabTears$Stand;IIZ)V"⟩ ⟨"CabTears$City", "settle", "(LCabTears$Stand;IIZ)V"⟩ ∈ fl_U := fl_w1 539 (by decide +kernel) (by decide +kernel)
theorem wq_540 : Cond.code ⟨"CabTears$City", "settle", "(LCabTears$Stand;IIZ)V"⟩ prog_2_method_14_code 5 (Option.none : Option FieldType) ∈ fl_U := fl_w1 540 (by decide +kernel) (by decide +kernel)
theorem wq_545 : Cond.methodLink "CabTears" 171 ⟨"CabTears$City", "move", "(LCabTears$Stand;II)V"⟩ ∈ fl_U := fl_w1 545 (by decide +kernel) (by decide +kernel)
theorem wq_546 : Cond.instanceMethod ⟨"CabTears$City", "move", "(LCabTears$Stand;II)V"⟩ ∈ fl_U := fl_w1 546 (by decide +kernel) (by decide +kernel)
theorem wq_547 : Cond.selects "CabTears$City" ⟨"CabTears$City", "move", "(LCabTears$Stand;II)V"⟩ ⟨"CabTears$City", "move", "(LCabTears$Stand;II)V"⟩ ∈ fl_U := fl_w1 547 (by decide +kernel) (by decide +kernel)
theorem wq_548 : Cond.code ⟨"CabTears$City", "move", "(LCabTears$Stand;II)V"⟩ prog_2_method_17_code 4 (Option.none : Option FieldType) ∈ fl_U := fl_w1 548 (by decide +kernel) (by decide +kernel)
theorem wq_557 : Cond.methodLink "CabTears" 178 ⟨"CabTears$Shelf", "giveBack", "(LCabTears$Stand;)Z"⟩ ∈ fl_U := fl_w1 557 (by decide +kernel) (by decide +kernel)
theorem wq_558 : Cond.instanceMethod ⟨"CabTears$Shelf", "giveBack", "(LCabTears$Stand;)Z"⟩ ∈ fl_U := fl_w1 558 (by decide +kernel) (by decide +kernel)
theorem wq_559 : Cond.selects "CabTears$Shelf" ⟨"CabTears$Shelf", "giveBack", "(LCabTears$Stand;)Z"⟩ ⟨"CabTears$Shelf", "giveBack", "(LCabTears$Stand;)Z"⟩ ∈ fl_U := fl_w1 559 (by decide +kernel) (by decide +kernel)
theorem wq_560 : Cond.code ⟨"CabTears$Shelf", "giveBack", "(LCabTears$Stand;)Z"⟩ prog_6_method_3_code 2 (Option.some FieldType.boolean) ∈ fl_U := fl_w1 560 (by decide +kernel) (by decide +kernel)
theorem wq_565 : Cond.methodLink "CabTears" 185 ⟨"CabTears$City", "reckon", "(LCabTears$Stand;II)V"⟩ ∈ fl_U := fl_w1 565 (by decide +kernel) (by decide +kernel)
theorem wq_570 : Cond.methodLink "CabTears" 205 ⟨"CabTears$City", "nearest", "(LCabTears$Stand;I)I"⟩ ∈ fl_U := fl_w1 570 (by decide +kernel) (by decide +kernel)
theorem wq_571 : Cond.instanceMethod ⟨"CabTears$City", "nearest", "(LCabTears$Stand;I)I"⟩ ∈ fl_U := fl_w1 571 (by decide +kernel) (by decide +kernel)
theorem wq_572 : Cond.selects "CabTears$City" ⟨"CabTears$City", "nearest", "(LCabTears$Stand;I)I"⟩ ⟨"CabTears$City", "nearest", "(LCabTears$Stand;I)I"⟩ ∈ fl_U := fl_w1 572 (by decide +kernel) (by decide +kernel)
theorem wq_573 : Cond.code ⟨"CabTears$City", "nearest", "(LCabTears$Stand;I)I"⟩ prog_2_method_13_code 6 (Option.some FieldType.int) ∈ fl_U := fl_w1 573 (by decide +kernel) (by decide +kernel)
theorem wq_578 : Cond.methodLink "CabTears" 209 ⟨"CabTears$Orders", "search", "(LCabTears$City;LCabTears$Stand;)V"⟩ ∈ fl_U := fl_w1 578 (by decide +kernel) (by decide +kernel)
theorem wq_579 : Cond.instanceMethod ⟨"CabTears$Orders", "search", "(LCabTears$City;LCabTears$Stand;)V"⟩ ∈ fl_U := fl_w1 579 (by decide +kernel) (by decide +kernel)
theorem wq_580 : Cond.selects "CabTears$Orders" ⟨"CabTears$Orders", "search", "(LCabTears$City;LCabTears$Stand;)V"⟩ ⟨"CabTears$Orders", "search", "(LCabTears$City;LCabTears$Stand;)V"⟩ ∈ fl_U := fl_w1 580 (by decide +kernel) (by decide +kernel)
theorem wq_581 : Cond.code ⟨"CabTears$Orders", "search", "(LCabTears$City;LCabTears$Stand;)V"⟩ prog_4_method_2_code 5 (Option.none : Option FieldType) ∈ fl_U := fl_w1 581 (by decide +kernel) (by decide +kernel)
theorem wq_582 : Cond.methodLink "CabTears$Orders" 25 ⟨"CabTears$Stand", "copy", "(LCabTears$Stand;)V"⟩ ∈ fl_U := fl_w1 582 (by decide +kernel) (by decide +kernel)
theorem wq_584 : Cond.static ⟨"CabTears", "restOf", "(LCabTears$City;LCabTears$Stand;)I"⟩ ∈ fl_U := fl_w1 584 (by decide +kernel) (by decide +kernel)
theorem wq_585 : Cond.code ⟨"CabTears", "restOf", "(LCabTears$City;LCabTears$Stand;)I"⟩ prog_1_method_31_code 4 (Option.some FieldType.int) ∈ fl_U := fl_w1 585 (by decide +kernel) (by decide +kernel)
theorem wq_586 : Cond.methodLink "CabTears$Orders" 48 ⟨"CabTears$Stand", "isTaken", "(I)Z"⟩ ∈ fl_U := fl_w1 586 (by decide +kernel) (by decide +kernel)
theorem wq_587 : Cond.methodLink "CabTears$Orders" 52 ⟨"CabTears$Orders", "extend", "(LCabTears$Orders;LCabTears$City;II)V"⟩ ∈ fl_U := fl_w1 587 (by decide +kernel) (by decide +kernel)
theorem wq_588 : Cond.static ⟨"CabTears$Orders", "extend", "(LCabTears$Orders;LCabTears$City;II)V"⟩ ∈ fl_U := fl_w1 588 (by decide +kernel) (by decide +kernel)
theorem wq_589 : Cond.code ⟨"CabTears$Orders", "extend", "(LCabTears$Orders;LCabTears$City;II)V"⟩ prog_4_method_3_code 8 (Option.none : Option FieldType) ∈ fl_U := fl_w1 589 (by decide +kernel) (by decide +kernel)
theorem wq_590 : Cond.methodLink "CabTears$Orders" 56 ⟨"CabTears$Orders", "keepIfFewer", "(I)V"⟩ ∈ fl_U := fl_w1 590 (by decide +kernel) (by decide +kernel)
theorem wq_592 : Cond.instanceMethod ⟨"CabTears$Orders", "keepIfFewer", "(I)V"⟩ ∈ fl_U := fl_w1 592 (by decide +kernel) (by decide +kernel)
theorem wq_593 : Cond.code ⟨"CabTears$Orders", "keepIfFewer", "(I)V"⟩ prog_4_method_4_code 2 (Option.none : Option FieldType) ∈ fl_U := fl_w1 593 (by decide +kernel) (by decide +kernel)
theorem wq_594 : Cond.methodLink "CabTears$Orders" 64 ⟨"java/lang/System", "arraycopy", "(Ljava/lang/Object;ILjava/lang/Object;II)V"⟩ ∈ fl_U := fl_w1 594 (by decide +kernel) (by decide +kernel)
theorem wq_595 : Cond.methodLink "CabTears$Orders" 60 ⟨"CabTears$City", "driveSoonest", "(LCabTears$Stand;I)Z"⟩ ∈ fl_U := fl_w1 595 (by decide +kernel) (by decide +kernel)
theorem wq_596 : Cond.instanceMethod ⟨"CabTears$City", "driveSoonest", "(LCabTears$Stand;I)Z"⟩ ∈ fl_U := fl_w1 596 (by decide +kernel) (by decide +kernel)
theorem wq_597 : Cond.selects "CabTears$City" ⟨"CabTears$City", "driveSoonest", "(LCabTears$Stand;I)Z"⟩ ⟨"CabTears$City", "driveSoonest", "(LCabTears$Stand;I)Z"⟩ ∈ fl_U := fl_w1 597 (by decide +kernel) (by decide +kernel)
theorem wq_598 : Cond.code ⟨"CabTears$City", "driveSoonest", "(LCabTears$Stand;I)Z"⟩ prog_2_method_16_code 3 (Option.some FieldType.boolean) ∈ fl_U := fl_w1 598 (by decide +kernel) (by decide +kernel)
theorem wq_599 : Cond.methodLink "CabTears$City" 124 ⟨"CabTears$City", "nearest", "(LCabTears$Stand;I)I"⟩ ∈ fl_U := fl_w1 599 (by decide +kernel) (by decide +kernel)
theorem wq_600 : Cond.methodLink "CabTears$City" 128 ⟨"CabTears$City", "drive", "(LCabTears$Stand;II)Z"⟩ ∈ fl_U := fl_w1 600 (by decide +kernel) (by decide +kernel)
theorem wq_605 : Cond.methodLink "CabTears" 220 ⟨"CabTears", "lateFrom", "(II)I"⟩ ∈ fl_U := fl_w1 605 (by decide +kernel) (by decide +kernel)
theorem wq_607 : Cond.instanceMethod ⟨"CabTears", "lateFrom", "(II)I"⟩ ∈ fl_U := fl_w1 607 (by decide +kernel) (by decide +kernel)
theorem wq_608 : Cond.code ⟨"CabTears", "lateFrom", "(II)I"⟩ prog_1_method_33_code 5 (Option.some FieldType.int) ∈ fl_U := fl_w1 608 (by decide +kernel) (by decide +kernel)
theorem wq_609 : Cond.methodLink "CabTears" 223 ⟨"CabTears$Stand", "copy", "(LCabTears$Stand;)V"⟩ ∈ fl_U := fl_w1 609 (by decide +kernel) (by decide +kernel)
theorem wq_614 : Cond.methodLink "CabTears" 226 ⟨"CabTears$Stand", "cabsAsNumber", "()J"⟩ ∈ fl_U := fl_w1 614 (by decide +kernel) (by decide +kernel)
theorem wq_615 : Cond.instanceMethod ⟨"CabTears$Stand", "cabsAsNumber", "()J"⟩ ∈ fl_U := fl_w1 615 (by decide +kernel) (by decide +kernel)
theorem wq_616 : Cond.selects "CabTears$Stand" ⟨"CabTears$Stand", "cabsAsNumber", "()J"⟩ ⟨"CabTears$Stand", "cabsAsNumber", "()J"⟩ ∈ fl_U := fl_w1 616 (by decide +kernel) (by decide +kernel)
theorem wq_617 : Cond.code ⟨"CabTears$Stand", "cabsAsNumber", "()J"⟩ prog_7_method_6_code 4 (Option.some FieldType.long) ∈ fl_U := fl_w1 617 (by decide +kernel) (by decide +kernel)
theorem wq_618 : Cond.constantLong "CabTears$Stand" 48 (64 : Int64) ∈ fl_U := fl_w1 618 (by decide +kernel) (by decide +kernel)
theorem wq_619 : Cond.constantLong "CabTears$Stand" 50 (-4 : Int64) ∈ fl_U := fl_w1 619 (by decide +kernel) (by decide +kernel)
theorem wq_620 : Cond.methodLink "CabTears" 230 ⟨"CabTears", "liveOneDay", "()V"⟩ ∈ fl_U := fl_w1 620 (by decide +kernel) (by decide +kernel)
theorem wq_622 : Cond.instanceMethod ⟨"CabTears", "liveOneDay", "()V"⟩ ∈ fl_U := fl_w1 622 (by decide +kernel) (by decide +kernel)
theorem wq_623 : Cond.code ⟨"CabTears", "liveOneDay", "()V"⟩ prog_1_method_34_code 2 (Option.none : Option FieldType) ∈ fl_U := fl_w1 623 (by decide +kernel) (by decide +kernel)
theorem wq_624 : Cond.methodLink "CabTears" 295 ⟨"CabTears$Stand", "dawn", "()V"⟩ ∈ fl_U := fl_w1 624 (by decide +kernel) (by decide +kernel)
theorem wq_625 : Cond.methodLink "CabTears" 240 ⟨"CabTears$City", "driveSoonest", "(LCabTears$Stand;I)Z"⟩ ∈ fl_U := fl_w1 625 (by decide +kernel) (by decide +kernel)
theorem wq_626 : Cond.methodLink "CabTears" 233 ⟨"CabTears", "dayLike", "(I)I"⟩ ∈ fl_U := fl_w1 626 (by decide +kernel) (by decide +kernel)
theorem wq_628 : Cond.instanceMethod ⟨"CabTears", "dayLike", "(I)I"⟩ ∈ fl_U := fl_w1 628 (by decide +kernel) (by decide +kernel)
theorem wq_629 : Cond.code ⟨"CabTears", "dayLike", "(I)I"⟩ prog_1_method_35_code 3 (Option.some FieldType.int) ∈ fl_U := fl_w1 629 (by decide +kernel) (by decide +kernel)
theorem wq_634 : Cond.methodLink "CabTears" 237 ⟨"CabTears", "tearsOfOthers", "(I)I"⟩ ∈ fl_U := fl_w1 634 (by decide +kernel) (by decide +kernel)
theorem wq_636 : Cond.instanceMethod ⟨"CabTears", "tearsOfOthers", "(I)I"⟩ ∈ fl_U := fl_w1 636 (by decide +kernel) (by decide +kernel)
theorem wq_637 : Cond.code ⟨"CabTears", "tearsOfOthers", "(I)I"⟩ prog_1_method_36_code 4 (Option.some FieldType.int) ∈ fl_U := fl_w1 637 (by decide +kernel) (by decide +kernel)
theorem wq_642 : Cond.methodLink "CabTears" 244 ⟨"CabTears$Duel", "fight", "(LCabTears$City;LCabTears$Stand;III)V"⟩ ∈ fl_U := fl_w1 642 (by decide +kernel) (by decide +kernel)
theorem wq_643 : Cond.instanceMethod ⟨"CabTears$Duel", "fight", "(LCabTears$City;LCabTears$Stand;III)V"⟩ ∈ fl_U := fl_w1 643 (by decide +kernel) (by decide +kernel)
theorem wq_644 : Cond.selects "CabTears$Duel" ⟨"CabTears$Duel", "fight", "(LCabTears$City;LCabTears$Stand;III)V"⟩ ⟨"CabTears$Duel", "fight", "(LCabTears$City;LCabTears$Stand;III)V"⟩ ∈ fl_U := fl_w1 644 (by decide +kernel) (by decide +kernel)
theorem wq_645 : Cond.code ⟨"CabTears$Duel", "fight", "(LCabTears$City;LCabTears$Stand;III)V"⟩ prog_3_method_2_code 6 (Option.none : Option FieldType) ∈ fl_U := fl_w1 645 (by decide +kernel) (by decide +kernel)
theorem wq_646 : Cond.methodLink "CabTears$Duel" 18 ⟨"CabTears$Stand", "copy", "(LCabTears$Stand;)V"⟩ ∈ fl_U := fl_w1 646 (by decide +kernel) (by decide +kernel)
theorem wq_647 : Cond.methodLink "CabTears$Duel" 29 ⟨"java/lang/Math", "min", "(II)I"⟩ ∈ fl_U := fl_w1 647 (by decide +kernel) (by decide +kernel)
theorem wq_649 : Cond.methodLink "CabTears$Duel" 45 ⟨"CabTears$Duel", "play", "(LCabTears$Duel;LCabTears$City;I)I"⟩ ∈ fl_U := fl_w1 649 (by decide +kernel) (by decide +kernel)
theorem wq_650 : Cond.static ⟨"CabTears$Duel", "play", "(LCabTears$Duel;LCabTears$City;I)I"⟩ ∈ fl_U := fl_w1 650 (by decide +kernel) (by decide +kernel)
theorem wq_651 : Cond.code ⟨"CabTears$Duel", "play", "(LCabTears$Duel;LCabTears$City;I)I"⟩ prog_3_method_3_code 10 (Option.some FieldType.int) ∈ fl_U := fl_w1 651 (by decide +kernel) (by decide +kernel)
theorem wq_652 : Cond.methodLink "CabTears$Duel" 57 ⟨"CabTears$Stand", "isTaken", "(I)Z"⟩ ∈ fl_U := fl_w1 652 (by decide +kernel) (by decide +kernel)
theorem wq_653 : Cond.methodLink "CabTears$Duel" 61 ⟨"CabTears$City", "drive", "(LCabTears$Stand;II)Z"⟩ ∈ fl_U := fl_w1 653 (by decide +kernel) (by decide +kernel)
theorem wq_658 : Cond.methodLink "CabTears" 254 ⟨"CabTears$Seen", "add", "(III)Z"⟩ ∈ fl_U := fl_w1 658 (by decide +kernel) (by decide +kernel)
theorem wq_659 : Cond.instanceMethod ⟨"CabTears$Seen", "add", "(III)Z"⟩ ∈ fl_U := fl_w1 659 (by decide +kernel) (by decide +kernel)
theorem wq_660 : Cond.selects "CabTears$Seen" ⟨"CabTears$Seen", "add", "(III)Z"⟩ ⟨"CabTears$Seen", "add", "(III)Z"⟩ ∈ fl_U := fl_w1 660 (by decide +kernel) (by decide +kernel)
theorem wq_661 : Cond.code ⟨"CabTears$Seen", "add", "(III)Z"⟩ prog_5_method_2_code 4 (Option.some FieldType.boolean) ∈ fl_U := fl_w1 661 (by decide +kernel) (by decide +kernel)
theorem wq_670 : Cond.methodLink "CabTears" 257 ⟨"CabTears", "fitsSeen", "(III)Z"⟩ ∈ fl_U := fl_w1 670 (by decide +kernel) (by decide +kernel)
theorem wq_672 : Cond.instanceMethod ⟨"CabTears", "fitsSeen", "(III)Z"⟩ ∈ fl_U := fl_w1 672 (by decide +kernel) (by decide +kernel)
theorem wq_673 : Cond.code ⟨"CabTears", "fitsSeen", "(III)Z"⟩ prog_1_method_37_code 5 (Option.some FieldType.boolean) ∈ fl_U := fl_w1 673 (by decide +kernel) (by decide +kernel)
theorem wq_674 : Cond.methodLink "CabTears" 304 ⟨"CabTears$City", "reckonAs", "(LCabTears$Stand;IIII)V"⟩ ∈ fl_U := fl_w1 674 (by decide +kernel) (by decide +kernel)
theorem wq_683 : Cond.methodLink "CabTears" 260 ⟨"CabTears", "restOf", "(LCabTears$City;LCabTears$Stand;)I"⟩ ∈ fl_U := fl_w1 683 (by decide +kernel) (by decide +kernel)
theorem wq_684 : Cond.methodLink "CabTears" 264 ⟨"CabTears", "power", "(II)I"⟩ ∈ fl_U := fl_w1 684 (by decide +kernel) (by decide +kernel)
theorem wq_685 : Cond.static ⟨"CabTears", "power", "(II)I"⟩ ∈ fl_U := fl_w1 685 (by decide +kernel) (by decide +kernel)
theorem wq_686 : Cond.code ⟨"CabTears", "power", "(II)I"⟩ prog_1_method_40_code 4 (Option.some FieldType.int) ∈ fl_U := fl_w1 686 (by decide +kernel) (by decide +kernel)
theorem wq_687 : Cond.methodLink "CabTears" 267 ⟨"java/lang/Integer", "bitCount", "(I)I"⟩ ∈ fl_U := fl_w1 687 (by decide +kernel) (by decide +kernel)
theorem wq_688 : Cond.static ⟨"java/lang/Integer", "bitCount", "(I)I"⟩ ∈ fl_U := fl_w1 688 (by decide +kernel) (by decide +kernel)
theorem wq_689 : Cond.code ⟨"java/lang/Integer", "bitCount", "(I)I"⟩ prog_12_method_49_code 1 (Option.some FieldType.int) ∈ fl_U := fl_w1 689 (by decide +kernel) (by decide +kernel)
theorem wq_690 : Cond.constant "java/lang/Integer" 265 (1431655765 : Int32) ∈ fl_U := fl_w1 690 (by decide +kernel) (by decide +kernel)
theorem wq_691 : Cond.constant "java/lang/Integer" 266 (858993459 : Int32) ∈ fl_U := fl_w1 691 (by decide +kernel) (by decide +kernel)
theorem wq_692 : Cond.constant "java/lang/Integer" 267 (252645135 : Int32) ∈ fl_U := fl_w1 692 (by decide +kernel) (by decide +kernel)
theorem wq_693 : Cond.methodLink "CabTears" 272 ⟨"CabTears", "lateAmong", "(I)I"⟩ ∈ fl_U := fl_w1 693 (by decide +kernel) (by decide +kernel)
theorem wq_695 : Cond.instanceMethod ⟨"CabTears", "lateAmong", "(I)I"⟩ ∈ fl_U := fl_w1 695 (by decide +kernel) (by decide +kernel)
theorem wq_696 : Cond.code ⟨"CabTears", "lateAmong", "(I)I"⟩ prog_1_method_38_code 6 (Option.some FieldType.int) ∈ fl_U := fl_w1 696 (by decide +kernel) (by decide +kernel)
theorem wq_697 : Cond.methodLink "CabTears" 311 ⟨"CabTears$City", "settle", "(LCabTears$Stand;IIZ)V"⟩ ∈ fl_U := fl_w1 697 (by decide +kernel) (by decide +kernel)
theorem wq_698 : Cond.methodLink "CabTears" 275 ⟨"CabTears", "commonDivisor", "(II)I"⟩ ∈ fl_U := fl_w1 698 (by decide +kernel) (by decide +kernel)
theorem wq_699 : Cond.static ⟨"CabTears", "commonDivisor", "(II)I"⟩ ∈ fl_U := fl_w1 699 (by decide +kernel) (by decide +kernel)
theorem wq_700 : Cond.code ⟨"CabTears", "commonDivisor", "(II)I"⟩ prog_1_method_41_code 6 (Option.some FieldType.int) ∈ fl_U := fl_w1 700 (by decide +kernel) (by decide +kernel)
theorem wq_701 : Cond.methodLink "CabTears" 278 ⟨"java/lang/Math", "max", "(II)I"⟩ ∈ fl_U := fl_w1 701 (by decide +kernel) (by decide +kernel)
theorem wq_706 : Cond.methodLink "CabTears" 283 ⟨"CabTears", "drawn", "(II)I"⟩ ∈ fl_U := fl_w1 706 (by decide +kernel) (by decide +kernel)
theorem wq_707 : Cond.static ⟨"CabTears", "drawn", "(II)I"⟩ ∈ fl_U := fl_w1 707 (by decide +kernel) (by decide +kernel)
theorem wq_708 : Cond.code ⟨"CabTears", "drawn", "(II)I"⟩ prog_1_method_39_code 4 (Option.some FieldType.int) ∈ fl_U := fl_w1 708 (by decide +kernel) (by decide +kernel)
theorem wq_709 : Cond.constantLong "CabTears" 315 (7919 : Int64) ∈ fl_U := fl_w1 709 (by decide +kernel) (by decide +kernel)
theorem wq_710 : Cond.constantLong "CabTears" 317 (6151 : Int64) ∈ fl_U := fl_w1 710 (by decide +kernel) (by decide +kernel)
theorem wq_711 : Cond.constantLong "CabTears" 319 (65521 : Int64) ∈ fl_U := fl_w1 711 (by decide +kernel) (by decide +kernel)
theorem wq_724 : Cond.methodLink "CabTears" 289 ⟨"CabTears", "howManyWept", "()I"⟩ ∈ fl_U := fl_w1 724 (by decide +kernel) (by decide +kernel)
theorem wq_726 : Cond.instanceMethod ⟨"CabTears", "howManyWept", "()I"⟩ ∈ fl_U := fl_w1 726 (by decide +kernel) (by decide +kernel)
theorem wq_727 : Cond.code ⟨"CabTears", "howManyWept", "()I"⟩ prog_1_method_32_code 3 (Option.some FieldType.int) ∈ fl_U := fl_w1 727 (by decide +kernel) (by decide +kernel)
theorem wq_734 : Cond.methodLink "CabTearsModel" 71 ⟨"CabTearsModel", "addsCab", "(III)V"⟩ ∈ fl_U := fl_w1 734 (by decide +kernel) (by decide +kernel)
theorem wq_736 : Cond.instanceMethod ⟨"CabTearsModel", "addsCab", "(III)V"⟩ ∈ fl_U := fl_w1 736 (by decide +kernel) (by decide +kernel)
theorem wq_737 : Cond.code ⟨"CabTearsModel", "addsCab", "(III)V"⟩ prog_11_method_11_code 4 (Option.none : Option FieldType) ∈ fl_U := fl_w1 737 (by decide +kernel) (by decide +kernel)
theorem wq_738 : Cond.methodLink "CabTearsModel" 75 ⟨"CabTearsModel", "addsFare", "(IIIII)V"⟩ ∈ fl_U := fl_w1 738 (by decide +kernel) (by decide +kernel)
theorem wq_740 : Cond.instanceMethod ⟨"CabTearsModel", "addsFare", "(IIIII)V"⟩ ∈ fl_U := fl_w1 740 (by decide +kernel) (by decide +kernel)
theorem wq_741 : Cond.code ⟨"CabTearsModel", "addsFare", "(IIIII)V"⟩ prog_11_method_12_code 6 (Option.none : Option FieldType) ∈ fl_U := fl_w1 741 (by decide +kernel) (by decide +kernel)
theorem wq_742 : Cond.methodLink "CabTearsModel" 79 ⟨"CabTearsModel", "begins", "()V"⟩ ∈ fl_U := fl_w1 742 (by decide +kernel) (by decide +kernel)
theorem wq_744 : Cond.instanceMethod ⟨"CabTearsModel", "begins", "()V"⟩ ∈ fl_U := fl_w1 744 (by decide +kernel) (by decide +kernel)
theorem wq_745 : Cond.code ⟨"CabTearsModel", "begins", "()V"⟩ prog_11_method_13_code 3 (Option.none : Option FieldType) ∈ fl_U := fl_w1 745 (by decide +kernel) (by decide +kernel)
theorem wq_746 : Cond.fieldLink "CabTearsModel" 7 "CabTearsModel" "w" "[I" ∈ fl_U := fl_w1 746 (by decide +kernel) (by decide +kernel)
theorem wq_747 : Cond.fieldLink "CabTearsModel" 108 "CabTearsModel" "undoes" "I" ∈ fl_U := fl_w1 747 (by decide +kernel) (by decide +kernel)
theorem wq_748 : Cond.fieldLink "CabTearsModel" 111 "CabTearsModel" "kept" "I" ∈ fl_U := fl_w1 748 (by decide +kernel) (by decide +kernel)
theorem wq_749 : Cond.fieldLink "CabTearsModel" 82 "CabTearsModel" "inRows" "I" ∈ fl_U := fl_w1 749 (by decide +kernel) (by decide +kernel)
theorem wq_750 : Cond.fieldLink "CabTearsModel" 85 "CabTearsModel" "columns" "I" ∈ fl_U := fl_w1 750 (by decide +kernel) (by decide +kernel)
theorem wq_751 : Cond.fieldLink "CabTearsModel" 96 "CabTearsModel" "cabs" "I" ∈ fl_U := fl_w1 751 (by decide +kernel) (by decide +kernel)
theorem wq_752 : Cond.fieldLink "CabTearsModel" 13 "CabTearsModel" "cabKind" "[I" ∈ fl_U := fl_w1 752 (by decide +kernel) (by decide +kernel)
theorem wq_753 : Cond.fieldLink "CabTearsModel" 99 "CabTearsModel" "fares" "I" ∈ fl_U := fl_w1 753 (by decide +kernel) (by decide +kernel)
theorem wq_754 : Cond.fieldLink "CabTearsModel" 16 "CabTearsModel" "fareKind" "[I" ∈ fl_U := fl_w1 754 (by decide +kernel) (by decide +kernel)
theorem wq_755 : Cond.fieldLink "CabTearsModel" 19 "CabTearsModel" "fareFrom" "[I" ∈ fl_U := fl_w1 755 (by decide +kernel) (by decide +kernel)
theorem wq_756 : Cond.fieldLink "CabTearsModel" 22 "CabTearsModel" "fareTo" "[I" ∈ fl_U := fl_w1 756 (by decide +kernel) (by decide +kernel)
theorem wq_757 : Cond.fieldLink "CabTearsModel" 25 "CabTearsModel" "fareWhen" "[I" ∈ fl_U := fl_w1 757 (by decide +kernel) (by decide +kernel)
theorem wq_758 : Cond.fieldLink "CabTearsModel" 28 "CabTearsModel" "bears" "[I" ∈ fl_U := fl_w1 758 (by decide +kernel) (by decide +kernel)
theorem wq_759 : Cond.fieldLink "CabTearsModel" 114 "CabTearsModel" "seen" "I" ∈ fl_U := fl_w1 759 (by decide +kernel) (by decide +kernel)
theorem wq_760 : Cond.fieldLink "CabTearsModel" 31 "CabTearsModel" "seenCab" "[I" ∈ fl_U := fl_w1 760 (by decide +kernel) (by decide +kernel)
theorem wq_761 : Cond.fieldLink "CabTearsModel" 34 "CabTearsModel" "seenFare" "[I" ∈ fl_U := fl_w1 761 (by decide +kernel) (by decide +kernel)
theorem wq_762 : Cond.fieldLink "CabTearsModel" 37 "CabTearsModel" "seenStep" "[I" ∈ fl_U := fl_w1 762 (by decide +kernel) (by decide +kernel)
theorem wq_763 : Cond.fieldLink "CabTearsModel" 40 "CabTearsModel" "text" "[I" ∈ fl_U := fl_w1 763 (by decide +kernel) (by decide +kernel)
theorem wq_764 : Cond.fieldLink "CabTearsModel" 121 "CabTearsModel" "texted" "I" ∈ fl_U := fl_w1 764 (by decide +kernel) (by decide +kernel)
theorem wq_765 : Cond.fieldLink "CabTearsModel" 124 "CabTearsModel" "place" "I" ∈ fl_U := fl_w1 765 (by decide +kernel) (by decide +kernel)
theorem wq_766 : Cond.fieldLink "CabTearsModel" 127 "CabTearsModel" "number" "I" ∈ fl_U := fl_w1 766 (by decide +kernel) (by decide +kernel)
theorem wq_767 : Cond.fieldLink "CabTearsModel" 64 "CabTearsModel" "readRows" "I" ∈ fl_U := fl_w1 767 (by decide +kernel) (by decide +kernel)
theorem wq_768 : Cond.fieldLink "CabTearsModel" 68 "CabTearsModel" "readColumns" "I" ∈ fl_U := fl_w1 768 (by decide +kernel) (by decide +kernel)
theorem wq_769 : Cond.fieldLink "CabTearsModel" 102 "CabTearsModel" "readCabs" "I" ∈ fl_U := fl_w1 769 (by decide +kernel) (by decide +kernel)
theorem wq_770 : Cond.fieldLink "CabTearsModel" 43 "CabTearsModel" "readCab" "[I" ∈ fl_U := fl_w1 770 (by decide +kernel) (by decide +kernel)
theorem wq_771 : Cond.fieldLink "CabTearsModel" 105 "CabTearsModel" "readFares" "I" ∈ fl_U := fl_w1 771 (by decide +kernel) (by decide +kernel)
theorem wq_772 : Cond.fieldLink "CabTearsModel" 46 "CabTearsModel" "readFare" "[I" ∈ fl_U := fl_w1 772 (by decide +kernel) (by decide +kernel)
theorem wq_773 : Cond.fieldLink "CabTearsModel" 49 "CabTearsModel" "tried" "[I" ∈ fl_U := fl_w1 773 (by decide +kernel) (by decide +kernel)
theorem wq_774 : Cond.fieldLink "CabTearsModel" 52 "CabTearsModel" "weptBy" "[I" ∈ fl_U := fl_w1 774 (by decide +kernel) (by decide +kernel)
theorem wq_775 : Cond.fieldLink "CabTearsModel" 55 "CabTearsModel" "bestOrder" "[I" ∈ fl_U := fl_w1 775 (by decide +kernel) (by decide +kernel)
theorem wq_776 : Cond.fieldLink "CabTearsModel" 58 "CabTearsModel" "days" "[I" ∈ fl_U := fl_w1 776 (by decide +kernel) (by decide +kernel)
theorem wq_777 : Cond.fieldLink "CabTearsModel" 61 "CabTearsModel" "values" "[I" ∈ fl_U := fl_w1 777 (by decide +kernel) (by decide +kernel)
theorem wq_847 : Cond.constantLong "CabTearsModel" 117 (32 : Int64) ∈ fl_U := fl_w1 847 (by decide +kernel) (by decide +kernel)
theorem wq_848 : Cond.constantLong "CabTearsModel" 119 (126 : Int64) ∈ fl_U := fl_w1 848 (by decide +kernel) (by decide +kernel)
theorem wq_849 : Cond.methodLink "CabTearsModel" 92 ⟨"CabTearsModel", "in", "(JJJ)Z"⟩ ∈ fl_U := fl_w1 849 (by decide +kernel) (by decide +kernel)
theorem wq_850 : Cond.static ⟨"CabTearsModel", "in", "(JJJ)Z"⟩ ∈ fl_U := fl_w1 850 (by decide +kernel) (by decide +kernel)
theorem wq_851 : Cond.code ⟨"CabTearsModel", "in", "(JJJ)Z"⟩ prog_11_method_3_code 6 (Option.some FieldType.boolean) ∈ fl_U := fl_w1 851 (by decide +kernel) (by decide +kernel)
theorem wq_860 : Cond.methodLink "CabTearsModel" 155 ⟨"CabTearsModel", "faultOf", "()I"⟩ ∈ fl_U := fl_w1 860 (by decide +kernel) (by decide +kernel)
theorem wq_862 : Cond.instanceMethod ⟨"CabTearsModel", "faultOf", "()I"⟩ ∈ fl_U := fl_w1 862 (by decide +kernel) (by decide +kernel)
theorem wq_863 : Cond.code ⟨"CabTearsModel", "faultOf", "()I"⟩ prog_11_method_22_code 2 (Option.some FieldType.int) ∈ fl_U := fl_w1 863 (by decide +kernel) (by decide +kernel)
theorem wq_864 : Cond.methodLink "CabTearsModel" 152 ⟨"CabTearsModel", "takesItem", "()Z"⟩ ∈ fl_U := fl_w1 864 (by decide +kernel) (by decide +kernel)
theorem wq_866 : Cond.instanceMethod ⟨"CabTearsModel", "takesItem", "()Z"⟩ ∈ fl_U := fl_w1 866 (by decide +kernel) (by decide +kernel)
theorem wq_867 : Cond.code ⟨"CabTearsModel", "takesItem", "()Z"⟩ prog_11_method_21_code 2 (Option.some FieldType.boolean) ∈ fl_U := fl_w1 867 (by decide +kernel) (by decide +kernel)
theorem wq_868 : Cond.methodLink "CabTearsModel" 130 ⟨"CabTearsModel", "letterAt", "(I)I"⟩ ∈ fl_U := fl_w1 868 (by decide +kernel) (by decide +kernel)
theorem wq_870 : Cond.instanceMethod ⟨"CabTearsModel", "letterAt", "(I)I"⟩ ∈ fl_U := fl_w1 870 (by decide +kernel) (by decide +kernel)
theorem wq_871 : Cond.code ⟨"CabTearsModel", "letterAt", "(I)I"⟩ prog_11_method_16_code 2 (Option.some FieldType.int) ∈ fl_U := fl_w1 871 (by decide +kernel) (by decide +kernel)
theorem wq_872 : Cond.methodLink "CabTearsModel" 142 ⟨"CabTearsModel", "takesRows", "()Z"⟩ ∈ fl_U := fl_w1 872 (by decide +kernel) (by decide +kernel)
theorem wq_874 : Cond.instanceMethod ⟨"CabTearsModel", "takesRows", "()Z"⟩ ∈ fl_U := fl_w1 874 (by decide +kernel) (by decide +kernel)
theorem wq_875 : Cond.code ⟨"CabTearsModel", "takesRows", "()Z"⟩ prog_11_method_18_code 2 (Option.some FieldType.boolean) ∈ fl_U := fl_w1 875 (by decide +kernel) (by decide +kernel)
theorem wq_876 : Cond.methodLink "CabTearsModel" 138 ⟨"CabTearsModel", "takesNumber", "(III)Z"⟩ ∈ fl_U := fl_w1 876 (by decide +kernel) (by decide +kernel)
theorem wq_878 : Cond.instanceMethod ⟨"CabTearsModel", "takesNumber", "(III)Z"⟩ ∈ fl_U := fl_w1 878 (by decide +kernel) (by decide +kernel)
theorem wq_879 : Cond.code ⟨"CabTearsModel", "takesNumber", "(III)Z"⟩ prog_11_method_17_code 5 (Option.some FieldType.boolean) ∈ fl_U := fl_w1 879 (by decide +kernel) (by decide +kernel)
theorem wq_880 : Cond.constantLong "CabTearsModel" 134 (48 : Int64) ∈ fl_U := fl_w1 880 (by decide +kernel) (by decide +kernel)
theorem wq_881 : Cond.constantLong "CabTearsModel" 136 (57 : Int64) ∈ fl_U := fl_w1 881 (by decide +kernel) (by decide +kernel)
theorem wq_882 : Cond.methodLink "CabTearsModel" 146 ⟨"CabTearsModel", "takesCab", "()Z"⟩ ∈ fl_U := fl_w1 882 (by decide +kernel) (by decide +kernel)
theorem wq_884 : Cond.instanceMethod ⟨"CabTearsModel", "takesCab", "()Z"⟩ ∈ fl_U := fl_w1 884 (by decide +kernel) (by decide +kernel)
theorem wq_885 : Cond.code ⟨"CabTearsModel", "takesCab", "()Z"⟩ prog_11_method_19_code 4 (Option.some FieldType.boolean) ∈ fl_U := fl_w1 885 (by decide +kernel) (by decide +kernel)
theorem wq_886 : Cond.methodLink "CabTearsModel" 149 ⟨"CabTearsModel", "takesFare", "()Z"⟩ ∈ fl_U := fl_w1 886 (by decide +kernel) (by decide +kernel)
theorem wq_888 : Cond.instanceMethod ⟨"CabTearsModel", "takesFare", "()Z"⟩ ∈ fl_U := fl_w1 888 (by decide +kernel) (by decide +kernel)
theorem wq_889 : Cond.code ⟨"CabTearsModel", "takesFare", "()Z"⟩ prog_11_method_20_code 6 (Option.some FieldType.boolean) ∈ fl_U := fl_w1 889 (by decide +kernel) (by decide +kernel)
theorem wq_894 : Cond.methodLink "CabTearsModel" 88 ⟨"CabTearsModel", "places", "()I"⟩ ∈ fl_U := fl_w1 894 (by decide +kernel) (by decide +kernel)
theorem wq_896 : Cond.instanceMethod ⟨"CabTearsModel", "places", "()I"⟩ ∈ fl_U := fl_w1 896 (by decide +kernel) (by decide +kernel)
theorem wq_897 : Cond.code ⟨"CabTearsModel", "places", "()I"⟩ prog_11_method_7_code 1 (Option.some FieldType.int) ∈ fl_U := fl_w1 897 (by decide +kernel) (by decide +kernel)
theorem wq_902 : Cond.methodLink "CabTearsModel" 158 ⟨"CabTearsModel", "isPlace", "(I)Z"⟩ ∈ fl_U := fl_w1 902 (by decide +kernel) (by decide +kernel)
theorem wq_904 : Cond.instanceMethod ⟨"CabTearsModel", "isPlace", "(I)Z"⟩ ∈ fl_U := fl_w1 904 (by decide +kernel) (by decide +kernel)
theorem wq_905 : Cond.code ⟨"CabTearsModel", "isPlace", "(I)Z"⟩ prog_11_method_8_code 2 (Option.some FieldType.boolean) ∈ fl_U := fl_w1 905 (by decide +kernel) (by decide +kernel)
theorem wq_906 : Cond.methodLink "CabTearsModel" 162 ⟨"CabTearsModel", "farOf", "(II)I"⟩ ∈ fl_U := fl_w1 906 (by decide +kernel) (by decide +kernel)
theorem wq_908 : Cond.instanceMethod ⟨"CabTearsModel", "farOf", "(II)I"⟩ ∈ fl_U := fl_w1 908 (by decide +kernel) (by decide +kernel)
theorem wq_909 : Cond.code ⟨"CabTearsModel", "farOf", "(II)I"⟩ prog_11_method_25_code 5 (Option.some FieldType.int) ∈ fl_U := fl_w1 909 (by decide +kernel) (by decide +kernel)
theorem wq_914 : Cond.methodLink "CabTearsModel" 166 ⟨"CabTearsModel", "isCab", "(I)Z"⟩ ∈ fl_U := fl_w1 914 (by decide +kernel) (by decide +kernel)
theorem wq_916 : Cond.instanceMethod ⟨"CabTearsModel", "isCab", "(I)Z"⟩ ∈ fl_U := fl_w1 916 (by decide +kernel) (by decide +kernel)
theorem wq_917 : Cond.code ⟨"CabTearsModel", "isCab", "(I)Z"⟩ prog_11_method_9_code 2 (Option.some FieldType.boolean) ∈ fl_U := fl_w1 917 (by decide +kernel) (by decide +kernel)
theorem wq_922 : Cond.methodLink "CabTearsModel" 169 ⟨"CabTearsModel", "isFare", "(I)Z"⟩ ∈ fl_U := fl_w1 922 (by decide +kernel) (by decide +kernel)
theorem wq_924 : Cond.instanceMethod ⟨"CabTearsModel", "isFare", "(I)Z"⟩ ∈ fl_U := fl_w1 924 (by decide +kernel) (by decide +kernel)
theorem wq_925 : Cond.code ⟨"CabTearsModel", "isFare", "(I)Z"⟩ prog_11_method_10_code 2 (Option.some FieldType.boolean) ∈ fl_U := fl_w1 925 (by decide +kernel) (by decide +kernel)
theorem wq_930 : Cond.methodLink "CabTearsModel" 197 ⟨"CabTearsModel", "has", "(II)Z"⟩ ∈ fl_U := fl_w1 930 (by decide +kernel) (by decide +kernel)
theorem wq_931 : Cond.static ⟨"CabTearsModel", "has", "(II)Z"⟩ ∈ fl_U := fl_w1 931 (by decide +kernel) (by decide +kernel)
theorem wq_932 : Cond.code ⟨"CabTearsModel", "has", "(II)Z"⟩ prog_11_method_4_code 2 (Option.some FieldType.boolean) ∈ fl_U := fl_w1 932 (by decide +kernel) (by decide +kernel)
theorem wq_933 : Cond.methodLink "CabTearsModel" 200 ⟨"CabTearsModel", "minds", "()V"⟩ ∈ fl_U := fl_w1 933 (by decide +kernel) (by decide +kernel)
theorem wq_935 : Cond.instanceMethod ⟨"CabTearsModel", "minds", "()V"⟩ ∈ fl_U := fl_w1 935 (by decide +kernel) (by decide +kernel)
theorem wq_936 : Cond.code ⟨"CabTearsModel", "minds", "()V"⟩ prog_11_method_37_code 2 (Option.none : Option FieldType) ∈ fl_U := fl_w1 936 (by decide +kernel) (by decide +kernel)
theorem wq_937 : Cond.methodLink "CabTearsModel" 193 ⟨"CabTearsModel", "copy", "(II)V"⟩ ∈ fl_U := fl_w1 937 (by decide +kernel) (by decide +kernel)
theorem wq_939 : Cond.instanceMethod ⟨"CabTearsModel", "copy", "(II)V"⟩ ∈ fl_U := fl_w1 939 (by decide +kernel) (by decide +kernel)
theorem wq_940 : Cond.code ⟨"CabTearsModel", "copy", "(II)V"⟩ prog_11_method_6_code 4 (Option.none : Option FieldType) ∈ fl_U := fl_w1 940 (by decide +kernel) (by decide +kernel)
theorem wq_941 : Cond.methodLink "CabTearsModel" 203 ⟨"CabTearsModel", "ridesAsOneDoes", "(III)Z"⟩ ∈ fl_U := fl_w1 941 (by decide +kernel) (by decide +kernel)
theorem wq_943 : Cond.instanceMethod ⟨"CabTearsModel", "ridesAsOneDoes", "(III)Z"⟩ ∈ fl_U := fl_w1 943 (by decide +kernel) (by decide +kernel)
theorem wq_944 : Cond.code ⟨"CabTearsModel", "ridesAsOneDoes", "(III)Z"⟩ prog_11_method_35_code 5 (Option.some FieldType.boolean) ∈ fl_U := fl_w1 944 (by decide +kernel) (by decide +kernel)
theorem wq_945 : Cond.methodLink "CabTearsModel" 182 ⟨"CabTearsModel", "lateBy", "(III)I"⟩ ∈ fl_U := fl_w1 945 (by decide +kernel) (by decide +kernel)
theorem wq_947 : Cond.instanceMethod ⟨"CabTearsModel", "lateBy", "(III)I"⟩ ∈ fl_U := fl_w1 947 (by decide +kernel) (by decide +kernel)
theorem wq_948 : Cond.code ⟨"CabTearsModel", "lateBy", "(III)I"⟩ prog_11_method_32_code 4 (Option.some FieldType.int) ∈ fl_U := fl_w1 948 (by decide +kernel) (by decide +kernel)
theorem wq_949 : Cond.methodLink "CabTearsModel" 178 ⟨"CabTearsModel", "freeBy", "(III)I"⟩ ∈ fl_U := fl_w1 949 (by decide +kernel) (by decide +kernel)
theorem wq_951 : Cond.instanceMethod ⟨"CabTearsModel", "freeBy", "(III)I"⟩ ∈ fl_U := fl_w1 951 (by decide +kernel) (by decide +kernel)
theorem wq_952 : Cond.code ⟨"CabTearsModel", "freeBy", "(III)I"⟩ prog_11_method_31_code 7 (Option.some FieldType.int) ∈ fl_U := fl_w1 952 (by decide +kernel) (by decide +kernel)
theorem wq_953 : Cond.methodLink "CabTearsModel" 172 ⟨"CabTearsModel", "setsOut", "(II)I"⟩ ∈ fl_U := fl_w1 953 (by decide +kernel) (by decide +kernel)
theorem wq_955 : Cond.instanceMethod ⟨"CabTearsModel", "setsOut", "(II)I"⟩ ∈ fl_U := fl_w1 955 (by decide +kernel) (by decide +kernel)
theorem wq_956 : Cond.code ⟨"CabTearsModel", "setsOut", "(II)I"⟩ prog_11_method_30_code 3 (Option.some FieldType.int) ∈ fl_U := fl_w1 956 (by decide +kernel) (by decide +kernel)
theorem wq_957 : Cond.methodLink "CabTearsModel" 175 ⟨"CabTearsModel", "goesBy", "(III)Z"⟩ ∈ fl_U := fl_w1 957 (by decide +kernel) (by decide +kernel)
theorem wq_959 : Cond.instanceMethod ⟨"CabTearsModel", "goesBy", "(III)Z"⟩ ∈ fl_U := fl_w1 959 (by decide +kernel) (by decide +kernel)
theorem wq_960 : Cond.code ⟨"CabTearsModel", "goesBy", "(III)Z"⟩ prog_11_method_29_code 5 (Option.some FieldType.boolean) ∈ fl_U := fl_w1 960 (by decide +kernel) (by decide +kernel)
theorem wq_961 : Cond.methodLink "CabTearsModel" 185 ⟨"CabTearsModel", "weeps", "(II)Z"⟩ ∈ fl_U := fl_w1 961 (by decide +kernel) (by decide +kernel)
theorem wq_963 : Cond.instanceMethod ⟨"CabTearsModel", "weeps", "(II)Z"⟩ ∈ fl_U := fl_w1 963 (by decide +kernel) (by decide +kernel)
theorem wq_964 : Cond.code ⟨"CabTearsModel", "weeps", "(II)Z"⟩ prog_11_method_33_code 3 (Option.some FieldType.boolean) ∈ fl_U := fl_w1 964 (by decide +kernel) (by decide +kernel)
theorem wq_965 : Cond.methodLink "CabTearsModel" 189 ⟨"CabTearsModel", "rides", "(IIIZ)V"⟩ ∈ fl_U := fl_w1 965 (by decide +kernel) (by decide +kernel)
theorem wq_967 : Cond.instanceMethod ⟨"CabTearsModel", "rides", "(IIIZ)V"⟩ ∈ fl_U := fl_w1 967 (by decide +kernel) (by decide +kernel)
theorem wq_968 : Cond.code ⟨"CabTearsModel", "rides", "(IIIZ)V"⟩ prog_11_method_34_code 7 (Option.none : Option FieldType) ∈ fl_U := fl_w1 968 (by decide +kernel) (by decide +kernel)
theorem wq_973 : Cond.methodLink "CabTearsModel" 206 ⟨"CabTearsModel", "sends", "(III)V"⟩ ∈ fl_U := fl_w1 973 (by decide +kernel) (by decide +kernel)
theorem wq_975 : Cond.instanceMethod ⟨"CabTearsModel", "sends", "(III)V"⟩ ∈ fl_U := fl_w1 975 (by decide +kernel) (by decide +kernel)
theorem wq_976 : Cond.code ⟨"CabTearsModel", "sends", "(III)V"⟩ prog_11_method_39_code 4 (Option.none : Option FieldType) ∈ fl_U := fl_w1 976 (by decide +kernel) (by decide +kernel)
theorem wq_981 : Cond.constantLong "CabTearsModel" 209 (60 : Int64) ∈ fl_U := fl_w1 981 (by decide +kernel) (by decide +kernel)
theorem wq_994 : Cond.methodLink "CabTearsModel" 211 ⟨"CabTearsModel", "soonestIn", "(II)I"⟩ ∈ fl_U := fl_w1 994 (by decide +kernel) (by decide +kernel)
theorem wq_996 : Cond.instanceMethod ⟨"CabTearsModel", "soonestIn", "(II)I"⟩ ∈ fl_U := fl_w1 996 (by decide +kernel) (by decide +kernel)
theorem wq_997 : Cond.code ⟨"CabTearsModel", "soonestIn", "(II)I"⟩ prog_11_method_36_code 5 (Option.some FieldType.int) ∈ fl_U := fl_w1 997 (by decide +kernel) (by decide +kernel)
theorem wq_1002 : Cond.constantLong "CabTearsModel" 221 (7 : Int64) ∈ fl_U := fl_w1 1002 (by decide +kernel) (by decide +kernel)
theorem wq_1003 : Cond.methodLink "CabTearsModel" 223 ⟨"CabTearsModel", "ordersRest", "()I"⟩ ∈ fl_U := fl_w1 1003 (by decide +kernel) (by decide +kernel)
theorem wq_1005 : Cond.instanceMethod ⟨"CabTearsModel", "ordersRest", "()I"⟩ ∈ fl_U := fl_w1 1005 (by decide +kernel) (by decide +kernel)
theorem wq_1006 : Cond.code ⟨"CabTearsModel", "ordersRest", "()I"⟩ prog_11_method_47_code 8 (Option.some FieldType.int) ∈ fl_U := fl_w1 1006 (by decide +kernel) (by decide +kernel)
theorem wq_1007 : Cond.methodLink "CabTearsModel" 214 ⟨"CabTearsModel", "rest", "()I"⟩ ∈ fl_U := fl_w1 1007 (by decide +kernel) (by decide +kernel)
theorem wq_1009 : Cond.instanceMethod ⟨"CabTearsModel", "rest", "()I"⟩ ∈ fl_U := fl_w1 1009 (by decide +kernel) (by decide +kernel)
theorem wq_1010 : Cond.code ⟨"CabTearsModel", "rest", "()I"⟩ prog_11_method_46_code 1 (Option.some FieldType.int) ∈ fl_U := fl_w1 1010 (by decide +kernel) (by decide +kernel)
theorem wq_1011 : Cond.methodLink "CabTearsModel" 217 ⟨"CabTearsModel", "ones", "(I)I"⟩ ∈ fl_U := fl_w1 1011 (by decide +kernel) (by decide +kernel)
theorem wq_1012 : Cond.static ⟨"CabTearsModel", "ones", "(I)I"⟩ ∈ fl_U := fl_w1 1012 (by decide +kernel) (by decide +kernel)
theorem wq_1013 : Cond.code ⟨"CabTearsModel", "ones", "(I)I"⟩ prog_11_method_5_code 3 (Option.some FieldType.int) ∈ fl_U := fl_w1 1013 (by decide +kernel) (by decide +kernel)
theorem wq_1014 : Cond.constant "CabTearsModel" 220 (1000000 : Int32) ∈ fl_U := fl_w1 1014 (by decide +kernel) (by decide +kernel)
theorem wq_1019 : Cond.methodLink "CabTearsModel" 226 ⟨"CabTearsModel", "tries", "()V"⟩ ∈ fl_U := fl_w1 1019 (by decide +kernel) (by decide +kernel)
theorem wq_1021 : Cond.instanceMethod ⟨"CabTearsModel", "tries", "()V"⟩ ∈ fl_U := fl_w1 1021 (by decide +kernel) (by decide +kernel)
theorem wq_1022 : Cond.code ⟨"CabTearsModel", "tries", "()V"⟩ prog_11_method_43_code 1 (Option.none : Option FieldType) ∈ fl_U := fl_w1 1022 (by decide +kernel) (by decide +kernel)
theorem wq_1027 : Cond.methodLink "CabTearsModel" 229 ⟨"CabTearsModel", "laysDay", "(I)V"⟩ ∈ fl_U := fl_w1 1027 (by decide +kernel) (by decide +kernel)
theorem wq_1029 : Cond.instanceMethod ⟨"CabTearsModel", "laysDay", "(I)V"⟩ ∈ fl_U := fl_w1 1029 (by decide +kernel) (by decide +kernel)
theorem wq_1030 : Cond.code ⟨"CabTearsModel", "laysDay", "(I)V"⟩ prog_11_method_50_code 3 (Option.none : Option FieldType) ∈ fl_U := fl_w1 1030 (by decide +kernel) (by decide +kernel)
theorem wq_1031 : Cond.methodLink "CabTearsModel" 233 ⟨"CabTearsModel", "areLike", "(II)Z"⟩ ∈ fl_U := fl_w1 1031 (by decide +kernel) (by decide +kernel)
theorem wq_1033 : Cond.instanceMethod ⟨"CabTearsModel", "areLike", "(II)Z"⟩ ∈ fl_U := fl_w1 1033 (by decide +kernel) (by decide +kernel)
theorem wq_1034 : Cond.code ⟨"CabTearsModel", "areLike", "(II)Z"⟩ prog_11_method_51_code 5 (Option.some FieldType.boolean) ∈ fl_U := fl_w1 1034 (by decide +kernel) (by decide +kernel)
theorem wq_1039 : Cond.methodLink "CabTearsModel" 236 ⟨"CabTearsModel", "weepBy", "(IIZ)I"⟩ ∈ fl_U := fl_w1 1039 (by decide +kernel) (by decide +kernel)
theorem wq_1041 : Cond.instanceMethod ⟨"CabTearsModel", "weepBy", "(IIZ)I"⟩ ∈ fl_U := fl_w1 1041 (by decide +kernel) (by decide +kernel)
theorem wq_1042 : Cond.code ⟨"CabTearsModel", "weepBy", "(IIZ)I"⟩ prog_11_method_53_code 6 (Option.some FieldType.int) ∈ fl_U := fl_w1 1042 (by decide +kernel) (by decide +kernel)
theorem wq_1047 : Cond.constantLong "CabTearsModel" 240 (4 : Int64) ∈ fl_U := fl_w1 1047 (by decide +kernel) (by decide +kernel)
theorem wq_1052 : Cond.constantLong "CabTearsModel" 242 (400 : Int64) ∈ fl_U := fl_w1 1052 (by decide +kernel) (by decide +kernel)
theorem wq_1061 : Cond.methodLink "CabTearsModel" 244 ⟨"CabTearsModel", "isSeen", "(I)Z"⟩ ∈ fl_U := fl_w1 1061 (by decide +kernel) (by decide +kernel)
theorem wq_1063 : Cond.instanceMethod ⟨"CabTearsModel", "isSeen", "(I)Z"⟩ ∈ fl_U := fl_w1 1063 (by decide +kernel) (by decide +kernel)
theorem wq_1064 : Cond.code ⟨"CabTearsModel", "isSeen", "(I)Z"⟩ prog_11_method_58_code 4 (Option.some FieldType.boolean) ∈ fl_U := fl_w1 1064 (by decide +kernel) (by decide +kernel)
theorem wq_1073 : Cond.constantLong "CabTearsModel" 247 (10 : Int64) ∈ fl_U := fl_w1 1073 (by decide +kernel) (by decide +kernel)
theorem wq_1078 : Cond.constantLong "CabTearsModel" 249 (9999 : Int64) ∈ fl_U := fl_w1 1078 (by decide +kernel) (by decide +kernel)
theorem wq_1079 : Cond.constantLong "CabTearsModel" 251 (40 : Int64) ∈ fl_U := fl_w1 1079 (by decide +kernel) (by decide +kernel)
theorem wq_1080 : Cond.constantLong "CabTearsModel" 253 (7919 : Int64) ∈ fl_U := fl_w1 1080 (by decide +kernel) (by decide +kernel)
theorem wq_1081 : Cond.constantLong "CabTearsModel" 255 (6151 : Int64) ∈ fl_U := fl_w1 1081 (by decide +kernel) (by decide +kernel)
theorem wq_1082 : Cond.constantLong "CabTearsModel" 257 (65521 : Int64) ∈ fl_U := fl_w1 1082 (by decide +kernel) (by decide +kernel)
theorem fk_X8_12 : fl_fk RX8 12 8 0 := ⟨RX8, TX8, 11, rfl, inU_X8, by decide, wq_422⟩
theorem fk_X8_19 : fl_fk RX8 19 8 1 := ⟨RX8, TX8, 11, rfl, inU_X8, by decide, wq_423⟩
theorem fk_X8_23 : fl_fk RX8 23 8 2 := ⟨RX8, TX8, 11, rfl, inU_X8, by decide, wq_424⟩
theorem fk_X8_29 : fl_fk RX8 29 8 3 := ⟨RX8, TX8, 11, rfl, inU_X8, by decide, wq_425⟩
theorem fk_X8_33 : fl_fk RX8 33 8 4 := ⟨RX8, TX8, 11, rfl, inU_X8, by decide, wq_426⟩
theorem fk_X8_41 : fl_fk RX8 41 8 5 := ⟨RX8, TX8, 11, rfl, inU_X8, by decide, wq_427⟩
theorem fk_X8_45 : fl_fk RX8 45 8 6 := ⟨RX8, TX8, 11, rfl, inU_X8, by decide, wq_428⟩
theorem fk_X8_51 : fl_fk RX8 51 8 7 := ⟨RX8, TX8, 11, rfl, inU_X8, by decide, wq_429⟩
theorem fk_X8_58 : fl_fk RX8 58 8 8 := ⟨RX8, TX8, 11, rfl, inU_X8, by decide, wq_430⟩
theorem fk_X8_65 : fl_fk RX8 65 8 9 := ⟨RX8, TX8, 11, rfl, inU_X8, by decide, wq_431⟩
theorem fk_X8_69 : fl_fk RX8 69 8 10 := ⟨RX8, TX8, 11, rfl, inU_X8, by decide, wq_432⟩
theorem fk_X8_93 : fl_fk RX8 93 6 1 := ⟨RX6, TX6, 4, rfl, inU_X6, by decide, wq_77⟩
theorem fk_X8_103 : fl_fk RX8 103 0 2 := ⟨RX0, TX0, 13, rfl, inU_X0, by decide, wq_125⟩
theorem fk_X8_106 : fl_fk RX8 106 0 3 := ⟨RX0, TX0, 13, rfl, inU_X0, by decide, wq_129⟩
theorem fk_X8_123 : fl_fk RX8 123 0 4 := ⟨RX0, TX0, 13, rfl, inU_X0, by decide, wq_131⟩
theorem fk_X8_127 : fl_fk RX8 127 5 1 := ⟨RX5, TX5, 6, rfl, inU_X5, by decide, wq_186⟩
theorem fk_X8_130 : fl_fk RX8 130 5 2 := ⟨RX5, TX5, 6, rfl, inU_X5, by decide, wq_189⟩
theorem fk_X8_133 : fl_fk RX8 133 5 3 := ⟨RX5, TX5, 6, rfl, inU_X5, by decide, wq_192⟩
theorem fk_X8_139 : fl_fk RX8 139 0 7 := ⟨RX0, TX0, 13, rfl, inU_X0, by decide, wq_138⟩
theorem fk_X8_142 : fl_fk RX8 142 0 8 := ⟨RX0, TX0, 13, rfl, inU_X0, by decide, wq_140⟩
theorem fk_X8_145 : fl_fk RX8 145 0 9 := ⟨RX0, TX0, 13, rfl, inU_X0, by decide, wq_142⟩
theorem fk_X8_148 : fl_fk RX8 148 0 10 := ⟨RX0, TX0, 13, rfl, inU_X0, by decide, wq_144⟩
theorem fk_X8_151 : fl_fk RX8 151 0 11 := ⟨RX0, TX0, 13, rfl, inU_X0, by decide, wq_146⟩
theorem fk_X8_157 : fl_fk RX8 157 5 4 := ⟨RX5, TX5, 6, rfl, inU_X5, by decide, wq_195⟩
theorem fk_X8_160 : fl_fk RX8 160 5 5 := ⟨RX5, TX5, 6, rfl, inU_X5, by decide, wq_198⟩
theorem fk_X8_175 : fl_fk RX8 175 5 0 := ⟨RX5, TX5, 6, rfl, inU_X5, by decide, wq_183⟩
theorem fk_X8_182 : fl_fk RX8 182 4 2 := ⟨RX4, TX4, 3, rfl, inU_X4, by decide, wq_228⟩
theorem fk_X8_188 : fl_fk RX8 188 0 12 := ⟨RX0, TX0, 13, rfl, inU_X0, by decide, wq_148⟩
theorem fk_X8_192 : fl_fk RX8 192 7 0 := ⟨RX7, TX7, 4, rfl, inU_X7, by decide, wq_105⟩
theorem fk_X8_196 : fl_fk RX8 196 7 1 := ⟨RX7, TX7, 4, rfl, inU_X7, by decide, wq_107⟩
theorem fk_X8_198 : fl_fk RX8 198 7 2 := ⟨RX7, TX7, 4, rfl, inU_X7, by decide, wq_109⟩
theorem fk_X8_202 : fl_fk RX8 202 7 3 := ⟨RX7, TX7, 4, rfl, inU_X7, by decide, wq_111⟩
theorem fk_X8_213 : fl_fk RX8 213 2 4 := ⟨RX2, TX2, 5, rfl, inU_X2, by decide, wq_274⟩
theorem fk_X8_216 : fl_fk RX8 216 2 3 := ⟨RX2, TX2, 5, rfl, inU_X2, by decide, wq_272⟩
theorem fk_X8_217 : fl_fk RX8 217 2 2 := ⟨RX2, TX2, 5, rfl, inU_X2, by decide, wq_270⟩
theorem fk_X8_248 : fl_fk RX8 248 1 4 := ⟨RX1, TX1, 6, rfl, inU_X1, by decide, wq_299⟩
theorem fk_X8_251 : fl_fk RX8 251 1 5 := ⟨RX1, TX1, 6, rfl, inU_X1, by decide, wq_301⟩
theorem fk_X8_256 : fl_fk RX8 256 3 3 := ⟨RX3, TX3, 4, rfl, inU_X3, by decide, wq_249⟩
theorem fk_X8_286 : fl_fk RX8 286 0 1 := ⟨RX0, TX0, 13, rfl, inU_X0, by decide, wq_123⟩
theorem fk_X8_298 : fl_fk RX8 298 3 0 := ⟨RX3, TX3, 4, rfl, inU_X3, by decide, wq_243⟩
theorem fk_X8_301 : fl_fk RX8 301 3 1 := ⟨RX3, TX3, 4, rfl, inU_X3, by decide, wq_245⟩
theorem fk_X8_308 : fl_fk RX8 308 3 2 := ⟨RX3, TX3, 4, rfl, inU_X3, by decide, wq_247⟩
theorem fk_X0_9 : fl_fk RX0 9 0 4 := ⟨RX0, TX0, 13, rfl, inU_X0, by decide, wq_130⟩
theorem fk_X0_15 : fl_fk RX0 15 0 5 := ⟨RX0, TX0, 13, rfl, inU_X0, by decide, wq_132⟩
theorem fk_X0_18 : fl_fk RX0 18 0 6 := ⟨RX0, TX0, 13, rfl, inU_X0, by decide, wq_134⟩
theorem fk_X0_21 : fl_fk RX0 21 0 7 := ⟨RX0, TX0, 13, rfl, inU_X0, by decide, wq_136⟩
theorem fk_X0_24 : fl_fk RX0 24 0 8 := ⟨RX0, TX0, 13, rfl, inU_X0, by decide, wq_139⟩
theorem fk_X0_27 : fl_fk RX0 27 0 9 := ⟨RX0, TX0, 13, rfl, inU_X0, by decide, wq_141⟩
theorem fk_X0_30 : fl_fk RX0 30 0 10 := ⟨RX0, TX0, 13, rfl, inU_X0, by decide, wq_143⟩
theorem fk_X0_33 : fl_fk RX0 33 0 11 := ⟨RX0, TX0, 13, rfl, inU_X0, by decide, wq_145⟩
theorem fk_X0_39 : fl_fk RX0 39 0 12 := ⟨RX0, TX0, 13, rfl, inU_X0, by decide, wq_147⟩
theorem fk_X0_43 : fl_fk RX0 43 0 0 := ⟨RX0, TX0, 13, rfl, inU_X0, by decide, wq_121⟩
theorem fk_X0_47 : fl_fk RX0 47 0 1 := ⟨RX0, TX0, 13, rfl, inU_X0, by decide, wq_122⟩
theorem fk_X0_50 : fl_fk RX0 50 0 2 := ⟨RX0, TX0, 13, rfl, inU_X0, by decide, wq_124⟩
theorem fk_X0_53 : fl_fk RX0 53 0 3 := ⟨RX0, TX0, 13, rfl, inU_X0, by decide, wq_126⟩
theorem fk_X0_78 : fl_fk RX0 78 5 3 := ⟨RX5, TX5, 6, rfl, inU_X5, by decide, wq_193⟩
theorem fk_X0_87 : fl_fk RX0 87 5 0 := ⟨RX5, TX5, 6, rfl, inU_X5, by decide, wq_184⟩
theorem fk_X0_90 : fl_fk RX0 90 5 2 := ⟨RX5, TX5, 6, rfl, inU_X5, by decide, wq_190⟩
theorem fk_X0_96 : fl_fk RX0 96 7 3 := ⟨RX7, TX7, 4, rfl, inU_X7, by decide, wq_110⟩
theorem fk_X0_100 : fl_fk RX0 100 5 1 := ⟨RX5, TX5, 6, rfl, inU_X5, by decide, wq_187⟩
theorem fk_X0_103 : fl_fk RX0 103 7 0 := ⟨RX7, TX7, 4, rfl, inU_X7, by decide, wq_104⟩
theorem fk_X0_105 : fl_fk RX0 105 7 1 := ⟨RX7, TX7, 4, rfl, inU_X7, by decide, wq_106⟩
theorem fk_X0_108 : fl_fk RX0 108 7 2 := ⟨RX7, TX7, 4, rfl, inU_X7, by decide, wq_108⟩
theorem fk_X0_111 : fl_fk RX0 111 5 4 := ⟨RX5, TX5, 6, rfl, inU_X5, by decide, wq_196⟩
theorem fk_X0_113 : fl_fk RX0 113 5 5 := ⟨RX5, TX5, 6, rfl, inU_X5, by decide, wq_199⟩
theorem fk_X1_11 : fl_fk RX1 11 1 0 := ⟨RX1, TX1, 6, rfl, inU_X1, by decide, wq_294⟩
theorem fk_X1_22 : fl_fk RX1 22 1 1 := ⟨RX1, TX1, 6, rfl, inU_X1, by decide, wq_295⟩
theorem fk_X1_26 : fl_fk RX1 26 1 2 := ⟨RX1, TX1, 6, rfl, inU_X1, by decide, wq_296⟩
theorem fk_X1_39 : fl_fk RX1 39 1 3 := ⟨RX1, TX1, 6, rfl, inU_X1, by decide, wq_297⟩
theorem fk_X1_42 : fl_fk RX1 42 1 5 := ⟨RX1, TX1, 6, rfl, inU_X1, by decide, wq_300⟩
theorem fk_X1_52 : fl_fk RX1 52 0 3 := ⟨RX0, TX0, 13, rfl, inU_X0, by decide, wq_128⟩
theorem fk_X2_11 : fl_fk RX2 11 2 0 := ⟨RX2, TX2, 5, rfl, inU_X2, by decide, wq_267⟩
theorem fk_X2_17 : fl_fk RX2 17 2 1 := ⟨RX2, TX2, 5, rfl, inU_X2, by decide, wq_268⟩
theorem fk_X2_21 : fl_fk RX2 21 2 2 := ⟨RX2, TX2, 5, rfl, inU_X2, by decide, wq_269⟩
theorem fk_X2_33 : fl_fk RX2 33 2 3 := ⟨RX2, TX2, 5, rfl, inU_X2, by decide, wq_271⟩
theorem fk_X2_37 : fl_fk RX2 37 2 4 := ⟨RX2, TX2, 5, rfl, inU_X2, by decide, wq_273⟩
theorem fk_X2_40 : fl_fk RX2 40 0 3 := ⟨RX0, TX0, 13, rfl, inU_X0, by decide, wq_127⟩
theorem fk_X2_45 : fl_fk RX2 45 0 7 := ⟨RX0, TX0, 13, rfl, inU_X0, by decide, wq_137⟩
theorem fk_X3_9 : fl_fk RX3 9 3 0 := ⟨RX3, TX3, 4, rfl, inU_X3, by decide, wq_242⟩
theorem fk_X3_15 : fl_fk RX3 15 3 1 := ⟨RX3, TX3, 4, rfl, inU_X3, by decide, wq_244⟩
theorem fk_X3_18 : fl_fk RX3 18 3 2 := ⟨RX3, TX3, 4, rfl, inU_X3, by decide, wq_246⟩
theorem fk_X3_21 : fl_fk RX3 21 3 3 := ⟨RX3, TX3, 4, rfl, inU_X3, by decide, wq_248⟩
theorem fk_X4_15 : fl_fk RX4 15 4 0 := ⟨RX4, TX4, 3, rfl, inU_X4, by decide, wq_225⟩
theorem fk_X4_22 : fl_fk RX4 22 4 1 := ⟨RX4, TX4, 3, rfl, inU_X4, by decide, wq_226⟩
theorem fk_X4_30 : fl_fk RX4 30 4 2 := ⟨RX4, TX4, 3, rfl, inU_X4, by decide, wq_227⟩
theorem fk_X5_9 : fl_fk RX5 9 5 1 := ⟨RX5, TX5, 6, rfl, inU_X5, by decide, wq_185⟩
theorem fk_X5_15 : fl_fk RX5 15 5 2 := ⟨RX5, TX5, 6, rfl, inU_X5, by decide, wq_188⟩
theorem fk_X5_18 : fl_fk RX5 18 5 3 := ⟨RX5, TX5, 6, rfl, inU_X5, by decide, wq_191⟩
theorem fk_X5_21 : fl_fk RX5 21 5 4 := ⟨RX5, TX5, 6, rfl, inU_X5, by decide, wq_194⟩
theorem fk_X5_24 : fl_fk RX5 24 5 5 := ⟨RX5, TX5, 6, rfl, inU_X5, by decide, wq_197⟩
theorem fk_X5_27 : fl_fk RX5 27 0 5 := ⟨RX0, TX0, 13, rfl, inU_X0, by decide, wq_133⟩
theorem fk_X5_38 : fl_fk RX5 38 0 6 := ⟨RX0, TX0, 13, rfl, inU_X0, by decide, wq_135⟩
theorem fk_X5_44 : fl_fk RX5 44 5 0 := ⟨RX5, TX5, 6, rfl, inU_X5, by decide, wq_182⟩
theorem fk_X6_9 : fl_fk RX6 9 6 0 := ⟨RX6, TX6, 4, rfl, inU_X6, by decide, wq_76⟩
theorem fk_X6_15 : fl_fk RX6 15 6 2 := ⟨RX6, TX6, 4, rfl, inU_X6, by decide, wq_79⟩
theorem fk_X6_19 : fl_fk RX6 19 6 1 := ⟨RX6, TX6, 4, rfl, inU_X6, by decide, wq_78⟩
theorem fk_X6_36 : fl_fk RX6 36 6 3 := ⟨RX6, TX6, 4, rfl, inU_X6, by decide, wq_80⟩
theorem fk_X9_7 : fl_fk RX9 7 9 0 := ⟨RX9, TX9, 32, rfl, inU_X9, by decide, wq_746⟩
theorem fk_X9_13 : fl_fk RX9 13 9 6 := ⟨RX9, TX9, 32, rfl, inU_X9, by decide, wq_752⟩
theorem fk_X9_16 : fl_fk RX9 16 9 8 := ⟨RX9, TX9, 32, rfl, inU_X9, by decide, wq_754⟩
theorem fk_X9_19 : fl_fk RX9 19 9 9 := ⟨RX9, TX9, 32, rfl, inU_X9, by decide, wq_755⟩
theorem fk_X9_22 : fl_fk RX9 22 9 10 := ⟨RX9, TX9, 32, rfl, inU_X9, by decide, wq_756⟩
theorem fk_X9_25 : fl_fk RX9 25 9 11 := ⟨RX9, TX9, 32, rfl, inU_X9, by decide, wq_757⟩
theorem fk_X9_28 : fl_fk RX9 28 9 12 := ⟨RX9, TX9, 32, rfl, inU_X9, by decide, wq_758⟩
theorem fk_X9_31 : fl_fk RX9 31 9 14 := ⟨RX9, TX9, 32, rfl, inU_X9, by decide, wq_760⟩
theorem fk_X9_34 : fl_fk RX9 34 9 15 := ⟨RX9, TX9, 32, rfl, inU_X9, by decide, wq_761⟩
theorem fk_X9_37 : fl_fk RX9 37 9 16 := ⟨RX9, TX9, 32, rfl, inU_X9, by decide, wq_762⟩
theorem fk_X9_40 : fl_fk RX9 40 9 17 := ⟨RX9, TX9, 32, rfl, inU_X9, by decide, wq_763⟩
theorem fk_X9_43 : fl_fk RX9 43 9 24 := ⟨RX9, TX9, 32, rfl, inU_X9, by decide, wq_770⟩
theorem fk_X9_46 : fl_fk RX9 46 9 26 := ⟨RX9, TX9, 32, rfl, inU_X9, by decide, wq_772⟩
theorem fk_X9_49 : fl_fk RX9 49 9 27 := ⟨RX9, TX9, 32, rfl, inU_X9, by decide, wq_773⟩
theorem fk_X9_52 : fl_fk RX9 52 9 28 := ⟨RX9, TX9, 32, rfl, inU_X9, by decide, wq_774⟩
theorem fk_X9_55 : fl_fk RX9 55 9 29 := ⟨RX9, TX9, 32, rfl, inU_X9, by decide, wq_775⟩
theorem fk_X9_58 : fl_fk RX9 58 9 30 := ⟨RX9, TX9, 32, rfl, inU_X9, by decide, wq_776⟩
theorem fk_X9_61 : fl_fk RX9 61 9 31 := ⟨RX9, TX9, 32, rfl, inU_X9, by decide, wq_777⟩
theorem fk_X9_64 : fl_fk RX9 64 9 21 := ⟨RX9, TX9, 32, rfl, inU_X9, by decide, wq_767⟩
theorem fk_X9_68 : fl_fk RX9 68 9 22 := ⟨RX9, TX9, 32, rfl, inU_X9, by decide, wq_768⟩
theorem fk_X9_82 : fl_fk RX9 82 9 3 := ⟨RX9, TX9, 32, rfl, inU_X9, by decide, wq_749⟩
theorem fk_X9_85 : fl_fk RX9 85 9 4 := ⟨RX9, TX9, 32, rfl, inU_X9, by decide, wq_750⟩
theorem fk_X9_96 : fl_fk RX9 96 9 5 := ⟨RX9, TX9, 32, rfl, inU_X9, by decide, wq_751⟩
theorem fk_X9_99 : fl_fk RX9 99 9 7 := ⟨RX9, TX9, 32, rfl, inU_X9, by decide, wq_753⟩
theorem fk_X9_102 : fl_fk RX9 102 9 23 := ⟨RX9, TX9, 32, rfl, inU_X9, by decide, wq_769⟩
theorem fk_X9_105 : fl_fk RX9 105 9 25 := ⟨RX9, TX9, 32, rfl, inU_X9, by decide, wq_771⟩
theorem fk_X9_108 : fl_fk RX9 108 9 1 := ⟨RX9, TX9, 32, rfl, inU_X9, by decide, wq_747⟩
theorem fk_X9_111 : fl_fk RX9 111 9 2 := ⟨RX9, TX9, 32, rfl, inU_X9, by decide, wq_748⟩
theorem fk_X9_114 : fl_fk RX9 114 9 13 := ⟨RX9, TX9, 32, rfl, inU_X9, by decide, wq_759⟩
theorem fk_X9_121 : fl_fk RX9 121 9 18 := ⟨RX9, TX9, 32, rfl, inU_X9, by decide, wq_764⟩
theorem fk_X9_124 : fl_fk RX9 124 9 19 := ⟨RX9, TX9, 32, rfl, inU_X9, by decide, wq_765⟩
theorem fk_X9_127 : fl_fk RX9 127 9 20 := ⟨RX9, TX9, 32, rfl, inU_X9, by decide, wq_766⟩
theorem pk_X8_93 : fl_pk RX8 93 6 1 .int := ⟨RX6, TX6, 4, tyX6, rfl, inU_X6, by decide, wq_77, tyX6_ok, nmX6, rfl, by decide +kernel⟩
theorem pk_X8_175 : fl_pk RX8 175 5 0 .int := ⟨RX5, TX5, 6, tyX5, rfl, inU_X5, by decide, wq_183, tyX5_ok, nmX5, rfl, by decide +kernel⟩
theorem pk_X8_182 : fl_pk RX8 182 4 2 .int := ⟨RX4, TX4, 3, tyX4, rfl, inU_X4, by decide, wq_228, tyX4_ok, nmX4, rfl, by decide +kernel⟩
theorem pk_X8_256 : fl_pk RX8 256 3 3 .int := ⟨RX3, TX3, 4, tyX3, rfl, inU_X3, by decide, wq_249, tyX3_ok, nmX3, rfl, by decide +kernel⟩
theorem pk_X0_43 : fl_pk RX0 43 0 0 .int := ⟨RX0, TX0, 13, tyX0, rfl, inU_X0, by decide, wq_121, tyX0_ok, nmX0, rfl, by decide +kernel⟩
theorem pk_X0_47 : fl_pk RX0 47 0 1 .int := ⟨RX0, TX0, 13, tyX0, rfl, inU_X0, by decide, wq_122, tyX0_ok, nmX0, rfl, by decide +kernel⟩
theorem pk_X0_50 : fl_pk RX0 50 0 2 .int := ⟨RX0, TX0, 13, tyX0, rfl, inU_X0, by decide, wq_124, tyX0_ok, nmX0, rfl, by decide +kernel⟩
theorem pk_X0_53 : fl_pk RX0 53 0 3 .int := ⟨RX0, TX0, 13, tyX0, rfl, inU_X0, by decide, wq_126, tyX0_ok, nmX0, rfl, by decide +kernel⟩
theorem pk_X0_96 : fl_pk RX0 96 7 3 .boolean := ⟨RX7, TX7, 4, tyX7, rfl, inU_X7, by decide, wq_110, tyX7_ok, nmX7, rfl, by decide +kernel⟩
theorem pk_X0_103 : fl_pk RX0 103 7 0 .int := ⟨RX7, TX7, 4, tyX7, rfl, inU_X7, by decide, wq_104, tyX7_ok, nmX7, rfl, by decide +kernel⟩
theorem pk_X0_105 : fl_pk RX0 105 7 1 .int := ⟨RX7, TX7, 4, tyX7, rfl, inU_X7, by decide, wq_106, tyX7_ok, nmX7, rfl, by decide +kernel⟩
theorem pk_X0_108 : fl_pk RX0 108 7 2 .boolean := ⟨RX7, TX7, 4, tyX7, rfl, inU_X7, by decide, wq_108, tyX7_ok, nmX7, rfl, by decide +kernel⟩
theorem pk_X1_22 : fl_pk RX1 22 1 1 .int := ⟨RX1, TX1, 6, tyX1, rfl, inU_X1, by decide, wq_295, tyX1_ok, nmX1, rfl, by decide +kernel⟩
theorem pk_X1_26 : fl_pk RX1 26 1 2 .int := ⟨RX1, TX1, 6, tyX1, rfl, inU_X1, by decide, wq_296, tyX1_ok, nmX1, rfl, by decide +kernel⟩
theorem pk_X1_39 : fl_pk RX1 39 1 3 .int := ⟨RX1, TX1, 6, tyX1, rfl, inU_X1, by decide, wq_297, tyX1_ok, nmX1, rfl, by decide +kernel⟩
theorem pk_X1_42 : fl_pk RX1 42 1 5 .int := ⟨RX1, TX1, 6, tyX1, rfl, inU_X1, by decide, wq_300, tyX1_ok, nmX1, rfl, by decide +kernel⟩
theorem pk_X1_49 : fl_pk RX1 49 1 4 .int := ⟨RX1, TX1, 6, tyX1, rfl, inU_X1, by decide, wq_298, tyX1_ok, nmX1, rfl, by decide +kernel⟩
theorem pk_X2_33 : fl_pk RX2 33 2 3 .int := ⟨RX2, TX2, 5, tyX2, rfl, inU_X2, by decide, wq_271, tyX2_ok, nmX2, rfl, by decide +kernel⟩
theorem pk_X2_37 : fl_pk RX2 37 2 4 .int := ⟨RX2, TX2, 5, tyX2, rfl, inU_X2, by decide, wq_273, tyX2_ok, nmX2, rfl, by decide +kernel⟩
theorem pk_X3_21 : fl_pk RX3 21 3 3 .int := ⟨RX3, TX3, 4, tyX3, rfl, inU_X3, by decide, wq_248, tyX3_ok, nmX3, rfl, by decide +kernel⟩
theorem pk_X4_22 : fl_pk RX4 22 4 1 .int := ⟨RX4, TX4, 3, tyX4, rfl, inU_X4, by decide, wq_226, tyX4_ok, nmX4, rfl, by decide +kernel⟩
theorem pk_X4_30 : fl_pk RX4 30 4 2 .int := ⟨RX4, TX4, 3, tyX4, rfl, inU_X4, by decide, wq_227, tyX4_ok, nmX4, rfl, by decide +kernel⟩
theorem pk_X5_44 : fl_pk RX5 44 5 0 .int := ⟨RX5, TX5, 6, tyX5, rfl, inU_X5, by decide, wq_182, tyX5_ok, nmX5, rfl, by decide +kernel⟩
theorem pk_X6_19 : fl_pk RX6 19 6 1 .int := ⟨RX6, TX6, 4, tyX6, rfl, inU_X6, by decide, wq_78, tyX6_ok, nmX6, rfl, by decide +kernel⟩
theorem pk_X6_36 : fl_pk RX6 36 6 3 .int := ⟨RX6, TX6, 4, tyX6, rfl, inU_X6, by decide, wq_80, tyX6_ok, nmX6, rfl, by decide +kernel⟩
theorem pk_X9_64 : fl_pk RX9 64 9 21 .int := ⟨RX9, TX9, 32, tyX9, rfl, inU_X9, by decide, wq_767, tyX9_ok, nmX9, rfl, by decide +kernel⟩
theorem pk_X9_68 : fl_pk RX9 68 9 22 .int := ⟨RX9, TX9, 32, tyX9, rfl, inU_X9, by decide, wq_768, tyX9_ok, nmX9, rfl, by decide +kernel⟩
theorem pk_X9_82 : fl_pk RX9 82 9 3 .int := ⟨RX9, TX9, 32, tyX9, rfl, inU_X9, by decide, wq_749, tyX9_ok, nmX9, rfl, by decide +kernel⟩
theorem pk_X9_85 : fl_pk RX9 85 9 4 .int := ⟨RX9, TX9, 32, tyX9, rfl, inU_X9, by decide, wq_750, tyX9_ok, nmX9, rfl, by decide +kernel⟩
theorem pk_X9_96 : fl_pk RX9 96 9 5 .int := ⟨RX9, TX9, 32, tyX9, rfl, inU_X9, by decide, wq_751, tyX9_ok, nmX9, rfl, by decide +kernel⟩
theorem pk_X9_99 : fl_pk RX9 99 9 7 .int := ⟨RX9, TX9, 32, tyX9, rfl, inU_X9, by decide, wq_753, tyX9_ok, nmX9, rfl, by decide +kernel⟩
theorem pk_X9_102 : fl_pk RX9 102 9 23 .int := ⟨RX9, TX9, 32, tyX9, rfl, inU_X9, by decide, wq_769, tyX9_ok, nmX9, rfl, by decide +kernel⟩
theorem pk_X9_105 : fl_pk RX9 105 9 25 .int := ⟨RX9, TX9, 32, tyX9, rfl, inU_X9, by decide, wq_771, tyX9_ok, nmX9, rfl, by decide +kernel⟩
theorem pk_X9_108 : fl_pk RX9 108 9 1 .int := ⟨RX9, TX9, 32, tyX9, rfl, inU_X9, by decide, wq_747, tyX9_ok, nmX9, rfl, by decide +kernel⟩
theorem pk_X9_111 : fl_pk RX9 111 9 2 .int := ⟨RX9, TX9, 32, tyX9, rfl, inU_X9, by decide, wq_748, tyX9_ok, nmX9, rfl, by decide +kernel⟩
theorem pk_X9_114 : fl_pk RX9 114 9 13 .int := ⟨RX9, TX9, 32, tyX9, rfl, inU_X9, by decide, wq_759, tyX9_ok, nmX9, rfl, by decide +kernel⟩
theorem pk_X9_121 : fl_pk RX9 121 9 18 .int := ⟨RX9, TX9, 32, tyX9, rfl, inU_X9, by decide, wq_764, tyX9_ok, nmX9, rfl, by decide +kernel⟩
theorem pk_X9_124 : fl_pk RX9 124 9 19 .int := ⟨RX9, TX9, 32, tyX9, rfl, inU_X9, by decide, wq_765, tyX9_ok, nmX9, rfl, by decide +kernel⟩
theorem pk_X9_127 : fl_pk RX9 127 9 20 .int := ⟨RX9, TX9, 32, tyX9, rfl, inU_X9, by decide, wq_766, tyX9_ok, nmX9, rfl, by decide +kernel⟩
theorem mv_X8_85 : fl_mv RX8 85 6 yX6_add cX6_add 2 (some .boolean) 1 := fl_mv_of (T := TX6) (N := 4) rfl wq_364 wq_365 wq_366 wq_46 wq_367 ⟨by decide +kernel, by decide +kernel, by decide +kernel⟩
theorem mv_X8_89 : fl_mv RX8 89 6 yX6_readInto cX6_readInto 4 (some .int) 1 := fl_mv_of (T := TX6) (N := 4) rfl wq_368 wq_369 wq_370 wq_46 wq_371 ⟨by decide +kernel, by decide +kernel, by decide +kernel⟩
theorem mv_X8_96 : fl_mv RX8 96 8 yX8_begin cX8_begin 1 none 0 := fl_mv_of (T := TX8) (N := 11) rfl wq_407 wq_409 wq_2 wq_45 wq_410 ⟨by decide +kernel, by decide +kernel, by decide +kernel⟩
theorem mv_X8_109 : fl_mv RX8 109 0 yX0_places cX0_places 1 (some .int) 0 := fl_mv_of (T := TX0) (N := 13) rfl wq_475 wq_400 wq_401 wq_47 wq_402 ⟨by decide +kernel, by decide +kernel, by decide +kernel⟩
theorem mv_X8_112 : fl_mv RX8 112 0 yX0_hasPlace cX0_hasPlace 2 (some .boolean) 1 := fl_mv_of (T := TX0) (N := 13) rfl wq_480 wq_396 wq_397 wq_47 wq_398 ⟨by decide +kernel, by decide +kernel, by decide +kernel⟩
theorem mv_X8_116 : fl_mv RX8 116 0 yX0_steps cX0_steps 4 (some .int) 2 := fl_mv_of (T := TX0) (N := 13) rfl wq_481 wq_482 wq_483 wq_47 wq_484 ⟨by decide +kernel, by decide +kernel, by decide +kernel⟩
theorem mv_X8_120 : fl_mv RX8 120 0 yX0_hasCab cX0_hasCab 2 (some .boolean) 1 := fl_mv_of (T := TX0) (N := 13) rfl wq_493 wq_494 wq_495 wq_47 wq_496 ⟨by decide +kernel, by decide +kernel, by decide +kernel⟩
theorem mv_X8_136 : fl_mv RX8 136 0 yX0_hasFare cX0_hasFare 2 (some .boolean) 1 := fl_mv_of (T := TX0) (N := 13) rfl wq_501 wq_502 wq_503 wq_47 wq_504 ⟨by decide +kernel, by decide +kernel, by decide +kernel⟩
theorem mv_X8_154 : fl_mv RX8 154 5 yX5_isTaken cX5_isTaken 2 (some .boolean) 1 := fl_mv_of (T := TX5) (N := 6) rfl wq_505 wq_506 wq_507 wq_49 wq_508 ⟨by decide +kernel, by decide +kernel, by decide +kernel⟩
theorem mv_X8_163 : fl_mv RX8 163 4 yX4_put cX4_put 2 none 1 := fl_mv_of (T := TX4) (N := 3) rfl wq_513 wq_514 wq_515 wq_50 wq_516 ⟨by decide +kernel, by decide +kernel, by decide +kernel⟩
theorem mv_X8_167 : fl_mv RX8 167 0 yX0_drive cX0_drive 5 (some .boolean) 3 := fl_mv_of (T := TX0) (N := 13) rfl wq_524 wq_525 wq_526 wq_47 wq_527 ⟨by decide +kernel, by decide +kernel, by decide +kernel⟩
theorem mv_X8_171 : fl_mv RX8 171 0 yX0_move cX0_move 4 none 3 := fl_mv_of (T := TX0) (N := 13) rfl wq_545 wq_546 wq_547 wq_47 wq_548 ⟨by decide +kernel, by decide +kernel, by decide +kernel⟩
theorem mv_X8_178 : fl_mv RX8 178 4 yX4_giveBack cX4_giveBack 2 (some .boolean) 1 := fl_mv_of (T := TX4) (N := 3) rfl wq_557 wq_558 wq_559 wq_50 wq_560 ⟨by decide +kernel, by decide +kernel, by decide +kernel⟩
theorem mv_X8_185 : fl_mv RX8 185 0 yX0_reckon cX0_reckon 4 none 3 := fl_mv_of (T := TX0) (N := 13) rfl wq_565 wq_529 wq_530 wq_47 wq_531 ⟨by decide +kernel, by decide +kernel, by decide +kernel⟩
theorem mv_X8_205 : fl_mv RX8 205 0 yX0_nearest cX0_nearest 6 (some .int) 2 := fl_mv_of (T := TX0) (N := 13) rfl wq_570 wq_571 wq_572 wq_47 wq_573 ⟨by decide +kernel, by decide +kernel, by decide +kernel⟩
theorem mv_X8_209 : fl_mv RX8 209 2 yX2_search cX2_search 5 none 2 := fl_mv_of (T := TX2) (N := 5) rfl wq_578 wq_579 wq_580 wq_53 wq_581 ⟨by decide +kernel, by decide +kernel, by decide +kernel⟩
theorem mv_X8_220 : fl_mv RX8 220 8 yX8_lateFrom cX8_lateFrom 5 (some .int) 2 := fl_mv_of (T := TX8) (N := 11) rfl wq_605 wq_607 wq_4 wq_45 wq_608 ⟨by decide +kernel, by decide +kernel, by decide +kernel⟩
theorem mv_X8_223 : fl_mv RX8 223 5 yX5_copy cX5_copy 2 none 1 := fl_mv_of (T := TX5) (N := 6) rfl wq_609 wq_518 wq_519 wq_49 wq_520 ⟨by decide +kernel, by decide +kernel, by decide +kernel⟩
theorem mv_X8_226 : fl_mv RX8 226 5 yX5_cabsAsNumber cX5_cabsAsNumber 4 (some .long) 0 := fl_mv_of (T := TX5) (N := 6) rfl wq_614 wq_615 wq_616 wq_49 wq_617 ⟨by decide +kernel, by decide +kernel, by decide +kernel⟩
theorem mv_X8_230 : fl_mv RX8 230 8 yX8_liveOneDay cX8_liveOneDay 2 none 0 := fl_mv_of (T := TX8) (N := 11) rfl wq_620 wq_622 wq_5 wq_45 wq_623 ⟨by decide +kernel, by decide +kernel, by decide +kernel⟩
theorem mv_X8_233 : fl_mv RX8 233 8 yX8_dayLike cX8_dayLike 3 (some .int) 1 := fl_mv_of (T := TX8) (N := 11) rfl wq_626 wq_628 wq_6 wq_45 wq_629 ⟨by decide +kernel, by decide +kernel, by decide +kernel⟩
theorem mv_X8_237 : fl_mv RX8 237 8 yX8_tearsOfOthers cX8_tearsOfOthers 4 (some .int) 1 := fl_mv_of (T := TX8) (N := 11) rfl wq_634 wq_636 wq_7 wq_45 wq_637 ⟨by decide +kernel, by decide +kernel, by decide +kernel⟩
theorem mv_X8_240 : fl_mv RX8 240 0 yX0_driveSoonest cX0_driveSoonest 3 (some .boolean) 2 := fl_mv_of (T := TX0) (N := 13) rfl wq_625 wq_596 wq_597 wq_47 wq_598 ⟨by decide +kernel, by decide +kernel, by decide +kernel⟩
theorem mv_X8_244 : fl_mv RX8 244 1 yX1_fight cX1_fight 6 none 5 := fl_mv_of (T := TX1) (N := 6) rfl wq_642 wq_643 wq_644 wq_54 wq_645 ⟨by decide +kernel, by decide +kernel, by decide +kernel⟩
theorem mv_X8_254 : fl_mv RX8 254 3 yX3_add cX3_add 4 (some .boolean) 3 := fl_mv_of (T := TX3) (N := 4) rfl wq_658 wq_659 wq_660 wq_52 wq_661 ⟨by decide +kernel, by decide +kernel, by decide +kernel⟩
theorem mv_X8_257 : fl_mv RX8 257 8 yX8_fitsSeen cX8_fitsSeen 5 (some .boolean) 3 := fl_mv_of (T := TX8) (N := 11) rfl wq_670 wq_672 wq_8 wq_45 wq_673 ⟨by decide +kernel, by decide +kernel, by decide +kernel⟩
theorem mv_X8_272 : fl_mv RX8 272 8 yX8_lateAmong cX8_lateAmong 6 (some .int) 1 := fl_mv_of (T := TX8) (N := 11) rfl wq_693 wq_695 wq_9 wq_45 wq_696 ⟨by decide +kernel, by decide +kernel, by decide +kernel⟩
theorem mv_X8_289 : fl_mv RX8 289 8 yX8_howManyWept cX8_howManyWept 3 (some .int) 0 := fl_mv_of (T := TX8) (N := 11) rfl wq_724 wq_726 wq_10 wq_45 wq_727 ⟨by decide +kernel, by decide +kernel, by decide +kernel⟩
theorem mv_X8_292 : fl_mv RX8 292 5 yX5_begin cX5_begin 2 none 1 := fl_mv_of (T := TX5) (N := 6) rfl wq_411 wq_412 wq_413 wq_49 wq_414 ⟨by decide +kernel, by decide +kernel, by decide +kernel⟩
theorem mv_X8_295 : fl_mv RX8 295 5 yX5_dawn cX5_dawn 2 none 0 := fl_mv_of (T := TX5) (N := 6) rfl wq_624 wq_419 wq_420 wq_49 wq_421 ⟨by decide +kernel, by decide +kernel, by decide +kernel⟩
theorem mv_X8_304 : fl_mv RX8 304 0 yX0_reckonAs cX0_reckonAs 9 none 5 := fl_mv_of (T := TX0) (N := 13) rfl wq_674 wq_533 wq_534 wq_47 wq_535 ⟨by decide +kernel, by decide +kernel, by decide +kernel⟩
theorem mv_X8_311 : fl_mv RX8 311 0 yX0_settle cX0_settle 5 none 4 := fl_mv_of (T := TX0) (N := 13) rfl wq_697 wq_538 wq_539 wq_47 wq_540 ⟨by decide +kernel, by decide +kernel, by decide +kernel⟩
theorem mv_X0_60 : fl_mv RX0 60 0 yX0_hasPlace cX0_hasPlace 2 (some .boolean) 1 := fl_mv_of (T := TX0) (N := 13) rfl wq_395 wq_396 wq_397 wq_47 wq_398 ⟨by decide +kernel, by decide +kernel, by decide +kernel⟩
theorem mv_X0_64 : fl_mv RX0 64 0 yX0_places cX0_places 1 (some .int) 0 := fl_mv_of (T := TX0) (N := 13) rfl wq_399 wq_400 wq_401 wq_47 wq_402 ⟨by decide +kernel, by decide +kernel, by decide +kernel⟩
theorem mv_X0_83 : fl_mv RX0 83 0 yX0_reckonAs cX0_reckonAs 9 none 5 := fl_mv_of (T := TX0) (N := 13) rfl wq_532 wq_533 wq_534 wq_47 wq_535 ⟨by decide +kernel, by decide +kernel, by decide +kernel⟩
theorem mv_X0_93 : fl_mv RX0 93 0 yX0_steps cX0_steps 4 (some .int) 2 := fl_mv_of (T := TX0) (N := 13) rfl wq_536 wq_482 wq_483 wq_47 wq_484 ⟨by decide +kernel, by decide +kernel, by decide +kernel⟩
theorem mv_X0_116 : fl_mv RX0 116 0 yX0_reckon cX0_reckon 4 none 3 := fl_mv_of (T := TX0) (N := 13) rfl wq_528 wq_529 wq_530 wq_47 wq_531 ⟨by decide +kernel, by decide +kernel, by decide +kernel⟩
theorem mv_X0_120 : fl_mv RX0 120 0 yX0_settle cX0_settle 5 none 4 := fl_mv_of (T := TX0) (N := 13) rfl wq_537 wq_538 wq_539 wq_47 wq_540 ⟨by decide +kernel, by decide +kernel, by decide +kernel⟩
theorem mv_X0_124 : fl_mv RX0 124 0 yX0_nearest cX0_nearest 6 (some .int) 2 := fl_mv_of (T := TX0) (N := 13) rfl wq_599 wq_571 wq_572 wq_47 wq_573 ⟨by decide +kernel, by decide +kernel, by decide +kernel⟩
theorem mv_X0_128 : fl_mv RX0 128 0 yX0_drive cX0_drive 5 (some .boolean) 3 := fl_mv_of (T := TX0) (N := 13) rfl wq_600 wq_525 wq_526 wq_47 wq_527 ⟨by decide +kernel, by decide +kernel, by decide +kernel⟩
theorem mv_X1_18 : fl_mv RX1 18 5 yX5_copy cX5_copy 2 none 1 := fl_mv_of (T := TX5) (N := 6) rfl wq_646 wq_518 wq_519 wq_49 wq_520 ⟨by decide +kernel, by decide +kernel, by decide +kernel⟩
theorem mv_X1_57 : fl_mv RX1 57 5 yX5_isTaken cX5_isTaken 2 (some .boolean) 1 := fl_mv_of (T := TX5) (N := 6) rfl wq_652 wq_506 wq_507 wq_49 wq_508 ⟨by decide +kernel, by decide +kernel, by decide +kernel⟩
theorem mv_X1_61 : fl_mv RX1 61 0 yX0_drive cX0_drive 5 (some .boolean) 3 := fl_mv_of (T := TX0) (N := 13) rfl wq_653 wq_525 wq_526 wq_47 wq_527 ⟨by decide +kernel, by decide +kernel, by decide +kernel⟩
theorem mv_X2_25 : fl_mv RX2 25 5 yX5_copy cX5_copy 2 none 1 := fl_mv_of (T := TX5) (N := 6) rfl wq_582 wq_518 wq_519 wq_49 wq_520 ⟨by decide +kernel, by decide +kernel, by decide +kernel⟩
theorem mv_X2_48 : fl_mv RX2 48 5 yX5_isTaken cX5_isTaken 2 (some .boolean) 1 := fl_mv_of (T := TX5) (N := 6) rfl wq_586 wq_506 wq_507 wq_49 wq_508 ⟨by decide +kernel, by decide +kernel, by decide +kernel⟩
theorem mv_X2_56 : fl_mv RX2 56 2 yX2_keepIfFewer cX2_keepIfFewer 2 none 1 := fl_mv_of (T := TX2) (N := 5) rfl wq_590 wq_592 wq_3 wq_53 wq_593 ⟨by decide +kernel, by decide +kernel, by decide +kernel⟩
theorem mv_X2_60 : fl_mv RX2 60 0 yX0_driveSoonest cX0_driveSoonest 3 (some .boolean) 2 := fl_mv_of (T := TX0) (N := 13) rfl wq_595 wq_596 wq_597 wq_47 wq_598 ⟨by decide +kernel, by decide +kernel, by decide +kernel⟩
theorem mv_X4_26 : fl_mv RX4 26 5 yX5_copy cX5_copy 2 none 1 := fl_mv_of (T := TX5) (N := 6) rfl wq_517 wq_518 wq_519 wq_49 wq_520 ⟨by decide +kernel, by decide +kernel, by decide +kernel⟩
theorem mv_X5_41 : fl_mv RX5 41 5 yX5_dawn cX5_dawn 2 none 0 := fl_mv_of (T := TX5) (N := 6) rfl wq_418 wq_419 wq_420 wq_49 wq_421 ⟨by decide +kernel, by decide +kernel, by decide +kernel⟩
theorem mv_X6_23 : fl_mv RX6 23 0 yX0_clear cX0_clear 1 none 0 := fl_mv_of (T := TX0) (N := 13) rfl wq_372 wq_373 wq_374 wq_47 wq_375 ⟨by decide +kernel, by decide +kernel, by decide +kernel⟩
theorem mv_X6_28 : fl_mv RX6 28 6 yX6_readNumbers cX6_readNumbers 7 (some .boolean) 2 := fl_mv_of (T := TX6) (N := 4) rfl wq_376 wq_378 wq_0 wq_46 wq_379 ⟨by decide +kernel, by decide +kernel, by decide +kernel⟩
theorem mv_X6_32 : fl_mv RX6 32 6 yX6_tell cX6_tell 3 (some .boolean) 2 := fl_mv_of (T := TX6) (N := 4) rfl wq_380 wq_382 wq_1 wq_46 wq_383 ⟨by decide +kernel, by decide +kernel, by decide +kernel⟩
theorem mv_X6_39 : fl_mv RX6 39 0 yX0_build cX0_build 3 (some .boolean) 2 := fl_mv_of (T := TX0) (N := 13) rfl wq_384 wq_385 wq_386 wq_47 wq_387 ⟨by decide +kernel, by decide +kernel, by decide +kernel⟩
theorem mv_X6_42 : fl_mv RX6 42 0 yX0_addCab cX0_addCab 4 (some .boolean) 3 := fl_mv_of (T := TX0) (N := 13) rfl wq_391 wq_392 wq_393 wq_47 wq_394 ⟨by decide +kernel, by decide +kernel, by decide +kernel⟩
theorem mv_X6_46 : fl_mv RX6 46 0 yX0_addFare cX0_addFare 3 (some .boolean) 1 := fl_mv_of (T := TX0) (N := 13) rfl wq_403 wq_404 wq_405 wq_47 wq_406 ⟨by decide +kernel, by decide +kernel, by decide +kernel⟩
theorem mv_X9_71 : fl_mv RX9 71 9 yX9_addsCab cX9_addsCab 4 none 3 := fl_mv_of (T := TX9) (N := 32) rfl wq_734 wq_736 wq_11 wq_60 wq_737 ⟨by decide +kernel, by decide +kernel, by decide +kernel⟩
theorem mv_X9_75 : fl_mv RX9 75 9 yX9_addsFare cX9_addsFare 6 none 5 := fl_mv_of (T := TX9) (N := 32) rfl wq_738 wq_740 wq_12 wq_60 wq_741 ⟨by decide +kernel, by decide +kernel, by decide +kernel⟩
theorem mv_X9_79 : fl_mv RX9 79 9 yX9_begins cX9_begins 3 none 0 := fl_mv_of (T := TX9) (N := 32) rfl wq_742 wq_744 wq_13 wq_60 wq_745 ⟨by decide +kernel, by decide +kernel, by decide +kernel⟩
theorem mv_X9_88 : fl_mv RX9 88 9 yX9_places cX9_places 1 (some .int) 0 := fl_mv_of (T := TX9) (N := 32) rfl wq_894 wq_896 wq_21 wq_60 wq_897 ⟨by decide +kernel, by decide +kernel, by decide +kernel⟩
theorem mv_X9_130 : fl_mv RX9 130 9 yX9_letterAt cX9_letterAt 2 (some .int) 1 := fl_mv_of (T := TX9) (N := 32) rfl wq_868 wq_870 wq_16 wq_60 wq_871 ⟨by decide +kernel, by decide +kernel, by decide +kernel⟩
theorem mv_X9_138 : fl_mv RX9 138 9 yX9_takesNumber cX9_takesNumber 5 (some .boolean) 3 := fl_mv_of (T := TX9) (N := 32) rfl wq_876 wq_878 wq_18 wq_60 wq_879 ⟨by decide +kernel, by decide +kernel, by decide +kernel⟩
theorem mv_X9_142 : fl_mv RX9 142 9 yX9_takesRows cX9_takesRows 2 (some .boolean) 0 := fl_mv_of (T := TX9) (N := 32) rfl wq_872 wq_874 wq_17 wq_60 wq_875 ⟨by decide +kernel, by decide +kernel, by decide +kernel⟩
theorem mv_X9_146 : fl_mv RX9 146 9 yX9_takesCab cX9_takesCab 4 (some .boolean) 0 := fl_mv_of (T := TX9) (N := 32) rfl wq_882 wq_884 wq_19 wq_60 wq_885 ⟨by decide +kernel, by decide +kernel, by decide +kernel⟩
theorem mv_X9_149 : fl_mv RX9 149 9 yX9_takesFare cX9_takesFare 6 (some .boolean) 0 := fl_mv_of (T := TX9) (N := 32) rfl wq_886 wq_888 wq_20 wq_60 wq_889 ⟨by decide +kernel, by decide +kernel, by decide +kernel⟩
theorem mv_X9_152 : fl_mv RX9 152 9 yX9_takesItem cX9_takesItem 2 (some .boolean) 0 := fl_mv_of (T := TX9) (N := 32) rfl wq_864 wq_866 wq_15 wq_60 wq_867 ⟨by decide +kernel, by decide +kernel, by decide +kernel⟩
theorem mv_X9_155 : fl_mv RX9 155 9 yX9_faultOf cX9_faultOf 2 (some .int) 0 := fl_mv_of (T := TX9) (N := 32) rfl wq_860 wq_862 wq_14 wq_60 wq_863 ⟨by decide +kernel, by decide +kernel, by decide +kernel⟩
theorem mv_X9_158 : fl_mv RX9 158 9 yX9_isPlace cX9_isPlace 2 (some .boolean) 1 := fl_mv_of (T := TX9) (N := 32) rfl wq_902 wq_904 wq_22 wq_60 wq_905 ⟨by decide +kernel, by decide +kernel, by decide +kernel⟩
theorem mv_X9_162 : fl_mv RX9 162 9 yX9_farOf cX9_farOf 5 (some .int) 2 := fl_mv_of (T := TX9) (N := 32) rfl wq_906 wq_908 wq_23 wq_60 wq_909 ⟨by decide +kernel, by decide +kernel, by decide +kernel⟩
theorem mv_X9_166 : fl_mv RX9 166 9 yX9_isCab cX9_isCab 2 (some .boolean) 1 := fl_mv_of (T := TX9) (N := 32) rfl wq_914 wq_916 wq_24 wq_60 wq_917 ⟨by decide +kernel, by decide +kernel, by decide +kernel⟩
theorem mv_X9_169 : fl_mv RX9 169 9 yX9_isFare cX9_isFare 2 (some .boolean) 1 := fl_mv_of (T := TX9) (N := 32) rfl wq_922 wq_924 wq_25 wq_60 wq_925 ⟨by decide +kernel, by decide +kernel, by decide +kernel⟩
theorem mv_X9_172 : fl_mv RX9 172 9 yX9_setsOut cX9_setsOut 3 (some .int) 2 := fl_mv_of (T := TX9) (N := 32) rfl wq_953 wq_955 wq_31 wq_60 wq_956 ⟨by decide +kernel, by decide +kernel, by decide +kernel⟩
theorem mv_X9_175 : fl_mv RX9 175 9 yX9_goesBy cX9_goesBy 5 (some .boolean) 3 := fl_mv_of (T := TX9) (N := 32) rfl wq_957 wq_959 wq_32 wq_60 wq_960 ⟨by decide +kernel, by decide +kernel, by decide +kernel⟩
theorem mv_X9_178 : fl_mv RX9 178 9 yX9_freeBy cX9_freeBy 7 (some .int) 3 := fl_mv_of (T := TX9) (N := 32) rfl wq_949 wq_951 wq_30 wq_60 wq_952 ⟨by decide +kernel, by decide +kernel, by decide +kernel⟩
theorem mv_X9_182 : fl_mv RX9 182 9 yX9_lateBy cX9_lateBy 4 (some .int) 3 := fl_mv_of (T := TX9) (N := 32) rfl wq_945 wq_947 wq_29 wq_60 wq_948 ⟨by decide +kernel, by decide +kernel, by decide +kernel⟩
theorem mv_X9_185 : fl_mv RX9 185 9 yX9_weeps cX9_weeps 3 (some .boolean) 2 := fl_mv_of (T := TX9) (N := 32) rfl wq_961 wq_963 wq_33 wq_60 wq_964 ⟨by decide +kernel, by decide +kernel, by decide +kernel⟩
theorem mv_X9_189 : fl_mv RX9 189 9 yX9_rides cX9_rides 7 none 4 := fl_mv_of (T := TX9) (N := 32) rfl wq_965 wq_967 wq_34 wq_60 wq_968 ⟨by decide +kernel, by decide +kernel, by decide +kernel⟩
theorem mv_X9_193 : fl_mv RX9 193 9 yX9_copy cX9_copy 4 none 2 := fl_mv_of (T := TX9) (N := 32) rfl wq_937 wq_939 wq_27 wq_60 wq_940 ⟨by decide +kernel, by decide +kernel, by decide +kernel⟩
theorem mv_X9_200 : fl_mv RX9 200 9 yX9_minds cX9_minds 2 none 0 := fl_mv_of (T := TX9) (N := 32) rfl wq_933 wq_935 wq_26 wq_60 wq_936 ⟨by decide +kernel, by decide +kernel, by decide +kernel⟩
theorem mv_X9_203 : fl_mv RX9 203 9 yX9_ridesAsOneDoes cX9_ridesAsOneDoes 5 (some .boolean) 3 := fl_mv_of (T := TX9) (N := 32) rfl wq_941 wq_943 wq_28 wq_60 wq_944 ⟨by decide +kernel, by decide +kernel, by decide +kernel⟩
theorem mv_X9_206 : fl_mv RX9 206 9 yX9_sends cX9_sends 4 none 3 := fl_mv_of (T := TX9) (N := 32) rfl wq_973 wq_975 wq_35 wq_60 wq_976 ⟨by decide +kernel, by decide +kernel, by decide +kernel⟩
theorem mv_X9_211 : fl_mv RX9 211 9 yX9_soonestIn cX9_soonestIn 5 (some .int) 2 := fl_mv_of (T := TX9) (N := 32) rfl wq_994 wq_996 wq_36 wq_60 wq_997 ⟨by decide +kernel, by decide +kernel, by decide +kernel⟩
theorem mv_X9_214 : fl_mv RX9 214 9 yX9_rest cX9_rest 1 (some .int) 0 := fl_mv_of (T := TX9) (N := 32) rfl wq_1007 wq_1009 wq_38 wq_60 wq_1010 ⟨by decide +kernel, by decide +kernel, by decide +kernel⟩
theorem mv_X9_223 : fl_mv RX9 223 9 yX9_ordersRest cX9_ordersRest 8 (some .int) 0 := fl_mv_of (T := TX9) (N := 32) rfl wq_1003 wq_1005 wq_37 wq_60 wq_1006 ⟨by decide +kernel, by decide +kernel, by decide +kernel⟩
theorem mv_X9_226 : fl_mv RX9 226 9 yX9_tries cX9_tries 1 none 0 := fl_mv_of (T := TX9) (N := 32) rfl wq_1019 wq_1021 wq_39 wq_60 wq_1022 ⟨by decide +kernel, by decide +kernel, by decide +kernel⟩
theorem mv_X9_229 : fl_mv RX9 229 9 yX9_laysDay cX9_laysDay 3 none 1 := fl_mv_of (T := TX9) (N := 32) rfl wq_1027 wq_1029 wq_40 wq_60 wq_1030 ⟨by decide +kernel, by decide +kernel, by decide +kernel⟩
theorem mv_X9_233 : fl_mv RX9 233 9 yX9_areLike cX9_areLike 5 (some .boolean) 2 := fl_mv_of (T := TX9) (N := 32) rfl wq_1031 wq_1033 wq_41 wq_60 wq_1034 ⟨by decide +kernel, by decide +kernel, by decide +kernel⟩
theorem mv_X9_236 : fl_mv RX9 236 9 yX9_weepBy cX9_weepBy 6 (some .int) 3 := fl_mv_of (T := TX9) (N := 32) rfl wq_1039 wq_1041 wq_42 wq_60 wq_1042 ⟨by decide +kernel, by decide +kernel, by decide +kernel⟩
theorem mv_X9_244 : fl_mv RX9 244 9 yX9_isSeen cX9_isSeen 4 (some .boolean) 1 := fl_mv_of (T := TX9) (N := 32) rfl wq_1061 wq_1063 wq_43 wq_60 wq_1064 ⟨by decide +kernel, by decide +kernel, by decide +kernel⟩
theorem ms_X8_99 : fl_ms RX8 99 yX8_within cX8_within 3 (some .boolean) 3 := fl_ms_of wq_462 wq_389 wq_45 wq_390 ⟨by decide +kernel, by decide +kernel, by decide +kernel⟩
theorem ms_X8_260 : fl_ms RX8 260 yX8_restOf cX8_restOf 4 (some .int) 2 := fl_ms_of wq_683 wq_584 wq_45 wq_585 ⟨by decide +kernel, by decide +kernel, by decide +kernel⟩
theorem ms_X8_264 : fl_ms RX8 264 yX8_power cX8_power 4 (some .int) 2 := fl_ms_of wq_684 wq_685 wq_45 wq_686 ⟨by decide +kernel, by decide +kernel, by decide +kernel⟩
theorem ms_X8_267 : fl_ms RX8 267 yJ6_bitCount_0f7a4 cJ6_bitCount_0f7a4 1 (some .int) 1 := fl_ms_of wq_687 wq_688 wq_61 wq_689 ⟨by decide +kernel, by decide +kernel, by decide +kernel⟩
theorem ms_X8_275 : fl_ms RX8 275 yX8_commonDivisor cX8_commonDivisor 6 (some .int) 2 := fl_ms_of wq_698 wq_699 wq_45 wq_700 ⟨by decide +kernel, by decide +kernel, by decide +kernel⟩
theorem ms_X8_283 : fl_ms RX8 283 yX8_drawn cX8_drawn 4 (some .int) 2 := fl_ms_of wq_706 wq_707 wq_45 wq_708 ⟨by decide +kernel, by decide +kernel, by decide +kernel⟩
theorem ms_X1_45 : fl_ms RX1 45 yX1_play cX1_play 10 (some .int) 3 := fl_ms_of wq_649 wq_650 wq_54 wq_651 ⟨by decide +kernel, by decide +kernel, by decide +kernel⟩
theorem ms_X2_52 : fl_ms RX2 52 yX2_extend cX2_extend 8 none 4 := fl_ms_of wq_587 wq_588 wq_53 wq_589 ⟨by decide +kernel, by decide +kernel, by decide +kernel⟩
theorem ms_X9_92 : fl_ms RX9 92 yX9_in cX9_in 6 (some .boolean) 3 := fl_ms_of wq_849 wq_850 wq_60 wq_851 ⟨by decide +kernel, by decide +kernel, by decide +kernel⟩
theorem ms_X9_197 : fl_ms RX9 197 yX9_has cX9_has 2 (some .boolean) 2 := fl_ms_of wq_930 wq_931 wq_60 wq_932 ⟨by decide +kernel, by decide +kernel, by decide +kernel⟩
theorem ms_X9_217 : fl_ms RX9 217 yX9_ones cX9_ones 3 (some .int) 1 := fl_ms_of wq_1011 wq_1012 wq_60 wq_1013 ⟨by decide +kernel, by decide +kernel, by decide +kernel⟩
theorem mn_X0_56 : fl_mn RX0 56 yX8_within "CabTears" cX8_within 3 (some .boolean) 3 := fl_mn_of (List.mem_of_getElem? (i := 8) rfl) wq_389 wq_45 wq_390 ⟨by decide +kernel, by decide +kernel, by decide +kernel⟩
theorem mn_X1_35 : fl_mn RX1 35 yX8_restOf "CabTears" cX8_restOf 4 (some .int) 2 := fl_mn_of (List.mem_of_getElem? (i := 10) rfl) wq_584 wq_45 wq_585 ⟨by decide +kernel, by decide +kernel, by decide +kernel⟩
theorem mn_X2_29 : fl_mn RX2 29 yX8_restOf "CabTears" cX8_restOf 4 (some .int) 2 := fl_mn_of (List.mem_of_getElem? (i := 9) rfl) wq_584 wq_45 wq_585 ⟨by decide +kernel, by decide +kernel, by decide +kernel⟩
