/-! the objects of a run, by places: shapes and references (read off the constructors by a program, proved below) -/
def SH : JSh := [.inl 11, .inr (1, 940), .inl 9, .inl 10, .inl 3, .inr (2, 6), .inr (0, 28), .inr (0, 28), .inr (0, 28), .inr (0, 7), .inr (0, 7), .inl 7, .inr (0, 28), .inr (0, 28), .inr (0, 28), .inr (0, 28), .inr (0, 6), .inr (0, 6), .inl 5, .inr (0, 6), .inr (0, 6), .inl 8, .inr (0, 40), .inr (0, 40), .inr (0, 40), .inr (0, 20), .inl 10, .inl 3, .inr (2, 6), .inr (0, 28), .inr (0, 28), .inr (0, 28), .inr (0, 7), .inr (0, 7), .inl 7, .inr (0, 28), .inr (0, 28), .inr (0, 28), .inr (0, 28), .inr (0, 6), .inr (0, 6), .inl 5, .inr (0, 6), .inr (0, 6), .inl 8, .inr (0, 40), .inr (0, 40), .inr (0, 40), .inr (0, 20), .inl 10, .inl 3, .inr (2, 6), .inr (0, 28), .inr (0, 28), .inr (0, 28), .inr (0, 7), .inr (0, 7), .inl 7, .inr (0, 28), .inr (0, 28), .inr (0, 28), .inr (0, 28), .inr (0, 6), .inr (0, 6), .inl 5, .inr (0, 6), .inr (0, 6), .inl 8, .inr (0, 40), .inr (0, 40), .inr (0, 40), .inr (0, 20), .inl 10, .inl 3, .inr (2, 6), .inr (0, 28), .inr (0, 28), .inr (0, 28), .inr (0, 7), .inr (0, 7), .inl 7, .inr (0, 28), .inr (0, 28), .inr (0, 28), .inr (0, 28), .inr (0, 6), .inr (0, 6), .inl 5, .inr (0, 6), .inr (0, 6), .inl 8, .inr (0, 40), .inr (0, 40), .inr (0, 40), .inr (0, 20), .inr (4, 8), .inl 7, .inr (0, 28), .inr (0, 28), .inr (0, 28), .inr (0, 28), .inr (0, 6), .inr (0, 6), .inr (2, 32768), .inl 0, .inr (0, 12), .inr (0, 12), .inl 6, .inr (0, 10), .inr (0, 6), .inr (0, 23), .inr (0, 23), .inr (0, 10), .inr (0, 10), .inl 4, .inr (0, 10), .inl 2, .inr (0, 28), .inr (0, 28), .inr (0, 6), .inr (0, 6), .inl 1, .inr (1, 112), .inl 7, .inr (0, 28), .inr (0, 28), .inr (0, 28), .inr (0, 28), .inr (0, 6), .inr (0, 6), .inl 7, .inr (0, 28), .inr (0, 28), .inr (0, 28), .inr (0, 28), .inr (0, 6), .inr (0, 6), .inl 7, .inr (0, 28), .inr (0, 28), .inr (0, 28), .inr (0, 28), .inr (0, 6), .inr (0, 6), .inl 7, .inr (0, 28), .inr (0, 28), .inr (0, 28), .inr (0, 28), .inr (0, 6), .inr (0, 6), .inl 7, .inr (0, 28), .inr (0, 28), .inr (0, 28), .inr (0, 28), .inr (0, 6), .inr (0, 6), .inl 7, .inr (0, 28), .inr (0, 28), .inr (0, 28), .inr (0, 28), .inr (0, 6), .inr (0, 6), .inl 7, .inr (0, 28), .inr (0, 28), .inr (0, 28), .inr (0, 28), .inr (0, 6), .inr (0, 6), .inl 7, .inr (0, 28), .inr (0, 28), .inr (0, 28), .inr (0, 28), .inr (0, 6), .inr (0, 6), .inl 12, .inr (0, 940), .inr (0, 448), .inr (0, 192), .inr (0, 896), .inr (0, 1000), .inr (2, 6), .inr (2, 6), .inr (2, 12), .inr (3, 2), .inr (0, 28), .inr (0, 28672), .inr (0, 12), .inr (0, 28672), .inr (0, 495616), .inr (0, 10), .inr (0, 125), .inr (0, 120), .inr (0, 14), .inr (2, 32768), .inr (2, 32768), .inr (0, 7), .inr (0, 3), .inr (0, 240), .inr (2, 1)]
def rhoT : List (List (Option Nat)) := [[some 1, none, some 2, some 3, some 26, some 49, some 72, some 95, none, none, some 96, some 103, some 104, some 107, some 114, some 116, some 121, some 122, none], [], [some 1, none, none, none, none, none, none, none, none, none, none, none, none, none], [some 4, some 11, some 18, some 21, none], [none, none, none, none, none, none, none, some 5, some 6, some 7, some 8, some 9, some 10], [], [], [], [], [], [], [some 4, some 12, some 13, some 14, none, some 15, some 16, some 17], [], [], [], [], [], [], [none, none, some 19, none, some 20], [], [], [none, none, some 22, some 23, some 24, some 25], [], [], [], [], [some 27, some 34, some 41, some 44, none], [none, none, none, none, none, none, none, some 28, some 29, some 30, some 31, some 32, some 33], [], [], [], [], [], [], [some 27, some 35, some 36, some 37, none, some 38, some 39, some 40], [], [], [], [], [], [], [none, none, some 42, none, some 43], [], [], [none, none, some 45, some 46, some 47, some 48], [], [], [], [], [some 50, some 57, some 64, some 67, none], [none, none, none, none, none, none, none, some 51, some 52, some 53, some 54, some 55, some 56], [], [], [], [], [], [], [some 50, some 58, some 59, some 60, none, some 61, some 62, some 63], [], [], [], [], [], [], [none, none, some 65, none, some 66], [], [], [none, none, some 68, some 69, some 70, some 71], [], [], [], [], [some 73, some 80, some 87, some 90, none], [none, none, none, none, none, none, none, some 74, some 75, some 76, some 77, some 78, some 79], [], [], [], [], [], [], [some 73, some 81, some 82, some 83, none, some 84, some 85, some 86], [], [], [], [], [], [], [none, none, some 88, none, some 89], [], [], [none, none, some 91, some 92, some 93, some 94], [], [], [], [], [some 123, some 130, some 137, some 144, some 151, some 158, some 165, some 172], [some 4, some 97, some 98, some 99, none, some 100, some 101, some 102], [], [], [], [], [], [], [], [some 11, some 4, some 103, some 105, none, some 106, none], [], [], [some 11, some 4, some 103, some 108, none, some 109, some 110, some 111, some 112, none, none, some 113, none], [], [], [], [], [], [], [some 11, some 4, some 103, some 115, none, none, none, none], [], [some 4, some 18, some 103, some 117, some 118, none, some 119, some 120], [], [], [], [], [some 11, none, none, none, none, none, none], [], [some 4, some 124, some 125, some 126, none, some 127, some 128, some 129], [], [], [], [], [], [], [some 4, some 131, some 132, some 133, none, some 134, some 135, some 136], [], [], [], [], [], [], [some 4, some 138, some 139, some 140, none, some 141, some 142, some 143], [], [], [], [], [], [], [some 4, some 145, some 146, some 147, none, some 148, some 149, some 150], [], [], [], [], [], [], [some 4, some 152, some 153, some 154, none, some 155, some 156, some 157], [], [], [], [], [], [], [some 4, some 159, some 160, some 161, none, some 162, some 163, some 164], [], [], [], [], [], [], [some 4, some 166, some 167, some 168, none, some 169, some 170, some 171], [], [], [], [], [], [], [some 4, some 173, some 174, some 175, none, some 176, some 177, some 178], [], [], [], [], [], [], [none, some 180, none, none, none, none, none, none, none, none, none, none, none, none, some 181, some 182, some 183, some 184, some 185, some 186, some 187, some 188, none, none, none, some 189, some 190, some 191, none, some 192, some 193, some 194, none, none, none, none, none, some 195, some 196, none, some 197, none, some 198, some 199, some 200, none, some 201, some 202, none, none, none, none], [], [], [], [], [], [], [], [], [], [], [], [], [], [], [], [], [], [], [], [], [], [], [], []]
def RHO : JRo := fun k j => (rhoT.getD k []).getD j none
theorem sh_0 : SH[0]? = some (.inl 11) := by decide +kernel
theorem sh_1 : SH[1]? = some (.inr (1, 940)) := by decide +kernel
theorem sh_2 : SH[2]? = some (.inl 9) := by decide +kernel
theorem sh_3 : SH[3]? = some (.inl 10) := by decide +kernel
theorem sh_4 : SH[4]? = some (.inl 3) := by decide +kernel
theorem sh_5 : SH[5]? = some (.inr (2, 6)) := by decide +kernel
theorem sh_6 : SH[6]? = some (.inr (0, 28)) := by decide +kernel
theorem sh_7 : SH[7]? = some (.inr (0, 28)) := by decide +kernel
theorem sh_8 : SH[8]? = some (.inr (0, 28)) := by decide +kernel
theorem sh_9 : SH[9]? = some (.inr (0, 7)) := by decide +kernel
theorem sh_10 : SH[10]? = some (.inr (0, 7)) := by decide +kernel
theorem sh_11 : SH[11]? = some (.inl 7) := by decide +kernel
theorem sh_12 : SH[12]? = some (.inr (0, 28)) := by decide +kernel
theorem sh_13 : SH[13]? = some (.inr (0, 28)) := by decide +kernel
theorem sh_14 : SH[14]? = some (.inr (0, 28)) := by decide +kernel
theorem sh_15 : SH[15]? = some (.inr (0, 28)) := by decide +kernel
theorem sh_16 : SH[16]? = some (.inr (0, 6)) := by decide +kernel
theorem sh_17 : SH[17]? = some (.inr (0, 6)) := by decide +kernel
theorem sh_18 : SH[18]? = some (.inl 5) := by decide +kernel
theorem sh_19 : SH[19]? = some (.inr (0, 6)) := by decide +kernel
theorem sh_20 : SH[20]? = some (.inr (0, 6)) := by decide +kernel
theorem sh_21 : SH[21]? = some (.inl 8) := by decide +kernel
theorem sh_22 : SH[22]? = some (.inr (0, 40)) := by decide +kernel
theorem sh_23 : SH[23]? = some (.inr (0, 40)) := by decide +kernel
theorem sh_24 : SH[24]? = some (.inr (0, 40)) := by decide +kernel
theorem sh_25 : SH[25]? = some (.inr (0, 20)) := by decide +kernel
theorem sh_26 : SH[26]? = some (.inl 10) := by decide +kernel
theorem sh_27 : SH[27]? = some (.inl 3) := by decide +kernel
theorem sh_28 : SH[28]? = some (.inr (2, 6)) := by decide +kernel
theorem sh_29 : SH[29]? = some (.inr (0, 28)) := by decide +kernel
theorem sh_30 : SH[30]? = some (.inr (0, 28)) := by decide +kernel
theorem sh_31 : SH[31]? = some (.inr (0, 28)) := by decide +kernel
theorem sh_32 : SH[32]? = some (.inr (0, 7)) := by decide +kernel
theorem sh_33 : SH[33]? = some (.inr (0, 7)) := by decide +kernel
theorem sh_34 : SH[34]? = some (.inl 7) := by decide +kernel
theorem sh_35 : SH[35]? = some (.inr (0, 28)) := by decide +kernel
theorem sh_36 : SH[36]? = some (.inr (0, 28)) := by decide +kernel
theorem sh_37 : SH[37]? = some (.inr (0, 28)) := by decide +kernel
theorem sh_38 : SH[38]? = some (.inr (0, 28)) := by decide +kernel
theorem sh_39 : SH[39]? = some (.inr (0, 6)) := by decide +kernel
theorem sh_40 : SH[40]? = some (.inr (0, 6)) := by decide +kernel
theorem sh_41 : SH[41]? = some (.inl 5) := by decide +kernel
theorem sh_42 : SH[42]? = some (.inr (0, 6)) := by decide +kernel
theorem sh_43 : SH[43]? = some (.inr (0, 6)) := by decide +kernel
theorem sh_44 : SH[44]? = some (.inl 8) := by decide +kernel
theorem sh_45 : SH[45]? = some (.inr (0, 40)) := by decide +kernel
theorem sh_46 : SH[46]? = some (.inr (0, 40)) := by decide +kernel
theorem sh_47 : SH[47]? = some (.inr (0, 40)) := by decide +kernel
theorem sh_48 : SH[48]? = some (.inr (0, 20)) := by decide +kernel
theorem sh_49 : SH[49]? = some (.inl 10) := by decide +kernel
theorem sh_50 : SH[50]? = some (.inl 3) := by decide +kernel
theorem sh_51 : SH[51]? = some (.inr (2, 6)) := by decide +kernel
theorem sh_52 : SH[52]? = some (.inr (0, 28)) := by decide +kernel
theorem sh_53 : SH[53]? = some (.inr (0, 28)) := by decide +kernel
theorem sh_54 : SH[54]? = some (.inr (0, 28)) := by decide +kernel
theorem sh_55 : SH[55]? = some (.inr (0, 7)) := by decide +kernel
theorem sh_56 : SH[56]? = some (.inr (0, 7)) := by decide +kernel
theorem sh_57 : SH[57]? = some (.inl 7) := by decide +kernel
theorem sh_58 : SH[58]? = some (.inr (0, 28)) := by decide +kernel
theorem sh_59 : SH[59]? = some (.inr (0, 28)) := by decide +kernel
theorem sh_60 : SH[60]? = some (.inr (0, 28)) := by decide +kernel
theorem sh_61 : SH[61]? = some (.inr (0, 28)) := by decide +kernel
theorem sh_62 : SH[62]? = some (.inr (0, 6)) := by decide +kernel
theorem sh_63 : SH[63]? = some (.inr (0, 6)) := by decide +kernel
theorem sh_64 : SH[64]? = some (.inl 5) := by decide +kernel
theorem sh_65 : SH[65]? = some (.inr (0, 6)) := by decide +kernel
theorem sh_66 : SH[66]? = some (.inr (0, 6)) := by decide +kernel
theorem sh_67 : SH[67]? = some (.inl 8) := by decide +kernel
theorem sh_68 : SH[68]? = some (.inr (0, 40)) := by decide +kernel
theorem sh_69 : SH[69]? = some (.inr (0, 40)) := by decide +kernel
theorem sh_70 : SH[70]? = some (.inr (0, 40)) := by decide +kernel
theorem sh_71 : SH[71]? = some (.inr (0, 20)) := by decide +kernel
theorem sh_72 : SH[72]? = some (.inl 10) := by decide +kernel
theorem sh_73 : SH[73]? = some (.inl 3) := by decide +kernel
theorem sh_74 : SH[74]? = some (.inr (2, 6)) := by decide +kernel
theorem sh_75 : SH[75]? = some (.inr (0, 28)) := by decide +kernel
theorem sh_76 : SH[76]? = some (.inr (0, 28)) := by decide +kernel
theorem sh_77 : SH[77]? = some (.inr (0, 28)) := by decide +kernel
theorem sh_78 : SH[78]? = some (.inr (0, 7)) := by decide +kernel
theorem sh_79 : SH[79]? = some (.inr (0, 7)) := by decide +kernel
theorem sh_80 : SH[80]? = some (.inl 7) := by decide +kernel
theorem sh_81 : SH[81]? = some (.inr (0, 28)) := by decide +kernel
theorem sh_82 : SH[82]? = some (.inr (0, 28)) := by decide +kernel
theorem sh_83 : SH[83]? = some (.inr (0, 28)) := by decide +kernel
theorem sh_84 : SH[84]? = some (.inr (0, 28)) := by decide +kernel
theorem sh_85 : SH[85]? = some (.inr (0, 6)) := by decide +kernel
theorem sh_86 : SH[86]? = some (.inr (0, 6)) := by decide +kernel
theorem sh_87 : SH[87]? = some (.inl 5) := by decide +kernel
theorem sh_88 : SH[88]? = some (.inr (0, 6)) := by decide +kernel
theorem sh_89 : SH[89]? = some (.inr (0, 6)) := by decide +kernel
theorem sh_90 : SH[90]? = some (.inl 8) := by decide +kernel
theorem sh_91 : SH[91]? = some (.inr (0, 40)) := by decide +kernel
theorem sh_92 : SH[92]? = some (.inr (0, 40)) := by decide +kernel
theorem sh_93 : SH[93]? = some (.inr (0, 40)) := by decide +kernel
theorem sh_94 : SH[94]? = some (.inr (0, 20)) := by decide +kernel
theorem sh_95 : SH[95]? = some (.inr (4, 8)) := by decide +kernel
theorem sh_96 : SH[96]? = some (.inl 7) := by decide +kernel
theorem sh_97 : SH[97]? = some (.inr (0, 28)) := by decide +kernel
theorem sh_98 : SH[98]? = some (.inr (0, 28)) := by decide +kernel
theorem sh_99 : SH[99]? = some (.inr (0, 28)) := by decide +kernel
theorem sh_100 : SH[100]? = some (.inr (0, 28)) := by decide +kernel
theorem sh_101 : SH[101]? = some (.inr (0, 6)) := by decide +kernel
theorem sh_102 : SH[102]? = some (.inr (0, 6)) := by decide +kernel
theorem sh_103 : SH[103]? = some (.inr (2, 32768)) := by decide +kernel
theorem sh_104 : SH[104]? = some (.inl 0) := by decide +kernel
theorem sh_105 : SH[105]? = some (.inr (0, 12)) := by decide +kernel
theorem sh_106 : SH[106]? = some (.inr (0, 12)) := by decide +kernel
theorem sh_107 : SH[107]? = some (.inl 6) := by decide +kernel
theorem sh_108 : SH[108]? = some (.inr (0, 10)) := by decide +kernel
theorem sh_109 : SH[109]? = some (.inr (0, 6)) := by decide +kernel
theorem sh_110 : SH[110]? = some (.inr (0, 23)) := by decide +kernel
theorem sh_111 : SH[111]? = some (.inr (0, 23)) := by decide +kernel
theorem sh_112 : SH[112]? = some (.inr (0, 10)) := by decide +kernel
theorem sh_113 : SH[113]? = some (.inr (0, 10)) := by decide +kernel
theorem sh_114 : SH[114]? = some (.inl 4) := by decide +kernel
theorem sh_115 : SH[115]? = some (.inr (0, 10)) := by decide +kernel
theorem sh_116 : SH[116]? = some (.inl 2) := by decide +kernel
theorem sh_117 : SH[117]? = some (.inr (0, 28)) := by decide +kernel
theorem sh_118 : SH[118]? = some (.inr (0, 28)) := by decide +kernel
theorem sh_119 : SH[119]? = some (.inr (0, 6)) := by decide +kernel
theorem sh_120 : SH[120]? = some (.inr (0, 6)) := by decide +kernel
theorem sh_121 : SH[121]? = some (.inl 1) := by decide +kernel
theorem sh_122 : SH[122]? = some (.inr (1, 112)) := by decide +kernel
theorem sh_123 : SH[123]? = some (.inl 7) := by decide +kernel
theorem sh_124 : SH[124]? = some (.inr (0, 28)) := by decide +kernel
theorem sh_125 : SH[125]? = some (.inr (0, 28)) := by decide +kernel
theorem sh_126 : SH[126]? = some (.inr (0, 28)) := by decide +kernel
theorem sh_127 : SH[127]? = some (.inr (0, 28)) := by decide +kernel
theorem sh_128 : SH[128]? = some (.inr (0, 6)) := by decide +kernel
theorem sh_129 : SH[129]? = some (.inr (0, 6)) := by decide +kernel
theorem sh_130 : SH[130]? = some (.inl 7) := by decide +kernel
theorem sh_131 : SH[131]? = some (.inr (0, 28)) := by decide +kernel
theorem sh_132 : SH[132]? = some (.inr (0, 28)) := by decide +kernel
theorem sh_133 : SH[133]? = some (.inr (0, 28)) := by decide +kernel
theorem sh_134 : SH[134]? = some (.inr (0, 28)) := by decide +kernel
theorem sh_135 : SH[135]? = some (.inr (0, 6)) := by decide +kernel
theorem sh_136 : SH[136]? = some (.inr (0, 6)) := by decide +kernel
theorem sh_137 : SH[137]? = some (.inl 7) := by decide +kernel
theorem sh_138 : SH[138]? = some (.inr (0, 28)) := by decide +kernel
theorem sh_139 : SH[139]? = some (.inr (0, 28)) := by decide +kernel
theorem sh_140 : SH[140]? = some (.inr (0, 28)) := by decide +kernel
theorem sh_141 : SH[141]? = some (.inr (0, 28)) := by decide +kernel
theorem sh_142 : SH[142]? = some (.inr (0, 6)) := by decide +kernel
theorem sh_143 : SH[143]? = some (.inr (0, 6)) := by decide +kernel
theorem sh_144 : SH[144]? = some (.inl 7) := by decide +kernel
theorem sh_145 : SH[145]? = some (.inr (0, 28)) := by decide +kernel
theorem sh_146 : SH[146]? = some (.inr (0, 28)) := by decide +kernel
theorem sh_147 : SH[147]? = some (.inr (0, 28)) := by decide +kernel
theorem sh_148 : SH[148]? = some (.inr (0, 28)) := by decide +kernel
theorem sh_149 : SH[149]? = some (.inr (0, 6)) := by decide +kernel
theorem sh_150 : SH[150]? = some (.inr (0, 6)) := by decide +kernel
theorem sh_151 : SH[151]? = some (.inl 7) := by decide +kernel
theorem sh_152 : SH[152]? = some (.inr (0, 28)) := by decide +kernel
theorem sh_153 : SH[153]? = some (.inr (0, 28)) := by decide +kernel
theorem sh_154 : SH[154]? = some (.inr (0, 28)) := by decide +kernel
theorem sh_155 : SH[155]? = some (.inr (0, 28)) := by decide +kernel
theorem sh_156 : SH[156]? = some (.inr (0, 6)) := by decide +kernel
theorem sh_157 : SH[157]? = some (.inr (0, 6)) := by decide +kernel
theorem sh_158 : SH[158]? = some (.inl 7) := by decide +kernel
theorem sh_159 : SH[159]? = some (.inr (0, 28)) := by decide +kernel
theorem sh_160 : SH[160]? = some (.inr (0, 28)) := by decide +kernel
theorem sh_161 : SH[161]? = some (.inr (0, 28)) := by decide +kernel
theorem sh_162 : SH[162]? = some (.inr (0, 28)) := by decide +kernel
theorem sh_163 : SH[163]? = some (.inr (0, 6)) := by decide +kernel
theorem sh_164 : SH[164]? = some (.inr (0, 6)) := by decide +kernel
theorem sh_165 : SH[165]? = some (.inl 7) := by decide +kernel
theorem sh_166 : SH[166]? = some (.inr (0, 28)) := by decide +kernel
theorem sh_167 : SH[167]? = some (.inr (0, 28)) := by decide +kernel
theorem sh_168 : SH[168]? = some (.inr (0, 28)) := by decide +kernel
theorem sh_169 : SH[169]? = some (.inr (0, 28)) := by decide +kernel
theorem sh_170 : SH[170]? = some (.inr (0, 6)) := by decide +kernel
theorem sh_171 : SH[171]? = some (.inr (0, 6)) := by decide +kernel
theorem sh_172 : SH[172]? = some (.inl 7) := by decide +kernel
theorem sh_173 : SH[173]? = some (.inr (0, 28)) := by decide +kernel
theorem sh_174 : SH[174]? = some (.inr (0, 28)) := by decide +kernel
theorem sh_175 : SH[175]? = some (.inr (0, 28)) := by decide +kernel
theorem sh_176 : SH[176]? = some (.inr (0, 28)) := by decide +kernel
theorem sh_177 : SH[177]? = some (.inr (0, 6)) := by decide +kernel
theorem sh_178 : SH[178]? = some (.inr (0, 6)) := by decide +kernel
theorem sh_179 : SH[179]? = some (.inl 12) := by decide +kernel
theorem sh_180 : SH[180]? = some (.inr (0, 940)) := by decide +kernel
theorem sh_181 : SH[181]? = some (.inr (0, 448)) := by decide +kernel
theorem sh_182 : SH[182]? = some (.inr (0, 192)) := by decide +kernel
theorem sh_183 : SH[183]? = some (.inr (0, 896)) := by decide +kernel
theorem sh_184 : SH[184]? = some (.inr (0, 1000)) := by decide +kernel
theorem sh_185 : SH[185]? = some (.inr (2, 6)) := by decide +kernel
theorem sh_186 : SH[186]? = some (.inr (2, 6)) := by decide +kernel
theorem sh_187 : SH[187]? = some (.inr (2, 12)) := by decide +kernel
theorem sh_188 : SH[188]? = some (.inr (3, 2)) := by decide +kernel
theorem sh_189 : SH[189]? = some (.inr (0, 28)) := by decide +kernel
theorem sh_190 : SH[190]? = some (.inr (0, 28672)) := by decide +kernel
theorem sh_191 : SH[191]? = some (.inr (0, 12)) := by decide +kernel
theorem sh_192 : SH[192]? = some (.inr (0, 28672)) := by decide +kernel
theorem sh_193 : SH[193]? = some (.inr (0, 495616)) := by decide +kernel
theorem sh_194 : SH[194]? = some (.inr (0, 10)) := by decide +kernel
theorem sh_195 : SH[195]? = some (.inr (0, 125)) := by decide +kernel
theorem sh_196 : SH[196]? = some (.inr (0, 120)) := by decide +kernel
theorem sh_197 : SH[197]? = some (.inr (0, 14)) := by decide +kernel
theorem sh_198 : SH[198]? = some (.inr (2, 32768)) := by decide +kernel
theorem sh_199 : SH[199]? = some (.inr (2, 32768)) := by decide +kernel
theorem sh_200 : SH[200]? = some (.inr (0, 7)) := by decide +kernel
theorem sh_201 : SH[201]? = some (.inr (0, 3)) := by decide +kernel
theorem sh_202 : SH[202]? = some (.inr (0, 240)) := by decide +kernel
theorem sh_203 : SH[203]? = some (.inr (2, 1)) := by decide +kernel
theorem rh_0_0 : RHO 0 0 = some 1 := by decide +kernel
theorem rh_0_2 : RHO 0 2 = some 2 := by decide +kernel
theorem rh_0_3 : RHO 0 3 = some 3 := by decide +kernel
theorem rh_0_4 : RHO 0 4 = some 26 := by decide +kernel
theorem rh_0_5 : RHO 0 5 = some 49 := by decide +kernel
theorem rh_0_6 : RHO 0 6 = some 72 := by decide +kernel
theorem rh_0_7 : RHO 0 7 = some 95 := by decide +kernel
theorem rh_0_10 : RHO 0 10 = some 96 := by decide +kernel
theorem rh_0_11 : RHO 0 11 = some 103 := by decide +kernel
theorem rh_0_12 : RHO 0 12 = some 104 := by decide +kernel
theorem rh_0_13 : RHO 0 13 = some 107 := by decide +kernel
theorem rh_0_14 : RHO 0 14 = some 114 := by decide +kernel
theorem rh_0_15 : RHO 0 15 = some 116 := by decide +kernel
theorem rh_0_16 : RHO 0 16 = some 121 := by decide +kernel
theorem rh_0_17 : RHO 0 17 = some 122 := by decide +kernel
theorem rh_2_0 : RHO 2 0 = some 1 := by decide +kernel
theorem rh_3_0 : RHO 3 0 = some 4 := by decide +kernel
theorem rh_3_1 : RHO 3 1 = some 11 := by decide +kernel
theorem rh_3_2 : RHO 3 2 = some 18 := by decide +kernel
theorem rh_3_3 : RHO 3 3 = some 21 := by decide +kernel
theorem rh_4_7 : RHO 4 7 = some 5 := by decide +kernel
theorem rh_4_8 : RHO 4 8 = some 6 := by decide +kernel
theorem rh_4_9 : RHO 4 9 = some 7 := by decide +kernel
theorem rh_4_10 : RHO 4 10 = some 8 := by decide +kernel
theorem rh_4_11 : RHO 4 11 = some 9 := by decide +kernel
theorem rh_4_12 : RHO 4 12 = some 10 := by decide +kernel
theorem rh_11_0 : RHO 11 0 = some 4 := by decide +kernel
theorem rh_11_1 : RHO 11 1 = some 12 := by decide +kernel
theorem rh_11_2 : RHO 11 2 = some 13 := by decide +kernel
theorem rh_11_3 : RHO 11 3 = some 14 := by decide +kernel
theorem rh_11_5 : RHO 11 5 = some 15 := by decide +kernel
theorem rh_11_6 : RHO 11 6 = some 16 := by decide +kernel
theorem rh_11_7 : RHO 11 7 = some 17 := by decide +kernel
theorem rh_18_2 : RHO 18 2 = some 19 := by decide +kernel
theorem rh_18_4 : RHO 18 4 = some 20 := by decide +kernel
theorem rh_21_2 : RHO 21 2 = some 22 := by decide +kernel
theorem rh_21_3 : RHO 21 3 = some 23 := by decide +kernel
theorem rh_21_4 : RHO 21 4 = some 24 := by decide +kernel
theorem rh_21_5 : RHO 21 5 = some 25 := by decide +kernel
theorem rh_26_0 : RHO 26 0 = some 27 := by decide +kernel
theorem rh_26_1 : RHO 26 1 = some 34 := by decide +kernel
theorem rh_26_2 : RHO 26 2 = some 41 := by decide +kernel
theorem rh_26_3 : RHO 26 3 = some 44 := by decide +kernel
theorem rh_27_7 : RHO 27 7 = some 28 := by decide +kernel
theorem rh_27_8 : RHO 27 8 = some 29 := by decide +kernel
theorem rh_27_9 : RHO 27 9 = some 30 := by decide +kernel
theorem rh_27_10 : RHO 27 10 = some 31 := by decide +kernel
theorem rh_27_11 : RHO 27 11 = some 32 := by decide +kernel
theorem rh_27_12 : RHO 27 12 = some 33 := by decide +kernel
theorem rh_34_0 : RHO 34 0 = some 27 := by decide +kernel
theorem rh_34_1 : RHO 34 1 = some 35 := by decide +kernel
theorem rh_34_2 : RHO 34 2 = some 36 := by decide +kernel
theorem rh_34_3 : RHO 34 3 = some 37 := by decide +kernel
theorem rh_34_5 : RHO 34 5 = some 38 := by decide +kernel
theorem rh_34_6 : RHO 34 6 = some 39 := by decide +kernel
theorem rh_34_7 : RHO 34 7 = some 40 := by decide +kernel
theorem rh_41_2 : RHO 41 2 = some 42 := by decide +kernel
theorem rh_41_4 : RHO 41 4 = some 43 := by decide +kernel
theorem rh_44_2 : RHO 44 2 = some 45 := by decide +kernel
theorem rh_44_3 : RHO 44 3 = some 46 := by decide +kernel
theorem rh_44_4 : RHO 44 4 = some 47 := by decide +kernel
theorem rh_44_5 : RHO 44 5 = some 48 := by decide +kernel
theorem rh_49_0 : RHO 49 0 = some 50 := by decide +kernel
theorem rh_49_1 : RHO 49 1 = some 57 := by decide +kernel
theorem rh_49_2 : RHO 49 2 = some 64 := by decide +kernel
theorem rh_49_3 : RHO 49 3 = some 67 := by decide +kernel
theorem rh_50_7 : RHO 50 7 = some 51 := by decide +kernel
theorem rh_50_8 : RHO 50 8 = some 52 := by decide +kernel
theorem rh_50_9 : RHO 50 9 = some 53 := by decide +kernel
theorem rh_50_10 : RHO 50 10 = some 54 := by decide +kernel
theorem rh_50_11 : RHO 50 11 = some 55 := by decide +kernel
theorem rh_50_12 : RHO 50 12 = some 56 := by decide +kernel
theorem rh_57_0 : RHO 57 0 = some 50 := by decide +kernel
theorem rh_57_1 : RHO 57 1 = some 58 := by decide +kernel
theorem rh_57_2 : RHO 57 2 = some 59 := by decide +kernel
theorem rh_57_3 : RHO 57 3 = some 60 := by decide +kernel
theorem rh_57_5 : RHO 57 5 = some 61 := by decide +kernel
theorem rh_57_6 : RHO 57 6 = some 62 := by decide +kernel
theorem rh_57_7 : RHO 57 7 = some 63 := by decide +kernel
theorem rh_64_2 : RHO 64 2 = some 65 := by decide +kernel
theorem rh_64_4 : RHO 64 4 = some 66 := by decide +kernel
theorem rh_67_2 : RHO 67 2 = some 68 := by decide +kernel
theorem rh_67_3 : RHO 67 3 = some 69 := by decide +kernel
theorem rh_67_4 : RHO 67 4 = some 70 := by decide +kernel
theorem rh_67_5 : RHO 67 5 = some 71 := by decide +kernel
theorem rh_72_0 : RHO 72 0 = some 73 := by decide +kernel
theorem rh_72_1 : RHO 72 1 = some 80 := by decide +kernel
theorem rh_72_2 : RHO 72 2 = some 87 := by decide +kernel
theorem rh_72_3 : RHO 72 3 = some 90 := by decide +kernel
theorem rh_73_7 : RHO 73 7 = some 74 := by decide +kernel
theorem rh_73_8 : RHO 73 8 = some 75 := by decide +kernel
theorem rh_73_9 : RHO 73 9 = some 76 := by decide +kernel
theorem rh_73_10 : RHO 73 10 = some 77 := by decide +kernel
theorem rh_73_11 : RHO 73 11 = some 78 := by decide +kernel
theorem rh_73_12 : RHO 73 12 = some 79 := by decide +kernel
theorem rh_80_0 : RHO 80 0 = some 73 := by decide +kernel
theorem rh_80_1 : RHO 80 1 = some 81 := by decide +kernel
theorem rh_80_2 : RHO 80 2 = some 82 := by decide +kernel
theorem rh_80_3 : RHO 80 3 = some 83 := by decide +kernel
theorem rh_80_5 : RHO 80 5 = some 84 := by decide +kernel
theorem rh_80_6 : RHO 80 6 = some 85 := by decide +kernel
theorem rh_80_7 : RHO 80 7 = some 86 := by decide +kernel
theorem rh_87_2 : RHO 87 2 = some 88 := by decide +kernel
theorem rh_87_4 : RHO 87 4 = some 89 := by decide +kernel
theorem rh_90_2 : RHO 90 2 = some 91 := by decide +kernel
theorem rh_90_3 : RHO 90 3 = some 92 := by decide +kernel
theorem rh_90_4 : RHO 90 4 = some 93 := by decide +kernel
theorem rh_90_5 : RHO 90 5 = some 94 := by decide +kernel
theorem rh_96_0 : RHO 96 0 = some 4 := by decide +kernel
theorem rh_96_1 : RHO 96 1 = some 97 := by decide +kernel
theorem rh_96_2 : RHO 96 2 = some 98 := by decide +kernel
theorem rh_96_3 : RHO 96 3 = some 99 := by decide +kernel
theorem rh_96_5 : RHO 96 5 = some 100 := by decide +kernel
theorem rh_96_6 : RHO 96 6 = some 101 := by decide +kernel
theorem rh_96_7 : RHO 96 7 = some 102 := by decide +kernel
theorem rh_104_0 : RHO 104 0 = some 11 := by decide +kernel
theorem rh_104_1 : RHO 104 1 = some 4 := by decide +kernel
theorem rh_104_2 : RHO 104 2 = some 103 := by decide +kernel
theorem rh_104_3 : RHO 104 3 = some 105 := by decide +kernel
theorem rh_104_5 : RHO 104 5 = some 106 := by decide +kernel
theorem rh_107_0 : RHO 107 0 = some 11 := by decide +kernel
theorem rh_107_1 : RHO 107 1 = some 4 := by decide +kernel
theorem rh_107_2 : RHO 107 2 = some 103 := by decide +kernel
theorem rh_107_3 : RHO 107 3 = some 108 := by decide +kernel
theorem rh_107_5 : RHO 107 5 = some 109 := by decide +kernel
theorem rh_107_6 : RHO 107 6 = some 110 := by decide +kernel
theorem rh_107_7 : RHO 107 7 = some 111 := by decide +kernel
theorem rh_107_8 : RHO 107 8 = some 112 := by decide +kernel
theorem rh_107_11 : RHO 107 11 = some 113 := by decide +kernel
theorem rh_114_0 : RHO 114 0 = some 11 := by decide +kernel
theorem rh_114_1 : RHO 114 1 = some 4 := by decide +kernel
theorem rh_114_2 : RHO 114 2 = some 103 := by decide +kernel
theorem rh_114_3 : RHO 114 3 = some 115 := by decide +kernel
theorem rh_116_0 : RHO 116 0 = some 4 := by decide +kernel
theorem rh_116_1 : RHO 116 1 = some 18 := by decide +kernel
theorem rh_116_2 : RHO 116 2 = some 103 := by decide +kernel
theorem rh_116_3 : RHO 116 3 = some 117 := by decide +kernel
theorem rh_116_4 : RHO 116 4 = some 118 := by decide +kernel
theorem rh_116_6 : RHO 116 6 = some 119 := by decide +kernel
theorem rh_116_7 : RHO 116 7 = some 120 := by decide +kernel
theorem rh_121_0 : RHO 121 0 = some 11 := by decide +kernel
theorem rh_123_0 : RHO 123 0 = some 4 := by decide +kernel
theorem rh_123_1 : RHO 123 1 = some 124 := by decide +kernel
theorem rh_123_2 : RHO 123 2 = some 125 := by decide +kernel
theorem rh_123_3 : RHO 123 3 = some 126 := by decide +kernel
theorem rh_123_5 : RHO 123 5 = some 127 := by decide +kernel
theorem rh_123_6 : RHO 123 6 = some 128 := by decide +kernel
theorem rh_123_7 : RHO 123 7 = some 129 := by decide +kernel
theorem rh_130_0 : RHO 130 0 = some 4 := by decide +kernel
theorem rh_130_1 : RHO 130 1 = some 131 := by decide +kernel
theorem rh_130_2 : RHO 130 2 = some 132 := by decide +kernel
theorem rh_130_3 : RHO 130 3 = some 133 := by decide +kernel
theorem rh_130_5 : RHO 130 5 = some 134 := by decide +kernel
theorem rh_130_6 : RHO 130 6 = some 135 := by decide +kernel
theorem rh_130_7 : RHO 130 7 = some 136 := by decide +kernel
theorem rh_137_0 : RHO 137 0 = some 4 := by decide +kernel
theorem rh_137_1 : RHO 137 1 = some 138 := by decide +kernel
theorem rh_137_2 : RHO 137 2 = some 139 := by decide +kernel
theorem rh_137_3 : RHO 137 3 = some 140 := by decide +kernel
theorem rh_137_5 : RHO 137 5 = some 141 := by decide +kernel
theorem rh_137_6 : RHO 137 6 = some 142 := by decide +kernel
theorem rh_137_7 : RHO 137 7 = some 143 := by decide +kernel
theorem rh_144_0 : RHO 144 0 = some 4 := by decide +kernel
theorem rh_144_1 : RHO 144 1 = some 145 := by decide +kernel
theorem rh_144_2 : RHO 144 2 = some 146 := by decide +kernel
theorem rh_144_3 : RHO 144 3 = some 147 := by decide +kernel
theorem rh_144_5 : RHO 144 5 = some 148 := by decide +kernel
theorem rh_144_6 : RHO 144 6 = some 149 := by decide +kernel
theorem rh_144_7 : RHO 144 7 = some 150 := by decide +kernel
theorem rh_151_0 : RHO 151 0 = some 4 := by decide +kernel
theorem rh_151_1 : RHO 151 1 = some 152 := by decide +kernel
theorem rh_151_2 : RHO 151 2 = some 153 := by decide +kernel
theorem rh_151_3 : RHO 151 3 = some 154 := by decide +kernel
theorem rh_151_5 : RHO 151 5 = some 155 := by decide +kernel
theorem rh_151_6 : RHO 151 6 = some 156 := by decide +kernel
theorem rh_151_7 : RHO 151 7 = some 157 := by decide +kernel
theorem rh_158_0 : RHO 158 0 = some 4 := by decide +kernel
theorem rh_158_1 : RHO 158 1 = some 159 := by decide +kernel
theorem rh_158_2 : RHO 158 2 = some 160 := by decide +kernel
theorem rh_158_3 : RHO 158 3 = some 161 := by decide +kernel
theorem rh_158_5 : RHO 158 5 = some 162 := by decide +kernel
theorem rh_158_6 : RHO 158 6 = some 163 := by decide +kernel
theorem rh_158_7 : RHO 158 7 = some 164 := by decide +kernel
theorem rh_165_0 : RHO 165 0 = some 4 := by decide +kernel
theorem rh_165_1 : RHO 165 1 = some 166 := by decide +kernel
theorem rh_165_2 : RHO 165 2 = some 167 := by decide +kernel
theorem rh_165_3 : RHO 165 3 = some 168 := by decide +kernel
theorem rh_165_5 : RHO 165 5 = some 169 := by decide +kernel
theorem rh_165_6 : RHO 165 6 = some 170 := by decide +kernel
theorem rh_165_7 : RHO 165 7 = some 171 := by decide +kernel
theorem rh_172_0 : RHO 172 0 = some 4 := by decide +kernel
theorem rh_172_1 : RHO 172 1 = some 173 := by decide +kernel
theorem rh_172_2 : RHO 172 2 = some 174 := by decide +kernel
theorem rh_172_3 : RHO 172 3 = some 175 := by decide +kernel
theorem rh_172_5 : RHO 172 5 = some 176 := by decide +kernel
theorem rh_172_6 : RHO 172 6 = some 177 := by decide +kernel
theorem rh_172_7 : RHO 172 7 = some 178 := by decide +kernel
theorem rh_179_1 : RHO 179 1 = some 180 := by decide +kernel
theorem rh_179_14 : RHO 179 14 = some 181 := by decide +kernel
theorem rh_179_15 : RHO 179 15 = some 182 := by decide +kernel
theorem rh_179_16 : RHO 179 16 = some 183 := by decide +kernel
theorem rh_179_17 : RHO 179 17 = some 184 := by decide +kernel
theorem rh_179_18 : RHO 179 18 = some 185 := by decide +kernel
theorem rh_179_19 : RHO 179 19 = some 186 := by decide +kernel
theorem rh_179_20 : RHO 179 20 = some 187 := by decide +kernel
theorem rh_179_21 : RHO 179 21 = some 188 := by decide +kernel
theorem rh_179_25 : RHO 179 25 = some 189 := by decide +kernel
theorem rh_179_26 : RHO 179 26 = some 190 := by decide +kernel
theorem rh_179_27 : RHO 179 27 = some 191 := by decide +kernel
theorem rh_179_29 : RHO 179 29 = some 192 := by decide +kernel
theorem rh_179_30 : RHO 179 30 = some 193 := by decide +kernel
theorem rh_179_31 : RHO 179 31 = some 194 := by decide +kernel
theorem rh_179_37 : RHO 179 37 = some 195 := by decide +kernel
theorem rh_179_38 : RHO 179 38 = some 196 := by decide +kernel
theorem rh_179_40 : RHO 179 40 = some 197 := by decide +kernel
theorem rh_179_42 : RHO 179 42 = some 198 := by decide +kernel
theorem rh_179_43 : RHO 179 43 = some 199 := by decide +kernel
theorem rh_179_44 : RHO 179 44 = some 200 := by decide +kernel
theorem rh_179_46 : RHO 179 46 = some 201 := by decide +kernel
theorem rh_179_47 : RHO 179 47 = some 202 := by decide +kernel
def LIsl (Sh : JSh) (ρ : JRo) (p : Nat) : Prop := Sh[p]? = some (.inl 3) ∧ ρ p 7 = some (p + 1) ∧ Sh[p + 1]? = some (.inr (2, 6)) ∧ ρ p 8 = some (p + 2) ∧ Sh[p + 2]? = some (.inr (0, 28)) ∧ ρ p 9 = some (p + 3) ∧ Sh[p + 3]? = some (.inr (0, 28)) ∧ ρ p 10 = some (p + 4) ∧ Sh[p + 4]? = some (.inr (0, 28)) ∧ ρ p 11 = some (p + 5) ∧ Sh[p + 5]? = some (.inr (0, 7)) ∧ ρ p 12 = some (p + 6) ∧ Sh[p + 6]? = some (.inr (0, 7))
theorem LIsl_o {Sh : JSh} {ρ : JRo} {p : Nat} (h : LIsl Sh ρ p) : Sh[p]? = some (.inl 3) := h.1
theorem LIsl_r7 {Sh : JSh} {ρ : JRo} {p : Nat} (h : LIsl Sh ρ p) : ρ p 7 = some (p + 1) := h.2.1
theorem LIsl_a7 {Sh : JSh} {ρ : JRo} {p : Nat} (h : LIsl Sh ρ p) : Sh[p + 1]? = some (.inr (2, 6)) := h.2.2.1
theorem LIsl_r8 {Sh : JSh} {ρ : JRo} {p : Nat} (h : LIsl Sh ρ p) : ρ p 8 = some (p + 2) := h.2.2.2.1
theorem LIsl_a8 {Sh : JSh} {ρ : JRo} {p : Nat} (h : LIsl Sh ρ p) : Sh[p + 2]? = some (.inr (0, 28)) := h.2.2.2.2.1
theorem LIsl_r9 {Sh : JSh} {ρ : JRo} {p : Nat} (h : LIsl Sh ρ p) : ρ p 9 = some (p + 3) := h.2.2.2.2.2.1
theorem LIsl_a9 {Sh : JSh} {ρ : JRo} {p : Nat} (h : LIsl Sh ρ p) : Sh[p + 3]? = some (.inr (0, 28)) := h.2.2.2.2.2.2.1
theorem LIsl_r10 {Sh : JSh} {ρ : JRo} {p : Nat} (h : LIsl Sh ρ p) : ρ p 10 = some (p + 4) := h.2.2.2.2.2.2.2.1
theorem LIsl_a10 {Sh : JSh} {ρ : JRo} {p : Nat} (h : LIsl Sh ρ p) : Sh[p + 4]? = some (.inr (0, 28)) := h.2.2.2.2.2.2.2.2.1
theorem LIsl_r11 {Sh : JSh} {ρ : JRo} {p : Nat} (h : LIsl Sh ρ p) : ρ p 11 = some (p + 5) := h.2.2.2.2.2.2.2.2.2.1
theorem LIsl_a11 {Sh : JSh} {ρ : JRo} {p : Nat} (h : LIsl Sh ρ p) : Sh[p + 5]? = some (.inr (0, 7)) := h.2.2.2.2.2.2.2.2.2.2.1
theorem LIsl_r12 {Sh : JSh} {ρ : JRo} {p : Nat} (h : LIsl Sh ρ p) : ρ p 12 = some (p + 6) := h.2.2.2.2.2.2.2.2.2.2.2.1
theorem LIsl_a12 {Sh : JSh} {ρ : JRo} {p : Nat} (h : LIsl Sh ρ p) : Sh[p + 6]? = some (.inr (0, 7)) := h.2.2.2.2.2.2.2.2.2.2.2.2
def LRow (Sh : JSh) (ρ : JRo) (p : Nat) (i : Nat) : Prop := Sh[p]? = some (.inl 7) ∧ ρ p 0 = some i ∧ ρ p 1 = some (p + 1) ∧ Sh[p + 1]? = some (.inr (0, 28)) ∧ ρ p 2 = some (p + 2) ∧ Sh[p + 2]? = some (.inr (0, 28)) ∧ ρ p 3 = some (p + 3) ∧ Sh[p + 3]? = some (.inr (0, 28)) ∧ ρ p 5 = some (p + 4) ∧ Sh[p + 4]? = some (.inr (0, 28)) ∧ ρ p 6 = some (p + 5) ∧ Sh[p + 5]? = some (.inr (0, 6)) ∧ ρ p 7 = some (p + 6) ∧ Sh[p + 6]? = some (.inr (0, 6))
theorem LRow_o {Sh : JSh} {ρ : JRo} {p i : Nat} (h : LRow Sh ρ p i) : Sh[p]? = some (.inl 7) := h.1
theorem LRow_r0 {Sh : JSh} {ρ : JRo} {p i : Nat} (h : LRow Sh ρ p i) : ρ p 0 = some i := h.2.1
theorem LRow_r1 {Sh : JSh} {ρ : JRo} {p i : Nat} (h : LRow Sh ρ p i) : ρ p 1 = some (p + 1) := h.2.2.1
theorem LRow_a1 {Sh : JSh} {ρ : JRo} {p i : Nat} (h : LRow Sh ρ p i) : Sh[p + 1]? = some (.inr (0, 28)) := h.2.2.2.1
theorem LRow_r2 {Sh : JSh} {ρ : JRo} {p i : Nat} (h : LRow Sh ρ p i) : ρ p 2 = some (p + 2) := h.2.2.2.2.1
theorem LRow_a2 {Sh : JSh} {ρ : JRo} {p i : Nat} (h : LRow Sh ρ p i) : Sh[p + 2]? = some (.inr (0, 28)) := h.2.2.2.2.2.1
theorem LRow_r3 {Sh : JSh} {ρ : JRo} {p i : Nat} (h : LRow Sh ρ p i) : ρ p 3 = some (p + 3) := h.2.2.2.2.2.2.1
theorem LRow_a3 {Sh : JSh} {ρ : JRo} {p i : Nat} (h : LRow Sh ρ p i) : Sh[p + 3]? = some (.inr (0, 28)) := h.2.2.2.2.2.2.2.1
theorem LRow_r5 {Sh : JSh} {ρ : JRo} {p i : Nat} (h : LRow Sh ρ p i) : ρ p 5 = some (p + 4) := h.2.2.2.2.2.2.2.2.1
theorem LRow_a5 {Sh : JSh} {ρ : JRo} {p i : Nat} (h : LRow Sh ρ p i) : Sh[p + 4]? = some (.inr (0, 28)) := h.2.2.2.2.2.2.2.2.2.1
theorem LRow_r6 {Sh : JSh} {ρ : JRo} {p i : Nat} (h : LRow Sh ρ p i) : ρ p 6 = some (p + 5) := h.2.2.2.2.2.2.2.2.2.2.1
theorem LRow_a6 {Sh : JSh} {ρ : JRo} {p i : Nat} (h : LRow Sh ρ p i) : Sh[p + 5]? = some (.inr (0, 6)) := h.2.2.2.2.2.2.2.2.2.2.2.1
theorem LRow_r7 {Sh : JSh} {ρ : JRo} {p i : Nat} (h : LRow Sh ρ p i) : ρ p 7 = some (p + 6) := h.2.2.2.2.2.2.2.2.2.2.2.2.1
theorem LRow_a7 {Sh : JSh} {ρ : JRo} {p i : Nat} (h : LRow Sh ρ p i) : Sh[p + 6]? = some (.inr (0, 6)) := h.2.2.2.2.2.2.2.2.2.2.2.2.2
def LMem (Sh : JSh) (ρ : JRo) (p : Nat) : Prop := Sh[p]? = some (.inl 5) ∧ ρ p 2 = some (p + 1) ∧ Sh[p + 1]? = some (.inr (0, 6)) ∧ ρ p 4 = some (p + 2) ∧ Sh[p + 2]? = some (.inr (0, 6))
theorem LMem_o {Sh : JSh} {ρ : JRo} {p : Nat} (h : LMem Sh ρ p) : Sh[p]? = some (.inl 5) := h.1
theorem LMem_r2 {Sh : JSh} {ρ : JRo} {p : Nat} (h : LMem Sh ρ p) : ρ p 2 = some (p + 1) := h.2.1
theorem LMem_a2 {Sh : JSh} {ρ : JRo} {p : Nat} (h : LMem Sh ρ p) : Sh[p + 1]? = some (.inr (0, 6)) := h.2.2.1
theorem LMem_r4 {Sh : JSh} {ρ : JRo} {p : Nat} (h : LMem Sh ρ p) : ρ p 4 = some (p + 2) := h.2.2.2.1
theorem LMem_a4 {Sh : JSh} {ρ : JRo} {p : Nat} (h : LMem Sh ρ p) : Sh[p + 2]? = some (.inr (0, 6)) := h.2.2.2.2
def LSen (Sh : JSh) (ρ : JRo) (p : Nat) : Prop := Sh[p]? = some (.inl 8) ∧ ρ p 2 = some (p + 1) ∧ Sh[p + 1]? = some (.inr (0, 40)) ∧ ρ p 3 = some (p + 2) ∧ Sh[p + 2]? = some (.inr (0, 40)) ∧ ρ p 4 = some (p + 3) ∧ Sh[p + 3]? = some (.inr (0, 40)) ∧ ρ p 5 = some (p + 4) ∧ Sh[p + 4]? = some (.inr (0, 20))
theorem LSen_o {Sh : JSh} {ρ : JRo} {p : Nat} (h : LSen Sh ρ p) : Sh[p]? = some (.inl 8) := h.1
theorem LSen_r2 {Sh : JSh} {ρ : JRo} {p : Nat} (h : LSen Sh ρ p) : ρ p 2 = some (p + 1) := h.2.1
theorem LSen_a2 {Sh : JSh} {ρ : JRo} {p : Nat} (h : LSen Sh ρ p) : Sh[p + 1]? = some (.inr (0, 40)) := h.2.2.1
theorem LSen_r3 {Sh : JSh} {ρ : JRo} {p : Nat} (h : LSen Sh ρ p) : ρ p 3 = some (p + 2) := h.2.2.2.1
theorem LSen_a3 {Sh : JSh} {ρ : JRo} {p : Nat} (h : LSen Sh ρ p) : Sh[p + 2]? = some (.inr (0, 40)) := h.2.2.2.2.1
theorem LSen_r4 {Sh : JSh} {ρ : JRo} {p : Nat} (h : LSen Sh ρ p) : ρ p 4 = some (p + 3) := h.2.2.2.2.2.1
theorem LSen_a4 {Sh : JSh} {ρ : JRo} {p : Nat} (h : LSen Sh ρ p) : Sh[p + 3]? = some (.inr (0, 40)) := h.2.2.2.2.2.2.1
theorem LSen_r5 {Sh : JSh} {ρ : JRo} {p : Nat} (h : LSen Sh ρ p) : ρ p 5 = some (p + 4) := h.2.2.2.2.2.2.2.1
theorem LSen_a5 {Sh : JSh} {ρ : JRo} {p : Nat} (h : LSen Sh ρ p) : Sh[p + 4]? = some (.inr (0, 20)) := h.2.2.2.2.2.2.2.2
def LWld (Sh : JSh) (ρ : JRo) (p : Nat) : Prop := Sh[p]? = some (.inl 10) ∧ ρ p 0 = some (p + 1) ∧ ρ p 1 = some (p + 8) ∧ ρ p 2 = some (p + 15) ∧ ρ p 3 = some (p + 18) ∧ LIsl Sh ρ (p + 1) ∧ LRow Sh ρ (p + 8) (p + 1) ∧ LMem Sh ρ (p + 15) ∧ LSen Sh ρ (p + 18)
theorem LWld_o {Sh : JSh} {ρ : JRo} {p : Nat} (h : LWld Sh ρ p) : Sh[p]? = some (.inl 10) := h.1
theorem LWld_r0 {Sh : JSh} {ρ : JRo} {p : Nat} (h : LWld Sh ρ p) : ρ p 0 = some (p + 1) := h.2.1
theorem LWld_r1 {Sh : JSh} {ρ : JRo} {p : Nat} (h : LWld Sh ρ p) : ρ p 1 = some (p + 8) := h.2.2.1
theorem LWld_r2 {Sh : JSh} {ρ : JRo} {p : Nat} (h : LWld Sh ρ p) : ρ p 2 = some (p + 15) := h.2.2.2.1
theorem LWld_r3 {Sh : JSh} {ρ : JRo} {p : Nat} (h : LWld Sh ρ p) : ρ p 3 = some (p + 18) := h.2.2.2.2.1
theorem LWld_isl {Sh : JSh} {ρ : JRo} {p : Nat} (h : LWld Sh ρ p) : LIsl Sh ρ (p + 1) := h.2.2.2.2.2.1
theorem LWld_row {Sh : JSh} {ρ : JRo} {p : Nat} (h : LWld Sh ρ p) : LRow Sh ρ (p + 8) (p + 1) := h.2.2.2.2.2.2.1
theorem LWld_mem {Sh : JSh} {ρ : JRo} {p : Nat} (h : LWld Sh ρ p) : LMem Sh ρ (p + 15) := h.2.2.2.2.2.2.2.1
theorem LWld_sen {Sh : JSh} {ρ : JRo} {p : Nat} (h : LWld Sh ρ p) : LSen Sh ρ (p + 18) := h.2.2.2.2.2.2.2.2
theorem lay_4 : LIsl SH RHO 4 := ⟨by decide +kernel, by decide +kernel, by decide +kernel, by decide +kernel, by decide +kernel, by decide +kernel, by decide +kernel, by decide +kernel, by decide +kernel, by decide +kernel, by decide +kernel, by decide +kernel, by decide +kernel⟩
theorem lay_11 : LRow SH RHO 11 4 := ⟨by decide +kernel, by decide +kernel, by decide +kernel, by decide +kernel, by decide +kernel, by decide +kernel, by decide +kernel, by decide +kernel, by decide +kernel, by decide +kernel, by decide +kernel, by decide +kernel, by decide +kernel, by decide +kernel⟩
theorem lay_18 : LMem SH RHO 18 := ⟨by decide +kernel, by decide +kernel, by decide +kernel, by decide +kernel, by decide +kernel⟩
theorem lay_21 : LSen SH RHO 21 := ⟨by decide +kernel, by decide +kernel, by decide +kernel, by decide +kernel, by decide +kernel, by decide +kernel, by decide +kernel, by decide +kernel, by decide +kernel⟩
theorem lay_27 : LIsl SH RHO 27 := ⟨by decide +kernel, by decide +kernel, by decide +kernel, by decide +kernel, by decide +kernel, by decide +kernel, by decide +kernel, by decide +kernel, by decide +kernel, by decide +kernel, by decide +kernel, by decide +kernel, by decide +kernel⟩
theorem lay_34 : LRow SH RHO 34 27 := ⟨by decide +kernel, by decide +kernel, by decide +kernel, by decide +kernel, by decide +kernel, by decide +kernel, by decide +kernel, by decide +kernel, by decide +kernel, by decide +kernel, by decide +kernel, by decide +kernel, by decide +kernel, by decide +kernel⟩
theorem lay_41 : LMem SH RHO 41 := ⟨by decide +kernel, by decide +kernel, by decide +kernel, by decide +kernel, by decide +kernel⟩
theorem lay_44 : LSen SH RHO 44 := ⟨by decide +kernel, by decide +kernel, by decide +kernel, by decide +kernel, by decide +kernel, by decide +kernel, by decide +kernel, by decide +kernel, by decide +kernel⟩
theorem lay_50 : LIsl SH RHO 50 := ⟨by decide +kernel, by decide +kernel, by decide +kernel, by decide +kernel, by decide +kernel, by decide +kernel, by decide +kernel, by decide +kernel, by decide +kernel, by decide +kernel, by decide +kernel, by decide +kernel, by decide +kernel⟩
theorem lay_57 : LRow SH RHO 57 50 := ⟨by decide +kernel, by decide +kernel, by decide +kernel, by decide +kernel, by decide +kernel, by decide +kernel, by decide +kernel, by decide +kernel, by decide +kernel, by decide +kernel, by decide +kernel, by decide +kernel, by decide +kernel, by decide +kernel⟩
theorem lay_64 : LMem SH RHO 64 := ⟨by decide +kernel, by decide +kernel, by decide +kernel, by decide +kernel, by decide +kernel⟩
theorem lay_67 : LSen SH RHO 67 := ⟨by decide +kernel, by decide +kernel, by decide +kernel, by decide +kernel, by decide +kernel, by decide +kernel, by decide +kernel, by decide +kernel, by decide +kernel⟩
theorem lay_73 : LIsl SH RHO 73 := ⟨by decide +kernel, by decide +kernel, by decide +kernel, by decide +kernel, by decide +kernel, by decide +kernel, by decide +kernel, by decide +kernel, by decide +kernel, by decide +kernel, by decide +kernel, by decide +kernel, by decide +kernel⟩
theorem lay_80 : LRow SH RHO 80 73 := ⟨by decide +kernel, by decide +kernel, by decide +kernel, by decide +kernel, by decide +kernel, by decide +kernel, by decide +kernel, by decide +kernel, by decide +kernel, by decide +kernel, by decide +kernel, by decide +kernel, by decide +kernel, by decide +kernel⟩
theorem lay_87 : LMem SH RHO 87 := ⟨by decide +kernel, by decide +kernel, by decide +kernel, by decide +kernel, by decide +kernel⟩
theorem lay_90 : LSen SH RHO 90 := ⟨by decide +kernel, by decide +kernel, by decide +kernel, by decide +kernel, by decide +kernel, by decide +kernel, by decide +kernel, by decide +kernel, by decide +kernel⟩
theorem lay_96 : LRow SH RHO 96 4 := ⟨by decide +kernel, by decide +kernel, by decide +kernel, by decide +kernel, by decide +kernel, by decide +kernel, by decide +kernel, by decide +kernel, by decide +kernel, by decide +kernel, by decide +kernel, by decide +kernel, by decide +kernel, by decide +kernel⟩
theorem lay_123 : LRow SH RHO 123 4 := ⟨by decide +kernel, by decide +kernel, by decide +kernel, by decide +kernel, by decide +kernel, by decide +kernel, by decide +kernel, by decide +kernel, by decide +kernel, by decide +kernel, by decide +kernel, by decide +kernel, by decide +kernel, by decide +kernel⟩
theorem lay_130 : LRow SH RHO 130 4 := ⟨by decide +kernel, by decide +kernel, by decide +kernel, by decide +kernel, by decide +kernel, by decide +kernel, by decide +kernel, by decide +kernel, by decide +kernel, by decide +kernel, by decide +kernel, by decide +kernel, by decide +kernel, by decide +kernel⟩
theorem lay_137 : LRow SH RHO 137 4 := ⟨by decide +kernel, by decide +kernel, by decide +kernel, by decide +kernel, by decide +kernel, by decide +kernel, by decide +kernel, by decide +kernel, by decide +kernel, by decide +kernel, by decide +kernel, by decide +kernel, by decide +kernel, by decide +kernel⟩
theorem lay_144 : LRow SH RHO 144 4 := ⟨by decide +kernel, by decide +kernel, by decide +kernel, by decide +kernel, by decide +kernel, by decide +kernel, by decide +kernel, by decide +kernel, by decide +kernel, by decide +kernel, by decide +kernel, by decide +kernel, by decide +kernel, by decide +kernel⟩
theorem lay_151 : LRow SH RHO 151 4 := ⟨by decide +kernel, by decide +kernel, by decide +kernel, by decide +kernel, by decide +kernel, by decide +kernel, by decide +kernel, by decide +kernel, by decide +kernel, by decide +kernel, by decide +kernel, by decide +kernel, by decide +kernel, by decide +kernel⟩
theorem lay_158 : LRow SH RHO 158 4 := ⟨by decide +kernel, by decide +kernel, by decide +kernel, by decide +kernel, by decide +kernel, by decide +kernel, by decide +kernel, by decide +kernel, by decide +kernel, by decide +kernel, by decide +kernel, by decide +kernel, by decide +kernel, by decide +kernel⟩
theorem lay_165 : LRow SH RHO 165 4 := ⟨by decide +kernel, by decide +kernel, by decide +kernel, by decide +kernel, by decide +kernel, by decide +kernel, by decide +kernel, by decide +kernel, by decide +kernel, by decide +kernel, by decide +kernel, by decide +kernel, by decide +kernel, by decide +kernel⟩
theorem lay_172 : LRow SH RHO 172 4 := ⟨by decide +kernel, by decide +kernel, by decide +kernel, by decide +kernel, by decide +kernel, by decide +kernel, by decide +kernel, by decide +kernel, by decide +kernel, by decide +kernel, by decide +kernel, by decide +kernel, by decide +kernel, by decide +kernel⟩
theorem lay_3 : LWld SH RHO 3 := ⟨by decide +kernel, by decide +kernel, by decide +kernel, by decide +kernel, by decide +kernel, lay_4, lay_11, lay_18, lay_21⟩
theorem lay_26 : LWld SH RHO 26 := ⟨by decide +kernel, by decide +kernel, by decide +kernel, by decide +kernel, by decide +kernel, lay_27, lay_34, lay_41, lay_44⟩
theorem lay_49 : LWld SH RHO 49 := ⟨by decide +kernel, by decide +kernel, by decide +kernel, by decide +kernel, by decide +kernel, lay_50, lay_57, lay_64, lay_67⟩
theorem lay_72 : LWld SH RHO 72 := ⟨by decide +kernel, by decide +kernel, by decide +kernel, by decide +kernel, by decide +kernel, lay_73, lay_80, lay_87, lay_90⟩
theorem rh_past {i : Int} (h : 0 ≤ i ∧ i < 8) : RHO 95 i.toNat = some (123 + 7 * i.toNat) := by
  have key : ∀ k, k < 8 → RHO 95 k = some (123 + 7 * k) := by decide +kernel
  exact key _ (by omega)
theorem lay_past {i : Int} (h : 0 ≤ i ∧ i < 8) : LRow SH RHO (123 + 7 * i.toNat) 4 := by
  have key : ∀ k, k < 8 → LRow SH RHO (123 + 7 * k) 4 := by
    intro k hk
    rcases (show k = 0 ∨ k = 1 ∨ k = 2 ∨ k = 3 ∨ k = 4 ∨ k = 5 ∨ k = 6 ∨ k = 7 by omega) with rfl | rfl | rfl | rfl | rfl | rfl | rfl | rfl
    · exact lay_123
    · exact lay_130
    · exact lay_137
    · exact lay_144
    · exact lay_151
    · exact lay_158
    · exact lay_165
    · exact lay_172
  exact key _ (by omega)
theorem jc_0 : JCls 0 RX0 TX0 7 tyX0 := ⟨rfl, (by decide +kernel : ∀ w ∈ u_ws RX0 TX0 7, w ∈ WS), tyX0_ok, nmX0, rfl, by unfold tyk; decide +kernel⟩
theorem jc_1 : JCls 1 RX1 TX1 7 tyX1 := ⟨rfl, (by decide +kernel : ∀ w ∈ u_ws RX1 TX1 7, w ∈ WS), tyX1_ok, nmX1, rfl, by unfold tyk; decide +kernel⟩
theorem jc_2 : JCls 2 RX2 TX2 8 tyX2 := ⟨rfl, (by decide +kernel : ∀ w ∈ u_ws RX2 TX2 8, w ∈ WS), tyX2_ok, nmX2, rfl, by unfold tyk; decide +kernel⟩
theorem jc_3 : JCls 3 RX3 TX3 13 tyX3 := ⟨rfl, (by decide +kernel : ∀ w ∈ u_ws RX3 TX3 13, w ∈ WS), tyX3_ok, nmX3, rfl, by unfold tyk; decide +kernel⟩
theorem jc_4 : JCls 4 RX4 TX4 8 tyX4 := ⟨rfl, (by decide +kernel : ∀ w ∈ u_ws RX4 TX4 8, w ∈ WS), tyX4_ok, nmX4, rfl, by unfold tyk; decide +kernel⟩
theorem jc_5 : JCls 5 RX5 TX5 5 tyX5 := ⟨rfl, (by decide +kernel : ∀ w ∈ u_ws RX5 TX5 5, w ∈ WS), tyX5_ok, nmX5, rfl, by unfold tyk; decide +kernel⟩
theorem jc_6 : JCls 6 RX6 TX6 13 tyX6 := ⟨rfl, (by decide +kernel : ∀ w ∈ u_ws RX6 TX6 13, w ∈ WS), tyX6_ok, nmX6, rfl, by unfold tyk; decide +kernel⟩
theorem jc_7 : JCls 7 RX7 TX7 8 tyX7 := ⟨rfl, (by decide +kernel : ∀ w ∈ u_ws RX7 TX7 8, w ∈ WS), tyX7_ok, nmX7, rfl, by unfold tyk; decide +kernel⟩
theorem jc_8 : JCls 8 RX8 TX8 6 tyX8 := ⟨rfl, (by decide +kernel : ∀ w ∈ u_ws RX8 TX8 6, w ∈ WS), tyX8_ok, nmX8, rfl, by unfold tyk; decide +kernel⟩
theorem jc_9 : JCls 9 RX9 TX9 14 tyX9 := ⟨rfl, (by decide +kernel : ∀ w ∈ u_ws RX9 TX9 14, w ∈ WS), tyX9_ok, nmX9, rfl, by unfold tyk; decide +kernel⟩
theorem jc_10 : JCls 10 RX10 TX10 5 tyX10 := ⟨rfl, (by decide +kernel : ∀ w ∈ u_ws RX10 TX10 5, w ∈ WS), tyX10_ok, nmX10, rfl, by unfold tyk; decide +kernel⟩
theorem jc_11 : JCls 11 RX11 TX11 19 tyX11 := ⟨rfl, (by decide +kernel : ∀ w ∈ u_ws RX11 TX11 19, w ∈ WS), tyX11_ok, nmX11, rfl, by unfold tyk; decide +kernel⟩
theorem jc_12 : JCls 12 RX12 TX12 52 tyX12 := ⟨rfl, (by decide +kernel : ∀ w ∈ u_ws RX12 TX12 52, w ∈ WS), tyX12_ok, nmX12, rfl, by unfold tyk; decide +kernel⟩
