/-! try -/
theorem zq_134 : zQ 134 1 1 11 := by unfold zQ; decide +kernel
theorem zi_134_0 : (zM 134).1[0]? = some (.aload 0) := by rfl
theorem zi_134_1 : (zM 134).1[1]? = some (.invokedynamic 3) := by rfl
theorem zi_134_2 : (zM 134).1[2]? = some (.aload 0) := by rfl
theorem zi_134_3 : (zM 134).1[3]? = some (.iconst 320) := by rfl
theorem zi_134_4 : (zM 134).1[4]? = some (.newarray .int) := by rfl
theorem zi_134_5 : (zM 134).1[5]? = some (.putfield 11200) := by rfl
theorem zi_134_6 : (zM 134).1[6]? = some (.aload 0) := by rfl
theorem zi_134_7 : (zM 134).1[7]? = some (.iconst 23) := by rfl
theorem zi_134_8 : (zM 134).1[8]? = some (.newarray .int) := by rfl
theorem zi_134_9 : (zM 134).1[9]? = some (.dup) := by rfl
theorem zi_134_10 : (zM 134).1[10]? = some (.iconst 0) := by rfl
theorem zi_134_11 : (zM 134).1[11]? = some (.iconst 0) := by rfl
theorem zi_134_12 : (zM 134).1[12]? = some (.iastore) := by rfl
theorem zi_134_13 : (zM 134).1[13]? = some (.dup) := by rfl
theorem zi_134_14 : (zM 134).1[14]? = some (.iconst 1) := by rfl
theorem zi_134_15 : (zM 134).1[15]? = some (.iconst 5) := by rfl
theorem zi_134_16 : (zM 134).1[16]? = some (.iastore) := by rfl
theorem zi_134_17 : (zM 134).1[17]? = some (.dup) := by rfl
theorem zi_134_18 : (zM 134).1[18]? = some (.iconst 2) := by rfl
theorem zi_134_19 : (zM 134).1[19]? = some (.iconst 9) := by rfl
theorem zi_134_20 : (zM 134).1[20]? = some (.iastore) := by rfl
theorem zi_134_21 : (zM 134).1[21]? = some (.dup) := by rfl
theorem zi_134_22 : (zM 134).1[22]? = some (.iconst 3) := by rfl
theorem zi_134_23 : (zM 134).1[23]? = some (.iconst 17) := by rfl
theorem zi_134_24 : (zM 134).1[24]? = some (.iastore) := by rfl
theorem zi_134_25 : (zM 134).1[25]? = some (.dup) := by rfl
theorem zi_134_26 : (zM 134).1[26]? = some (.iconst 4) := by rfl
theorem zi_134_27 : (zM 134).1[27]? = some (.iconst 20) := by rfl
theorem zi_134_28 : (zM 134).1[28]? = some (.iastore) := by rfl
theorem zi_134_29 : (zM 134).1[29]? = some (.dup) := by rfl
theorem zi_134_30 : (zM 134).1[30]? = some (.iconst 5) := by rfl
theorem zi_134_31 : (zM 134).1[31]? = some (.iconst 24) := by rfl
theorem zi_134_32 : (zM 134).1[32]? = some (.iastore) := by rfl
theorem zi_134_33 : (zM 134).1[33]? = some (.dup) := by rfl
theorem zi_134_34 : (zM 134).1[34]? = some (.iconst 6) := by rfl
theorem zi_134_35 : (zM 134).1[35]? = some (.iconst 28) := by rfl
theorem zi_134_36 : (zM 134).1[36]? = some (.iastore) := by rfl
theorem zi_134_37 : (zM 134).1[37]? = some (.dup) := by rfl
theorem zi_134_38 : (zM 134).1[38]? = some (.iconst 7) := by rfl
theorem zi_134_39 : (zM 134).1[39]? = some (.iconst 33) := by rfl
theorem zi_134_40 : (zM 134).1[40]? = some (.iastore) := by rfl
theorem zi_134_41 : (zM 134).1[41]? = some (.dup) := by rfl
theorem zi_134_42 : (zM 134).1[42]? = some (.iconst 8) := by rfl
theorem zi_134_43 : (zM 134).1[43]? = some (.iconst 42) := by rfl
theorem zi_134_44 : (zM 134).1[44]? = some (.iastore) := by rfl
theorem zi_134_45 : (zM 134).1[45]? = some (.dup) := by rfl
theorem zi_134_46 : (zM 134).1[46]? = some (.iconst 9) := by rfl
theorem zi_134_47 : (zM 134).1[47]? = some (.iconst 46) := by rfl
theorem zi_134_48 : (zM 134).1[48]? = some (.iastore) := by rfl
theorem zi_134_49 : (zM 134).1[49]? = some (.dup) := by rfl
theorem zi_134_50 : (zM 134).1[50]? = some (.iconst 10) := by rfl
theorem zi_134_51 : (zM 134).1[51]? = some (.iconst 50) := by rfl
theorem zi_134_52 : (zM 134).1[52]? = some (.iastore) := by rfl
theorem zi_134_53 : (zM 134).1[53]? = some (.dup) := by rfl
theorem zi_134_54 : (zM 134).1[54]? = some (.iconst 11) := by rfl
theorem zi_134_55 : (zM 134).1[55]? = some (.iconst 57) := by rfl
theorem zi_134_56 : (zM 134).1[56]? = some (.iastore) := by rfl
theorem zi_134_57 : (zM 134).1[57]? = some (.dup) := by rfl
theorem zi_134_58 : (zM 134).1[58]? = some (.iconst 12) := by rfl
theorem zi_134_59 : (zM 134).1[59]? = some (.iconst 63) := by rfl
theorem zi_134_60 : (zM 134).1[60]? = some (.iastore) := by rfl
theorem zi_134_61 : (zM 134).1[61]? = some (.dup) := by rfl
theorem zi_134_62 : (zM 134).1[62]? = some (.iconst 13) := by rfl
theorem zi_134_63 : (zM 134).1[63]? = some (.iconst 67) := by rfl
theorem zi_134_64 : (zM 134).1[64]? = some (.iastore) := by rfl
theorem zi_134_65 : (zM 134).1[65]? = some (.dup) := by rfl
theorem zi_134_66 : (zM 134).1[66]? = some (.iconst 14) := by rfl
theorem zi_134_67 : (zM 134).1[67]? = some (.iconst 71) := by rfl
theorem zi_134_68 : (zM 134).1[68]? = some (.iastore) := by rfl
theorem zi_134_69 : (zM 134).1[69]? = some (.dup) := by rfl
theorem zi_134_70 : (zM 134).1[70]? = some (.iconst 15) := by rfl
theorem zi_134_71 : (zM 134).1[71]? = some (.iconst 76) := by rfl
theorem zi_134_72 : (zM 134).1[72]? = some (.iastore) := by rfl
theorem zi_134_73 : (zM 134).1[73]? = some (.dup) := by rfl
theorem zi_134_74 : (zM 134).1[74]? = some (.iconst 16) := by rfl
theorem zi_134_75 : (zM 134).1[75]? = some (.iconst 82) := by rfl
theorem zi_134_76 : (zM 134).1[76]? = some (.iastore) := by rfl
theorem zi_134_77 : (zM 134).1[77]? = some (.dup) := by rfl
theorem zi_134_78 : (zM 134).1[78]? = some (.iconst 17) := by rfl
theorem zi_134_79 : (zM 134).1[79]? = some (.iconst 87) := by rfl
theorem zi_134_80 : (zM 134).1[80]? = some (.iastore) := by rfl
theorem zi_134_81 : (zM 134).1[81]? = some (.dup) := by rfl
theorem zi_134_82 : (zM 134).1[82]? = some (.iconst 18) := by rfl
theorem zi_134_83 : (zM 134).1[83]? = some (.iconst 92) := by rfl
theorem zi_134_84 : (zM 134).1[84]? = some (.iastore) := by rfl
theorem zi_134_85 : (zM 134).1[85]? = some (.dup) := by rfl
theorem zi_134_86 : (zM 134).1[86]? = some (.iconst 19) := by rfl
theorem zi_134_87 : (zM 134).1[87]? = some (.iconst 96) := by rfl
theorem zi_134_88 : (zM 134).1[88]? = some (.iastore) := by rfl
theorem zi_134_89 : (zM 134).1[89]? = some (.dup) := by rfl
theorem zi_134_90 : (zM 134).1[90]? = some (.iconst 20) := by rfl
theorem zi_134_91 : (zM 134).1[91]? = some (.iconst 102) := by rfl
theorem zi_134_92 : (zM 134).1[92]? = some (.iastore) := by rfl
theorem zi_134_93 : (zM 134).1[93]? = some (.dup) := by rfl
theorem zi_134_94 : (zM 134).1[94]? = some (.iconst 21) := by rfl
theorem zi_134_95 : (zM 134).1[95]? = some (.iconst 108) := by rfl
theorem zi_134_96 : (zM 134).1[96]? = some (.iastore) := by rfl
theorem zi_134_97 : (zM 134).1[97]? = some (.dup) := by rfl
theorem zi_134_98 : (zM 134).1[98]? = some (.iconst 22) := by rfl
theorem zi_134_99 : (zM 134).1[99]? = some (.iconst 113) := by rfl
theorem zi_134_100 : (zM 134).1[100]? = some (.iastore) := by rfl
theorem zi_134_101 : (zM 134).1[101]? = some (.putfield 11209) := by rfl
theorem zi_134_102 : (zM 134).1[102]? = some (.aload 0) := by rfl
theorem zi_134_103 : (zM 134).1[103]? = some (.iconst 113) := by rfl
theorem zi_134_104 : (zM 134).1[104]? = some (.newarray .int) := by rfl
theorem zi_134_105 : (zM 134).1[105]? = some (.dup) := by rfl
theorem zi_134_106 : (zM 134).1[106]? = some (.iconst 0) := by rfl
theorem zi_134_107 : (zM 134).1[107]? = some (.iconst 121) := by rfl
theorem zi_134_108 : (zM 134).1[108]? = some (.iastore) := by rfl
theorem zi_134_109 : (zM 134).1[109]? = some (.dup) := by rfl
theorem zi_134_110 : (zM 134).1[110]? = some (.iconst 1) := by rfl
theorem zi_134_111 : (zM 134).1[111]? = some (.iconst 101) := by rfl
theorem zi_134_112 : (zM 134).1[112]? = some (.iastore) := by rfl
theorem zi_134_113 : (zM 134).1[113]? = some (.dup) := by rfl
theorem zi_134_114 : (zM 134).1[114]? = some (.iconst 2) := by rfl
theorem zi_134_115 : (zM 134).1[115]? = some (.iconst 97) := by rfl
theorem zi_134_116 : (zM 134).1[116]? = some (.iastore) := by rfl
theorem zi_134_117 : (zM 134).1[117]? = some (.dup) := by rfl
theorem zi_134_118 : (zM 134).1[118]? = some (.iconst 3) := by rfl
theorem zi_134_119 : (zM 134).1[119]? = some (.iconst 114) := by rfl
theorem zi_134_120 : (zM 134).1[120]? = some (.iastore) := by rfl
theorem zi_134_121 : (zM 134).1[121]? = some (.dup) := by rfl
theorem zi_134_122 : (zM 134).1[122]? = some (.iconst 4) := by rfl
theorem zi_134_123 : (zM 134).1[123]? = some (.iconst 115) := by rfl
theorem zi_134_124 : (zM 134).1[124]? = some (.iastore) := by rfl
theorem zi_134_125 : (zM 134).1[125]? = some (.dup) := by rfl
theorem zi_134_126 : (zM 134).1[126]? = some (.iconst 5) := by rfl
theorem zi_134_127 : (zM 134).1[127]? = some (.iconst 100) := by rfl
theorem zi_134_128 : (zM 134).1[128]? = some (.iastore) := by rfl
theorem zi_134_129 : (zM 134).1[129]? = some (.dup) := by rfl
theorem zi_134_130 : (zM 134).1[130]? = some (.iconst 6) := by rfl
theorem zi_134_131 : (zM 134).1[131]? = some (.iconst 97) := by rfl
theorem zi_134_132 : (zM 134).1[132]? = some (.iastore) := by rfl
theorem zi_134_133 : (zM 134).1[133]? = some (.dup) := by rfl
theorem zi_134_134 : (zM 134).1[134]? = some (.iconst 7) := by rfl
theorem zi_134_135 : (zM 134).1[135]? = some (.iconst 121) := by rfl
theorem zi_134_136 : (zM 134).1[136]? = some (.iastore) := by rfl
theorem zi_134_137 : (zM 134).1[137]? = some (.dup) := by rfl
theorem zi_134_138 : (zM 134).1[138]? = some (.iconst 8) := by rfl
theorem zi_134_139 : (zM 134).1[139]? = some (.iconst 115) := by rfl
theorem zi_134_140 : (zM 134).1[140]? = some (.iastore) := by rfl
theorem zi_134_141 : (zM 134).1[141]? = some (.dup) := by rfl
theorem zi_134_142 : (zM 134).1[142]? = some (.iconst 9) := by rfl
theorem zi_134_143 : (zM 134).1[143]? = some (.iconst 113) := by rfl
theorem zi_134_144 : (zM 134).1[144]? = some (.iastore) := by rfl
theorem zi_134_145 : (zM 134).1[145]? = some (.dup) := by rfl
theorem zi_134_146 : (zM 134).1[146]? = some (.iconst 10) := by rfl
theorem zi_134_147 : (zM 134).1[147]? = some (.iconst 117) := by rfl
theorem zi_134_148 : (zM 134).1[148]? = some (.iastore) := by rfl
theorem zi_134_149 : (zM 134).1[149]? = some (.dup) := by rfl
theorem zi_134_150 : (zM 134).1[150]? = some (.iconst 11) := by rfl
theorem zi_134_151 : (zM 134).1[151]? = some (.iconst 97) := by rfl
theorem zi_134_152 : (zM 134).1[152]? = some (.iastore) := by rfl
theorem zi_134_153 : (zM 134).1[153]? = some (.dup) := by rfl
theorem zi_134_154 : (zM 134).1[154]? = some (.iconst 12) := by rfl
theorem zi_134_155 : (zM 134).1[155]? = some (.iconst 110) := by rfl
theorem zi_134_156 : (zM 134).1[156]? = some (.iastore) := by rfl
theorem zi_134_157 : (zM 134).1[157]? = some (.dup) := by rfl
theorem zi_134_158 : (zM 134).1[158]? = some (.iconst 13) := by rfl
theorem zi_134_159 : (zM 134).1[159]? = some (.iconst 116) := by rfl
theorem zi_134_160 : (zM 134).1[160]? = some (.iastore) := by rfl
theorem zi_134_161 : (zM 134).1[161]? = some (.dup) := by rfl
theorem zi_134_162 : (zM 134).1[162]? = some (.iconst 14) := by rfl
theorem zi_134_163 : (zM 134).1[163]? = some (.iconst 105) := by rfl
theorem zi_134_164 : (zM 134).1[164]? = some (.iastore) := by rfl
theorem zi_134_165 : (zM 134).1[165]? = some (.dup) := by rfl
theorem zi_134_166 : (zM 134).1[166]? = some (.iconst 15) := by rfl
theorem zi_134_167 : (zM 134).1[167]? = some (.iconst 116) := by rfl
theorem zi_134_168 : (zM 134).1[168]? = some (.iastore) := by rfl
theorem zi_134_169 : (zM 134).1[169]? = some (.dup) := by rfl
theorem zi_134_170 : (zM 134).1[170]? = some (.iconst 16) := by rfl
theorem zi_134_171 : (zM 134).1[171]? = some (.iconst 121) := by rfl
theorem zi_134_172 : (zM 134).1[172]? = some (.iastore) := by rfl
theorem zi_134_173 : (zM 134).1[173]? = some (.dup) := by rfl
theorem zi_134_174 : (zM 134).1[174]? = some (.iconst 17) := by rfl
theorem zi_134_175 : (zM 134).1[175]? = some (.iconst 100) := by rfl
theorem zi_134_176 : (zM 134).1[176]? = some (.iastore) := by rfl
theorem zi_134_177 : (zM 134).1[177]? = some (.dup) := by rfl
theorem zi_134_178 : (zM 134).1[178]? = some (.iconst 18) := by rfl
theorem zi_134_179 : (zM 134).1[179]? = some (.iconst 97) := by rfl
theorem zi_134_180 : (zM 134).1[180]? = some (.iastore) := by rfl
theorem zi_134_181 : (zM 134).1[181]? = some (.dup) := by rfl
theorem zi_134_182 : (zM 134).1[182]? = some (.iconst 19) := by rfl
theorem zi_134_183 : (zM 134).1[183]? = some (.iconst 121) := by rfl
theorem zi_134_184 : (zM 134).1[184]? = some (.iastore) := by rfl
theorem zi_134_185 : (zM 134).1[185]? = some (.dup) := by rfl
theorem zi_134_186 : (zM 134).1[186]? = some (.iconst 20) := by rfl
theorem zi_134_187 : (zM 134).1[187]? = some (.iconst 112) := by rfl
theorem zi_134_188 : (zM 134).1[188]? = some (.iastore) := by rfl
theorem zi_134_189 : (zM 134).1[189]? = some (.dup) := by rfl
theorem zi_134_190 : (zM 134).1[190]? = some (.iconst 21) := by rfl
theorem zi_134_191 : (zM 134).1[191]? = some (.iconst 97) := by rfl
theorem zi_134_192 : (zM 134).1[192]? = some (.iastore) := by rfl
theorem zi_134_193 : (zM 134).1[193]? = some (.dup) := by rfl
theorem zi_134_194 : (zM 134).1[194]? = some (.iconst 22) := by rfl
theorem zi_134_195 : (zM 134).1[195]? = some (.iconst 105) := by rfl
theorem zi_134_196 : (zM 134).1[196]? = some (.iastore) := by rfl
theorem zi_134_197 : (zM 134).1[197]? = some (.dup) := by rfl
theorem zi_134_198 : (zM 134).1[198]? = some (.iconst 23) := by rfl
theorem zi_134_199 : (zM 134).1[199]? = some (.iconst 100) := by rfl
theorem zi_134_200 : (zM 134).1[200]? = some (.iastore) := by rfl
theorem zi_134_201 : (zM 134).1[201]? = some (.dup) := by rfl
theorem zi_134_202 : (zM 134).1[202]? = some (.iconst 24) := by rfl
theorem zi_134_203 : (zM 134).1[203]? = some (.iconst 98) := by rfl
theorem zi_134_204 : (zM 134).1[204]? = some (.iastore) := by rfl
theorem zi_134_205 : (zM 134).1[205]? = some (.dup) := by rfl
theorem zi_134_206 : (zM 134).1[206]? = some (.iconst 25) := by rfl
theorem zi_134_207 : (zM 134).1[207]? = some (.iconst 97) := by rfl
theorem zi_134_208 : (zM 134).1[208]? = some (.iastore) := by rfl
theorem zi_134_209 : (zM 134).1[209]? = some (.dup) := by rfl
theorem zi_134_210 : (zM 134).1[210]? = some (.iconst 26) := by rfl
theorem zi_134_211 : (zM 134).1[211]? = some (.iconst 115) := by rfl
theorem zi_134_212 : (zM 134).1[212]? = some (.iastore) := by rfl
theorem zi_134_213 : (zM 134).1[213]? = some (.dup) := by rfl
theorem zi_134_214 : (zM 134).1[214]? = some (.iconst 27) := by rfl
theorem zi_134_215 : (zM 134).1[215]? = some (.iconst 101) := by rfl
theorem zi_134_216 : (zM 134).1[216]? = some (.iastore) := by rfl
theorem zi_134_217 : (zM 134).1[217]? = some (.dup) := by rfl
theorem zi_134_218 : (zM 134).1[218]? = some (.iconst 28) := by rfl
theorem zi_134_219 : (zM 134).1[219]? = some (.iconst 105) := by rfl
theorem zi_134_220 : (zM 134).1[220]? = some (.iastore) := by rfl
theorem zi_134_221 : (zM 134).1[221]? = some (.dup) := by rfl
theorem zi_134_222 : (zM 134).1[222]? = some (.iconst 29) := by rfl
theorem zi_134_223 : (zM 134).1[223]? = some (.iconst 110) := by rfl
theorem zi_134_224 : (zM 134).1[224]? = some (.iastore) := by rfl
theorem zi_134_225 : (zM 134).1[225]? = some (.dup) := by rfl
theorem zi_134_226 : (zM 134).1[226]? = some (.iconst 30) := by rfl
theorem zi_134_227 : (zM 134).1[227]? = some (.iconst 100) := by rfl
theorem zi_134_228 : (zM 134).1[228]? = some (.iastore) := by rfl
theorem zi_134_229 : (zM 134).1[229]? = some (.dup) := by rfl
theorem zi_134_230 : (zM 134).1[230]? = some (.iconst 31) := by rfl
theorem zi_134_231 : (zM 134).1[231]? = some (.iconst 101) := by rfl
theorem zi_134_232 : (zM 134).1[232]? = some (.iastore) := by rfl
theorem zi_134_233 : (zM 134).1[233]? = some (.dup) := by rfl
theorem zi_134_234 : (zM 134).1[234]? = some (.iconst 32) := by rfl
theorem zi_134_235 : (zM 134).1[235]? = some (.iconst 120) := by rfl
theorem zi_134_236 : (zM 134).1[236]? = some (.iastore) := by rfl
theorem zi_134_237 : (zM 134).1[237]? = some (.dup) := by rfl
theorem zi_134_238 : (zM 134).1[238]? = some (.iconst 33) := by rfl
theorem zi_134_239 : (zM 134).1[239]? = some (.iconst 115) := by rfl
theorem zi_134_240 : (zM 134).1[240]? = some (.iastore) := by rfl
theorem zi_134_241 : (zM 134).1[241]? = some (.dup) := by rfl
theorem zi_134_242 : (zM 134).1[242]? = some (.iconst 34) := by rfl
theorem zi_134_243 : (zM 134).1[243]? = some (.iconst 117) := by rfl
theorem zi_134_244 : (zM 134).1[244]? = some (.iastore) := by rfl
theorem zi_134_245 : (zM 134).1[245]? = some (.dup) := by rfl
theorem zi_134_246 : (zM 134).1[246]? = some (.iconst 35) := by rfl
theorem zi_134_247 : (zM 134).1[247]? = some (.iconst 114) := by rfl
theorem zi_134_248 : (zM 134).1[248]? = some (.iastore) := by rfl
theorem zi_134_249 : (zM 134).1[249]? = some (.dup) := by rfl
theorem zi_134_250 : (zM 134).1[250]? = some (.iconst 36) := by rfl
theorem zi_134_251 : (zM 134).1[251]? = some (.iconst 99) := by rfl
theorem zi_134_252 : (zM 134).1[252]? = some (.iastore) := by rfl
theorem zi_134_253 : (zM 134).1[253]? = some (.dup) := by rfl
theorem zi_134_254 : (zM 134).1[254]? = some (.iconst 37) := by rfl
theorem zi_134_255 : (zM 134).1[255]? = some (.iconst 104) := by rfl
theorem zi_134_256 : (zM 134).1[256]? = some (.iastore) := by rfl
theorem zi_134_257 : (zM 134).1[257]? = some (.dup) := by rfl
theorem zi_134_258 : (zM 134).1[258]? = some (.iconst 38) := by rfl
theorem zi_134_259 : (zM 134).1[259]? = some (.iconst 97) := by rfl
theorem zi_134_260 : (zM 134).1[260]? = some (.iastore) := by rfl
theorem zi_134_261 : (zM 134).1[261]? = some (.dup) := by rfl
theorem zi_134_262 : (zM 134).1[262]? = some (.iconst 39) := by rfl
theorem zi_134_263 : (zM 134).1[263]? = some (.iconst 114) := by rfl
theorem zi_134_264 : (zM 134).1[264]? = some (.iastore) := by rfl
theorem zi_134_265 : (zM 134).1[265]? = some (.dup) := by rfl
theorem zi_134_266 : (zM 134).1[266]? = some (.iconst 40) := by rfl
theorem zi_134_267 : (zM 134).1[267]? = some (.iconst 103) := by rfl
theorem zi_134_268 : (zM 134).1[268]? = some (.iastore) := by rfl
theorem zi_134_269 : (zM 134).1[269]? = some (.dup) := by rfl
theorem zi_134_270 : (zM 134).1[270]? = some (.iconst 41) := by rfl
theorem zi_134_271 : (zM 134).1[271]? = some (.iconst 101) := by rfl
theorem zi_134_272 : (zM 134).1[272]? = some (.iastore) := by rfl
theorem zi_134_273 : (zM 134).1[273]? = some (.dup) := by rfl
theorem zi_134_274 : (zM 134).1[274]? = some (.iconst 42) := by rfl
theorem zi_134_275 : (zM 134).1[275]? = some (.iconst 109) := by rfl
theorem zi_134_276 : (zM 134).1[276]? = some (.iastore) := by rfl
theorem zi_134_277 : (zM 134).1[277]? = some (.dup) := by rfl
theorem zi_134_278 : (zM 134).1[278]? = some (.iconst 43) := by rfl
theorem zi_134_279 : (zM 134).1[279]? = some (.iconst 97) := by rfl
theorem zi_134_280 : (zM 134).1[280]? = some (.iastore) := by rfl
theorem zi_134_281 : (zM 134).1[281]? = some (.dup) := by rfl
theorem zi_134_282 : (zM 134).1[282]? = some (.iconst 44) := by rfl
theorem zi_134_283 : (zM 134).1[283]? = some (.iconst 100) := by rfl
theorem zi_134_284 : (zM 134).1[284]? = some (.iastore) := by rfl
theorem zi_134_285 : (zM 134).1[285]? = some (.dup) := by rfl
theorem zi_134_286 : (zM 134).1[286]? = some (.iconst 45) := by rfl
theorem zi_134_287 : (zM 134).1[287]? = some (.iconst 101) := by rfl
theorem zi_134_288 : (zM 134).1[288]? = some (.iastore) := by rfl
theorem zi_134_289 : (zM 134).1[289]? = some (.dup) := by rfl
theorem zi_134_290 : (zM 134).1[290]? = some (.iconst 46) := by rfl
theorem zi_134_291 : (zM 134).1[291]? = some (.iconst 114) := by rfl
theorem zi_134_292 : (zM 134).1[292]? = some (.iastore) := by rfl
theorem zi_134_293 : (zM 134).1[293]? = some (.dup) := by rfl
theorem zi_134_294 : (zM 134).1[294]? = some (.iconst 47) := by rfl
theorem zi_134_295 : (zM 134).1[295]? = some (.iconst 101) := by rfl
theorem zi_134_296 : (zM 134).1[296]? = some (.iastore) := by rfl
theorem zi_134_297 : (zM 134).1[297]? = some (.dup) := by rfl
theorem zi_134_298 : (zM 134).1[298]? = some (.iconst 48) := by rfl
theorem zi_134_299 : (zM 134).1[299]? = some (.iconst 115) := by rfl
theorem zi_134_300 : (zM 134).1[300]? = some (.iastore) := by rfl
theorem zi_134_301 : (zM 134).1[301]? = some (.dup) := by rfl
theorem zi_134_302 : (zM 134).1[302]? = some (.iconst 49) := by rfl
theorem zi_134_303 : (zM 134).1[303]? = some (.iconst 116) := by rfl
theorem zi_134_304 : (zM 134).1[304]? = some (.iastore) := by rfl
theorem zi_134_305 : (zM 134).1[305]? = some (.dup) := by rfl
theorem zi_134_306 : (zM 134).1[306]? = some (.iconst 50) := by rfl
theorem zi_134_307 : (zM 134).1[307]? = some (.iconst 99) := by rfl
theorem zi_134_308 : (zM 134).1[308]? = some (.iastore) := by rfl
theorem zi_134_309 : (zM 134).1[309]? = some (.dup) := by rfl
theorem zi_134_310 : (zM 134).1[310]? = some (.iconst 51) := by rfl
theorem zi_134_311 : (zM 134).1[311]? = some (.iconst 97) := by rfl
theorem zi_134_312 : (zM 134).1[312]? = some (.iastore) := by rfl
theorem zi_134_313 : (zM 134).1[313]? = some (.dup) := by rfl
theorem zi_134_314 : (zM 134).1[314]? = some (.iconst 52) := by rfl
theorem zi_134_315 : (zM 134).1[315]? = some (.iconst 114) := by rfl
theorem zi_134_316 : (zM 134).1[316]? = some (.iastore) := by rfl
theorem zi_134_317 : (zM 134).1[317]? = some (.dup) := by rfl
theorem zi_134_318 : (zM 134).1[318]? = some (.iconst 53) := by rfl
theorem zi_134_319 : (zM 134).1[319]? = some (.iconst 114) := by rfl
theorem zi_134_320 : (zM 134).1[320]? = some (.iastore) := by rfl
theorem zi_134_321 : (zM 134).1[321]? = some (.dup) := by rfl
theorem zi_134_322 : (zM 134).1[322]? = some (.iconst 54) := by rfl
theorem zi_134_323 : (zM 134).1[323]? = some (.iconst 105) := by rfl
theorem zi_134_324 : (zM 134).1[324]? = some (.iastore) := by rfl
theorem zi_134_325 : (zM 134).1[325]? = some (.dup) := by rfl
theorem zi_134_326 : (zM 134).1[326]? = some (.iconst 55) := by rfl
theorem zi_134_327 : (zM 134).1[327]? = some (.iconst 101) := by rfl
theorem zi_134_328 : (zM 134).1[328]? = some (.iastore) := by rfl
theorem zi_134_329 : (zM 134).1[329]? = some (.dup) := by rfl
theorem zi_134_330 : (zM 134).1[330]? = some (.iconst 56) := by rfl
theorem zi_134_331 : (zM 134).1[331]? = some (.iconst 100) := by rfl
theorem zi_134_332 : (zM 134).1[332]? = some (.iastore) := by rfl
theorem zi_134_333 : (zM 134).1[333]? = some (.dup) := by rfl
theorem zi_134_334 : (zM 134).1[334]? = some (.iconst 57) := by rfl
theorem zi_134_335 : (zM 134).1[335]? = some (.iconst 110) := by rfl
theorem zi_134_336 : (zM 134).1[336]? = some (.iastore) := by rfl
theorem zi_134_337 : (zM 134).1[337]? = some (.dup) := by rfl
theorem zi_134_338 : (zM 134).1[338]? = some (.iconst 58) := by rfl
theorem zi_134_339 : (zM 134).1[339]? = some (.iconst 111) := by rfl
theorem zi_134_340 : (zM 134).1[340]? = some (.iastore) := by rfl
theorem zi_134_341 : (zM 134).1[341]? = some (.dup) := by rfl
theorem zi_134_342 : (zM 134).1[342]? = some (.iconst 59) := by rfl
theorem zi_134_343 : (zM 134).1[343]? = some (.iconst 116) := by rfl
theorem zi_134_344 : (zM 134).1[344]? = some (.iastore) := by rfl
theorem zi_134_345 : (zM 134).1[345]? = some (.dup) := by rfl
theorem zi_134_346 : (zM 134).1[346]? = some (.iconst 60) := by rfl
theorem zi_134_347 : (zM 134).1[347]? = some (.iconst 105) := by rfl
theorem zi_134_348 : (zM 134).1[348]? = some (.iastore) := by rfl
theorem zi_134_349 : (zM 134).1[349]? = some (.dup) := by rfl
theorem zi_134_350 : (zM 134).1[350]? = some (.iconst 61) := by rfl
theorem zi_134_351 : (zM 134).1[351]? = some (.iconst 99) := by rfl
theorem zi_134_352 : (zM 134).1[352]? = some (.iastore) := by rfl
theorem zi_134_353 : (zM 134).1[353]? = some (.dup) := by rfl
theorem zi_134_354 : (zM 134).1[354]? = some (.iconst 62) := by rfl
theorem zi_134_355 : (zM 134).1[355]? = some (.iconst 101) := by rfl
theorem zi_134_356 : (zM 134).1[356]? = some (.iastore) := by rfl
theorem zi_134_357 : (zM 134).1[357]? = some (.dup) := by rfl
theorem zi_134_358 : (zM 134).1[358]? = some (.iconst 63) := by rfl
theorem zi_134_359 : (zM 134).1[359]? = some (.iconst 102) := by rfl
theorem zi_134_360 : (zM 134).1[360]? = some (.iastore) := by rfl
theorem zi_134_361 : (zM 134).1[361]? = some (.dup) := by rfl
theorem zi_134_362 : (zM 134).1[362]? = some (.iconst 64) := by rfl
theorem zi_134_363 : (zM 134).1[363]? = some (.iconst 114) := by rfl
theorem zi_134_364 : (zM 134).1[364]? = some (.iastore) := by rfl
theorem zi_134_365 : (zM 134).1[365]? = some (.dup) := by rfl
theorem zi_134_366 : (zM 134).1[366]? = some (.iconst 65) := by rfl
theorem zi_134_367 : (zM 134).1[367]? = some (.iconst 101) := by rfl
theorem zi_134_368 : (zM 134).1[368]? = some (.iastore) := by rfl
theorem zi_134_369 : (zM 134).1[369]? = some (.dup) := by rfl
theorem zi_134_370 : (zM 134).1[370]? = some (.iconst 66) := by rfl
theorem zi_134_371 : (zM 134).1[371]? = some (.iconst 101) := by rfl
theorem zi_134_372 : (zM 134).1[372]? = some (.iastore) := by rfl
theorem zi_134_373 : (zM 134).1[373]? = some (.dup) := by rfl
theorem zi_134_374 : (zM 134).1[374]? = some (.iconst 67) := by rfl
theorem zi_134_375 : (zM 134).1[375]? = some (.iconst 99) := by rfl
theorem zi_134_376 : (zM 134).1[376]? = some (.iastore) := by rfl
theorem zi_134_377 : (zM 134).1[377]? = some (.dup) := by rfl
theorem zi_134_378 : (zM 134).1[378]? = some (.iconst 68) := by rfl
theorem zi_134_379 : (zM 134).1[379]? = some (.iconst 111) := by rfl
theorem zi_134_380 : (zM 134).1[380]? = some (.iastore) := by rfl
theorem zi_134_381 : (zM 134).1[381]? = some (.dup) := by rfl
theorem zi_134_382 : (zM 134).1[382]? = some (.iconst 69) := by rfl
theorem zi_134_383 : (zM 134).1[383]? = some (.iconst 115) := by rfl
theorem zi_134_384 : (zM 134).1[384]? = some (.iastore) := by rfl
theorem zi_134_385 : (zM 134).1[385]? = some (.dup) := by rfl
theorem zi_134_386 : (zM 134).1[386]? = some (.iconst 70) := by rfl
theorem zi_134_387 : (zM 134).1[387]? = some (.iconst 116) := by rfl
theorem zi_134_388 : (zM 134).1[388]? = some (.iastore) := by rfl
theorem zi_134_389 : (zM 134).1[389]? = some (.dup) := by rfl
theorem zi_134_390 : (zM 134).1[390]? = some (.iconst 71) := by rfl
theorem zi_134_391 : (zM 134).1[391]? = some (.iconst 112) := by rfl
theorem zi_134_392 : (zM 134).1[392]? = some (.iastore) := by rfl
theorem zi_134_393 : (zM 134).1[393]? = some (.dup) := by rfl
theorem zi_134_394 : (zM 134).1[394]? = some (.iconst 72) := by rfl
theorem zi_134_395 : (zM 134).1[395]? = some (.iconst 114) := by rfl
theorem zi_134_396 : (zM 134).1[396]? = some (.iastore) := by rfl
theorem zi_134_397 : (zM 134).1[397]? = some (.dup) := by rfl
theorem zi_134_398 : (zM 134).1[398]? = some (.iconst 73) := by rfl
theorem zi_134_399 : (zM 134).1[399]? = some (.iconst 105) := by rfl
set_option maxRecDepth 20000 in
theorem zi_134_400 : (zM 134).1[400]? = some (.iastore) := by rfl
set_option maxRecDepth 20000 in
theorem zi_134_401 : (zM 134).1[401]? = some (.dup) := by rfl
set_option maxRecDepth 20000 in
theorem zi_134_402 : (zM 134).1[402]? = some (.iconst 74) := by rfl
set_option maxRecDepth 20000 in
theorem zi_134_403 : (zM 134).1[403]? = some (.iconst 99) := by rfl
set_option maxRecDepth 20000 in
theorem zi_134_404 : (zM 134).1[404]? = some (.iastore) := by rfl
set_option maxRecDepth 20000 in
theorem zi_134_405 : (zM 134).1[405]? = some (.dup) := by rfl
set_option maxRecDepth 20000 in
theorem zi_134_406 : (zM 134).1[406]? = some (.iconst 75) := by rfl
set_option maxRecDepth 20000 in
theorem zi_134_407 : (zM 134).1[407]? = some (.iconst 101) := by rfl
set_option maxRecDepth 20000 in
theorem zi_134_408 : (zM 134).1[408]? = some (.iastore) := by rfl
set_option maxRecDepth 20000 in
theorem zi_134_409 : (zM 134).1[409]? = some (.dup) := by rfl
set_option maxRecDepth 20000 in
theorem zi_134_410 : (zM 134).1[410]? = some (.iconst 76) := by rfl
set_option maxRecDepth 20000 in
theorem zi_134_411 : (zM 134).1[411]? = some (.iconst 99) := by rfl
set_option maxRecDepth 20000 in
theorem zi_134_412 : (zM 134).1[412]? = some (.iastore) := by rfl
set_option maxRecDepth 20000 in
theorem zi_134_413 : (zM 134).1[413]? = some (.dup) := by rfl
set_option maxRecDepth 20000 in
theorem zi_134_414 : (zM 134).1[414]? = some (.iconst 77) := by rfl
set_option maxRecDepth 20000 in
theorem zi_134_415 : (zM 134).1[415]? = some (.iconst 104) := by rfl
set_option maxRecDepth 20000 in
theorem zi_134_416 : (zM 134).1[416]? = some (.iastore) := by rfl
set_option maxRecDepth 20000 in
theorem zi_134_417 : (zM 134).1[417]? = some (.dup) := by rfl
set_option maxRecDepth 20000 in
theorem zi_134_418 : (zM 134).1[418]? = some (.iconst 78) := by rfl
set_option maxRecDepth 20000 in
theorem zi_134_419 : (zM 134).1[419]? = some (.iconst 97) := by rfl
set_option maxRecDepth 20000 in
theorem zi_134_420 : (zM 134).1[420]? = some (.iastore) := by rfl
set_option maxRecDepth 20000 in
theorem zi_134_421 : (zM 134).1[421]? = some (.dup) := by rfl
set_option maxRecDepth 20000 in
theorem zi_134_422 : (zM 134).1[422]? = some (.iconst 79) := by rfl
set_option maxRecDepth 20000 in
theorem zi_134_423 : (zM 134).1[423]? = some (.iconst 110) := by rfl
set_option maxRecDepth 20000 in
theorem zi_134_424 : (zM 134).1[424]? = some (.iastore) := by rfl
set_option maxRecDepth 20000 in
theorem zi_134_425 : (zM 134).1[425]? = some (.dup) := by rfl
set_option maxRecDepth 20000 in
theorem zi_134_426 : (zM 134).1[426]? = some (.iconst 80) := by rfl
set_option maxRecDepth 20000 in
theorem zi_134_427 : (zM 134).1[427]? = some (.iconst 99) := by rfl
set_option maxRecDepth 20000 in
theorem zi_134_428 : (zM 134).1[428]? = some (.iastore) := by rfl
set_option maxRecDepth 20000 in
theorem zi_134_429 : (zM 134).1[429]? = some (.dup) := by rfl
set_option maxRecDepth 20000 in
theorem zi_134_430 : (zM 134).1[430]? = some (.iconst 81) := by rfl
set_option maxRecDepth 20000 in
theorem zi_134_431 : (zM 134).1[431]? = some (.iconst 101) := by rfl
set_option maxRecDepth 20000 in
theorem zi_134_432 : (zM 134).1[432]? = some (.iastore) := by rfl
set_option maxRecDepth 20000 in
theorem zi_134_433 : (zM 134).1[433]? = some (.dup) := by rfl
set_option maxRecDepth 20000 in
theorem zi_134_434 : (zM 134).1[434]? = some (.iconst 82) := by rfl
set_option maxRecDepth 20000 in
theorem zi_134_435 : (zM 134).1[435]? = some (.iconst 115) := by rfl
set_option maxRecDepth 20000 in
theorem zi_134_436 : (zM 134).1[436]? = some (.iastore) := by rfl
set_option maxRecDepth 20000 in
theorem zi_134_437 : (zM 134).1[437]? = some (.dup) := by rfl
set_option maxRecDepth 20000 in
theorem zi_134_438 : (zM 134).1[438]? = some (.iconst 83) := by rfl
set_option maxRecDepth 20000 in
theorem zi_134_439 : (zM 134).1[439]? = some (.iconst 116) := by rfl
set_option maxRecDepth 20000 in
theorem zi_134_440 : (zM 134).1[440]? = some (.iastore) := by rfl
set_option maxRecDepth 20000 in
theorem zi_134_441 : (zM 134).1[441]? = some (.dup) := by rfl
set_option maxRecDepth 20000 in
theorem zi_134_442 : (zM 134).1[442]? = some (.iconst 84) := by rfl
set_option maxRecDepth 20000 in
theorem zi_134_443 : (zM 134).1[443]? = some (.iconst 97) := by rfl
set_option maxRecDepth 20000 in
theorem zi_134_444 : (zM 134).1[444]? = some (.iastore) := by rfl
set_option maxRecDepth 20000 in
theorem zi_134_445 : (zM 134).1[445]? = some (.dup) := by rfl
set_option maxRecDepth 20000 in
theorem zi_134_446 : (zM 134).1[446]? = some (.iconst 85) := by rfl
set_option maxRecDepth 20000 in
theorem zi_134_447 : (zM 134).1[447]? = some (.iconst 114) := by rfl
set_option maxRecDepth 20000 in
theorem zi_134_448 : (zM 134).1[448]? = some (.iastore) := by rfl
set_option maxRecDepth 20000 in
theorem zi_134_449 : (zM 134).1[449]? = some (.dup) := by rfl
set_option maxRecDepth 20000 in
theorem zi_134_450 : (zM 134).1[450]? = some (.iconst 86) := by rfl
set_option maxRecDepth 20000 in
theorem zi_134_451 : (zM 134).1[451]? = some (.iconst 116) := by rfl
set_option maxRecDepth 20000 in
theorem zi_134_452 : (zM 134).1[452]? = some (.iastore) := by rfl
set_option maxRecDepth 20000 in
theorem zi_134_453 : (zM 134).1[453]? = some (.dup) := by rfl
set_option maxRecDepth 20000 in
theorem zi_134_454 : (zM 134).1[454]? = some (.iconst 87) := by rfl
set_option maxRecDepth 20000 in
theorem zi_134_455 : (zM 134).1[455]? = some (.iconst 102) := by rfl
set_option maxRecDepth 20000 in
theorem zi_134_456 : (zM 134).1[456]? = some (.iastore) := by rfl
set_option maxRecDepth 20000 in
theorem zi_134_457 : (zM 134).1[457]? = some (.dup) := by rfl
set_option maxRecDepth 20000 in
theorem zi_134_458 : (zM 134).1[458]? = some (.iconst 88) := by rfl
set_option maxRecDepth 20000 in
theorem zi_134_459 : (zM 134).1[459]? = some (.iconst 105) := by rfl
set_option maxRecDepth 20000 in
theorem zi_134_460 : (zM 134).1[460]? = some (.iastore) := by rfl
set_option maxRecDepth 20000 in
theorem zi_134_461 : (zM 134).1[461]? = some (.dup) := by rfl
set_option maxRecDepth 20000 in
theorem zi_134_462 : (zM 134).1[462]? = some (.iconst 89) := by rfl
set_option maxRecDepth 20000 in
theorem zi_134_463 : (zM 134).1[463]? = some (.iconst 114) := by rfl
set_option maxRecDepth 20000 in
theorem zi_134_464 : (zM 134).1[464]? = some (.iastore) := by rfl
set_option maxRecDepth 20000 in
theorem zi_134_465 : (zM 134).1[465]? = some (.dup) := by rfl
set_option maxRecDepth 20000 in
theorem zi_134_466 : (zM 134).1[466]? = some (.iconst 90) := by rfl
set_option maxRecDepth 20000 in
theorem zi_134_467 : (zM 134).1[467]? = some (.iconst 115) := by rfl
set_option maxRecDepth 20000 in
theorem zi_134_468 : (zM 134).1[468]? = some (.iastore) := by rfl
set_option maxRecDepth 20000 in
theorem zi_134_469 : (zM 134).1[469]? = some (.dup) := by rfl
set_option maxRecDepth 20000 in
theorem zi_134_470 : (zM 134).1[470]? = some (.iconst 91) := by rfl
set_option maxRecDepth 20000 in
theorem zi_134_471 : (zM 134).1[471]? = some (.iconst 116) := by rfl
set_option maxRecDepth 20000 in
theorem zi_134_472 : (zM 134).1[472]? = some (.iastore) := by rfl
set_option maxRecDepth 20000 in
theorem zi_134_473 : (zM 134).1[473]? = some (.dup) := by rfl
set_option maxRecDepth 20000 in
theorem zi_134_474 : (zM 134).1[474]? = some (.iconst 92) := by rfl
set_option maxRecDepth 20000 in
theorem zi_134_475 : (zM 134).1[475]? = some (.iconst 108) := by rfl
set_option maxRecDepth 20000 in
theorem zi_134_476 : (zM 134).1[476]? = some (.iastore) := by rfl
set_option maxRecDepth 20000 in
theorem zi_134_477 : (zM 134).1[477]? = some (.dup) := by rfl
set_option maxRecDepth 20000 in
theorem zi_134_478 : (zM 134).1[478]? = some (.iconst 93) := by rfl
set_option maxRecDepth 20000 in
theorem zi_134_479 : (zM 134).1[479]? = some (.iconst 97) := by rfl
set_option maxRecDepth 20000 in
theorem zi_134_480 : (zM 134).1[480]? = some (.iastore) := by rfl
set_option maxRecDepth 20000 in
theorem zi_134_481 : (zM 134).1[481]? = some (.dup) := by rfl
set_option maxRecDepth 20000 in
theorem zi_134_482 : (zM 134).1[482]? = some (.iconst 94) := by rfl
set_option maxRecDepth 20000 in
theorem zi_134_483 : (zM 134).1[483]? = some (.iconst 115) := by rfl
set_option maxRecDepth 20000 in
theorem zi_134_484 : (zM 134).1[484]? = some (.iastore) := by rfl
set_option maxRecDepth 20000 in
theorem zi_134_485 : (zM 134).1[485]? = some (.dup) := by rfl
set_option maxRecDepth 20000 in
theorem zi_134_486 : (zM 134).1[486]? = some (.iconst 95) := by rfl
set_option maxRecDepth 20000 in
theorem zi_134_487 : (zM 134).1[487]? = some (.iconst 116) := by rfl
set_option maxRecDepth 20000 in
theorem zi_134_488 : (zM 134).1[488]? = some (.iastore) := by rfl
set_option maxRecDepth 20000 in
theorem zi_134_489 : (zM 134).1[489]? = some (.dup) := by rfl
set_option maxRecDepth 20000 in
theorem zi_134_490 : (zM 134).1[490]? = some (.iconst 96) := by rfl
set_option maxRecDepth 20000 in
theorem zi_134_491 : (zM 134).1[491]? = some (.iconst 110) := by rfl
set_option maxRecDepth 20000 in
theorem zi_134_492 : (zM 134).1[492]? = some (.iastore) := by rfl
set_option maxRecDepth 20000 in
theorem zi_134_493 : (zM 134).1[493]? = some (.dup) := by rfl
set_option maxRecDepth 20000 in
theorem zi_134_494 : (zM 134).1[494]? = some (.iconst 97) := by rfl
set_option maxRecDepth 20000 in
theorem zi_134_495 : (zM 134).1[495]? = some (.iconst 111) := by rfl
set_option maxRecDepth 20000 in
theorem zi_134_496 : (zM 134).1[496]? = some (.iastore) := by rfl
set_option maxRecDepth 20000 in
theorem zi_134_497 : (zM 134).1[497]? = some (.dup) := by rfl
set_option maxRecDepth 20000 in
theorem zi_134_498 : (zM 134).1[498]? = some (.iconst 98) := by rfl
set_option maxRecDepth 20000 in
theorem zi_134_499 : (zM 134).1[499]? = some (.iconst 98) := by rfl
set_option maxRecDepth 20000 in
theorem zi_134_500 : (zM 134).1[500]? = some (.iastore) := by rfl
set_option maxRecDepth 20000 in
theorem zi_134_501 : (zM 134).1[501]? = some (.dup) := by rfl
set_option maxRecDepth 20000 in
theorem zi_134_502 : (zM 134).1[502]? = some (.iconst 99) := by rfl
set_option maxRecDepth 20000 in
theorem zi_134_503 : (zM 134).1[503]? = some (.iconst 111) := by rfl
set_option maxRecDepth 20000 in
theorem zi_134_504 : (zM 134).1[504]? = some (.iastore) := by rfl
set_option maxRecDepth 20000 in
theorem zi_134_505 : (zM 134).1[505]? = some (.dup) := by rfl
set_option maxRecDepth 20000 in
theorem zi_134_506 : (zM 134).1[506]? = some (.iconst 100) := by rfl
set_option maxRecDepth 20000 in
theorem zi_134_507 : (zM 134).1[507]? = some (.iconst 100) := by rfl
set_option maxRecDepth 20000 in
theorem zi_134_508 : (zM 134).1[508]? = some (.iastore) := by rfl
set_option maxRecDepth 20000 in
theorem zi_134_509 : (zM 134).1[509]? = some (.dup) := by rfl
set_option maxRecDepth 20000 in
theorem zi_134_510 : (zM 134).1[510]? = some (.iconst 101) := by rfl
set_option maxRecDepth 20000 in
theorem zi_134_511 : (zM 134).1[511]? = some (.iconst 121) := by rfl
set_option maxRecDepth 20000 in
theorem zi_134_512 : (zM 134).1[512]? = some (.iastore) := by rfl
set_option maxRecDepth 20000 in
theorem zi_134_513 : (zM 134).1[513]? = some (.dup) := by rfl
set_option maxRecDepth 20000 in
theorem zi_134_514 : (zM 134).1[514]? = some (.iconst 102) := by rfl
set_option maxRecDepth 20000 in
theorem zi_134_515 : (zM 134).1[515]? = some (.iconst 115) := by rfl
set_option maxRecDepth 20000 in
theorem zi_134_516 : (zM 134).1[516]? = some (.iastore) := by rfl
set_option maxRecDepth 20000 in
theorem zi_134_517 : (zM 134).1[517]? = some (.dup) := by rfl
set_option maxRecDepth 20000 in
theorem zi_134_518 : (zM 134).1[518]? = some (.iconst 103) := by rfl
set_option maxRecDepth 20000 in
theorem zi_134_519 : (zM 134).1[519]? = some (.iconst 101) := by rfl
set_option maxRecDepth 20000 in
theorem zi_134_520 : (zM 134).1[520]? = some (.iastore) := by rfl
set_option maxRecDepth 20000 in
theorem zi_134_521 : (zM 134).1[521]? = some (.dup) := by rfl
set_option maxRecDepth 20000 in
theorem zi_134_522 : (zM 134).1[522]? = some (.iconst 104) := by rfl
set_option maxRecDepth 20000 in
theorem zi_134_523 : (zM 134).1[523]? = some (.iconst 108) := by rfl
set_option maxRecDepth 20000 in
theorem zi_134_524 : (zM 134).1[524]? = some (.iastore) := by rfl
set_option maxRecDepth 20000 in
theorem zi_134_525 : (zM 134).1[525]? = some (.dup) := by rfl
set_option maxRecDepth 20000 in
theorem zi_134_526 : (zM 134).1[526]? = some (.iconst 105) := by rfl
set_option maxRecDepth 20000 in
theorem zi_134_527 : (zM 134).1[527]? = some (.iconst 108) := by rfl
set_option maxRecDepth 20000 in
theorem zi_134_528 : (zM 134).1[528]? = some (.iastore) := by rfl
set_option maxRecDepth 20000 in
theorem zi_134_529 : (zM 134).1[529]? = some (.dup) := by rfl
set_option maxRecDepth 20000 in
theorem zi_134_530 : (zM 134).1[530]? = some (.iconst 106) := by rfl
set_option maxRecDepth 20000 in
theorem zi_134_531 : (zM 134).1[531]? = some (.iconst 101) := by rfl
set_option maxRecDepth 20000 in
theorem zi_134_532 : (zM 134).1[532]? = some (.iastore) := by rfl
set_option maxRecDepth 20000 in
theorem zi_134_533 : (zM 134).1[533]? = some (.dup) := by rfl
set_option maxRecDepth 20000 in
theorem zi_134_534 : (zM 134).1[534]? = some (.iconst 107) := by rfl
set_option maxRecDepth 20000 in
theorem zi_134_535 : (zM 134).1[535]? = some (.iconst 114) := by rfl
set_option maxRecDepth 20000 in
theorem zi_134_536 : (zM 134).1[536]? = some (.iastore) := by rfl
set_option maxRecDepth 20000 in
theorem zi_134_537 : (zM 134).1[537]? = some (.dup) := by rfl
set_option maxRecDepth 20000 in
theorem zi_134_538 : (zM 134).1[538]? = some (.iconst 108) := by rfl
set_option maxRecDepth 20000 in
theorem zi_134_539 : (zM 134).1[539]? = some (.iconst 98) := by rfl
set_option maxRecDepth 20000 in
theorem zi_134_540 : (zM 134).1[540]? = some (.iastore) := by rfl
set_option maxRecDepth 20000 in
theorem zi_134_541 : (zM 134).1[541]? = some (.dup) := by rfl
set_option maxRecDepth 20000 in
theorem zi_134_542 : (zM 134).1[542]? = some (.iconst 109) := by rfl
set_option maxRecDepth 20000 in
theorem zi_134_543 : (zM 134).1[543]? = some (.iconst 117) := by rfl
set_option maxRecDepth 20000 in
theorem zi_134_544 : (zM 134).1[544]? = some (.iastore) := by rfl
set_option maxRecDepth 20000 in
theorem zi_134_545 : (zM 134).1[545]? = some (.dup) := by rfl
set_option maxRecDepth 20000 in
theorem zi_134_546 : (zM 134).1[546]? = some (.iconst 110) := by rfl
set_option maxRecDepth 20000 in
theorem zi_134_547 : (zM 134).1[547]? = some (.iconst 121) := by rfl
set_option maxRecDepth 20000 in
theorem zi_134_548 : (zM 134).1[548]? = some (.iastore) := by rfl
set_option maxRecDepth 20000 in
theorem zi_134_549 : (zM 134).1[549]? = some (.dup) := by rfl
set_option maxRecDepth 20000 in
theorem zi_134_550 : (zM 134).1[550]? = some (.iconst 111) := by rfl
set_option maxRecDepth 20000 in
theorem zi_134_551 : (zM 134).1[551]? = some (.iconst 101) := by rfl
set_option maxRecDepth 20000 in
theorem zi_134_552 : (zM 134).1[552]? = some (.iastore) := by rfl
set_option maxRecDepth 20000 in
theorem zi_134_553 : (zM 134).1[553]? = some (.dup) := by rfl
set_option maxRecDepth 20000 in
theorem zi_134_554 : (zM 134).1[554]? = some (.iconst 112) := by rfl
set_option maxRecDepth 20000 in
theorem zi_134_555 : (zM 134).1[555]? = some (.iconst 114) := by rfl
set_option maxRecDepth 20000 in
theorem zi_134_556 : (zM 134).1[556]? = some (.iastore) := by rfl
set_option maxRecDepth 20000 in
theorem zi_134_557 : (zM 134).1[557]? = some (.putfield 11210) := by rfl
set_option maxRecDepth 20000 in
theorem zi_134_558 : (zM 134).1[558]? = some (.aload 0) := by rfl
set_option maxRecDepth 20000 in
theorem zi_134_559 : (zM 134).1[559]? = some (.iconst 17) := by rfl
set_option maxRecDepth 20000 in
theorem zi_134_560 : (zM 134).1[560]? = some (.newarray .int) := by rfl
set_option maxRecDepth 20000 in
theorem zi_134_561 : (zM 134).1[561]? = some (.dup) := by rfl
set_option maxRecDepth 20000 in
theorem zi_134_562 : (zM 134).1[562]? = some (.iconst 0) := by rfl
set_option maxRecDepth 20000 in
theorem zi_134_563 : (zM 134).1[563]? = some (.iconst 0) := by rfl
set_option maxRecDepth 20000 in
theorem zi_134_564 : (zM 134).1[564]? = some (.iastore) := by rfl
set_option maxRecDepth 20000 in
theorem zi_134_565 : (zM 134).1[565]? = some (.dup) := by rfl
set_option maxRecDepth 20000 in
theorem zi_134_566 : (zM 134).1[566]? = some (.iconst 1) := by rfl
set_option maxRecDepth 20000 in
theorem zi_134_567 : (zM 134).1[567]? = some (.iconst 1) := by rfl
set_option maxRecDepth 20000 in
theorem zi_134_568 : (zM 134).1[568]? = some (.iastore) := by rfl
set_option maxRecDepth 20000 in
theorem zi_134_569 : (zM 134).1[569]? = some (.dup) := by rfl
set_option maxRecDepth 20000 in
theorem zi_134_570 : (zM 134).1[570]? = some (.iconst 2) := by rfl
set_option maxRecDepth 20000 in
theorem zi_134_571 : (zM 134).1[571]? = some (.iconst 2) := by rfl
set_option maxRecDepth 20000 in
theorem zi_134_572 : (zM 134).1[572]? = some (.iastore) := by rfl
set_option maxRecDepth 20000 in
theorem zi_134_573 : (zM 134).1[573]? = some (.dup) := by rfl
set_option maxRecDepth 20000 in
theorem zi_134_574 : (zM 134).1[574]? = some (.iconst 3) := by rfl
set_option maxRecDepth 20000 in
theorem zi_134_575 : (zM 134).1[575]? = some (.iconst 3) := by rfl
set_option maxRecDepth 20000 in
theorem zi_134_576 : (zM 134).1[576]? = some (.iastore) := by rfl
set_option maxRecDepth 20000 in
theorem zi_134_577 : (zM 134).1[577]? = some (.dup) := by rfl
set_option maxRecDepth 20000 in
theorem zi_134_578 : (zM 134).1[578]? = some (.iconst 4) := by rfl
set_option maxRecDepth 20000 in
theorem zi_134_579 : (zM 134).1[579]? = some (.iconst 5) := by rfl
set_option maxRecDepth 20000 in
theorem zi_134_580 : (zM 134).1[580]? = some (.iastore) := by rfl
set_option maxRecDepth 20000 in
theorem zi_134_581 : (zM 134).1[581]? = some (.dup) := by rfl
set_option maxRecDepth 20000 in
theorem zi_134_582 : (zM 134).1[582]? = some (.iconst 5) := by rfl
set_option maxRecDepth 20000 in
theorem zi_134_583 : (zM 134).1[583]? = some (.iconst 6) := by rfl
set_option maxRecDepth 20000 in
theorem zi_134_584 : (zM 134).1[584]? = some (.iastore) := by rfl
set_option maxRecDepth 20000 in
theorem zi_134_585 : (zM 134).1[585]? = some (.dup) := by rfl
set_option maxRecDepth 20000 in
theorem zi_134_586 : (zM 134).1[586]? = some (.iconst 6) := by rfl
set_option maxRecDepth 20000 in
theorem zi_134_587 : (zM 134).1[587]? = some (.iconst 7) := by rfl
set_option maxRecDepth 20000 in
theorem zi_134_588 : (zM 134).1[588]? = some (.iastore) := by rfl
set_option maxRecDepth 20000 in
theorem zi_134_589 : (zM 134).1[589]? = some (.dup) := by rfl
set_option maxRecDepth 20000 in
theorem zi_134_590 : (zM 134).1[590]? = some (.iconst 7) := by rfl
set_option maxRecDepth 20000 in
theorem zi_134_591 : (zM 134).1[591]? = some (.iconst 8) := by rfl
set_option maxRecDepth 20000 in
theorem zi_134_592 : (zM 134).1[592]? = some (.iastore) := by rfl
set_option maxRecDepth 20000 in
theorem zi_134_593 : (zM 134).1[593]? = some (.dup) := by rfl
set_option maxRecDepth 20000 in
theorem zi_134_594 : (zM 134).1[594]? = some (.iconst 8) := by rfl
set_option maxRecDepth 20000 in
theorem zi_134_595 : (zM 134).1[595]? = some (.iconst 9) := by rfl
set_option maxRecDepth 20000 in
theorem zi_134_596 : (zM 134).1[596]? = some (.iastore) := by rfl
set_option maxRecDepth 20000 in
theorem zi_134_597 : (zM 134).1[597]? = some (.dup) := by rfl
set_option maxRecDepth 20000 in
theorem zi_134_598 : (zM 134).1[598]? = some (.iconst 9) := by rfl
set_option maxRecDepth 20000 in
theorem zi_134_599 : (zM 134).1[599]? = some (.iconst 10) := by rfl
set_option maxRecDepth 20000 in
theorem zi_134_600 : (zM 134).1[600]? = some (.iastore) := by rfl
set_option maxRecDepth 20000 in
theorem zi_134_601 : (zM 134).1[601]? = some (.dup) := by rfl
set_option maxRecDepth 20000 in
theorem zi_134_602 : (zM 134).1[602]? = some (.iconst 10) := by rfl
set_option maxRecDepth 20000 in
theorem zi_134_603 : (zM 134).1[603]? = some (.iconst 11) := by rfl
set_option maxRecDepth 20000 in
theorem zi_134_604 : (zM 134).1[604]? = some (.iastore) := by rfl
set_option maxRecDepth 20000 in
theorem zi_134_605 : (zM 134).1[605]? = some (.dup) := by rfl
set_option maxRecDepth 20000 in
theorem zi_134_606 : (zM 134).1[606]? = some (.iconst 11) := by rfl
set_option maxRecDepth 20000 in
theorem zi_134_607 : (zM 134).1[607]? = some (.iconst 12) := by rfl
set_option maxRecDepth 20000 in
theorem zi_134_608 : (zM 134).1[608]? = some (.iastore) := by rfl
set_option maxRecDepth 20000 in
theorem zi_134_609 : (zM 134).1[609]? = some (.dup) := by rfl
set_option maxRecDepth 20000 in
theorem zi_134_610 : (zM 134).1[610]? = some (.iconst 12) := by rfl
set_option maxRecDepth 20000 in
theorem zi_134_611 : (zM 134).1[611]? = some (.iconst 13) := by rfl
set_option maxRecDepth 20000 in
theorem zi_134_612 : (zM 134).1[612]? = some (.iastore) := by rfl
set_option maxRecDepth 20000 in
theorem zi_134_613 : (zM 134).1[613]? = some (.dup) := by rfl
set_option maxRecDepth 20000 in
theorem zi_134_614 : (zM 134).1[614]? = some (.iconst 13) := by rfl
set_option maxRecDepth 20000 in
theorem zi_134_615 : (zM 134).1[615]? = some (.iconst 14) := by rfl
set_option maxRecDepth 20000 in
theorem zi_134_616 : (zM 134).1[616]? = some (.iastore) := by rfl
set_option maxRecDepth 20000 in
theorem zi_134_617 : (zM 134).1[617]? = some (.dup) := by rfl
set_option maxRecDepth 20000 in
theorem zi_134_618 : (zM 134).1[618]? = some (.iconst 14) := by rfl
set_option maxRecDepth 20000 in
theorem zi_134_619 : (zM 134).1[619]? = some (.iconst 16) := by rfl
set_option maxRecDepth 20000 in
theorem zi_134_620 : (zM 134).1[620]? = some (.iastore) := by rfl
set_option maxRecDepth 20000 in
theorem zi_134_621 : (zM 134).1[621]? = some (.dup) := by rfl
set_option maxRecDepth 20000 in
theorem zi_134_622 : (zM 134).1[622]? = some (.iconst 15) := by rfl
set_option maxRecDepth 20000 in
theorem zi_134_623 : (zM 134).1[623]? = some (.iconst 19) := by rfl
set_option maxRecDepth 20000 in
theorem zi_134_624 : (zM 134).1[624]? = some (.iastore) := by rfl
set_option maxRecDepth 20000 in
theorem zi_134_625 : (zM 134).1[625]? = some (.dup) := by rfl
set_option maxRecDepth 20000 in
theorem zi_134_626 : (zM 134).1[626]? = some (.iconst 16) := by rfl
set_option maxRecDepth 20000 in
theorem zi_134_627 : (zM 134).1[627]? = some (.iconst 15) := by rfl
set_option maxRecDepth 20000 in
theorem zi_134_628 : (zM 134).1[628]? = some (.iastore) := by rfl
set_option maxRecDepth 20000 in
theorem zi_134_629 : (zM 134).1[629]? = some (.putfield 11211) := by rfl
set_option maxRecDepth 20000 in
theorem zi_134_630 : (zM 134).1[630]? = some (.aload 0) := by rfl
set_option maxRecDepth 20000 in
theorem zi_134_631 : (zM 134).1[631]? = some (.iconst 28) := by rfl
set_option maxRecDepth 20000 in
theorem zi_134_632 : (zM 134).1[632]? = some (.newarray .int) := by rfl
set_option maxRecDepth 20000 in
theorem zi_134_633 : (zM 134).1[633]? = some (.dup) := by rfl
set_option maxRecDepth 20000 in
theorem zi_134_634 : (zM 134).1[634]? = some (.iconst 0) := by rfl
set_option maxRecDepth 20000 in
theorem zi_134_635 : (zM 134).1[635]? = some (.iconst 2) := by rfl
set_option maxRecDepth 20000 in
theorem zi_134_636 : (zM 134).1[636]? = some (.iastore) := by rfl
set_option maxRecDepth 20000 in
theorem zi_134_637 : (zM 134).1[637]? = some (.dup) := by rfl
set_option maxRecDepth 20000 in
theorem zi_134_638 : (zM 134).1[638]? = some (.iconst 1) := by rfl
set_option maxRecDepth 20000 in
theorem zi_134_639 : (zM 134).1[639]? = some (.iconst 4) := by rfl
set_option maxRecDepth 20000 in
theorem zi_134_640 : (zM 134).1[640]? = some (.iastore) := by rfl
set_option maxRecDepth 20000 in
theorem zi_134_641 : (zM 134).1[641]? = some (.dup) := by rfl
set_option maxRecDepth 20000 in
theorem zi_134_642 : (zM 134).1[642]? = some (.iconst 2) := by rfl
set_option maxRecDepth 20000 in
theorem zi_134_643 : (zM 134).1[643]? = some (.iconst 8) := by rfl
set_option maxRecDepth 20000 in
theorem zi_134_644 : (zM 134).1[644]? = some (.iastore) := by rfl
set_option maxRecDepth 20000 in
theorem zi_134_645 : (zM 134).1[645]? = some (.dup) := by rfl
set_option maxRecDepth 20000 in
theorem zi_134_646 : (zM 134).1[646]? = some (.iconst 3) := by rfl
set_option maxRecDepth 20000 in
theorem zi_134_647 : (zM 134).1[647]? = some (.iconst 0) := by rfl
set_option maxRecDepth 20000 in
theorem zi_134_648 : (zM 134).1[648]? = some (.iastore) := by rfl
set_option maxRecDepth 20000 in
theorem zi_134_649 : (zM 134).1[649]? = some (.dup) := by rfl
set_option maxRecDepth 20000 in
theorem zi_134_650 : (zM 134).1[650]? = some (.iconst 4) := by rfl
set_option maxRecDepth 20000 in
theorem zi_134_651 : (zM 134).1[651]? = some (.iconst 3) := by rfl
set_option maxRecDepth 20000 in
theorem zi_134_652 : (zM 134).1[652]? = some (.iastore) := by rfl
set_option maxRecDepth 20000 in
theorem zi_134_653 : (zM 134).1[653]? = some (.dup) := by rfl
set_option maxRecDepth 20000 in
theorem zi_134_654 : (zM 134).1[654]? = some (.iconst 5) := by rfl
set_option maxRecDepth 20000 in
theorem zi_134_655 : (zM 134).1[655]? = some (.iconst 80) := by rfl
set_option maxRecDepth 20000 in
theorem zi_134_656 : (zM 134).1[656]? = some (.iastore) := by rfl
set_option maxRecDepth 20000 in
theorem zi_134_657 : (zM 134).1[657]? = some (.dup) := by rfl
set_option maxRecDepth 20000 in
theorem zi_134_658 : (zM 134).1[658]? = some (.iconst 6) := by rfl
set_option maxRecDepth 20000 in
theorem zi_134_659 : (zM 134).1[659]? = some (.iconst 20) := by rfl
set_option maxRecDepth 20000 in
theorem zi_134_660 : (zM 134).1[660]? = some (.iastore) := by rfl
set_option maxRecDepth 20000 in
theorem zi_134_661 : (zM 134).1[661]? = some (.dup) := by rfl
set_option maxRecDepth 20000 in
theorem zi_134_662 : (zM 134).1[662]? = some (.iconst 7) := by rfl
set_option maxRecDepth 20000 in
theorem zi_134_663 : (zM 134).1[663]? = some (.iconst 0) := by rfl
set_option maxRecDepth 20000 in
theorem zi_134_664 : (zM 134).1[664]? = some (.iastore) := by rfl
set_option maxRecDepth 20000 in
theorem zi_134_665 : (zM 134).1[665]? = some (.dup) := by rfl
set_option maxRecDepth 20000 in
theorem zi_134_666 : (zM 134).1[666]? = some (.iconst 8) := by rfl
set_option maxRecDepth 20000 in
theorem zi_134_667 : (zM 134).1[667]? = some (.iconst 0) := by rfl
set_option maxRecDepth 20000 in
theorem zi_134_668 : (zM 134).1[668]? = some (.iastore) := by rfl
set_option maxRecDepth 20000 in
theorem zi_134_669 : (zM 134).1[669]? = some (.dup) := by rfl
set_option maxRecDepth 20000 in
theorem zi_134_670 : (zM 134).1[670]? = some (.iconst 9) := by rfl
set_option maxRecDepth 20000 in
theorem zi_134_671 : (zM 134).1[671]? = some (.iconst 0) := by rfl
set_option maxRecDepth 20000 in
theorem zi_134_672 : (zM 134).1[672]? = some (.iastore) := by rfl
set_option maxRecDepth 20000 in
theorem zi_134_673 : (zM 134).1[673]? = some (.dup) := by rfl
set_option maxRecDepth 20000 in
theorem zi_134_674 : (zM 134).1[674]? = some (.iconst 10) := by rfl
set_option maxRecDepth 20000 in
theorem zi_134_675 : (zM 134).1[675]? = some (.iconst 0) := by rfl
set_option maxRecDepth 20000 in
theorem zi_134_676 : (zM 134).1[676]? = some (.iastore) := by rfl
set_option maxRecDepth 20000 in
theorem zi_134_677 : (zM 134).1[677]? = some (.dup) := by rfl
set_option maxRecDepth 20000 in
theorem zi_134_678 : (zM 134).1[678]? = some (.iconst 11) := by rfl
set_option maxRecDepth 20000 in
theorem zi_134_679 : (zM 134).1[679]? = some (.iconst 0) := by rfl
set_option maxRecDepth 20000 in
theorem zi_134_680 : (zM 134).1[680]? = some (.iastore) := by rfl
set_option maxRecDepth 20000 in
theorem zi_134_681 : (zM 134).1[681]? = some (.dup) := by rfl
set_option maxRecDepth 20000 in
theorem zi_134_682 : (zM 134).1[682]? = some (.iconst 12) := by rfl
set_option maxRecDepth 20000 in
theorem zi_134_683 : (zM 134).1[683]? = some (.iconst 0) := by rfl
set_option maxRecDepth 20000 in
theorem zi_134_684 : (zM 134).1[684]? = some (.iastore) := by rfl
set_option maxRecDepth 20000 in
theorem zi_134_685 : (zM 134).1[685]? = some (.dup) := by rfl
set_option maxRecDepth 20000 in
theorem zi_134_686 : (zM 134).1[686]? = some (.iconst 13) := by rfl
set_option maxRecDepth 20000 in
theorem zi_134_687 : (zM 134).1[687]? = some (.iconst 0) := by rfl
set_option maxRecDepth 20000 in
theorem zi_134_688 : (zM 134).1[688]? = some (.iastore) := by rfl
set_option maxRecDepth 20000 in
theorem zi_134_689 : (zM 134).1[689]? = some (.dup) := by rfl
set_option maxRecDepth 20000 in
theorem zi_134_690 : (zM 134).1[690]? = some (.iconst 14) := by rfl
set_option maxRecDepth 20000 in
theorem zi_134_691 : (zM 134).1[691]? = some (.iconst 10) := by rfl
set_option maxRecDepth 20000 in
theorem zi_134_692 : (zM 134).1[692]? = some (.iastore) := by rfl
set_option maxRecDepth 20000 in
theorem zi_134_693 : (zM 134).1[693]? = some (.dup) := by rfl
set_option maxRecDepth 20000 in
theorem zi_134_694 : (zM 134).1[694]? = some (.iconst 15) := by rfl
set_option maxRecDepth 20000 in
theorem zi_134_695 : (zM 134).1[695]? = some (.iconst 1) := by rfl
set_option maxRecDepth 20000 in
theorem zi_134_696 : (zM 134).1[696]? = some (.iastore) := by rfl
set_option maxRecDepth 20000 in
theorem zi_134_697 : (zM 134).1[697]? = some (.dup) := by rfl
set_option maxRecDepth 20000 in
theorem zi_134_698 : (zM 134).1[698]? = some (.iconst 16) := by rfl
set_option maxRecDepth 20000 in
theorem zi_134_699 : (zM 134).1[699]? = some (.iconst 15) := by rfl
set_option maxRecDepth 20000 in
theorem zi_134_700 : (zM 134).1[700]? = some (.iastore) := by rfl
set_option maxRecDepth 20000 in
theorem zi_134_701 : (zM 134).1[701]? = some (.dup) := by rfl
set_option maxRecDepth 20000 in
theorem zi_134_702 : (zM 134).1[702]? = some (.iconst 17) := by rfl
set_option maxRecDepth 20000 in
theorem zi_134_703 : (zM 134).1[703]? = some (.iconst 20) := by rfl
set_option maxRecDepth 20000 in
theorem zi_134_704 : (zM 134).1[704]? = some (.iastore) := by rfl
set_option maxRecDepth 20000 in
theorem zi_134_705 : (zM 134).1[705]? = some (.dup) := by rfl
set_option maxRecDepth 20000 in
theorem zi_134_706 : (zM 134).1[706]? = some (.iconst 18) := by rfl
set_option maxRecDepth 20000 in
theorem zi_134_707 : (zM 134).1[707]? = some (.iconst 30) := by rfl
set_option maxRecDepth 20000 in
theorem zi_134_708 : (zM 134).1[708]? = some (.iastore) := by rfl
set_option maxRecDepth 20000 in
theorem zi_134_709 : (zM 134).1[709]? = some (.dup) := by rfl
set_option maxRecDepth 20000 in
theorem zi_134_710 : (zM 134).1[710]? = some (.iconst 19) := by rfl
set_option maxRecDepth 20000 in
theorem zi_134_711 : (zM 134).1[711]? = some (.iconst 2) := by rfl
set_option maxRecDepth 20000 in
theorem zi_134_712 : (zM 134).1[712]? = some (.iastore) := by rfl
set_option maxRecDepth 20000 in
theorem zi_134_713 : (zM 134).1[713]? = some (.dup) := by rfl
set_option maxRecDepth 20000 in
theorem zi_134_714 : (zM 134).1[714]? = some (.iconst 20) := by rfl
set_option maxRecDepth 20000 in
theorem zi_134_715 : (zM 134).1[715]? = some (.iconst 1) := by rfl
set_option maxRecDepth 20000 in
theorem zi_134_716 : (zM 134).1[716]? = some (.iastore) := by rfl
set_option maxRecDepth 20000 in
theorem zi_134_717 : (zM 134).1[717]? = some (.dup) := by rfl
set_option maxRecDepth 20000 in
theorem zi_134_718 : (zM 134).1[718]? = some (.iconst 21) := by rfl
set_option maxRecDepth 20000 in
theorem zi_134_719 : (zM 134).1[719]? = some (.iconst 1) := by rfl
set_option maxRecDepth 20000 in
theorem zi_134_720 : (zM 134).1[720]? = some (.iastore) := by rfl
set_option maxRecDepth 20000 in
theorem zi_134_721 : (zM 134).1[721]? = some (.dup) := by rfl
set_option maxRecDepth 20000 in
theorem zi_134_722 : (zM 134).1[722]? = some (.iconst 22) := by rfl
set_option maxRecDepth 20000 in
theorem zi_134_723 : (zM 134).1[723]? = some (.iconst 1) := by rfl
set_option maxRecDepth 20000 in
theorem zi_134_724 : (zM 134).1[724]? = some (.iastore) := by rfl
set_option maxRecDepth 20000 in
theorem zi_134_725 : (zM 134).1[725]? = some (.dup) := by rfl
set_option maxRecDepth 20000 in
theorem zi_134_726 : (zM 134).1[726]? = some (.iconst 23) := by rfl
set_option maxRecDepth 20000 in
theorem zi_134_727 : (zM 134).1[727]? = some (.iconst 2) := by rfl
set_option maxRecDepth 20000 in
theorem zi_134_728 : (zM 134).1[728]? = some (.iastore) := by rfl
set_option maxRecDepth 20000 in
theorem zi_134_729 : (zM 134).1[729]? = some (.dup) := by rfl
set_option maxRecDepth 20000 in
theorem zi_134_730 : (zM 134).1[730]? = some (.iconst 24) := by rfl
set_option maxRecDepth 20000 in
theorem zi_134_731 : (zM 134).1[731]? = some (.iconst 1) := by rfl
set_option maxRecDepth 20000 in
theorem zi_134_732 : (zM 134).1[732]? = some (.iastore) := by rfl
set_option maxRecDepth 20000 in
theorem zi_134_733 : (zM 134).1[733]? = some (.dup) := by rfl
set_option maxRecDepth 20000 in
theorem zi_134_734 : (zM 134).1[734]? = some (.iconst 25) := by rfl
set_option maxRecDepth 20000 in
theorem zi_134_735 : (zM 134).1[735]? = some (.iconst 1) := by rfl
set_option maxRecDepth 20000 in
theorem zi_134_736 : (zM 134).1[736]? = some (.iastore) := by rfl
set_option maxRecDepth 20000 in
theorem zi_134_737 : (zM 134).1[737]? = some (.dup) := by rfl
set_option maxRecDepth 20000 in
theorem zi_134_738 : (zM 134).1[738]? = some (.iconst 26) := by rfl
set_option maxRecDepth 20000 in
theorem zi_134_739 : (zM 134).1[739]? = some (.iconst 1) := by rfl
set_option maxRecDepth 20000 in
theorem zi_134_740 : (zM 134).1[740]? = some (.iastore) := by rfl
set_option maxRecDepth 20000 in
theorem zi_134_741 : (zM 134).1[741]? = some (.dup) := by rfl
set_option maxRecDepth 20000 in
theorem zi_134_742 : (zM 134).1[742]? = some (.iconst 27) := by rfl
set_option maxRecDepth 20000 in
theorem zi_134_743 : (zM 134).1[743]? = some (.iconst 2) := by rfl
set_option maxRecDepth 20000 in
theorem zi_134_744 : (zM 134).1[744]? = some (.iastore) := by rfl
set_option maxRecDepth 20000 in
theorem zi_134_745 : (zM 134).1[745]? = some (.putfield 11212) := by rfl
set_option maxRecDepth 20000 in
theorem zi_134_746 : (zM 134).1[746]? = some (.aload 0) := by rfl
set_option maxRecDepth 20000 in
theorem zi_134_747 : (zM 134).1[747]? = some (.iconst 16) := by rfl
set_option maxRecDepth 20000 in
theorem zi_134_748 : (zM 134).1[748]? = some (.newarray .int) := by rfl
set_option maxRecDepth 20000 in
theorem zi_134_749 : (zM 134).1[749]? = some (.dup) := by rfl
set_option maxRecDepth 20000 in
theorem zi_134_750 : (zM 134).1[750]? = some (.iconst 0) := by rfl
set_option maxRecDepth 20000 in
theorem zi_134_751 : (zM 134).1[751]? = some (.iconst 1) := by rfl
set_option maxRecDepth 20000 in
theorem zi_134_752 : (zM 134).1[752]? = some (.iastore) := by rfl
set_option maxRecDepth 20000 in
theorem zi_134_753 : (zM 134).1[753]? = some (.dup) := by rfl
set_option maxRecDepth 20000 in
theorem zi_134_754 : (zM 134).1[754]? = some (.iconst 1) := by rfl
set_option maxRecDepth 20000 in
theorem zi_134_755 : (zM 134).1[755]? = some (.iconst 1) := by rfl
set_option maxRecDepth 20000 in
theorem zi_134_756 : (zM 134).1[756]? = some (.iastore) := by rfl
set_option maxRecDepth 20000 in
theorem zi_134_757 : (zM 134).1[757]? = some (.dup) := by rfl
set_option maxRecDepth 20000 in
theorem zi_134_758 : (zM 134).1[758]? = some (.iconst 2) := by rfl
set_option maxRecDepth 20000 in
theorem zi_134_759 : (zM 134).1[759]? = some (.iconst 1) := by rfl
set_option maxRecDepth 20000 in
theorem zi_134_760 : (zM 134).1[760]? = some (.iastore) := by rfl
set_option maxRecDepth 20000 in
theorem zi_134_761 : (zM 134).1[761]? = some (.dup) := by rfl
set_option maxRecDepth 20000 in
theorem zi_134_762 : (zM 134).1[762]? = some (.iconst 3) := by rfl
set_option maxRecDepth 20000 in
theorem zi_134_763 : (zM 134).1[763]? = some (.iconst 0) := by rfl
set_option maxRecDepth 20000 in
theorem zi_134_764 : (zM 134).1[764]? = some (.iastore) := by rfl
set_option maxRecDepth 20000 in
theorem zi_134_765 : (zM 134).1[765]? = some (.dup) := by rfl
set_option maxRecDepth 20000 in
theorem zi_134_766 : (zM 134).1[766]? = some (.iconst 4) := by rfl
set_option maxRecDepth 20000 in
theorem zi_134_767 : (zM 134).1[767]? = some (.iconst 0) := by rfl
set_option maxRecDepth 20000 in
theorem zi_134_768 : (zM 134).1[768]? = some (.iastore) := by rfl
set_option maxRecDepth 20000 in
theorem zi_134_769 : (zM 134).1[769]? = some (.dup) := by rfl
set_option maxRecDepth 20000 in
theorem zi_134_770 : (zM 134).1[770]? = some (.iconst 5) := by rfl
set_option maxRecDepth 20000 in
theorem zi_134_771 : (zM 134).1[771]? = some (.iconst 0) := by rfl
set_option maxRecDepth 20000 in
theorem zi_134_772 : (zM 134).1[772]? = some (.iastore) := by rfl
set_option maxRecDepth 20000 in
theorem zi_134_773 : (zM 134).1[773]? = some (.dup) := by rfl
set_option maxRecDepth 20000 in
theorem zi_134_774 : (zM 134).1[774]? = some (.iconst 6) := by rfl
set_option maxRecDepth 20000 in
theorem zi_134_775 : (zM 134).1[775]? = some (.iconst 1) := by rfl
set_option maxRecDepth 20000 in
theorem zi_134_776 : (zM 134).1[776]? = some (.iastore) := by rfl
set_option maxRecDepth 20000 in
theorem zi_134_777 : (zM 134).1[777]? = some (.dup) := by rfl
set_option maxRecDepth 20000 in
theorem zi_134_778 : (zM 134).1[778]? = some (.iconst 7) := by rfl
set_option maxRecDepth 20000 in
theorem zi_134_779 : (zM 134).1[779]? = some (.iconst 0) := by rfl
set_option maxRecDepth 20000 in
theorem zi_134_780 : (zM 134).1[780]? = some (.iastore) := by rfl
set_option maxRecDepth 20000 in
theorem zi_134_781 : (zM 134).1[781]? = some (.dup) := by rfl
set_option maxRecDepth 20000 in
theorem zi_134_782 : (zM 134).1[782]? = some (.iconst 8) := by rfl
set_option maxRecDepth 20000 in
theorem zi_134_783 : (zM 134).1[783]? = some (.iconst 0) := by rfl
set_option maxRecDepth 20000 in
theorem zi_134_784 : (zM 134).1[784]? = some (.iastore) := by rfl
set_option maxRecDepth 20000 in
theorem zi_134_785 : (zM 134).1[785]? = some (.dup) := by rfl
set_option maxRecDepth 20000 in
theorem zi_134_786 : (zM 134).1[786]? = some (.iconst 9) := by rfl
set_option maxRecDepth 20000 in
theorem zi_134_787 : (zM 134).1[787]? = some (.iconst 0) := by rfl
set_option maxRecDepth 20000 in
theorem zi_134_788 : (zM 134).1[788]? = some (.iastore) := by rfl
set_option maxRecDepth 20000 in
theorem zi_134_789 : (zM 134).1[789]? = some (.dup) := by rfl
set_option maxRecDepth 20000 in
theorem zi_134_790 : (zM 134).1[790]? = some (.iconst 10) := by rfl
set_option maxRecDepth 20000 in
theorem zi_134_791 : (zM 134).1[791]? = some (.iconst 0) := by rfl
set_option maxRecDepth 20000 in
theorem zi_134_792 : (zM 134).1[792]? = some (.iastore) := by rfl
set_option maxRecDepth 20000 in
theorem zi_134_793 : (zM 134).1[793]? = some (.dup) := by rfl
set_option maxRecDepth 20000 in
theorem zi_134_794 : (zM 134).1[794]? = some (.iconst 11) := by rfl
set_option maxRecDepth 20000 in
theorem zi_134_795 : (zM 134).1[795]? = some (.iconst 0) := by rfl
set_option maxRecDepth 20000 in
theorem zi_134_796 : (zM 134).1[796]? = some (.iastore) := by rfl
set_option maxRecDepth 20000 in
theorem zi_134_797 : (zM 134).1[797]? = some (.dup) := by rfl
set_option maxRecDepth 20000 in
theorem zi_134_798 : (zM 134).1[798]? = some (.iconst 12) := by rfl
set_option maxRecDepth 20000 in
theorem zi_134_799 : (zM 134).1[799]? = some (.iconst 0) := by rfl
set_option maxRecDepth 20000 in
theorem zi_134_800 : (zM 134).1[800]? = some (.iastore) := by rfl
set_option maxRecDepth 20000 in
theorem zi_134_801 : (zM 134).1[801]? = some (.dup) := by rfl
set_option maxRecDepth 20000 in
theorem zi_134_802 : (zM 134).1[802]? = some (.iconst 13) := by rfl
set_option maxRecDepth 20000 in
theorem zi_134_803 : (zM 134).1[803]? = some (.iconst 0) := by rfl
set_option maxRecDepth 20000 in
theorem zi_134_804 : (zM 134).1[804]? = some (.iastore) := by rfl
set_option maxRecDepth 20000 in
theorem zi_134_805 : (zM 134).1[805]? = some (.dup) := by rfl
set_option maxRecDepth 20000 in
theorem zi_134_806 : (zM 134).1[806]? = some (.iconst 14) := by rfl
set_option maxRecDepth 20000 in
theorem zi_134_807 : (zM 134).1[807]? = some (.iconst 0) := by rfl
set_option maxRecDepth 20000 in
theorem zi_134_808 : (zM 134).1[808]? = some (.iastore) := by rfl
set_option maxRecDepth 20000 in
theorem zi_134_809 : (zM 134).1[809]? = some (.dup) := by rfl
set_option maxRecDepth 20000 in
theorem zi_134_810 : (zM 134).1[810]? = some (.iconst 15) := by rfl
set_option maxRecDepth 20000 in
theorem zi_134_811 : (zM 134).1[811]? = some (.iconst 0) := by rfl
set_option maxRecDepth 20000 in
theorem zi_134_812 : (zM 134).1[812]? = some (.iastore) := by rfl
set_option maxRecDepth 20000 in
theorem zi_134_813 : (zM 134).1[813]? = some (.putfield 11213) := by rfl
set_option maxRecDepth 20000 in
theorem zi_134_814 : (zM 134).1[814]? = some (.aload 0) := by rfl
set_option maxRecDepth 20000 in
theorem zi_134_815 : (zM 134).1[815]? = some (.iconst 16) := by rfl
set_option maxRecDepth 20000 in
theorem zi_134_816 : (zM 134).1[816]? = some (.newarray .int) := by rfl
set_option maxRecDepth 20000 in
theorem zi_134_817 : (zM 134).1[817]? = some (.dup) := by rfl
set_option maxRecDepth 20000 in
theorem zi_134_818 : (zM 134).1[818]? = some (.iconst 0) := by rfl
set_option maxRecDepth 20000 in
theorem zi_134_819 : (zM 134).1[819]? = some (.iconst 4) := by rfl
set_option maxRecDepth 20000 in
theorem zi_134_820 : (zM 134).1[820]? = some (.iastore) := by rfl
set_option maxRecDepth 20000 in
theorem zi_134_821 : (zM 134).1[821]? = some (.dup) := by rfl
set_option maxRecDepth 20000 in
theorem zi_134_822 : (zM 134).1[822]? = some (.iconst 1) := by rfl
set_option maxRecDepth 20000 in
theorem zi_134_823 : (zM 134).1[823]? = some (.iconst 5) := by rfl
set_option maxRecDepth 20000 in
theorem zi_134_824 : (zM 134).1[824]? = some (.iastore) := by rfl
set_option maxRecDepth 20000 in
theorem zi_134_825 : (zM 134).1[825]? = some (.dup) := by rfl
set_option maxRecDepth 20000 in
theorem zi_134_826 : (zM 134).1[826]? = some (.iconst 2) := by rfl
set_option maxRecDepth 20000 in
theorem zi_134_827 : (zM 134).1[827]? = some (.iconst 16) := by rfl
set_option maxRecDepth 20000 in
theorem zi_134_828 : (zM 134).1[828]? = some (.iastore) := by rfl
set_option maxRecDepth 20000 in
theorem zi_134_829 : (zM 134).1[829]? = some (.dup) := by rfl
set_option maxRecDepth 20000 in
theorem zi_134_830 : (zM 134).1[830]? = some (.iconst 3) := by rfl
set_option maxRecDepth 20000 in
theorem zi_134_831 : (zM 134).1[831]? = some (.iconst 4) := by rfl
set_option maxRecDepth 20000 in
theorem zi_134_832 : (zM 134).1[832]? = some (.iastore) := by rfl
set_option maxRecDepth 20000 in
theorem zi_134_833 : (zM 134).1[833]? = some (.dup) := by rfl
set_option maxRecDepth 20000 in
theorem zi_134_834 : (zM 134).1[834]? = some (.iconst 4) := by rfl
set_option maxRecDepth 20000 in
theorem zi_134_835 : (zM 134).1[835]? = some (.iconst 4) := by rfl
set_option maxRecDepth 20000 in
theorem zi_134_836 : (zM 134).1[836]? = some (.iastore) := by rfl
set_option maxRecDepth 20000 in
theorem zi_134_837 : (zM 134).1[837]? = some (.dup) := by rfl
set_option maxRecDepth 20000 in
theorem zi_134_838 : (zM 134).1[838]? = some (.iconst 5) := by rfl
set_option maxRecDepth 20000 in
theorem zi_134_839 : (zM 134).1[839]? = some (.iconst 100) := by rfl
set_option maxRecDepth 20000 in
theorem zi_134_840 : (zM 134).1[840]? = some (.iastore) := by rfl
set_option maxRecDepth 20000 in
theorem zi_134_841 : (zM 134).1[841]? = some (.dup) := by rfl
set_option maxRecDepth 20000 in
theorem zi_134_842 : (zM 134).1[842]? = some (.iconst 6) := by rfl
set_option maxRecDepth 20000 in
theorem zi_134_843 : (zM 134).1[843]? = some (.iconst 60) := by rfl
set_option maxRecDepth 20000 in
theorem zi_134_844 : (zM 134).1[844]? = some (.iastore) := by rfl
set_option maxRecDepth 20000 in
theorem zi_134_845 : (zM 134).1[845]? = some (.dup) := by rfl
set_option maxRecDepth 20000 in
theorem zi_134_846 : (zM 134).1[846]? = some (.iconst 7) := by rfl
set_option maxRecDepth 20000 in
theorem zi_134_847 : (zM 134).1[847]? = some (.iconst 100) := by rfl
set_option maxRecDepth 20000 in
theorem zi_134_848 : (zM 134).1[848]? = some (.iastore) := by rfl
set_option maxRecDepth 20000 in
theorem zi_134_849 : (zM 134).1[849]? = some (.dup) := by rfl
set_option maxRecDepth 20000 in
theorem zi_134_850 : (zM 134).1[850]? = some (.iconst 8) := by rfl
set_option maxRecDepth 20000 in
theorem zi_134_851 : (zM 134).1[851]? = some (.iconst 20) := by rfl
set_option maxRecDepth 20000 in
theorem zi_134_852 : (zM 134).1[852]? = some (.iastore) := by rfl
set_option maxRecDepth 20000 in
theorem zi_134_853 : (zM 134).1[853]? = some (.dup) := by rfl
set_option maxRecDepth 20000 in
theorem zi_134_854 : (zM 134).1[854]? = some (.iconst 9) := by rfl
set_option maxRecDepth 20000 in
theorem zi_134_855 : (zM 134).1[855]? = some (.iconst 0) := by rfl
set_option maxRecDepth 20000 in
theorem zi_134_856 : (zM 134).1[856]? = some (.iastore) := by rfl
set_option maxRecDepth 20000 in
theorem zi_134_857 : (zM 134).1[857]? = some (.dup) := by rfl
set_option maxRecDepth 20000 in
theorem zi_134_858 : (zM 134).1[858]? = some (.iconst 10) := by rfl
set_option maxRecDepth 20000 in
theorem zi_134_859 : (zM 134).1[859]? = some (.iconst 60) := by rfl
set_option maxRecDepth 20000 in
theorem zi_134_860 : (zM 134).1[860]? = some (.iastore) := by rfl
set_option maxRecDepth 20000 in
theorem zi_134_861 : (zM 134).1[861]? = some (.dup) := by rfl
set_option maxRecDepth 20000 in
theorem zi_134_862 : (zM 134).1[862]? = some (.iconst 11) := by rfl
set_option maxRecDepth 20000 in
theorem zi_134_863 : (zM 134).1[863]? = some (.iconst 0) := by rfl
set_option maxRecDepth 20000 in
theorem zi_134_864 : (zM 134).1[864]? = some (.iastore) := by rfl
set_option maxRecDepth 20000 in
theorem zi_134_865 : (zM 134).1[865]? = some (.dup) := by rfl
set_option maxRecDepth 20000 in
theorem zi_134_866 : (zM 134).1[866]? = some (.iconst 12) := by rfl
set_option maxRecDepth 20000 in
theorem zi_134_867 : (zM 134).1[867]? = some (.iconst 0) := by rfl
set_option maxRecDepth 20000 in
theorem zi_134_868 : (zM 134).1[868]? = some (.iastore) := by rfl
set_option maxRecDepth 20000 in
theorem zi_134_869 : (zM 134).1[869]? = some (.dup) := by rfl
set_option maxRecDepth 20000 in
theorem zi_134_870 : (zM 134).1[870]? = some (.iconst 13) := by rfl
set_option maxRecDepth 20000 in
theorem zi_134_871 : (zM 134).1[871]? = some (.iconst 0) := by rfl
set_option maxRecDepth 20000 in
theorem zi_134_872 : (zM 134).1[872]? = some (.iastore) := by rfl
set_option maxRecDepth 20000 in
theorem zi_134_873 : (zM 134).1[873]? = some (.dup) := by rfl
set_option maxRecDepth 20000 in
theorem zi_134_874 : (zM 134).1[874]? = some (.iconst 14) := by rfl
set_option maxRecDepth 20000 in
theorem zi_134_875 : (zM 134).1[875]? = some (.iconst 60) := by rfl
set_option maxRecDepth 20000 in
theorem zi_134_876 : (zM 134).1[876]? = some (.iastore) := by rfl
set_option maxRecDepth 20000 in
theorem zi_134_877 : (zM 134).1[877]? = some (.dup) := by rfl
set_option maxRecDepth 20000 in
theorem zi_134_878 : (zM 134).1[878]? = some (.iconst 15) := by rfl
set_option maxRecDepth 20000 in
theorem zi_134_879 : (zM 134).1[879]? = some (.iconst 2) := by rfl
set_option maxRecDepth 20000 in
theorem zi_134_880 : (zM 134).1[880]? = some (.iastore) := by rfl
set_option maxRecDepth 20000 in
theorem zi_134_881 : (zM 134).1[881]? = some (.putfield 11214) := by rfl
set_option maxRecDepth 20000 in
theorem zi_134_882 : (zM 134).1[882]? = some (.aload 0) := by rfl
set_option maxRecDepth 20000 in
theorem zi_134_883 : (zM 134).1[883]? = some (.iconst 28) := by rfl
set_option maxRecDepth 20000 in
theorem zi_134_884 : (zM 134).1[884]? = some (.newarray .int) := by rfl
set_option maxRecDepth 20000 in
theorem zi_134_885 : (zM 134).1[885]? = some (.dup) := by rfl
set_option maxRecDepth 20000 in
theorem zi_134_886 : (zM 134).1[886]? = some (.iconst 0) := by rfl
set_option maxRecDepth 20000 in
theorem zi_134_887 : (zM 134).1[887]? = some (.iconst 2) := by rfl
set_option maxRecDepth 20000 in
theorem zi_134_888 : (zM 134).1[888]? = some (.iastore) := by rfl
set_option maxRecDepth 20000 in
theorem zi_134_889 : (zM 134).1[889]? = some (.dup) := by rfl
set_option maxRecDepth 20000 in
theorem zi_134_890 : (zM 134).1[890]? = some (.iconst 1) := by rfl
set_option maxRecDepth 20000 in
theorem zi_134_891 : (zM 134).1[891]? = some (.iconst 4) := by rfl
set_option maxRecDepth 20000 in
theorem zi_134_892 : (zM 134).1[892]? = some (.iastore) := by rfl
set_option maxRecDepth 20000 in
theorem zi_134_893 : (zM 134).1[893]? = some (.dup) := by rfl
set_option maxRecDepth 20000 in
theorem zi_134_894 : (zM 134).1[894]? = some (.iconst 2) := by rfl
set_option maxRecDepth 20000 in
theorem zi_134_895 : (zM 134).1[895]? = some (.iconst 8) := by rfl
set_option maxRecDepth 20000 in
theorem zi_134_896 : (zM 134).1[896]? = some (.iastore) := by rfl
set_option maxRecDepth 20000 in
theorem zi_134_897 : (zM 134).1[897]? = some (.dup) := by rfl
set_option maxRecDepth 20000 in
theorem zi_134_898 : (zM 134).1[898]? = some (.iconst 3) := by rfl
set_option maxRecDepth 20000 in
theorem zi_134_899 : (zM 134).1[899]? = some (.iconst 0) := by rfl
set_option maxRecDepth 20000 in
theorem zi_134_900 : (zM 134).1[900]? = some (.iastore) := by rfl
set_option maxRecDepth 20000 in
theorem zi_134_901 : (zM 134).1[901]? = some (.dup) := by rfl
set_option maxRecDepth 20000 in
theorem zi_134_902 : (zM 134).1[902]? = some (.iconst 4) := by rfl
set_option maxRecDepth 20000 in
theorem zi_134_903 : (zM 134).1[903]? = some (.iconst 3) := by rfl
set_option maxRecDepth 20000 in
theorem zi_134_904 : (zM 134).1[904]? = some (.iastore) := by rfl
set_option maxRecDepth 20000 in
theorem zi_134_905 : (zM 134).1[905]? = some (.dup) := by rfl
set_option maxRecDepth 20000 in
theorem zi_134_906 : (zM 134).1[906]? = some (.iconst 5) := by rfl
set_option maxRecDepth 20000 in
theorem zi_134_907 : (zM 134).1[907]? = some (.iconst 80) := by rfl
set_option maxRecDepth 20000 in
theorem zi_134_908 : (zM 134).1[908]? = some (.iastore) := by rfl
set_option maxRecDepth 20000 in
theorem zi_134_909 : (zM 134).1[909]? = some (.dup) := by rfl
set_option maxRecDepth 20000 in
theorem zi_134_910 : (zM 134).1[910]? = some (.iconst 6) := by rfl
set_option maxRecDepth 20000 in
theorem zi_134_911 : (zM 134).1[911]? = some (.iconst 20) := by rfl
set_option maxRecDepth 20000 in
theorem zi_134_912 : (zM 134).1[912]? = some (.iastore) := by rfl
set_option maxRecDepth 20000 in
theorem zi_134_913 : (zM 134).1[913]? = some (.dup) := by rfl
set_option maxRecDepth 20000 in
theorem zi_134_914 : (zM 134).1[914]? = some (.iconst 7) := by rfl
set_option maxRecDepth 20000 in
theorem zi_134_915 : (zM 134).1[915]? = some (.iconst 0) := by rfl
set_option maxRecDepth 20000 in
theorem zi_134_916 : (zM 134).1[916]? = some (.iastore) := by rfl
set_option maxRecDepth 20000 in
theorem zi_134_917 : (zM 134).1[917]? = some (.dup) := by rfl
set_option maxRecDepth 20000 in
theorem zi_134_918 : (zM 134).1[918]? = some (.iconst 8) := by rfl
set_option maxRecDepth 20000 in
theorem zi_134_919 : (zM 134).1[919]? = some (.iconst 0) := by rfl
set_option maxRecDepth 20000 in
theorem zi_134_920 : (zM 134).1[920]? = some (.iastore) := by rfl
set_option maxRecDepth 20000 in
theorem zi_134_921 : (zM 134).1[921]? = some (.dup) := by rfl
set_option maxRecDepth 20000 in
theorem zi_134_922 : (zM 134).1[922]? = some (.iconst 9) := by rfl
set_option maxRecDepth 20000 in
theorem zi_134_923 : (zM 134).1[923]? = some (.iconst 0) := by rfl
set_option maxRecDepth 20000 in
theorem zi_134_924 : (zM 134).1[924]? = some (.iastore) := by rfl
set_option maxRecDepth 20000 in
theorem zi_134_925 : (zM 134).1[925]? = some (.dup) := by rfl
set_option maxRecDepth 20000 in
theorem zi_134_926 : (zM 134).1[926]? = some (.iconst 10) := by rfl
set_option maxRecDepth 20000 in
theorem zi_134_927 : (zM 134).1[927]? = some (.iconst 0) := by rfl
set_option maxRecDepth 20000 in
theorem zi_134_928 : (zM 134).1[928]? = some (.iastore) := by rfl
set_option maxRecDepth 20000 in
theorem zi_134_929 : (zM 134).1[929]? = some (.dup) := by rfl
set_option maxRecDepth 20000 in
theorem zi_134_930 : (zM 134).1[930]? = some (.iconst 11) := by rfl
set_option maxRecDepth 20000 in
theorem zi_134_931 : (zM 134).1[931]? = some (.iconst 0) := by rfl
set_option maxRecDepth 20000 in
theorem zi_134_932 : (zM 134).1[932]? = some (.iastore) := by rfl
set_option maxRecDepth 20000 in
theorem zi_134_933 : (zM 134).1[933]? = some (.dup) := by rfl
set_option maxRecDepth 20000 in
theorem zi_134_934 : (zM 134).1[934]? = some (.iconst 12) := by rfl
set_option maxRecDepth 20000 in
theorem zi_134_935 : (zM 134).1[935]? = some (.iconst 0) := by rfl
set_option maxRecDepth 20000 in
theorem zi_134_936 : (zM 134).1[936]? = some (.iastore) := by rfl
set_option maxRecDepth 20000 in
theorem zi_134_937 : (zM 134).1[937]? = some (.dup) := by rfl
set_option maxRecDepth 20000 in
theorem zi_134_938 : (zM 134).1[938]? = some (.iconst 13) := by rfl
set_option maxRecDepth 20000 in
theorem zi_134_939 : (zM 134).1[939]? = some (.iconst 0) := by rfl
set_option maxRecDepth 20000 in
theorem zi_134_940 : (zM 134).1[940]? = some (.iastore) := by rfl
set_option maxRecDepth 20000 in
theorem zi_134_941 : (zM 134).1[941]? = some (.dup) := by rfl
set_option maxRecDepth 20000 in
theorem zi_134_942 : (zM 134).1[942]? = some (.iconst 14) := by rfl
set_option maxRecDepth 20000 in
theorem zi_134_943 : (zM 134).1[943]? = some (.iconst 10) := by rfl
set_option maxRecDepth 20000 in
theorem zi_134_944 : (zM 134).1[944]? = some (.iastore) := by rfl
set_option maxRecDepth 20000 in
theorem zi_134_945 : (zM 134).1[945]? = some (.dup) := by rfl
set_option maxRecDepth 20000 in
theorem zi_134_946 : (zM 134).1[946]? = some (.iconst 15) := by rfl
set_option maxRecDepth 20000 in
theorem zi_134_947 : (zM 134).1[947]? = some (.iconst 1) := by rfl
set_option maxRecDepth 20000 in
theorem zi_134_948 : (zM 134).1[948]? = some (.iastore) := by rfl
set_option maxRecDepth 20000 in
theorem zi_134_949 : (zM 134).1[949]? = some (.dup) := by rfl
set_option maxRecDepth 20000 in
theorem zi_134_950 : (zM 134).1[950]? = some (.iconst 16) := by rfl
set_option maxRecDepth 20000 in
theorem zi_134_951 : (zM 134).1[951]? = some (.iconst 15) := by rfl
set_option maxRecDepth 20000 in
theorem zi_134_952 : (zM 134).1[952]? = some (.iastore) := by rfl
set_option maxRecDepth 20000 in
theorem zi_134_953 : (zM 134).1[953]? = some (.dup) := by rfl
set_option maxRecDepth 20000 in
theorem zi_134_954 : (zM 134).1[954]? = some (.iconst 17) := by rfl
set_option maxRecDepth 20000 in
theorem zi_134_955 : (zM 134).1[955]? = some (.iconst 20) := by rfl
set_option maxRecDepth 20000 in
theorem zi_134_956 : (zM 134).1[956]? = some (.iastore) := by rfl
set_option maxRecDepth 20000 in
theorem zi_134_957 : (zM 134).1[957]? = some (.dup) := by rfl
set_option maxRecDepth 20000 in
theorem zi_134_958 : (zM 134).1[958]? = some (.iconst 18) := by rfl
set_option maxRecDepth 20000 in
theorem zi_134_959 : (zM 134).1[959]? = some (.iconst 30) := by rfl
set_option maxRecDepth 20000 in
theorem zi_134_960 : (zM 134).1[960]? = some (.iastore) := by rfl
set_option maxRecDepth 20000 in
theorem zi_134_961 : (zM 134).1[961]? = some (.dup) := by rfl
set_option maxRecDepth 20000 in
theorem zi_134_962 : (zM 134).1[962]? = some (.iconst 19) := by rfl
set_option maxRecDepth 20000 in
theorem zi_134_963 : (zM 134).1[963]? = some (.iconst 2) := by rfl
set_option maxRecDepth 20000 in
theorem zi_134_964 : (zM 134).1[964]? = some (.iastore) := by rfl
set_option maxRecDepth 20000 in
theorem zi_134_965 : (zM 134).1[965]? = some (.dup) := by rfl
set_option maxRecDepth 20000 in
theorem zi_134_966 : (zM 134).1[966]? = some (.iconst 20) := by rfl
set_option maxRecDepth 20000 in
theorem zi_134_967 : (zM 134).1[967]? = some (.iconst 1) := by rfl
set_option maxRecDepth 20000 in
theorem zi_134_968 : (zM 134).1[968]? = some (.iastore) := by rfl
set_option maxRecDepth 20000 in
theorem zi_134_969 : (zM 134).1[969]? = some (.dup) := by rfl
set_option maxRecDepth 20000 in
theorem zi_134_970 : (zM 134).1[970]? = some (.iconst 21) := by rfl
set_option maxRecDepth 20000 in
theorem zi_134_971 : (zM 134).1[971]? = some (.iconst 1) := by rfl
set_option maxRecDepth 20000 in
theorem zi_134_972 : (zM 134).1[972]? = some (.iastore) := by rfl
set_option maxRecDepth 20000 in
theorem zi_134_973 : (zM 134).1[973]? = some (.dup) := by rfl
set_option maxRecDepth 20000 in
theorem zi_134_974 : (zM 134).1[974]? = some (.iconst 22) := by rfl
set_option maxRecDepth 20000 in
theorem zi_134_975 : (zM 134).1[975]? = some (.iconst 1) := by rfl
set_option maxRecDepth 20000 in
theorem zi_134_976 : (zM 134).1[976]? = some (.iastore) := by rfl
set_option maxRecDepth 20000 in
theorem zi_134_977 : (zM 134).1[977]? = some (.dup) := by rfl
set_option maxRecDepth 20000 in
theorem zi_134_978 : (zM 134).1[978]? = some (.iconst 23) := by rfl
set_option maxRecDepth 20000 in
theorem zi_134_979 : (zM 134).1[979]? = some (.iconst 2) := by rfl
set_option maxRecDepth 20000 in
theorem zi_134_980 : (zM 134).1[980]? = some (.iastore) := by rfl
set_option maxRecDepth 20000 in
theorem zi_134_981 : (zM 134).1[981]? = some (.dup) := by rfl
set_option maxRecDepth 20000 in
theorem zi_134_982 : (zM 134).1[982]? = some (.iconst 24) := by rfl
set_option maxRecDepth 20000 in
theorem zi_134_983 : (zM 134).1[983]? = some (.iconst 1) := by rfl
set_option maxRecDepth 20000 in
theorem zi_134_984 : (zM 134).1[984]? = some (.iastore) := by rfl
set_option maxRecDepth 20000 in
theorem zi_134_985 : (zM 134).1[985]? = some (.dup) := by rfl
set_option maxRecDepth 20000 in
theorem zi_134_986 : (zM 134).1[986]? = some (.iconst 25) := by rfl
set_option maxRecDepth 20000 in
theorem zi_134_987 : (zM 134).1[987]? = some (.iconst 1) := by rfl
set_option maxRecDepth 20000 in
theorem zi_134_988 : (zM 134).1[988]? = some (.iastore) := by rfl
set_option maxRecDepth 20000 in
theorem zi_134_989 : (zM 134).1[989]? = some (.dup) := by rfl
set_option maxRecDepth 20000 in
theorem zi_134_990 : (zM 134).1[990]? = some (.iconst 26) := by rfl
set_option maxRecDepth 20000 in
theorem zi_134_991 : (zM 134).1[991]? = some (.iconst 1) := by rfl
set_option maxRecDepth 20000 in
theorem zi_134_992 : (zM 134).1[992]? = some (.iastore) := by rfl
set_option maxRecDepth 20000 in
theorem zi_134_993 : (zM 134).1[993]? = some (.dup) := by rfl
set_option maxRecDepth 20000 in
theorem zi_134_994 : (zM 134).1[994]? = some (.iconst 27) := by rfl
set_option maxRecDepth 20000 in
theorem zi_134_995 : (zM 134).1[995]? = some (.iconst 2) := by rfl
set_option maxRecDepth 20000 in
theorem zi_134_996 : (zM 134).1[996]? = some (.iastore) := by rfl
set_option maxRecDepth 20000 in
theorem zi_134_997 : (zM 134).1[997]? = some (.putfield 11215) := by rfl
set_option maxRecDepth 20000 in
theorem zi_134_998 : (zM 134).1[998]? = some (.aload 0) := by rfl
set_option maxRecDepth 20000 in
theorem zi_134_999 : (zM 134).1[999]? = some (.iconst 28) := by rfl
set_option maxRecDepth 20000 in
theorem zi_134_1000 : (zM 134).1[1000]? = some (.newarray .int) := by rfl
set_option maxRecDepth 20000 in
theorem zi_134_1001 : (zM 134).1[1001]? = some (.putfield 11216) := by rfl
set_option maxRecDepth 20000 in
theorem zi_134_1002 : (zM 134).1[1002]? = some (.aload 0) := by rfl
set_option maxRecDepth 20000 in
theorem zi_134_1003 : (zM 134).1[1003]? = some (.iconst 20) := by rfl
set_option maxRecDepth 20000 in
theorem zi_134_1004 : (zM 134).1[1004]? = some (.newarray .int) := by rfl
set_option maxRecDepth 20000 in
theorem zi_134_1005 : (zM 134).1[1005]? = some (.dup) := by rfl
set_option maxRecDepth 20000 in
theorem zi_134_1006 : (zM 134).1[1006]? = some (.iconst 0) := by rfl
set_option maxRecDepth 20000 in
theorem zi_134_1007 : (zM 134).1[1007]? = some (.iconst (-4)) := by rfl
set_option maxRecDepth 20000 in
theorem zi_134_1008 : (zM 134).1[1008]? = some (.iastore) := by rfl
set_option maxRecDepth 20000 in
theorem zi_134_1009 : (zM 134).1[1009]? = some (.dup) := by rfl
set_option maxRecDepth 20000 in
theorem zi_134_1010 : (zM 134).1[1010]? = some (.iconst 1) := by rfl
set_option maxRecDepth 20000 in
theorem zi_134_1011 : (zM 134).1[1011]? = some (.iconst (-4)) := by rfl
set_option maxRecDepth 20000 in
theorem zi_134_1012 : (zM 134).1[1012]? = some (.iastore) := by rfl
set_option maxRecDepth 20000 in
theorem zi_134_1013 : (zM 134).1[1013]? = some (.dup) := by rfl
set_option maxRecDepth 20000 in
theorem zi_134_1014 : (zM 134).1[1014]? = some (.iconst 2) := by rfl
set_option maxRecDepth 20000 in
theorem zi_134_1015 : (zM 134).1[1015]? = some (.iconst (-4)) := by rfl
set_option maxRecDepth 20000 in
theorem zi_134_1016 : (zM 134).1[1016]? = some (.iastore) := by rfl
set_option maxRecDepth 20000 in
theorem zi_134_1017 : (zM 134).1[1017]? = some (.dup) := by rfl
set_option maxRecDepth 20000 in
theorem zi_134_1018 : (zM 134).1[1018]? = some (.iconst 3) := by rfl
set_option maxRecDepth 20000 in
theorem zi_134_1019 : (zM 134).1[1019]? = some (.iconst (-4)) := by rfl
set_option maxRecDepth 20000 in
theorem zi_134_1020 : (zM 134).1[1020]? = some (.iastore) := by rfl
set_option maxRecDepth 20000 in
theorem zi_134_1021 : (zM 134).1[1021]? = some (.dup) := by rfl
set_option maxRecDepth 20000 in
theorem zi_134_1022 : (zM 134).1[1022]? = some (.iconst 4) := by rfl
set_option maxRecDepth 20000 in
theorem zi_134_1023 : (zM 134).1[1023]? = some (.iconst (-4)) := by rfl
set_option maxRecDepth 20000 in
theorem zi_134_1024 : (zM 134).1[1024]? = some (.iastore) := by rfl
set_option maxRecDepth 20000 in
theorem zi_134_1025 : (zM 134).1[1025]? = some (.dup) := by rfl
set_option maxRecDepth 20000 in
theorem zi_134_1026 : (zM 134).1[1026]? = some (.iconst 5) := by rfl
set_option maxRecDepth 20000 in
theorem zi_134_1027 : (zM 134).1[1027]? = some (.iconst (-4)) := by rfl
set_option maxRecDepth 20000 in
theorem zi_134_1028 : (zM 134).1[1028]? = some (.iastore) := by rfl
set_option maxRecDepth 20000 in
theorem zi_134_1029 : (zM 134).1[1029]? = some (.dup) := by rfl
set_option maxRecDepth 20000 in
theorem zi_134_1030 : (zM 134).1[1030]? = some (.iconst 6) := by rfl
set_option maxRecDepth 20000 in
theorem zi_134_1031 : (zM 134).1[1031]? = some (.iconst (-4)) := by rfl
set_option maxRecDepth 20000 in
theorem zi_134_1032 : (zM 134).1[1032]? = some (.iastore) := by rfl
set_option maxRecDepth 20000 in
theorem zi_134_1033 : (zM 134).1[1033]? = some (.dup) := by rfl
set_option maxRecDepth 20000 in
theorem zi_134_1034 : (zM 134).1[1034]? = some (.iconst 7) := by rfl
set_option maxRecDepth 20000 in
theorem zi_134_1035 : (zM 134).1[1035]? = some (.iconst (-4)) := by rfl
set_option maxRecDepth 20000 in
theorem zi_134_1036 : (zM 134).1[1036]? = some (.iastore) := by rfl
set_option maxRecDepth 20000 in
theorem zi_134_1037 : (zM 134).1[1037]? = some (.dup) := by rfl
set_option maxRecDepth 20000 in
theorem zi_134_1038 : (zM 134).1[1038]? = some (.iconst 8) := by rfl
set_option maxRecDepth 20000 in
theorem zi_134_1039 : (zM 134).1[1039]? = some (.iconst (-4)) := by rfl
set_option maxRecDepth 20000 in
theorem zi_134_1040 : (zM 134).1[1040]? = some (.iastore) := by rfl
set_option maxRecDepth 20000 in
theorem zi_134_1041 : (zM 134).1[1041]? = some (.dup) := by rfl
set_option maxRecDepth 20000 in
theorem zi_134_1042 : (zM 134).1[1042]? = some (.iconst 9) := by rfl
set_option maxRecDepth 20000 in
theorem zi_134_1043 : (zM 134).1[1043]? = some (.iconst (-4)) := by rfl
set_option maxRecDepth 20000 in
theorem zi_134_1044 : (zM 134).1[1044]? = some (.iastore) := by rfl
set_option maxRecDepth 20000 in
theorem zi_134_1045 : (zM 134).1[1045]? = some (.dup) := by rfl
set_option maxRecDepth 20000 in
theorem zi_134_1046 : (zM 134).1[1046]? = some (.iconst 10) := by rfl
set_option maxRecDepth 20000 in
theorem zi_134_1047 : (zM 134).1[1047]? = some (.iconst (-4)) := by rfl
set_option maxRecDepth 20000 in
theorem zi_134_1048 : (zM 134).1[1048]? = some (.iastore) := by rfl
set_option maxRecDepth 20000 in
theorem zi_134_1049 : (zM 134).1[1049]? = some (.dup) := by rfl
set_option maxRecDepth 20000 in
theorem zi_134_1050 : (zM 134).1[1050]? = some (.iconst 11) := by rfl
set_option maxRecDepth 20000 in
theorem zi_134_1051 : (zM 134).1[1051]? = some (.iconst (-4)) := by rfl
set_option maxRecDepth 20000 in
theorem zi_134_1052 : (zM 134).1[1052]? = some (.iastore) := by rfl
set_option maxRecDepth 20000 in
theorem zi_134_1053 : (zM 134).1[1053]? = some (.dup) := by rfl
set_option maxRecDepth 20000 in
theorem zi_134_1054 : (zM 134).1[1054]? = some (.iconst 12) := by rfl
set_option maxRecDepth 20000 in
theorem zi_134_1055 : (zM 134).1[1055]? = some (.iconst (-4)) := by rfl
set_option maxRecDepth 20000 in
theorem zi_134_1056 : (zM 134).1[1056]? = some (.iastore) := by rfl
set_option maxRecDepth 20000 in
theorem zi_134_1057 : (zM 134).1[1057]? = some (.dup) := by rfl
set_option maxRecDepth 20000 in
theorem zi_134_1058 : (zM 134).1[1058]? = some (.iconst 13) := by rfl
set_option maxRecDepth 20000 in
theorem zi_134_1059 : (zM 134).1[1059]? = some (.iconst (-4)) := by rfl
set_option maxRecDepth 20000 in
theorem zi_134_1060 : (zM 134).1[1060]? = some (.iastore) := by rfl
set_option maxRecDepth 20000 in
theorem zi_134_1061 : (zM 134).1[1061]? = some (.dup) := by rfl
set_option maxRecDepth 20000 in
theorem zi_134_1062 : (zM 134).1[1062]? = some (.iconst 14) := by rfl
set_option maxRecDepth 20000 in
theorem zi_134_1063 : (zM 134).1[1063]? = some (.iconst (-4)) := by rfl
set_option maxRecDepth 20000 in
theorem zi_134_1064 : (zM 134).1[1064]? = some (.iastore) := by rfl
set_option maxRecDepth 20000 in
theorem zi_134_1065 : (zM 134).1[1065]? = some (.dup) := by rfl
set_option maxRecDepth 20000 in
theorem zi_134_1066 : (zM 134).1[1066]? = some (.iconst 15) := by rfl
set_option maxRecDepth 20000 in
theorem zi_134_1067 : (zM 134).1[1067]? = some (.iconst (-4)) := by rfl
set_option maxRecDepth 20000 in
theorem zi_134_1068 : (zM 134).1[1068]? = some (.iastore) := by rfl
set_option maxRecDepth 20000 in
theorem zi_134_1069 : (zM 134).1[1069]? = some (.dup) := by rfl
set_option maxRecDepth 20000 in
theorem zi_134_1070 : (zM 134).1[1070]? = some (.iconst 16) := by rfl
set_option maxRecDepth 20000 in
theorem zi_134_1071 : (zM 134).1[1071]? = some (.iconst (-4)) := by rfl
set_option maxRecDepth 20000 in
theorem zi_134_1072 : (zM 134).1[1072]? = some (.iastore) := by rfl
set_option maxRecDepth 20000 in
theorem zi_134_1073 : (zM 134).1[1073]? = some (.dup) := by rfl
set_option maxRecDepth 20000 in
theorem zi_134_1074 : (zM 134).1[1074]? = some (.iconst 17) := by rfl
set_option maxRecDepth 20000 in
theorem zi_134_1075 : (zM 134).1[1075]? = some (.iconst (-4)) := by rfl
set_option maxRecDepth 20000 in
theorem zi_134_1076 : (zM 134).1[1076]? = some (.iastore) := by rfl
set_option maxRecDepth 20000 in
theorem zi_134_1077 : (zM 134).1[1077]? = some (.dup) := by rfl
set_option maxRecDepth 20000 in
theorem zi_134_1078 : (zM 134).1[1078]? = some (.iconst 18) := by rfl
set_option maxRecDepth 20000 in
theorem zi_134_1079 : (zM 134).1[1079]? = some (.iconst (-4)) := by rfl
set_option maxRecDepth 20000 in
theorem zi_134_1080 : (zM 134).1[1080]? = some (.iastore) := by rfl
set_option maxRecDepth 20000 in
theorem zi_134_1081 : (zM 134).1[1081]? = some (.dup) := by rfl
set_option maxRecDepth 20000 in
theorem zi_134_1082 : (zM 134).1[1082]? = some (.iconst 19) := by rfl
set_option maxRecDepth 20000 in
theorem zi_134_1083 : (zM 134).1[1083]? = some (.iconst (-4)) := by rfl
set_option maxRecDepth 20000 in
theorem zi_134_1084 : (zM 134).1[1084]? = some (.iastore) := by rfl
set_option maxRecDepth 20000 in
theorem zi_134_1085 : (zM 134).1[1085]? = some (.putfield 11220) := by rfl
set_option maxRecDepth 20000 in
theorem zi_134_1086 : (zM 134).1[1086]? = some (.aload 0) := by rfl
set_option maxRecDepth 20000 in
theorem zi_134_1087 : (zM 134).1[1087]? = some (.iconst 154791) := by rfl
set_option maxRecDepth 20000 in
theorem zi_134_1088 : (zM 134).1[1088]? = some (.newarray .long) := by rfl
set_option maxRecDepth 20000 in
theorem zi_134_1089 : (zM 134).1[1089]? = some (.putfield 11227) := by rfl
set_option maxRecDepth 20000 in
theorem zi_134_1090 : (zM 134).1[1090]? = some (.aload 0) := by rfl
set_option maxRecDepth 20000 in
theorem zi_134_1091 : (zM 134).1[1091]? = some (.iconst 154791) := by rfl
set_option maxRecDepth 20000 in
theorem zi_134_1092 : (zM 134).1[1092]? = some (.newarray .int) := by rfl
set_option maxRecDepth 20000 in
theorem zi_134_1093 : (zM 134).1[1093]? = some (.putfield 11228) := by rfl
set_option maxRecDepth 20000 in
theorem zi_134_1094 : (zM 134).1[1094]? = some (.aload 0) := by rfl
set_option maxRecDepth 20000 in
theorem zi_134_1095 : (zM 134).1[1095]? = some (.iconst 7371) := by rfl
set_option maxRecDepth 20000 in
theorem zi_134_1096 : (zM 134).1[1096]? = some (.newarray .long) := by rfl
set_option maxRecDepth 20000 in
theorem zi_134_1097 : (zM 134).1[1097]? = some (.putfield 11232) := by rfl
set_option maxRecDepth 20000 in
theorem zi_134_1098 : (zM 134).1[1098]? = some (.aload 0) := by rfl
set_option maxRecDepth 20000 in
theorem zi_134_1099 : (zM 134).1[1099]? = some (.iconst 7371) := by rfl
set_option maxRecDepth 20000 in
theorem zi_134_1100 : (zM 134).1[1100]? = some (.newarray .long) := by rfl
set_option maxRecDepth 20000 in
theorem zi_134_1101 : (zM 134).1[1101]? = some (.putfield 11233) := by rfl
set_option maxRecDepth 20000 in
theorem zi_134_1102 : (zM 134).1[1102]? = some (.aload 0) := by rfl
set_option maxRecDepth 20000 in
theorem zi_134_1103 : (zM 134).1[1103]? = some (.iconst 4) := by rfl
set_option maxRecDepth 20000 in
theorem zi_134_1104 : (zM 134).1[1104]? = some (.newarray .long) := by rfl
set_option maxRecDepth 20000 in
theorem zi_134_1105 : (zM 134).1[1105]? = some (.putfield 11234) := by rfl
set_option maxRecDepth 20000 in
theorem zi_134_1106 : (zM 134).1[1106]? = some (.aload 0) := by rfl
set_option maxRecDepth 20000 in
theorem zi_134_1107 : (zM 134).1[1107]? = some (.iconst 28) := by rfl
set_option maxRecDepth 20000 in
theorem zi_134_1108 : (zM 134).1[1108]? = some (.newarray .int) := by rfl
set_option maxRecDepth 20000 in
theorem zi_134_1109 : (zM 134).1[1109]? = some (.putfield 11235) := by rfl
set_option maxRecDepth 20000 in
theorem zi_134_1110 : (zM 134).1[1110]? = some (.aload 0) := by rfl
set_option maxRecDepth 20000 in
theorem zi_134_1111 : (zM 134).1[1111]? = some (.iconst 20) := by rfl
set_option maxRecDepth 20000 in
theorem zi_134_1112 : (zM 134).1[1112]? = some (.newarray .int) := by rfl
set_option maxRecDepth 20000 in
theorem zi_134_1113 : (zM 134).1[1113]? = some (.putfield 11237) := by rfl
set_option maxRecDepth 20000 in
theorem zi_134_1114 : (zM 134).1[1114]? = some (.aload 0) := by rfl
set_option maxRecDepth 20000 in
theorem zi_134_1115 : (zM 134).1[1115]? = some (.iconst 20) := by rfl
set_option maxRecDepth 20000 in
theorem zi_134_1116 : (zM 134).1[1116]? = some (.newarray .int) := by rfl
set_option maxRecDepth 20000 in
theorem zi_134_1117 : (zM 134).1[1117]? = some (.putfield 11238) := by rfl
set_option maxRecDepth 20000 in
theorem zi_134_1118 : (zM 134).1[1118]? = some (.aload 0) := by rfl
set_option maxRecDepth 20000 in
theorem zi_134_1119 : (zM 134).1[1119]? = some (.iconst 20) := by rfl
set_option maxRecDepth 20000 in
theorem zi_134_1120 : (zM 134).1[1120]? = some (.newarray .int) := by rfl
set_option maxRecDepth 20000 in
theorem zi_134_1121 : (zM 134).1[1121]? = some (.putfield 11239) := by rfl
set_option maxRecDepth 20000 in
theorem zi_134_1122 : (zM 134).1[1122]? = some (.aload 0) := by rfl
set_option maxRecDepth 20000 in
theorem zi_134_1123 : (zM 134).1[1123]? = some (.iconst 20) := by rfl
set_option maxRecDepth 20000 in
theorem zi_134_1124 : (zM 134).1[1124]? = some (.newarray .int) := by rfl
set_option maxRecDepth 20000 in
theorem zi_134_1125 : (zM 134).1[1125]? = some (.putfield 11240) := by rfl
set_option maxRecDepth 20000 in
theorem zi_134_1126 : (zM 134).1[1126]? = some (.aload 0) := by rfl
set_option maxRecDepth 20000 in
theorem zi_134_1127 : (zM 134).1[1127]? = some (.iconst 51597) := by rfl
set_option maxRecDepth 20000 in
theorem zi_134_1128 : (zM 134).1[1128]? = some (.newarray .int) := by rfl
set_option maxRecDepth 20000 in
theorem zi_134_1129 : (zM 134).1[1129]? = some (.putfield 11247) := by rfl
set_option maxRecDepth 20000 in
theorem zi_134_1130 : (zM 134).1[1130]? = some (.aload 0) := by rfl
set_option maxRecDepth 20000 in
theorem zi_134_1131 : (zM 134).1[1131]? = some (.iconst 4) := by rfl
set_option maxRecDepth 20000 in
theorem zi_134_1132 : (zM 134).1[1132]? = some (.newarray .int) := by rfl
set_option maxRecDepth 20000 in
theorem zi_134_1133 : (zM 134).1[1133]? = some (.dup) := by rfl
set_option maxRecDepth 20000 in
theorem zi_134_1134 : (zM 134).1[1134]? = some (.iconst 0) := by rfl
set_option maxRecDepth 20000 in
theorem zi_134_1135 : (zM 134).1[1135]? = some (.iconst (-4)) := by rfl
set_option maxRecDepth 20000 in
theorem zi_134_1136 : (zM 134).1[1136]? = some (.iastore) := by rfl
set_option maxRecDepth 20000 in
theorem zi_134_1137 : (zM 134).1[1137]? = some (.dup) := by rfl
set_option maxRecDepth 20000 in
theorem zi_134_1138 : (zM 134).1[1138]? = some (.iconst 1) := by rfl
set_option maxRecDepth 20000 in
theorem zi_134_1139 : (zM 134).1[1139]? = some (.iconst (-4)) := by rfl
set_option maxRecDepth 20000 in
theorem zi_134_1140 : (zM 134).1[1140]? = some (.iastore) := by rfl
set_option maxRecDepth 20000 in
theorem zi_134_1141 : (zM 134).1[1141]? = some (.dup) := by rfl
set_option maxRecDepth 20000 in
theorem zi_134_1142 : (zM 134).1[1142]? = some (.iconst 2) := by rfl
set_option maxRecDepth 20000 in
theorem zi_134_1143 : (zM 134).1[1143]? = some (.iconst (-4)) := by rfl
set_option maxRecDepth 20000 in
theorem zi_134_1144 : (zM 134).1[1144]? = some (.iastore) := by rfl
set_option maxRecDepth 20000 in
theorem zi_134_1145 : (zM 134).1[1145]? = some (.dup) := by rfl
set_option maxRecDepth 20000 in
theorem zi_134_1146 : (zM 134).1[1146]? = some (.iconst 3) := by rfl
set_option maxRecDepth 20000 in
theorem zi_134_1147 : (zM 134).1[1147]? = some (.iconst (-4)) := by rfl
set_option maxRecDepth 20000 in
theorem zi_134_1148 : (zM 134).1[1148]? = some (.iastore) := by rfl
set_option maxRecDepth 20000 in
theorem zi_134_1149 : (zM 134).1[1149]? = some (.putfield 11248) := by rfl
set_option maxRecDepth 20000 in
theorem zi_134_1150 : (zM 134).1[1150]? = some (.aload 0) := by rfl
set_option maxRecDepth 20000 in
theorem zi_134_1151 : (zM 134).1[1151]? = some (.iconst 4) := by rfl
set_option maxRecDepth 20000 in
theorem zi_134_1152 : (zM 134).1[1152]? = some (.newarray .int) := by rfl
set_option maxRecDepth 20000 in
theorem zi_134_1153 : (zM 134).1[1153]? = some (.putfield 11249) := by rfl
set_option maxRecDepth 20000 in
theorem zi_134_1154 : (zM 134).1[1154]? = some (.aload 0) := by rfl
set_option maxRecDepth 20000 in
theorem zi_134_1155 : (zM 134).1[1155]? = some (.iconst 192) := by rfl
set_option maxRecDepth 20000 in
theorem zi_134_1156 : (zM 134).1[1156]? = some (.newarray .int) := by rfl
set_option maxRecDepth 20000 in
theorem zi_134_1157 : (zM 134).1[1157]? = some (.putfield 11250) := by rfl
set_option maxRecDepth 20000 in
theorem zi_134_1158 : (zM 134).1[1158]? = some (.return_) := by rfl
set_option maxRecDepth 100000 in
def wb_134_1154 (E : Nat → Nat) (d : Nat) (Q : Option Value → ZH → Prop) (a0 : Nat) (h : ZH) : Prop := ∀ h367 : ZH, h367 = (znew h 13 192) → ∀ r368 : Nat, r368 = (zsz h) → ztag h367 a0 = 11 ∧ ∀ h370 : ZH, h370 = (zuR h367 a0 50 (r368 + 1)) → Q none h370
set_option maxRecDepth 100000 in
set_option maxHeartbeats 16000000 in
theorem okb_134_1154 {E : Nat → Nat} {d : Nat} {Q : Option Value → ZH → Prop} {a0 : Nat} {h : ZH} (hw : wb_134_1154 E d Q a0 h) : Gx E (d + 1) 134 1154 [.ref a0] [] h Q := by
  unfold wb_134_1154 at hw
  refine zg_aload zi_134_1154 rfl ?_
  refine zg_const (v := 192) zi_134_1155 (by rfl) ?_
  refine zg_newarray_int (N := 192) zi_134_1156 (by decide) (by decide) ?_
  refine zg_nameH fun h367 eh367 => ?_
  have hw := hw h367 eh367
  refine zg_nameA fun r368 er368 => ?_
  have hw := hw r368 er368
  obtain ⟨t369, hw⟩ := hw
  refine zg_putR (h1 := zuR h367 a0 50 (r368 + 1)) zi_134_1157 t369 (by rfl) rfl ?_
  refine zg_nameH fun h370 eh370 => ?_
  have hw := hw h370 eh370
  exact zg_return zi_134_1158 hw
set_option maxRecDepth 100000 in
def wb_134_1150 (E : Nat → Nat) (d : Nat) (Q : Option Value → ZH → Prop) (a0 : Nat) (h : ZH) : Prop := ∀ h363 : ZH, h363 = (znew h 13 4) → ∀ r364 : Nat, r364 = (zsz h) → ztag h363 a0 = 11 ∧ ∀ h366 : ZH, h366 = (zuR h363 a0 49 (r364 + 1)) → wb_134_1154 E d Q a0 h366
set_option maxRecDepth 100000 in
set_option maxHeartbeats 16000000 in
theorem okb_134_1150 {E : Nat → Nat} {d : Nat} {Q : Option Value → ZH → Prop} {a0 : Nat} {h : ZH} (hw : wb_134_1150 E d Q a0 h) : Gx E (d + 1) 134 1150 [.ref a0] [] h Q := by
  unfold wb_134_1150 at hw
  refine zg_aload zi_134_1150 rfl ?_
  refine zg_const (v := 4) zi_134_1151 (by rfl) ?_
  refine zg_newarray_int (N := 4) zi_134_1152 (by decide) (by decide) ?_
  refine zg_nameH fun h363 eh363 => ?_
  have hw := hw h363 eh363
  refine zg_nameA fun r364 er364 => ?_
  have hw := hw r364 er364
  obtain ⟨t365, hw⟩ := hw
  refine zg_putR (h1 := zuR h363 a0 49 (r364 + 1)) zi_134_1153 t365 (by rfl) rfl ?_
  refine zg_nameH fun h366 eh366 => ?_
  have hw := hw h366 eh366
  exact okb_134_1154 hw
set_option maxRecDepth 100000 in
def wb_134_1130 (E : Nat → Nat) (d : Nat) (Q : Option Value → ZH → Prop) (a0 : Nat) (h : ZH) : Prop := ∀ h354 : ZH, h354 = (znew h 13 4) → ∀ r355 : Nat, r355 = (zsz h) → ztag h354 r355 = 13 ∧ zin 0 (zlen h354 r355) = true ∧ ∀ h357 : ZH, h357 = (zuI h354 r355 0 ((-4))) → zin 1 (zlen h357 r355) = true ∧ ∀ h358 : ZH, h358 = (zuI h357 r355 1 ((-4))) → zin 2 (zlen h358 r355) = true ∧ ∀ h359 : ZH, h359 = (zuI h358 r355 2 ((-4))) → zin 3 (zlen h359 r355) = true ∧ ∀ h360 : ZH, h360 = (zuI h359 r355 3 ((-4))) → ztag h360 a0 = 11 ∧ ∀ h362 : ZH, h362 = (zuR h360 a0 48 (r355 + 1)) → wb_134_1150 E d Q a0 h362
set_option maxRecDepth 100000 in
set_option maxHeartbeats 16000000 in
theorem okb_134_1130 {E : Nat → Nat} {d : Nat} {Q : Option Value → ZH → Prop} {a0 : Nat} {h : ZH} (hw : wb_134_1130 E d Q a0 h) : Gx E (d + 1) 134 1130 [.ref a0] [] h Q := by
  unfold wb_134_1130 at hw
  refine zg_aload zi_134_1130 rfl ?_
  refine zg_const (v := 4) zi_134_1131 (by rfl) ?_
  refine zg_newarray_int (N := 4) zi_134_1132 (by decide) (by decide) ?_
  refine zg_nameH fun h354 eh354 => ?_
  have hw := hw h354 eh354
  refine zg_nameA fun r355 er355 => ?_
  have hw := hw r355 er355
  refine zg_dup zi_134_1133 rfl ?_
  refine zg_const (v := 0) zi_134_1134 (by rfl) ?_
  refine zg_const (v := (-4)) zi_134_1135 (by rfl) ?_
  obtain ⟨t356, hw⟩ := hw
  obtain ⟨hb, hw⟩ := hw
  refine zg_iastore (h1 := zuI h354 r355 0 ((-4))) zi_134_1136 t356 hb rfl ?_
  refine zg_nameH fun h357 eh357 => ?_
  have hw := hw h357 eh357
  have tth357 : ztag h357 r355 = 13 := by rw [eh357]; exact t356
  refine zg_dup zi_134_1137 rfl ?_
  refine zg_const (v := 1) zi_134_1138 (by rfl) ?_
  refine zg_const (v := (-4)) zi_134_1139 (by rfl) ?_
  obtain ⟨hb, hw⟩ := hw
  refine zg_iastore (h1 := zuI h357 r355 1 ((-4))) zi_134_1140 tth357 hb rfl ?_
  refine zg_nameH fun h358 eh358 => ?_
  have hw := hw h358 eh358
  have tth358 : ztag h358 r355 = 13 := by rw [eh358]; exact tth357
  refine zg_dup zi_134_1141 rfl ?_
  refine zg_const (v := 2) zi_134_1142 (by rfl) ?_
  refine zg_const (v := (-4)) zi_134_1143 (by rfl) ?_
  obtain ⟨hb, hw⟩ := hw
  refine zg_iastore (h1 := zuI h358 r355 2 ((-4))) zi_134_1144 tth358 hb rfl ?_
  refine zg_nameH fun h359 eh359 => ?_
  have hw := hw h359 eh359
  have tth359 : ztag h359 r355 = 13 := by rw [eh359]; exact tth358
  refine zg_dup zi_134_1145 rfl ?_
  refine zg_const (v := 3) zi_134_1146 (by rfl) ?_
  refine zg_const (v := (-4)) zi_134_1147 (by rfl) ?_
  obtain ⟨hb, hw⟩ := hw
  refine zg_iastore (h1 := zuI h359 r355 3 ((-4))) zi_134_1148 tth359 hb rfl ?_
  refine zg_nameH fun h360 eh360 => ?_
  have hw := hw h360 eh360
  have tth360 : ztag h360 r355 = 13 := by rw [eh360]; exact tth359
  obtain ⟨t361, hw⟩ := hw
  refine zg_putR (h1 := zuR h360 a0 48 (r355 + 1)) zi_134_1149 t361 (by rfl) rfl ?_
  refine zg_nameH fun h362 eh362 => ?_
  have hw := hw h362 eh362
  exact okb_134_1150 hw
set_option maxRecDepth 100000 in
def wb_134_1126 (E : Nat → Nat) (d : Nat) (Q : Option Value → ZH → Prop) (a0 : Nat) (h : ZH) : Prop := ∀ h350 : ZH, h350 = (znew h 13 51597) → ∀ r351 : Nat, r351 = (zsz h) → ztag h350 a0 = 11 ∧ ∀ h353 : ZH, h353 = (zuR h350 a0 47 (r351 + 1)) → wb_134_1130 E d Q a0 h353
set_option maxRecDepth 100000 in
set_option maxHeartbeats 16000000 in
theorem okb_134_1126 {E : Nat → Nat} {d : Nat} {Q : Option Value → ZH → Prop} {a0 : Nat} {h : ZH} (hw : wb_134_1126 E d Q a0 h) : Gx E (d + 1) 134 1126 [.ref a0] [] h Q := by
  unfold wb_134_1126 at hw
  refine zg_aload zi_134_1126 rfl ?_
  refine zg_const (v := 51597) zi_134_1127 (by rfl) ?_
  refine zg_newarray_int (N := 51597) zi_134_1128 (by decide) (by decide) ?_
  refine zg_nameH fun h350 eh350 => ?_
  have hw := hw h350 eh350
  refine zg_nameA fun r351 er351 => ?_
  have hw := hw r351 er351
  obtain ⟨t352, hw⟩ := hw
  refine zg_putR (h1 := zuR h350 a0 47 (r351 + 1)) zi_134_1129 t352 (by rfl) rfl ?_
  refine zg_nameH fun h353 eh353 => ?_
  have hw := hw h353 eh353
  exact okb_134_1130 hw
set_option maxRecDepth 100000 in
def wb_134_1122 (E : Nat → Nat) (d : Nat) (Q : Option Value → ZH → Prop) (a0 : Nat) (h : ZH) : Prop := ∀ h346 : ZH, h346 = (znew h 13 20) → ∀ r347 : Nat, r347 = (zsz h) → ztag h346 a0 = 11 ∧ ∀ h349 : ZH, h349 = (zuR h346 a0 40 (r347 + 1)) → wb_134_1126 E d Q a0 h349
set_option maxRecDepth 100000 in
set_option maxHeartbeats 16000000 in
theorem okb_134_1122 {E : Nat → Nat} {d : Nat} {Q : Option Value → ZH → Prop} {a0 : Nat} {h : ZH} (hw : wb_134_1122 E d Q a0 h) : Gx E (d + 1) 134 1122 [.ref a0] [] h Q := by
  unfold wb_134_1122 at hw
  refine zg_aload zi_134_1122 rfl ?_
  refine zg_const (v := 20) zi_134_1123 (by rfl) ?_
  refine zg_newarray_int (N := 20) zi_134_1124 (by decide) (by decide) ?_
  refine zg_nameH fun h346 eh346 => ?_
  have hw := hw h346 eh346
  refine zg_nameA fun r347 er347 => ?_
  have hw := hw r347 er347
  obtain ⟨t348, hw⟩ := hw
  refine zg_putR (h1 := zuR h346 a0 40 (r347 + 1)) zi_134_1125 t348 (by rfl) rfl ?_
  refine zg_nameH fun h349 eh349 => ?_
  have hw := hw h349 eh349
  exact okb_134_1126 hw
set_option maxRecDepth 100000 in
def wb_134_1118 (E : Nat → Nat) (d : Nat) (Q : Option Value → ZH → Prop) (a0 : Nat) (h : ZH) : Prop := ∀ h342 : ZH, h342 = (znew h 13 20) → ∀ r343 : Nat, r343 = (zsz h) → ztag h342 a0 = 11 ∧ ∀ h345 : ZH, h345 = (zuR h342 a0 39 (r343 + 1)) → wb_134_1122 E d Q a0 h345
set_option maxRecDepth 100000 in
set_option maxHeartbeats 16000000 in
theorem okb_134_1118 {E : Nat → Nat} {d : Nat} {Q : Option Value → ZH → Prop} {a0 : Nat} {h : ZH} (hw : wb_134_1118 E d Q a0 h) : Gx E (d + 1) 134 1118 [.ref a0] [] h Q := by
  unfold wb_134_1118 at hw
  refine zg_aload zi_134_1118 rfl ?_
  refine zg_const (v := 20) zi_134_1119 (by rfl) ?_
  refine zg_newarray_int (N := 20) zi_134_1120 (by decide) (by decide) ?_
  refine zg_nameH fun h342 eh342 => ?_
  have hw := hw h342 eh342
  refine zg_nameA fun r343 er343 => ?_
  have hw := hw r343 er343
  obtain ⟨t344, hw⟩ := hw
  refine zg_putR (h1 := zuR h342 a0 39 (r343 + 1)) zi_134_1121 t344 (by rfl) rfl ?_
  refine zg_nameH fun h345 eh345 => ?_
  have hw := hw h345 eh345
  exact okb_134_1122 hw
set_option maxRecDepth 100000 in
def wb_134_1114 (E : Nat → Nat) (d : Nat) (Q : Option Value → ZH → Prop) (a0 : Nat) (h : ZH) : Prop := ∀ h338 : ZH, h338 = (znew h 13 20) → ∀ r339 : Nat, r339 = (zsz h) → ztag h338 a0 = 11 ∧ ∀ h341 : ZH, h341 = (zuR h338 a0 38 (r339 + 1)) → wb_134_1118 E d Q a0 h341
set_option maxRecDepth 100000 in
set_option maxHeartbeats 16000000 in
theorem okb_134_1114 {E : Nat → Nat} {d : Nat} {Q : Option Value → ZH → Prop} {a0 : Nat} {h : ZH} (hw : wb_134_1114 E d Q a0 h) : Gx E (d + 1) 134 1114 [.ref a0] [] h Q := by
  unfold wb_134_1114 at hw
  refine zg_aload zi_134_1114 rfl ?_
  refine zg_const (v := 20) zi_134_1115 (by rfl) ?_
  refine zg_newarray_int (N := 20) zi_134_1116 (by decide) (by decide) ?_
  refine zg_nameH fun h338 eh338 => ?_
  have hw := hw h338 eh338
  refine zg_nameA fun r339 er339 => ?_
  have hw := hw r339 er339
  obtain ⟨t340, hw⟩ := hw
  refine zg_putR (h1 := zuR h338 a0 38 (r339 + 1)) zi_134_1117 t340 (by rfl) rfl ?_
  refine zg_nameH fun h341 eh341 => ?_
  have hw := hw h341 eh341
  exact okb_134_1118 hw
set_option maxRecDepth 100000 in
def wb_134_1110 (E : Nat → Nat) (d : Nat) (Q : Option Value → ZH → Prop) (a0 : Nat) (h : ZH) : Prop := ∀ h334 : ZH, h334 = (znew h 13 20) → ∀ r335 : Nat, r335 = (zsz h) → ztag h334 a0 = 11 ∧ ∀ h337 : ZH, h337 = (zuR h334 a0 37 (r335 + 1)) → wb_134_1114 E d Q a0 h337
set_option maxRecDepth 100000 in
set_option maxHeartbeats 16000000 in
theorem okb_134_1110 {E : Nat → Nat} {d : Nat} {Q : Option Value → ZH → Prop} {a0 : Nat} {h : ZH} (hw : wb_134_1110 E d Q a0 h) : Gx E (d + 1) 134 1110 [.ref a0] [] h Q := by
  unfold wb_134_1110 at hw
  refine zg_aload zi_134_1110 rfl ?_
  refine zg_const (v := 20) zi_134_1111 (by rfl) ?_
  refine zg_newarray_int (N := 20) zi_134_1112 (by decide) (by decide) ?_
  refine zg_nameH fun h334 eh334 => ?_
  have hw := hw h334 eh334
  refine zg_nameA fun r335 er335 => ?_
  have hw := hw r335 er335
  obtain ⟨t336, hw⟩ := hw
  refine zg_putR (h1 := zuR h334 a0 37 (r335 + 1)) zi_134_1113 t336 (by rfl) rfl ?_
  refine zg_nameH fun h337 eh337 => ?_
  have hw := hw h337 eh337
  exact okb_134_1114 hw
set_option maxRecDepth 100000 in
def wb_134_1106 (E : Nat → Nat) (d : Nat) (Q : Option Value → ZH → Prop) (a0 : Nat) (h : ZH) : Prop := ∀ h330 : ZH, h330 = (znew h 13 28) → ∀ r331 : Nat, r331 = (zsz h) → ztag h330 a0 = 11 ∧ ∀ h333 : ZH, h333 = (zuR h330 a0 35 (r331 + 1)) → wb_134_1110 E d Q a0 h333
set_option maxRecDepth 100000 in
set_option maxHeartbeats 16000000 in
theorem okb_134_1106 {E : Nat → Nat} {d : Nat} {Q : Option Value → ZH → Prop} {a0 : Nat} {h : ZH} (hw : wb_134_1106 E d Q a0 h) : Gx E (d + 1) 134 1106 [.ref a0] [] h Q := by
  unfold wb_134_1106 at hw
  refine zg_aload zi_134_1106 rfl ?_
  refine zg_const (v := 28) zi_134_1107 (by rfl) ?_
  refine zg_newarray_int (N := 28) zi_134_1108 (by decide) (by decide) ?_
  refine zg_nameH fun h330 eh330 => ?_
  have hw := hw h330 eh330
  refine zg_nameA fun r331 er331 => ?_
  have hw := hw r331 er331
  obtain ⟨t332, hw⟩ := hw
  refine zg_putR (h1 := zuR h330 a0 35 (r331 + 1)) zi_134_1109 t332 (by rfl) rfl ?_
  refine zg_nameH fun h333 eh333 => ?_
  have hw := hw h333 eh333
  exact okb_134_1110 hw
set_option maxRecDepth 100000 in
def wb_134_1102 (E : Nat → Nat) (d : Nat) (Q : Option Value → ZH → Prop) (a0 : Nat) (h : ZH) : Prop := ∀ h326 : ZH, h326 = (znew h 14 4) → ∀ r327 : Nat, r327 = (zsz h) → ztag h326 a0 = 11 ∧ ∀ h329 : ZH, h329 = (zuR h326 a0 34 (r327 + 1)) → wb_134_1106 E d Q a0 h329
set_option maxRecDepth 100000 in
set_option maxHeartbeats 16000000 in
theorem okb_134_1102 {E : Nat → Nat} {d : Nat} {Q : Option Value → ZH → Prop} {a0 : Nat} {h : ZH} (hw : wb_134_1102 E d Q a0 h) : Gx E (d + 1) 134 1102 [.ref a0] [] h Q := by
  unfold wb_134_1102 at hw
  refine zg_aload zi_134_1102 rfl ?_
  refine zg_const (v := 4) zi_134_1103 (by rfl) ?_
  refine zg_newarray_long (N := 4) zi_134_1104 (by decide) (by decide) ?_
  refine zg_nameH fun h326 eh326 => ?_
  have hw := hw h326 eh326
  refine zg_nameA fun r327 er327 => ?_
  have hw := hw r327 er327
  obtain ⟨t328, hw⟩ := hw
  refine zg_putR (h1 := zuR h326 a0 34 (r327 + 1)) zi_134_1105 t328 (by rfl) rfl ?_
  refine zg_nameH fun h329 eh329 => ?_
  have hw := hw h329 eh329
  exact okb_134_1106 hw
set_option maxRecDepth 100000 in
def wb_134_1098 (E : Nat → Nat) (d : Nat) (Q : Option Value → ZH → Prop) (a0 : Nat) (h : ZH) : Prop := ∀ h322 : ZH, h322 = (znew h 14 7371) → ∀ r323 : Nat, r323 = (zsz h) → ztag h322 a0 = 11 ∧ ∀ h325 : ZH, h325 = (zuR h322 a0 33 (r323 + 1)) → wb_134_1102 E d Q a0 h325
set_option maxRecDepth 100000 in
set_option maxHeartbeats 16000000 in
theorem okb_134_1098 {E : Nat → Nat} {d : Nat} {Q : Option Value → ZH → Prop} {a0 : Nat} {h : ZH} (hw : wb_134_1098 E d Q a0 h) : Gx E (d + 1) 134 1098 [.ref a0] [] h Q := by
  unfold wb_134_1098 at hw
  refine zg_aload zi_134_1098 rfl ?_
  refine zg_const (v := 7371) zi_134_1099 (by rfl) ?_
  refine zg_newarray_long (N := 7371) zi_134_1100 (by decide) (by decide) ?_
  refine zg_nameH fun h322 eh322 => ?_
  have hw := hw h322 eh322
  refine zg_nameA fun r323 er323 => ?_
  have hw := hw r323 er323
  obtain ⟨t324, hw⟩ := hw
  refine zg_putR (h1 := zuR h322 a0 33 (r323 + 1)) zi_134_1101 t324 (by rfl) rfl ?_
  refine zg_nameH fun h325 eh325 => ?_
  have hw := hw h325 eh325
  exact okb_134_1102 hw
set_option maxRecDepth 100000 in
def wb_134_1094 (E : Nat → Nat) (d : Nat) (Q : Option Value → ZH → Prop) (a0 : Nat) (h : ZH) : Prop := ∀ h318 : ZH, h318 = (znew h 14 7371) → ∀ r319 : Nat, r319 = (zsz h) → ztag h318 a0 = 11 ∧ ∀ h321 : ZH, h321 = (zuR h318 a0 32 (r319 + 1)) → wb_134_1098 E d Q a0 h321
set_option maxRecDepth 100000 in
set_option maxHeartbeats 16000000 in
theorem okb_134_1094 {E : Nat → Nat} {d : Nat} {Q : Option Value → ZH → Prop} {a0 : Nat} {h : ZH} (hw : wb_134_1094 E d Q a0 h) : Gx E (d + 1) 134 1094 [.ref a0] [] h Q := by
  unfold wb_134_1094 at hw
  refine zg_aload zi_134_1094 rfl ?_
  refine zg_const (v := 7371) zi_134_1095 (by rfl) ?_
  refine zg_newarray_long (N := 7371) zi_134_1096 (by decide) (by decide) ?_
  refine zg_nameH fun h318 eh318 => ?_
  have hw := hw h318 eh318
  refine zg_nameA fun r319 er319 => ?_
  have hw := hw r319 er319
  obtain ⟨t320, hw⟩ := hw
  refine zg_putR (h1 := zuR h318 a0 32 (r319 + 1)) zi_134_1097 t320 (by rfl) rfl ?_
  refine zg_nameH fun h321 eh321 => ?_
  have hw := hw h321 eh321
  exact okb_134_1098 hw
set_option maxRecDepth 100000 in
def wb_134_1090 (E : Nat → Nat) (d : Nat) (Q : Option Value → ZH → Prop) (a0 : Nat) (h : ZH) : Prop := ∀ h314 : ZH, h314 = (znew h 13 154791) → ∀ r315 : Nat, r315 = (zsz h) → ztag h314 a0 = 11 ∧ ∀ h317 : ZH, h317 = (zuR h314 a0 28 (r315 + 1)) → wb_134_1094 E d Q a0 h317
set_option maxRecDepth 100000 in
set_option maxHeartbeats 16000000 in
theorem okb_134_1090 {E : Nat → Nat} {d : Nat} {Q : Option Value → ZH → Prop} {a0 : Nat} {h : ZH} (hw : wb_134_1090 E d Q a0 h) : Gx E (d + 1) 134 1090 [.ref a0] [] h Q := by
  unfold wb_134_1090 at hw
  refine zg_aload zi_134_1090 rfl ?_
  refine zg_const (v := 154791) zi_134_1091 (by rfl) ?_
  refine zg_newarray_int (N := 154791) zi_134_1092 (by decide) (by decide) ?_
  refine zg_nameH fun h314 eh314 => ?_
  have hw := hw h314 eh314
  refine zg_nameA fun r315 er315 => ?_
  have hw := hw r315 er315
  obtain ⟨t316, hw⟩ := hw
  refine zg_putR (h1 := zuR h314 a0 28 (r315 + 1)) zi_134_1093 t316 (by rfl) rfl ?_
  refine zg_nameH fun h317 eh317 => ?_
  have hw := hw h317 eh317
  exact okb_134_1094 hw
set_option maxRecDepth 100000 in
def wb_134_1086 (E : Nat → Nat) (d : Nat) (Q : Option Value → ZH → Prop) (a0 : Nat) (h : ZH) : Prop := ∀ h310 : ZH, h310 = (znew h 14 154791) → ∀ r311 : Nat, r311 = (zsz h) → ztag h310 a0 = 11 ∧ ∀ h313 : ZH, h313 = (zuR h310 a0 27 (r311 + 1)) → wb_134_1090 E d Q a0 h313
set_option maxRecDepth 100000 in
set_option maxHeartbeats 16000000 in
theorem okb_134_1086 {E : Nat → Nat} {d : Nat} {Q : Option Value → ZH → Prop} {a0 : Nat} {h : ZH} (hw : wb_134_1086 E d Q a0 h) : Gx E (d + 1) 134 1086 [.ref a0] [] h Q := by
  unfold wb_134_1086 at hw
  refine zg_aload zi_134_1086 rfl ?_
  refine zg_const (v := 154791) zi_134_1087 (by rfl) ?_
  refine zg_newarray_long (N := 154791) zi_134_1088 (by decide) (by decide) ?_
  refine zg_nameH fun h310 eh310 => ?_
  have hw := hw h310 eh310
  refine zg_nameA fun r311 er311 => ?_
  have hw := hw r311 er311
  obtain ⟨t312, hw⟩ := hw
  refine zg_putR (h1 := zuR h310 a0 27 (r311 + 1)) zi_134_1089 t312 (by rfl) rfl ?_
  refine zg_nameH fun h313 eh313 => ?_
  have hw := hw h313 eh313
  exact okb_134_1090 hw
set_option maxRecDepth 100000 in
def wb_134_1002 (E : Nat → Nat) (d : Nat) (Q : Option Value → ZH → Prop) (a0 : Nat) (h : ZH) : Prop := ∀ h285 : ZH, h285 = (znew h 13 20) → ∀ r286 : Nat, r286 = (zsz h) → ztag h285 r286 = 13 ∧ zin 0 (zlen h285 r286) = true ∧ ∀ h288 : ZH, h288 = (zuI h285 r286 0 ((-4))) → zin 1 (zlen h288 r286) = true ∧ ∀ h289 : ZH, h289 = (zuI h288 r286 1 ((-4))) → zin 2 (zlen h289 r286) = true ∧ ∀ h290 : ZH, h290 = (zuI h289 r286 2 ((-4))) → zin 3 (zlen h290 r286) = true ∧ ∀ h291 : ZH, h291 = (zuI h290 r286 3 ((-4))) → zin 4 (zlen h291 r286) = true ∧ ∀ h292 : ZH, h292 = (zuI h291 r286 4 ((-4))) → zin 5 (zlen h292 r286) = true ∧ ∀ h293 : ZH, h293 = (zuI h292 r286 5 ((-4))) → zin 6 (zlen h293 r286) = true ∧ ∀ h294 : ZH, h294 = (zuI h293 r286 6 ((-4))) → zin 7 (zlen h294 r286) = true ∧ ∀ h295 : ZH, h295 = (zuI h294 r286 7 ((-4))) → zin 8 (zlen h295 r286) = true ∧ ∀ h296 : ZH, h296 = (zuI h295 r286 8 ((-4))) → zin 9 (zlen h296 r286) = true ∧ ∀ h297 : ZH, h297 = (zuI h296 r286 9 ((-4))) → zin 10 (zlen h297 r286) = true ∧ ∀ h298 : ZH, h298 = (zuI h297 r286 10 ((-4))) → zin 11 (zlen h298 r286) = true ∧ ∀ h299 : ZH, h299 = (zuI h298 r286 11 ((-4))) → zin 12 (zlen h299 r286) = true ∧ ∀ h300 : ZH, h300 = (zuI h299 r286 12 ((-4))) → zin 13 (zlen h300 r286) = true ∧ ∀ h301 : ZH, h301 = (zuI h300 r286 13 ((-4))) → zin 14 (zlen h301 r286) = true ∧ ∀ h302 : ZH, h302 = (zuI h301 r286 14 ((-4))) → zin 15 (zlen h302 r286) = true ∧ ∀ h303 : ZH, h303 = (zuI h302 r286 15 ((-4))) → zin 16 (zlen h303 r286) = true ∧ ∀ h304 : ZH, h304 = (zuI h303 r286 16 ((-4))) → zin 17 (zlen h304 r286) = true ∧ ∀ h305 : ZH, h305 = (zuI h304 r286 17 ((-4))) → zin 18 (zlen h305 r286) = true ∧ ∀ h306 : ZH, h306 = (zuI h305 r286 18 ((-4))) → zin 19 (zlen h306 r286) = true ∧ ∀ h307 : ZH, h307 = (zuI h306 r286 19 ((-4))) → ztag h307 a0 = 11 ∧ ∀ h309 : ZH, h309 = (zuR h307 a0 20 (r286 + 1)) → wb_134_1086 E d Q a0 h309
set_option maxRecDepth 100000 in
set_option maxHeartbeats 16000000 in
theorem okb_134_1002 {E : Nat → Nat} {d : Nat} {Q : Option Value → ZH → Prop} {a0 : Nat} {h : ZH} (hw : wb_134_1002 E d Q a0 h) : Gx E (d + 1) 134 1002 [.ref a0] [] h Q := by
  unfold wb_134_1002 at hw
  refine zg_aload zi_134_1002 rfl ?_
  refine zg_const (v := 20) zi_134_1003 (by rfl) ?_
  refine zg_newarray_int (N := 20) zi_134_1004 (by decide) (by decide) ?_
  refine zg_nameH fun h285 eh285 => ?_
  have hw := hw h285 eh285
  refine zg_nameA fun r286 er286 => ?_
  have hw := hw r286 er286
  refine zg_dup zi_134_1005 rfl ?_
  refine zg_const (v := 0) zi_134_1006 (by rfl) ?_
  refine zg_const (v := (-4)) zi_134_1007 (by rfl) ?_
  obtain ⟨t287, hw⟩ := hw
  obtain ⟨hb, hw⟩ := hw
  refine zg_iastore (h1 := zuI h285 r286 0 ((-4))) zi_134_1008 t287 hb rfl ?_
  refine zg_nameH fun h288 eh288 => ?_
  have hw := hw h288 eh288
  have tth288 : ztag h288 r286 = 13 := by rw [eh288]; exact t287
  refine zg_dup zi_134_1009 rfl ?_
  refine zg_const (v := 1) zi_134_1010 (by rfl) ?_
  refine zg_const (v := (-4)) zi_134_1011 (by rfl) ?_
  obtain ⟨hb, hw⟩ := hw
  refine zg_iastore (h1 := zuI h288 r286 1 ((-4))) zi_134_1012 tth288 hb rfl ?_
  refine zg_nameH fun h289 eh289 => ?_
  have hw := hw h289 eh289
  have tth289 : ztag h289 r286 = 13 := by rw [eh289]; exact tth288
  refine zg_dup zi_134_1013 rfl ?_
  refine zg_const (v := 2) zi_134_1014 (by rfl) ?_
  refine zg_const (v := (-4)) zi_134_1015 (by rfl) ?_
  obtain ⟨hb, hw⟩ := hw
  refine zg_iastore (h1 := zuI h289 r286 2 ((-4))) zi_134_1016 tth289 hb rfl ?_
  refine zg_nameH fun h290 eh290 => ?_
  have hw := hw h290 eh290
  have tth290 : ztag h290 r286 = 13 := by rw [eh290]; exact tth289
  refine zg_dup zi_134_1017 rfl ?_
  refine zg_const (v := 3) zi_134_1018 (by rfl) ?_
  refine zg_const (v := (-4)) zi_134_1019 (by rfl) ?_
  obtain ⟨hb, hw⟩ := hw
  refine zg_iastore (h1 := zuI h290 r286 3 ((-4))) zi_134_1020 tth290 hb rfl ?_
  refine zg_nameH fun h291 eh291 => ?_
  have hw := hw h291 eh291
  have tth291 : ztag h291 r286 = 13 := by rw [eh291]; exact tth290
  refine zg_dup zi_134_1021 rfl ?_
  refine zg_const (v := 4) zi_134_1022 (by rfl) ?_
  refine zg_const (v := (-4)) zi_134_1023 (by rfl) ?_
  obtain ⟨hb, hw⟩ := hw
  refine zg_iastore (h1 := zuI h291 r286 4 ((-4))) zi_134_1024 tth291 hb rfl ?_
  refine zg_nameH fun h292 eh292 => ?_
  have hw := hw h292 eh292
  have tth292 : ztag h292 r286 = 13 := by rw [eh292]; exact tth291
  refine zg_dup zi_134_1025 rfl ?_
  refine zg_const (v := 5) zi_134_1026 (by rfl) ?_
  refine zg_const (v := (-4)) zi_134_1027 (by rfl) ?_
  obtain ⟨hb, hw⟩ := hw
  refine zg_iastore (h1 := zuI h292 r286 5 ((-4))) zi_134_1028 tth292 hb rfl ?_
  refine zg_nameH fun h293 eh293 => ?_
  have hw := hw h293 eh293
  have tth293 : ztag h293 r286 = 13 := by rw [eh293]; exact tth292
  refine zg_dup zi_134_1029 rfl ?_
  refine zg_const (v := 6) zi_134_1030 (by rfl) ?_
  refine zg_const (v := (-4)) zi_134_1031 (by rfl) ?_
  obtain ⟨hb, hw⟩ := hw
  refine zg_iastore (h1 := zuI h293 r286 6 ((-4))) zi_134_1032 tth293 hb rfl ?_
  refine zg_nameH fun h294 eh294 => ?_
  have hw := hw h294 eh294
  have tth294 : ztag h294 r286 = 13 := by rw [eh294]; exact tth293
  refine zg_dup zi_134_1033 rfl ?_
  refine zg_const (v := 7) zi_134_1034 (by rfl) ?_
  refine zg_const (v := (-4)) zi_134_1035 (by rfl) ?_
  obtain ⟨hb, hw⟩ := hw
  refine zg_iastore (h1 := zuI h294 r286 7 ((-4))) zi_134_1036 tth294 hb rfl ?_
  refine zg_nameH fun h295 eh295 => ?_
  have hw := hw h295 eh295
  have tth295 : ztag h295 r286 = 13 := by rw [eh295]; exact tth294
  refine zg_dup zi_134_1037 rfl ?_
  refine zg_const (v := 8) zi_134_1038 (by rfl) ?_
  refine zg_const (v := (-4)) zi_134_1039 (by rfl) ?_
  obtain ⟨hb, hw⟩ := hw
  refine zg_iastore (h1 := zuI h295 r286 8 ((-4))) zi_134_1040 tth295 hb rfl ?_
  refine zg_nameH fun h296 eh296 => ?_
  have hw := hw h296 eh296
  have tth296 : ztag h296 r286 = 13 := by rw [eh296]; exact tth295
  refine zg_dup zi_134_1041 rfl ?_
  refine zg_const (v := 9) zi_134_1042 (by rfl) ?_
  refine zg_const (v := (-4)) zi_134_1043 (by rfl) ?_
  obtain ⟨hb, hw⟩ := hw
  refine zg_iastore (h1 := zuI h296 r286 9 ((-4))) zi_134_1044 tth296 hb rfl ?_
  refine zg_nameH fun h297 eh297 => ?_
  have hw := hw h297 eh297
  have tth297 : ztag h297 r286 = 13 := by rw [eh297]; exact tth296
  refine zg_dup zi_134_1045 rfl ?_
  refine zg_const (v := 10) zi_134_1046 (by rfl) ?_
  refine zg_const (v := (-4)) zi_134_1047 (by rfl) ?_
  obtain ⟨hb, hw⟩ := hw
  refine zg_iastore (h1 := zuI h297 r286 10 ((-4))) zi_134_1048 tth297 hb rfl ?_
  refine zg_nameH fun h298 eh298 => ?_
  have hw := hw h298 eh298
  have tth298 : ztag h298 r286 = 13 := by rw [eh298]; exact tth297
  refine zg_dup zi_134_1049 rfl ?_
  refine zg_const (v := 11) zi_134_1050 (by rfl) ?_
  refine zg_const (v := (-4)) zi_134_1051 (by rfl) ?_
  obtain ⟨hb, hw⟩ := hw
  refine zg_iastore (h1 := zuI h298 r286 11 ((-4))) zi_134_1052 tth298 hb rfl ?_
  refine zg_nameH fun h299 eh299 => ?_
  have hw := hw h299 eh299
  have tth299 : ztag h299 r286 = 13 := by rw [eh299]; exact tth298
  refine zg_dup zi_134_1053 rfl ?_
  refine zg_const (v := 12) zi_134_1054 (by rfl) ?_
  refine zg_const (v := (-4)) zi_134_1055 (by rfl) ?_
  obtain ⟨hb, hw⟩ := hw
  refine zg_iastore (h1 := zuI h299 r286 12 ((-4))) zi_134_1056 tth299 hb rfl ?_
  refine zg_nameH fun h300 eh300 => ?_
  have hw := hw h300 eh300
  have tth300 : ztag h300 r286 = 13 := by rw [eh300]; exact tth299
  refine zg_dup zi_134_1057 rfl ?_
  refine zg_const (v := 13) zi_134_1058 (by rfl) ?_
  refine zg_const (v := (-4)) zi_134_1059 (by rfl) ?_
  obtain ⟨hb, hw⟩ := hw
  refine zg_iastore (h1 := zuI h300 r286 13 ((-4))) zi_134_1060 tth300 hb rfl ?_
  refine zg_nameH fun h301 eh301 => ?_
  have hw := hw h301 eh301
  have tth301 : ztag h301 r286 = 13 := by rw [eh301]; exact tth300
  refine zg_dup zi_134_1061 rfl ?_
  refine zg_const (v := 14) zi_134_1062 (by rfl) ?_
  refine zg_const (v := (-4)) zi_134_1063 (by rfl) ?_
  obtain ⟨hb, hw⟩ := hw
  refine zg_iastore (h1 := zuI h301 r286 14 ((-4))) zi_134_1064 tth301 hb rfl ?_
  refine zg_nameH fun h302 eh302 => ?_
  have hw := hw h302 eh302
  have tth302 : ztag h302 r286 = 13 := by rw [eh302]; exact tth301
  refine zg_dup zi_134_1065 rfl ?_
  refine zg_const (v := 15) zi_134_1066 (by rfl) ?_
  refine zg_const (v := (-4)) zi_134_1067 (by rfl) ?_
  obtain ⟨hb, hw⟩ := hw
  refine zg_iastore (h1 := zuI h302 r286 15 ((-4))) zi_134_1068 tth302 hb rfl ?_
  refine zg_nameH fun h303 eh303 => ?_
  have hw := hw h303 eh303
  have tth303 : ztag h303 r286 = 13 := by rw [eh303]; exact tth302
  refine zg_dup zi_134_1069 rfl ?_
  refine zg_const (v := 16) zi_134_1070 (by rfl) ?_
  refine zg_const (v := (-4)) zi_134_1071 (by rfl) ?_
  obtain ⟨hb, hw⟩ := hw
  refine zg_iastore (h1 := zuI h303 r286 16 ((-4))) zi_134_1072 tth303 hb rfl ?_
  refine zg_nameH fun h304 eh304 => ?_
  have hw := hw h304 eh304
  have tth304 : ztag h304 r286 = 13 := by rw [eh304]; exact tth303
  refine zg_dup zi_134_1073 rfl ?_
  refine zg_const (v := 17) zi_134_1074 (by rfl) ?_
  refine zg_const (v := (-4)) zi_134_1075 (by rfl) ?_
  obtain ⟨hb, hw⟩ := hw
  refine zg_iastore (h1 := zuI h304 r286 17 ((-4))) zi_134_1076 tth304 hb rfl ?_
  refine zg_nameH fun h305 eh305 => ?_
  have hw := hw h305 eh305
  have tth305 : ztag h305 r286 = 13 := by rw [eh305]; exact tth304
  refine zg_dup zi_134_1077 rfl ?_
  refine zg_const (v := 18) zi_134_1078 (by rfl) ?_
  refine zg_const (v := (-4)) zi_134_1079 (by rfl) ?_
  obtain ⟨hb, hw⟩ := hw
  refine zg_iastore (h1 := zuI h305 r286 18 ((-4))) zi_134_1080 tth305 hb rfl ?_
  refine zg_nameH fun h306 eh306 => ?_
  have hw := hw h306 eh306
  have tth306 : ztag h306 r286 = 13 := by rw [eh306]; exact tth305
  refine zg_dup zi_134_1081 rfl ?_
  refine zg_const (v := 19) zi_134_1082 (by rfl) ?_
  refine zg_const (v := (-4)) zi_134_1083 (by rfl) ?_
  obtain ⟨hb, hw⟩ := hw
  refine zg_iastore (h1 := zuI h306 r286 19 ((-4))) zi_134_1084 tth306 hb rfl ?_
  refine zg_nameH fun h307 eh307 => ?_
  have hw := hw h307 eh307
  have tth307 : ztag h307 r286 = 13 := by rw [eh307]; exact tth306
  obtain ⟨t308, hw⟩ := hw
  refine zg_putR (h1 := zuR h307 a0 20 (r286 + 1)) zi_134_1085 t308 (by rfl) rfl ?_
  refine zg_nameH fun h309 eh309 => ?_
  have hw := hw h309 eh309
  exact okb_134_1086 hw
set_option maxRecDepth 100000 in
def wb_134_998 (E : Nat → Nat) (d : Nat) (Q : Option Value → ZH → Prop) (a0 : Nat) (h : ZH) : Prop := ∀ h281 : ZH, h281 = (znew h 13 28) → ∀ r282 : Nat, r282 = (zsz h) → ztag h281 a0 = 11 ∧ ∀ h284 : ZH, h284 = (zuR h281 a0 16 (r282 + 1)) → wb_134_1002 E d Q a0 h284
set_option maxRecDepth 100000 in
set_option maxHeartbeats 16000000 in
theorem okb_134_998 {E : Nat → Nat} {d : Nat} {Q : Option Value → ZH → Prop} {a0 : Nat} {h : ZH} (hw : wb_134_998 E d Q a0 h) : Gx E (d + 1) 134 998 [.ref a0] [] h Q := by
  unfold wb_134_998 at hw
  refine zg_aload zi_134_998 rfl ?_
  refine zg_const (v := 28) zi_134_999 (by rfl) ?_
  refine zg_newarray_int (N := 28) zi_134_1000 (by decide) (by decide) ?_
  refine zg_nameH fun h281 eh281 => ?_
  have hw := hw h281 eh281
  refine zg_nameA fun r282 er282 => ?_
  have hw := hw r282 er282
  obtain ⟨t283, hw⟩ := hw
  refine zg_putR (h1 := zuR h281 a0 16 (r282 + 1)) zi_134_1001 t283 (by rfl) rfl ?_
  refine zg_nameH fun h284 eh284 => ?_
  have hw := hw h284 eh284
  exact okb_134_1002 hw
set_option maxRecDepth 100000 in
def wb_134_882 (E : Nat → Nat) (d : Nat) (Q : Option Value → ZH → Prop) (a0 : Nat) (h : ZH) : Prop := ∀ h248 : ZH, h248 = (znew h 13 28) → ∀ r249 : Nat, r249 = (zsz h) → ztag h248 r249 = 13 ∧ zin 0 (zlen h248 r249) = true ∧ ∀ h251 : ZH, h251 = (zuI h248 r249 0 2) → zin 1 (zlen h251 r249) = true ∧ ∀ h252 : ZH, h252 = (zuI h251 r249 1 4) → zin 2 (zlen h252 r249) = true ∧ ∀ h253 : ZH, h253 = (zuI h252 r249 2 8) → zin 3 (zlen h253 r249) = true ∧ ∀ h254 : ZH, h254 = (zuI h253 r249 3 0) → zin 4 (zlen h254 r249) = true ∧ ∀ h255 : ZH, h255 = (zuI h254 r249 4 3) → zin 5 (zlen h255 r249) = true ∧ ∀ h256 : ZH, h256 = (zuI h255 r249 5 80) → zin 6 (zlen h256 r249) = true ∧ ∀ h257 : ZH, h257 = (zuI h256 r249 6 20) → zin 7 (zlen h257 r249) = true ∧ ∀ h258 : ZH, h258 = (zuI h257 r249 7 0) → zin 8 (zlen h258 r249) = true ∧ ∀ h259 : ZH, h259 = (zuI h258 r249 8 0) → zin 9 (zlen h259 r249) = true ∧ ∀ h260 : ZH, h260 = (zuI h259 r249 9 0) → zin 10 (zlen h260 r249) = true ∧ ∀ h261 : ZH, h261 = (zuI h260 r249 10 0) → zin 11 (zlen h261 r249) = true ∧ ∀ h262 : ZH, h262 = (zuI h261 r249 11 0) → zin 12 (zlen h262 r249) = true ∧ ∀ h263 : ZH, h263 = (zuI h262 r249 12 0) → zin 13 (zlen h263 r249) = true ∧ ∀ h264 : ZH, h264 = (zuI h263 r249 13 0) → zin 14 (zlen h264 r249) = true ∧ ∀ h265 : ZH, h265 = (zuI h264 r249 14 10) → zin 15 (zlen h265 r249) = true ∧ ∀ h266 : ZH, h266 = (zuI h265 r249 15 1) → zin 16 (zlen h266 r249) = true ∧ ∀ h267 : ZH, h267 = (zuI h266 r249 16 15) → zin 17 (zlen h267 r249) = true ∧ ∀ h268 : ZH, h268 = (zuI h267 r249 17 20) → zin 18 (zlen h268 r249) = true ∧ ∀ h269 : ZH, h269 = (zuI h268 r249 18 30) → zin 19 (zlen h269 r249) = true ∧ ∀ h270 : ZH, h270 = (zuI h269 r249 19 2) → zin 20 (zlen h270 r249) = true ∧ ∀ h271 : ZH, h271 = (zuI h270 r249 20 1) → zin 21 (zlen h271 r249) = true ∧ ∀ h272 : ZH, h272 = (zuI h271 r249 21 1) → zin 22 (zlen h272 r249) = true ∧ ∀ h273 : ZH, h273 = (zuI h272 r249 22 1) → zin 23 (zlen h273 r249) = true ∧ ∀ h274 : ZH, h274 = (zuI h273 r249 23 2) → zin 24 (zlen h274 r249) = true ∧ ∀ h275 : ZH, h275 = (zuI h274 r249 24 1) → zin 25 (zlen h275 r249) = true ∧ ∀ h276 : ZH, h276 = (zuI h275 r249 25 1) → zin 26 (zlen h276 r249) = true ∧ ∀ h277 : ZH, h277 = (zuI h276 r249 26 1) → zin 27 (zlen h277 r249) = true ∧ ∀ h278 : ZH, h278 = (zuI h277 r249 27 2) → ztag h278 a0 = 11 ∧ ∀ h280 : ZH, h280 = (zuR h278 a0 15 (r249 + 1)) → wb_134_998 E d Q a0 h280
set_option maxRecDepth 100000 in
set_option maxHeartbeats 16000000 in
theorem okb_134_882 {E : Nat → Nat} {d : Nat} {Q : Option Value → ZH → Prop} {a0 : Nat} {h : ZH} (hw : wb_134_882 E d Q a0 h) : Gx E (d + 1) 134 882 [.ref a0] [] h Q := by
  unfold wb_134_882 at hw
  refine zg_aload zi_134_882 rfl ?_
  refine zg_const (v := 28) zi_134_883 (by rfl) ?_
  refine zg_newarray_int (N := 28) zi_134_884 (by decide) (by decide) ?_
  refine zg_nameH fun h248 eh248 => ?_
  have hw := hw h248 eh248
  refine zg_nameA fun r249 er249 => ?_
  have hw := hw r249 er249
  refine zg_dup zi_134_885 rfl ?_
  refine zg_const (v := 0) zi_134_886 (by rfl) ?_
  refine zg_const (v := 2) zi_134_887 (by rfl) ?_
  obtain ⟨t250, hw⟩ := hw
  obtain ⟨hb, hw⟩ := hw
  refine zg_iastore (h1 := zuI h248 r249 0 2) zi_134_888 t250 hb rfl ?_
  refine zg_nameH fun h251 eh251 => ?_
  have hw := hw h251 eh251
  have tth251 : ztag h251 r249 = 13 := by rw [eh251]; exact t250
  refine zg_dup zi_134_889 rfl ?_
  refine zg_const (v := 1) zi_134_890 (by rfl) ?_
  refine zg_const (v := 4) zi_134_891 (by rfl) ?_
  obtain ⟨hb, hw⟩ := hw
  refine zg_iastore (h1 := zuI h251 r249 1 4) zi_134_892 tth251 hb rfl ?_
  refine zg_nameH fun h252 eh252 => ?_
  have hw := hw h252 eh252
  have tth252 : ztag h252 r249 = 13 := by rw [eh252]; exact tth251
  refine zg_dup zi_134_893 rfl ?_
  refine zg_const (v := 2) zi_134_894 (by rfl) ?_
  refine zg_const (v := 8) zi_134_895 (by rfl) ?_
  obtain ⟨hb, hw⟩ := hw
  refine zg_iastore (h1 := zuI h252 r249 2 8) zi_134_896 tth252 hb rfl ?_
  refine zg_nameH fun h253 eh253 => ?_
  have hw := hw h253 eh253
  have tth253 : ztag h253 r249 = 13 := by rw [eh253]; exact tth252
  refine zg_dup zi_134_897 rfl ?_
  refine zg_const (v := 3) zi_134_898 (by rfl) ?_
  refine zg_const (v := 0) zi_134_899 (by rfl) ?_
  obtain ⟨hb, hw⟩ := hw
  refine zg_iastore (h1 := zuI h253 r249 3 0) zi_134_900 tth253 hb rfl ?_
  refine zg_nameH fun h254 eh254 => ?_
  have hw := hw h254 eh254
  have tth254 : ztag h254 r249 = 13 := by rw [eh254]; exact tth253
  refine zg_dup zi_134_901 rfl ?_
  refine zg_const (v := 4) zi_134_902 (by rfl) ?_
  refine zg_const (v := 3) zi_134_903 (by rfl) ?_
  obtain ⟨hb, hw⟩ := hw
  refine zg_iastore (h1 := zuI h254 r249 4 3) zi_134_904 tth254 hb rfl ?_
  refine zg_nameH fun h255 eh255 => ?_
  have hw := hw h255 eh255
  have tth255 : ztag h255 r249 = 13 := by rw [eh255]; exact tth254
  refine zg_dup zi_134_905 rfl ?_
  refine zg_const (v := 5) zi_134_906 (by rfl) ?_
  refine zg_const (v := 80) zi_134_907 (by rfl) ?_
  obtain ⟨hb, hw⟩ := hw
  refine zg_iastore (h1 := zuI h255 r249 5 80) zi_134_908 tth255 hb rfl ?_
  refine zg_nameH fun h256 eh256 => ?_
  have hw := hw h256 eh256
  have tth256 : ztag h256 r249 = 13 := by rw [eh256]; exact tth255
  refine zg_dup zi_134_909 rfl ?_
  refine zg_const (v := 6) zi_134_910 (by rfl) ?_
  refine zg_const (v := 20) zi_134_911 (by rfl) ?_
  obtain ⟨hb, hw⟩ := hw
  refine zg_iastore (h1 := zuI h256 r249 6 20) zi_134_912 tth256 hb rfl ?_
  refine zg_nameH fun h257 eh257 => ?_
  have hw := hw h257 eh257
  have tth257 : ztag h257 r249 = 13 := by rw [eh257]; exact tth256
  refine zg_dup zi_134_913 rfl ?_
  refine zg_const (v := 7) zi_134_914 (by rfl) ?_
  refine zg_const (v := 0) zi_134_915 (by rfl) ?_
  obtain ⟨hb, hw⟩ := hw
  refine zg_iastore (h1 := zuI h257 r249 7 0) zi_134_916 tth257 hb rfl ?_
  refine zg_nameH fun h258 eh258 => ?_
  have hw := hw h258 eh258
  have tth258 : ztag h258 r249 = 13 := by rw [eh258]; exact tth257
  refine zg_dup zi_134_917 rfl ?_
  refine zg_const (v := 8) zi_134_918 (by rfl) ?_
  refine zg_const (v := 0) zi_134_919 (by rfl) ?_
  obtain ⟨hb, hw⟩ := hw
  refine zg_iastore (h1 := zuI h258 r249 8 0) zi_134_920 tth258 hb rfl ?_
  refine zg_nameH fun h259 eh259 => ?_
  have hw := hw h259 eh259
  have tth259 : ztag h259 r249 = 13 := by rw [eh259]; exact tth258
  refine zg_dup zi_134_921 rfl ?_
  refine zg_const (v := 9) zi_134_922 (by rfl) ?_
  refine zg_const (v := 0) zi_134_923 (by rfl) ?_
  obtain ⟨hb, hw⟩ := hw
  refine zg_iastore (h1 := zuI h259 r249 9 0) zi_134_924 tth259 hb rfl ?_
  refine zg_nameH fun h260 eh260 => ?_
  have hw := hw h260 eh260
  have tth260 : ztag h260 r249 = 13 := by rw [eh260]; exact tth259
  refine zg_dup zi_134_925 rfl ?_
  refine zg_const (v := 10) zi_134_926 (by rfl) ?_
  refine zg_const (v := 0) zi_134_927 (by rfl) ?_
  obtain ⟨hb, hw⟩ := hw
  refine zg_iastore (h1 := zuI h260 r249 10 0) zi_134_928 tth260 hb rfl ?_
  refine zg_nameH fun h261 eh261 => ?_
  have hw := hw h261 eh261
  have tth261 : ztag h261 r249 = 13 := by rw [eh261]; exact tth260
  refine zg_dup zi_134_929 rfl ?_
  refine zg_const (v := 11) zi_134_930 (by rfl) ?_
  refine zg_const (v := 0) zi_134_931 (by rfl) ?_
  obtain ⟨hb, hw⟩ := hw
  refine zg_iastore (h1 := zuI h261 r249 11 0) zi_134_932 tth261 hb rfl ?_
  refine zg_nameH fun h262 eh262 => ?_
  have hw := hw h262 eh262
  have tth262 : ztag h262 r249 = 13 := by rw [eh262]; exact tth261
  refine zg_dup zi_134_933 rfl ?_
  refine zg_const (v := 12) zi_134_934 (by rfl) ?_
  refine zg_const (v := 0) zi_134_935 (by rfl) ?_
  obtain ⟨hb, hw⟩ := hw
  refine zg_iastore (h1 := zuI h262 r249 12 0) zi_134_936 tth262 hb rfl ?_
  refine zg_nameH fun h263 eh263 => ?_
  have hw := hw h263 eh263
  have tth263 : ztag h263 r249 = 13 := by rw [eh263]; exact tth262
  refine zg_dup zi_134_937 rfl ?_
  refine zg_const (v := 13) zi_134_938 (by rfl) ?_
  refine zg_const (v := 0) zi_134_939 (by rfl) ?_
  obtain ⟨hb, hw⟩ := hw
  refine zg_iastore (h1 := zuI h263 r249 13 0) zi_134_940 tth263 hb rfl ?_
  refine zg_nameH fun h264 eh264 => ?_
  have hw := hw h264 eh264
  have tth264 : ztag h264 r249 = 13 := by rw [eh264]; exact tth263
  refine zg_dup zi_134_941 rfl ?_
  refine zg_const (v := 14) zi_134_942 (by rfl) ?_
  refine zg_const (v := 10) zi_134_943 (by rfl) ?_
  obtain ⟨hb, hw⟩ := hw
  refine zg_iastore (h1 := zuI h264 r249 14 10) zi_134_944 tth264 hb rfl ?_
  refine zg_nameH fun h265 eh265 => ?_
  have hw := hw h265 eh265
  have tth265 : ztag h265 r249 = 13 := by rw [eh265]; exact tth264
  refine zg_dup zi_134_945 rfl ?_
  refine zg_const (v := 15) zi_134_946 (by rfl) ?_
  refine zg_const (v := 1) zi_134_947 (by rfl) ?_
  obtain ⟨hb, hw⟩ := hw
  refine zg_iastore (h1 := zuI h265 r249 15 1) zi_134_948 tth265 hb rfl ?_
  refine zg_nameH fun h266 eh266 => ?_
  have hw := hw h266 eh266
  have tth266 : ztag h266 r249 = 13 := by rw [eh266]; exact tth265
  refine zg_dup zi_134_949 rfl ?_
  refine zg_const (v := 16) zi_134_950 (by rfl) ?_
  refine zg_const (v := 15) zi_134_951 (by rfl) ?_
  obtain ⟨hb, hw⟩ := hw
  refine zg_iastore (h1 := zuI h266 r249 16 15) zi_134_952 tth266 hb rfl ?_
  refine zg_nameH fun h267 eh267 => ?_
  have hw := hw h267 eh267
  have tth267 : ztag h267 r249 = 13 := by rw [eh267]; exact tth266
  refine zg_dup zi_134_953 rfl ?_
  refine zg_const (v := 17) zi_134_954 (by rfl) ?_
  refine zg_const (v := 20) zi_134_955 (by rfl) ?_
  obtain ⟨hb, hw⟩ := hw
  refine zg_iastore (h1 := zuI h267 r249 17 20) zi_134_956 tth267 hb rfl ?_
  refine zg_nameH fun h268 eh268 => ?_
  have hw := hw h268 eh268
  have tth268 : ztag h268 r249 = 13 := by rw [eh268]; exact tth267
  refine zg_dup zi_134_957 rfl ?_
  refine zg_const (v := 18) zi_134_958 (by rfl) ?_
  refine zg_const (v := 30) zi_134_959 (by rfl) ?_
  obtain ⟨hb, hw⟩ := hw
  refine zg_iastore (h1 := zuI h268 r249 18 30) zi_134_960 tth268 hb rfl ?_
  refine zg_nameH fun h269 eh269 => ?_
  have hw := hw h269 eh269
  have tth269 : ztag h269 r249 = 13 := by rw [eh269]; exact tth268
  refine zg_dup zi_134_961 rfl ?_
  refine zg_const (v := 19) zi_134_962 (by rfl) ?_
  refine zg_const (v := 2) zi_134_963 (by rfl) ?_
  obtain ⟨hb, hw⟩ := hw
  refine zg_iastore (h1 := zuI h269 r249 19 2) zi_134_964 tth269 hb rfl ?_
  refine zg_nameH fun h270 eh270 => ?_
  have hw := hw h270 eh270
  have tth270 : ztag h270 r249 = 13 := by rw [eh270]; exact tth269
  refine zg_dup zi_134_965 rfl ?_
  refine zg_const (v := 20) zi_134_966 (by rfl) ?_
  refine zg_const (v := 1) zi_134_967 (by rfl) ?_
  obtain ⟨hb, hw⟩ := hw
  refine zg_iastore (h1 := zuI h270 r249 20 1) zi_134_968 tth270 hb rfl ?_
  refine zg_nameH fun h271 eh271 => ?_
  have hw := hw h271 eh271
  have tth271 : ztag h271 r249 = 13 := by rw [eh271]; exact tth270
  refine zg_dup zi_134_969 rfl ?_
  refine zg_const (v := 21) zi_134_970 (by rfl) ?_
  refine zg_const (v := 1) zi_134_971 (by rfl) ?_
  obtain ⟨hb, hw⟩ := hw
  refine zg_iastore (h1 := zuI h271 r249 21 1) zi_134_972 tth271 hb rfl ?_
  refine zg_nameH fun h272 eh272 => ?_
  have hw := hw h272 eh272
  have tth272 : ztag h272 r249 = 13 := by rw [eh272]; exact tth271
  refine zg_dup zi_134_973 rfl ?_
  refine zg_const (v := 22) zi_134_974 (by rfl) ?_
  refine zg_const (v := 1) zi_134_975 (by rfl) ?_
  obtain ⟨hb, hw⟩ := hw
  refine zg_iastore (h1 := zuI h272 r249 22 1) zi_134_976 tth272 hb rfl ?_
  refine zg_nameH fun h273 eh273 => ?_
  have hw := hw h273 eh273
  have tth273 : ztag h273 r249 = 13 := by rw [eh273]; exact tth272
  refine zg_dup zi_134_977 rfl ?_
  refine zg_const (v := 23) zi_134_978 (by rfl) ?_
  refine zg_const (v := 2) zi_134_979 (by rfl) ?_
  obtain ⟨hb, hw⟩ := hw
  refine zg_iastore (h1 := zuI h273 r249 23 2) zi_134_980 tth273 hb rfl ?_
  refine zg_nameH fun h274 eh274 => ?_
  have hw := hw h274 eh274
  have tth274 : ztag h274 r249 = 13 := by rw [eh274]; exact tth273
  refine zg_dup zi_134_981 rfl ?_
  refine zg_const (v := 24) zi_134_982 (by rfl) ?_
  refine zg_const (v := 1) zi_134_983 (by rfl) ?_
  obtain ⟨hb, hw⟩ := hw
  refine zg_iastore (h1 := zuI h274 r249 24 1) zi_134_984 tth274 hb rfl ?_
  refine zg_nameH fun h275 eh275 => ?_
  have hw := hw h275 eh275
  have tth275 : ztag h275 r249 = 13 := by rw [eh275]; exact tth274
  refine zg_dup zi_134_985 rfl ?_
  refine zg_const (v := 25) zi_134_986 (by rfl) ?_
  refine zg_const (v := 1) zi_134_987 (by rfl) ?_
  obtain ⟨hb, hw⟩ := hw
  refine zg_iastore (h1 := zuI h275 r249 25 1) zi_134_988 tth275 hb rfl ?_
  refine zg_nameH fun h276 eh276 => ?_
  have hw := hw h276 eh276
  have tth276 : ztag h276 r249 = 13 := by rw [eh276]; exact tth275
  refine zg_dup zi_134_989 rfl ?_
  refine zg_const (v := 26) zi_134_990 (by rfl) ?_
  refine zg_const (v := 1) zi_134_991 (by rfl) ?_
  obtain ⟨hb, hw⟩ := hw
  refine zg_iastore (h1 := zuI h276 r249 26 1) zi_134_992 tth276 hb rfl ?_
  refine zg_nameH fun h277 eh277 => ?_
  have hw := hw h277 eh277
  have tth277 : ztag h277 r249 = 13 := by rw [eh277]; exact tth276
  refine zg_dup zi_134_993 rfl ?_
  refine zg_const (v := 27) zi_134_994 (by rfl) ?_
  refine zg_const (v := 2) zi_134_995 (by rfl) ?_
  obtain ⟨hb, hw⟩ := hw
  refine zg_iastore (h1 := zuI h277 r249 27 2) zi_134_996 tth277 hb rfl ?_
  refine zg_nameH fun h278 eh278 => ?_
  have hw := hw h278 eh278
  have tth278 : ztag h278 r249 = 13 := by rw [eh278]; exact tth277
  obtain ⟨t279, hw⟩ := hw
  refine zg_putR (h1 := zuR h278 a0 15 (r249 + 1)) zi_134_997 t279 (by rfl) rfl ?_
  refine zg_nameH fun h280 eh280 => ?_
  have hw := hw h280 eh280
  exact okb_134_998 hw
set_option maxRecDepth 100000 in
def wb_134_814 (E : Nat → Nat) (d : Nat) (Q : Option Value → ZH → Prop) (a0 : Nat) (h : ZH) : Prop := ∀ h227 : ZH, h227 = (znew h 13 16) → ∀ r228 : Nat, r228 = (zsz h) → ztag h227 r228 = 13 ∧ zin 0 (zlen h227 r228) = true ∧ ∀ h230 : ZH, h230 = (zuI h227 r228 0 4) → zin 1 (zlen h230 r228) = true ∧ ∀ h231 : ZH, h231 = (zuI h230 r228 1 5) → zin 2 (zlen h231 r228) = true ∧ ∀ h232 : ZH, h232 = (zuI h231 r228 2 16) → zin 3 (zlen h232 r228) = true ∧ ∀ h233 : ZH, h233 = (zuI h232 r228 3 4) → zin 4 (zlen h233 r228) = true ∧ ∀ h234 : ZH, h234 = (zuI h233 r228 4 4) → zin 5 (zlen h234 r228) = true ∧ ∀ h235 : ZH, h235 = (zuI h234 r228 5 100) → zin 6 (zlen h235 r228) = true ∧ ∀ h236 : ZH, h236 = (zuI h235 r228 6 60) → zin 7 (zlen h236 r228) = true ∧ ∀ h237 : ZH, h237 = (zuI h236 r228 7 100) → zin 8 (zlen h237 r228) = true ∧ ∀ h238 : ZH, h238 = (zuI h237 r228 8 20) → zin 9 (zlen h238 r228) = true ∧ ∀ h239 : ZH, h239 = (zuI h238 r228 9 0) → zin 10 (zlen h239 r228) = true ∧ ∀ h240 : ZH, h240 = (zuI h239 r228 10 60) → zin 11 (zlen h240 r228) = true ∧ ∀ h241 : ZH, h241 = (zuI h240 r228 11 0) → zin 12 (zlen h241 r228) = true ∧ ∀ h242 : ZH, h242 = (zuI h241 r228 12 0) → zin 13 (zlen h242 r228) = true ∧ ∀ h243 : ZH, h243 = (zuI h242 r228 13 0) → zin 14 (zlen h243 r228) = true ∧ ∀ h244 : ZH, h244 = (zuI h243 r228 14 60) → zin 15 (zlen h244 r228) = true ∧ ∀ h245 : ZH, h245 = (zuI h244 r228 15 2) → ztag h245 a0 = 11 ∧ ∀ h247 : ZH, h247 = (zuR h245 a0 14 (r228 + 1)) → wb_134_882 E d Q a0 h247
set_option maxRecDepth 100000 in
set_option maxHeartbeats 16000000 in
theorem okb_134_814 {E : Nat → Nat} {d : Nat} {Q : Option Value → ZH → Prop} {a0 : Nat} {h : ZH} (hw : wb_134_814 E d Q a0 h) : Gx E (d + 1) 134 814 [.ref a0] [] h Q := by
  unfold wb_134_814 at hw
  refine zg_aload zi_134_814 rfl ?_
  refine zg_const (v := 16) zi_134_815 (by rfl) ?_
  refine zg_newarray_int (N := 16) zi_134_816 (by decide) (by decide) ?_
  refine zg_nameH fun h227 eh227 => ?_
  have hw := hw h227 eh227
  refine zg_nameA fun r228 er228 => ?_
  have hw := hw r228 er228
  refine zg_dup zi_134_817 rfl ?_
  refine zg_const (v := 0) zi_134_818 (by rfl) ?_
  refine zg_const (v := 4) zi_134_819 (by rfl) ?_
  obtain ⟨t229, hw⟩ := hw
  obtain ⟨hb, hw⟩ := hw
  refine zg_iastore (h1 := zuI h227 r228 0 4) zi_134_820 t229 hb rfl ?_
  refine zg_nameH fun h230 eh230 => ?_
  have hw := hw h230 eh230
  have tth230 : ztag h230 r228 = 13 := by rw [eh230]; exact t229
  refine zg_dup zi_134_821 rfl ?_
  refine zg_const (v := 1) zi_134_822 (by rfl) ?_
  refine zg_const (v := 5) zi_134_823 (by rfl) ?_
  obtain ⟨hb, hw⟩ := hw
  refine zg_iastore (h1 := zuI h230 r228 1 5) zi_134_824 tth230 hb rfl ?_
  refine zg_nameH fun h231 eh231 => ?_
  have hw := hw h231 eh231
  have tth231 : ztag h231 r228 = 13 := by rw [eh231]; exact tth230
  refine zg_dup zi_134_825 rfl ?_
  refine zg_const (v := 2) zi_134_826 (by rfl) ?_
  refine zg_const (v := 16) zi_134_827 (by rfl) ?_
  obtain ⟨hb, hw⟩ := hw
  refine zg_iastore (h1 := zuI h231 r228 2 16) zi_134_828 tth231 hb rfl ?_
  refine zg_nameH fun h232 eh232 => ?_
  have hw := hw h232 eh232
  have tth232 : ztag h232 r228 = 13 := by rw [eh232]; exact tth231
  refine zg_dup zi_134_829 rfl ?_
  refine zg_const (v := 3) zi_134_830 (by rfl) ?_
  refine zg_const (v := 4) zi_134_831 (by rfl) ?_
  obtain ⟨hb, hw⟩ := hw
  refine zg_iastore (h1 := zuI h232 r228 3 4) zi_134_832 tth232 hb rfl ?_
  refine zg_nameH fun h233 eh233 => ?_
  have hw := hw h233 eh233
  have tth233 : ztag h233 r228 = 13 := by rw [eh233]; exact tth232
  refine zg_dup zi_134_833 rfl ?_
  refine zg_const (v := 4) zi_134_834 (by rfl) ?_
  refine zg_const (v := 4) zi_134_835 (by rfl) ?_
  obtain ⟨hb, hw⟩ := hw
  refine zg_iastore (h1 := zuI h233 r228 4 4) zi_134_836 tth233 hb rfl ?_
  refine zg_nameH fun h234 eh234 => ?_
  have hw := hw h234 eh234
  have tth234 : ztag h234 r228 = 13 := by rw [eh234]; exact tth233
  refine zg_dup zi_134_837 rfl ?_
  refine zg_const (v := 5) zi_134_838 (by rfl) ?_
  refine zg_const (v := 100) zi_134_839 (by rfl) ?_
  obtain ⟨hb, hw⟩ := hw
  refine zg_iastore (h1 := zuI h234 r228 5 100) zi_134_840 tth234 hb rfl ?_
  refine zg_nameH fun h235 eh235 => ?_
  have hw := hw h235 eh235
  have tth235 : ztag h235 r228 = 13 := by rw [eh235]; exact tth234
  refine zg_dup zi_134_841 rfl ?_
  refine zg_const (v := 6) zi_134_842 (by rfl) ?_
  refine zg_const (v := 60) zi_134_843 (by rfl) ?_
  obtain ⟨hb, hw⟩ := hw
  refine zg_iastore (h1 := zuI h235 r228 6 60) zi_134_844 tth235 hb rfl ?_
  refine zg_nameH fun h236 eh236 => ?_
  have hw := hw h236 eh236
  have tth236 : ztag h236 r228 = 13 := by rw [eh236]; exact tth235
  refine zg_dup zi_134_845 rfl ?_
  refine zg_const (v := 7) zi_134_846 (by rfl) ?_
  refine zg_const (v := 100) zi_134_847 (by rfl) ?_
  obtain ⟨hb, hw⟩ := hw
  refine zg_iastore (h1 := zuI h236 r228 7 100) zi_134_848 tth236 hb rfl ?_
  refine zg_nameH fun h237 eh237 => ?_
  have hw := hw h237 eh237
  have tth237 : ztag h237 r228 = 13 := by rw [eh237]; exact tth236
  refine zg_dup zi_134_849 rfl ?_
  refine zg_const (v := 8) zi_134_850 (by rfl) ?_
  refine zg_const (v := 20) zi_134_851 (by rfl) ?_
  obtain ⟨hb, hw⟩ := hw
  refine zg_iastore (h1 := zuI h237 r228 8 20) zi_134_852 tth237 hb rfl ?_
  refine zg_nameH fun h238 eh238 => ?_
  have hw := hw h238 eh238
  have tth238 : ztag h238 r228 = 13 := by rw [eh238]; exact tth237
  refine zg_dup zi_134_853 rfl ?_
  refine zg_const (v := 9) zi_134_854 (by rfl) ?_
  refine zg_const (v := 0) zi_134_855 (by rfl) ?_
  obtain ⟨hb, hw⟩ := hw
  refine zg_iastore (h1 := zuI h238 r228 9 0) zi_134_856 tth238 hb rfl ?_
  refine zg_nameH fun h239 eh239 => ?_
  have hw := hw h239 eh239
  have tth239 : ztag h239 r228 = 13 := by rw [eh239]; exact tth238
  refine zg_dup zi_134_857 rfl ?_
  refine zg_const (v := 10) zi_134_858 (by rfl) ?_
  refine zg_const (v := 60) zi_134_859 (by rfl) ?_
  obtain ⟨hb, hw⟩ := hw
  refine zg_iastore (h1 := zuI h239 r228 10 60) zi_134_860 tth239 hb rfl ?_
  refine zg_nameH fun h240 eh240 => ?_
  have hw := hw h240 eh240
  have tth240 : ztag h240 r228 = 13 := by rw [eh240]; exact tth239
  refine zg_dup zi_134_861 rfl ?_
  refine zg_const (v := 11) zi_134_862 (by rfl) ?_
  refine zg_const (v := 0) zi_134_863 (by rfl) ?_
  obtain ⟨hb, hw⟩ := hw
  refine zg_iastore (h1 := zuI h240 r228 11 0) zi_134_864 tth240 hb rfl ?_
  refine zg_nameH fun h241 eh241 => ?_
  have hw := hw h241 eh241
  have tth241 : ztag h241 r228 = 13 := by rw [eh241]; exact tth240
  refine zg_dup zi_134_865 rfl ?_
  refine zg_const (v := 12) zi_134_866 (by rfl) ?_
  refine zg_const (v := 0) zi_134_867 (by rfl) ?_
  obtain ⟨hb, hw⟩ := hw
  refine zg_iastore (h1 := zuI h241 r228 12 0) zi_134_868 tth241 hb rfl ?_
  refine zg_nameH fun h242 eh242 => ?_
  have hw := hw h242 eh242
  have tth242 : ztag h242 r228 = 13 := by rw [eh242]; exact tth241
  refine zg_dup zi_134_869 rfl ?_
  refine zg_const (v := 13) zi_134_870 (by rfl) ?_
  refine zg_const (v := 0) zi_134_871 (by rfl) ?_
  obtain ⟨hb, hw⟩ := hw
  refine zg_iastore (h1 := zuI h242 r228 13 0) zi_134_872 tth242 hb rfl ?_
  refine zg_nameH fun h243 eh243 => ?_
  have hw := hw h243 eh243
  have tth243 : ztag h243 r228 = 13 := by rw [eh243]; exact tth242
  refine zg_dup zi_134_873 rfl ?_
  refine zg_const (v := 14) zi_134_874 (by rfl) ?_
  refine zg_const (v := 60) zi_134_875 (by rfl) ?_
  obtain ⟨hb, hw⟩ := hw
  refine zg_iastore (h1 := zuI h243 r228 14 60) zi_134_876 tth243 hb rfl ?_
  refine zg_nameH fun h244 eh244 => ?_
  have hw := hw h244 eh244
  have tth244 : ztag h244 r228 = 13 := by rw [eh244]; exact tth243
  refine zg_dup zi_134_877 rfl ?_
  refine zg_const (v := 15) zi_134_878 (by rfl) ?_
  refine zg_const (v := 2) zi_134_879 (by rfl) ?_
  obtain ⟨hb, hw⟩ := hw
  refine zg_iastore (h1 := zuI h244 r228 15 2) zi_134_880 tth244 hb rfl ?_
  refine zg_nameH fun h245 eh245 => ?_
  have hw := hw h245 eh245
  have tth245 : ztag h245 r228 = 13 := by rw [eh245]; exact tth244
  obtain ⟨t246, hw⟩ := hw
  refine zg_putR (h1 := zuR h245 a0 14 (r228 + 1)) zi_134_881 t246 (by rfl) rfl ?_
  refine zg_nameH fun h247 eh247 => ?_
  have hw := hw h247 eh247
  exact okb_134_882 hw
set_option maxRecDepth 100000 in
def wb_134_746 (E : Nat → Nat) (d : Nat) (Q : Option Value → ZH → Prop) (a0 : Nat) (h : ZH) : Prop := ∀ h206 : ZH, h206 = (znew h 13 16) → ∀ r207 : Nat, r207 = (zsz h) → ztag h206 r207 = 13 ∧ zin 0 (zlen h206 r207) = true ∧ ∀ h209 : ZH, h209 = (zuI h206 r207 0 1) → zin 1 (zlen h209 r207) = true ∧ ∀ h210 : ZH, h210 = (zuI h209 r207 1 1) → zin 2 (zlen h210 r207) = true ∧ ∀ h211 : ZH, h211 = (zuI h210 r207 2 1) → zin 3 (zlen h211 r207) = true ∧ ∀ h212 : ZH, h212 = (zuI h211 r207 3 0) → zin 4 (zlen h212 r207) = true ∧ ∀ h213 : ZH, h213 = (zuI h212 r207 4 0) → zin 5 (zlen h213 r207) = true ∧ ∀ h214 : ZH, h214 = (zuI h213 r207 5 0) → zin 6 (zlen h214 r207) = true ∧ ∀ h215 : ZH, h215 = (zuI h214 r207 6 1) → zin 7 (zlen h215 r207) = true ∧ ∀ h216 : ZH, h216 = (zuI h215 r207 7 0) → zin 8 (zlen h216 r207) = true ∧ ∀ h217 : ZH, h217 = (zuI h216 r207 8 0) → zin 9 (zlen h217 r207) = true ∧ ∀ h218 : ZH, h218 = (zuI h217 r207 9 0) → zin 10 (zlen h218 r207) = true ∧ ∀ h219 : ZH, h219 = (zuI h218 r207 10 0) → zin 11 (zlen h219 r207) = true ∧ ∀ h220 : ZH, h220 = (zuI h219 r207 11 0) → zin 12 (zlen h220 r207) = true ∧ ∀ h221 : ZH, h221 = (zuI h220 r207 12 0) → zin 13 (zlen h221 r207) = true ∧ ∀ h222 : ZH, h222 = (zuI h221 r207 13 0) → zin 14 (zlen h222 r207) = true ∧ ∀ h223 : ZH, h223 = (zuI h222 r207 14 0) → zin 15 (zlen h223 r207) = true ∧ ∀ h224 : ZH, h224 = (zuI h223 r207 15 0) → ztag h224 a0 = 11 ∧ ∀ h226 : ZH, h226 = (zuR h224 a0 13 (r207 + 1)) → wb_134_814 E d Q a0 h226
set_option maxRecDepth 100000 in
set_option maxHeartbeats 16000000 in
theorem okb_134_746 {E : Nat → Nat} {d : Nat} {Q : Option Value → ZH → Prop} {a0 : Nat} {h : ZH} (hw : wb_134_746 E d Q a0 h) : Gx E (d + 1) 134 746 [.ref a0] [] h Q := by
  unfold wb_134_746 at hw
  refine zg_aload zi_134_746 rfl ?_
  refine zg_const (v := 16) zi_134_747 (by rfl) ?_
  refine zg_newarray_int (N := 16) zi_134_748 (by decide) (by decide) ?_
  refine zg_nameH fun h206 eh206 => ?_
  have hw := hw h206 eh206
  refine zg_nameA fun r207 er207 => ?_
  have hw := hw r207 er207
  refine zg_dup zi_134_749 rfl ?_
  refine zg_const (v := 0) zi_134_750 (by rfl) ?_
  refine zg_const (v := 1) zi_134_751 (by rfl) ?_
  obtain ⟨t208, hw⟩ := hw
  obtain ⟨hb, hw⟩ := hw
  refine zg_iastore (h1 := zuI h206 r207 0 1) zi_134_752 t208 hb rfl ?_
  refine zg_nameH fun h209 eh209 => ?_
  have hw := hw h209 eh209
  have tth209 : ztag h209 r207 = 13 := by rw [eh209]; exact t208
  refine zg_dup zi_134_753 rfl ?_
  refine zg_const (v := 1) zi_134_754 (by rfl) ?_
  refine zg_const (v := 1) zi_134_755 (by rfl) ?_
  obtain ⟨hb, hw⟩ := hw
  refine zg_iastore (h1 := zuI h209 r207 1 1) zi_134_756 tth209 hb rfl ?_
  refine zg_nameH fun h210 eh210 => ?_
  have hw := hw h210 eh210
  have tth210 : ztag h210 r207 = 13 := by rw [eh210]; exact tth209
  refine zg_dup zi_134_757 rfl ?_
  refine zg_const (v := 2) zi_134_758 (by rfl) ?_
  refine zg_const (v := 1) zi_134_759 (by rfl) ?_
  obtain ⟨hb, hw⟩ := hw
  refine zg_iastore (h1 := zuI h210 r207 2 1) zi_134_760 tth210 hb rfl ?_
  refine zg_nameH fun h211 eh211 => ?_
  have hw := hw h211 eh211
  have tth211 : ztag h211 r207 = 13 := by rw [eh211]; exact tth210
  refine zg_dup zi_134_761 rfl ?_
  refine zg_const (v := 3) zi_134_762 (by rfl) ?_
  refine zg_const (v := 0) zi_134_763 (by rfl) ?_
  obtain ⟨hb, hw⟩ := hw
  refine zg_iastore (h1 := zuI h211 r207 3 0) zi_134_764 tth211 hb rfl ?_
  refine zg_nameH fun h212 eh212 => ?_
  have hw := hw h212 eh212
  have tth212 : ztag h212 r207 = 13 := by rw [eh212]; exact tth211
  refine zg_dup zi_134_765 rfl ?_
  refine zg_const (v := 4) zi_134_766 (by rfl) ?_
  refine zg_const (v := 0) zi_134_767 (by rfl) ?_
  obtain ⟨hb, hw⟩ := hw
  refine zg_iastore (h1 := zuI h212 r207 4 0) zi_134_768 tth212 hb rfl ?_
  refine zg_nameH fun h213 eh213 => ?_
  have hw := hw h213 eh213
  have tth213 : ztag h213 r207 = 13 := by rw [eh213]; exact tth212
  refine zg_dup zi_134_769 rfl ?_
  refine zg_const (v := 5) zi_134_770 (by rfl) ?_
  refine zg_const (v := 0) zi_134_771 (by rfl) ?_
  obtain ⟨hb, hw⟩ := hw
  refine zg_iastore (h1 := zuI h213 r207 5 0) zi_134_772 tth213 hb rfl ?_
  refine zg_nameH fun h214 eh214 => ?_
  have hw := hw h214 eh214
  have tth214 : ztag h214 r207 = 13 := by rw [eh214]; exact tth213
  refine zg_dup zi_134_773 rfl ?_
  refine zg_const (v := 6) zi_134_774 (by rfl) ?_
  refine zg_const (v := 1) zi_134_775 (by rfl) ?_
  obtain ⟨hb, hw⟩ := hw
  refine zg_iastore (h1 := zuI h214 r207 6 1) zi_134_776 tth214 hb rfl ?_
  refine zg_nameH fun h215 eh215 => ?_
  have hw := hw h215 eh215
  have tth215 : ztag h215 r207 = 13 := by rw [eh215]; exact tth214
  refine zg_dup zi_134_777 rfl ?_
  refine zg_const (v := 7) zi_134_778 (by rfl) ?_
  refine zg_const (v := 0) zi_134_779 (by rfl) ?_
  obtain ⟨hb, hw⟩ := hw
  refine zg_iastore (h1 := zuI h215 r207 7 0) zi_134_780 tth215 hb rfl ?_
  refine zg_nameH fun h216 eh216 => ?_
  have hw := hw h216 eh216
  have tth216 : ztag h216 r207 = 13 := by rw [eh216]; exact tth215
  refine zg_dup zi_134_781 rfl ?_
  refine zg_const (v := 8) zi_134_782 (by rfl) ?_
  refine zg_const (v := 0) zi_134_783 (by rfl) ?_
  obtain ⟨hb, hw⟩ := hw
  refine zg_iastore (h1 := zuI h216 r207 8 0) zi_134_784 tth216 hb rfl ?_
  refine zg_nameH fun h217 eh217 => ?_
  have hw := hw h217 eh217
  have tth217 : ztag h217 r207 = 13 := by rw [eh217]; exact tth216
  refine zg_dup zi_134_785 rfl ?_
  refine zg_const (v := 9) zi_134_786 (by rfl) ?_
  refine zg_const (v := 0) zi_134_787 (by rfl) ?_
  obtain ⟨hb, hw⟩ := hw
  refine zg_iastore (h1 := zuI h217 r207 9 0) zi_134_788 tth217 hb rfl ?_
  refine zg_nameH fun h218 eh218 => ?_
  have hw := hw h218 eh218
  have tth218 : ztag h218 r207 = 13 := by rw [eh218]; exact tth217
  refine zg_dup zi_134_789 rfl ?_
  refine zg_const (v := 10) zi_134_790 (by rfl) ?_
  refine zg_const (v := 0) zi_134_791 (by rfl) ?_
  obtain ⟨hb, hw⟩ := hw
  refine zg_iastore (h1 := zuI h218 r207 10 0) zi_134_792 tth218 hb rfl ?_
  refine zg_nameH fun h219 eh219 => ?_
  have hw := hw h219 eh219
  have tth219 : ztag h219 r207 = 13 := by rw [eh219]; exact tth218
  refine zg_dup zi_134_793 rfl ?_
  refine zg_const (v := 11) zi_134_794 (by rfl) ?_
  refine zg_const (v := 0) zi_134_795 (by rfl) ?_
  obtain ⟨hb, hw⟩ := hw
  refine zg_iastore (h1 := zuI h219 r207 11 0) zi_134_796 tth219 hb rfl ?_
  refine zg_nameH fun h220 eh220 => ?_
  have hw := hw h220 eh220
  have tth220 : ztag h220 r207 = 13 := by rw [eh220]; exact tth219
  refine zg_dup zi_134_797 rfl ?_
  refine zg_const (v := 12) zi_134_798 (by rfl) ?_
  refine zg_const (v := 0) zi_134_799 (by rfl) ?_
  obtain ⟨hb, hw⟩ := hw
  refine zg_iastore (h1 := zuI h220 r207 12 0) zi_134_800 tth220 hb rfl ?_
  refine zg_nameH fun h221 eh221 => ?_
  have hw := hw h221 eh221
  have tth221 : ztag h221 r207 = 13 := by rw [eh221]; exact tth220
  refine zg_dup zi_134_801 rfl ?_
  refine zg_const (v := 13) zi_134_802 (by rfl) ?_
  refine zg_const (v := 0) zi_134_803 (by rfl) ?_
  obtain ⟨hb, hw⟩ := hw
  refine zg_iastore (h1 := zuI h221 r207 13 0) zi_134_804 tth221 hb rfl ?_
  refine zg_nameH fun h222 eh222 => ?_
  have hw := hw h222 eh222
  have tth222 : ztag h222 r207 = 13 := by rw [eh222]; exact tth221
  refine zg_dup zi_134_805 rfl ?_
  refine zg_const (v := 14) zi_134_806 (by rfl) ?_
  refine zg_const (v := 0) zi_134_807 (by rfl) ?_
  obtain ⟨hb, hw⟩ := hw
  refine zg_iastore (h1 := zuI h222 r207 14 0) zi_134_808 tth222 hb rfl ?_
  refine zg_nameH fun h223 eh223 => ?_
  have hw := hw h223 eh223
  have tth223 : ztag h223 r207 = 13 := by rw [eh223]; exact tth222
  refine zg_dup zi_134_809 rfl ?_
  refine zg_const (v := 15) zi_134_810 (by rfl) ?_
  refine zg_const (v := 0) zi_134_811 (by rfl) ?_
  obtain ⟨hb, hw⟩ := hw
  refine zg_iastore (h1 := zuI h223 r207 15 0) zi_134_812 tth223 hb rfl ?_
  refine zg_nameH fun h224 eh224 => ?_
  have hw := hw h224 eh224
  have tth224 : ztag h224 r207 = 13 := by rw [eh224]; exact tth223
  obtain ⟨t225, hw⟩ := hw
  refine zg_putR (h1 := zuR h224 a0 13 (r207 + 1)) zi_134_813 t225 (by rfl) rfl ?_
  refine zg_nameH fun h226 eh226 => ?_
  have hw := hw h226 eh226
  exact okb_134_814 hw
set_option maxRecDepth 100000 in
def wb_134_630 (E : Nat → Nat) (d : Nat) (Q : Option Value → ZH → Prop) (a0 : Nat) (h : ZH) : Prop := ∀ h173 : ZH, h173 = (znew h 13 28) → ∀ r174 : Nat, r174 = (zsz h) → ztag h173 r174 = 13 ∧ zin 0 (zlen h173 r174) = true ∧ ∀ h176 : ZH, h176 = (zuI h173 r174 0 2) → zin 1 (zlen h176 r174) = true ∧ ∀ h177 : ZH, h177 = (zuI h176 r174 1 4) → zin 2 (zlen h177 r174) = true ∧ ∀ h178 : ZH, h178 = (zuI h177 r174 2 8) → zin 3 (zlen h178 r174) = true ∧ ∀ h179 : ZH, h179 = (zuI h178 r174 3 0) → zin 4 (zlen h179 r174) = true ∧ ∀ h180 : ZH, h180 = (zuI h179 r174 4 3) → zin 5 (zlen h180 r174) = true ∧ ∀ h181 : ZH, h181 = (zuI h180 r174 5 80) → zin 6 (zlen h181 r174) = true ∧ ∀ h182 : ZH, h182 = (zuI h181 r174 6 20) → zin 7 (zlen h182 r174) = true ∧ ∀ h183 : ZH, h183 = (zuI h182 r174 7 0) → zin 8 (zlen h183 r174) = true ∧ ∀ h184 : ZH, h184 = (zuI h183 r174 8 0) → zin 9 (zlen h184 r174) = true ∧ ∀ h185 : ZH, h185 = (zuI h184 r174 9 0) → zin 10 (zlen h185 r174) = true ∧ ∀ h186 : ZH, h186 = (zuI h185 r174 10 0) → zin 11 (zlen h186 r174) = true ∧ ∀ h187 : ZH, h187 = (zuI h186 r174 11 0) → zin 12 (zlen h187 r174) = true ∧ ∀ h188 : ZH, h188 = (zuI h187 r174 12 0) → zin 13 (zlen h188 r174) = true ∧ ∀ h189 : ZH, h189 = (zuI h188 r174 13 0) → zin 14 (zlen h189 r174) = true ∧ ∀ h190 : ZH, h190 = (zuI h189 r174 14 10) → zin 15 (zlen h190 r174) = true ∧ ∀ h191 : ZH, h191 = (zuI h190 r174 15 1) → zin 16 (zlen h191 r174) = true ∧ ∀ h192 : ZH, h192 = (zuI h191 r174 16 15) → zin 17 (zlen h192 r174) = true ∧ ∀ h193 : ZH, h193 = (zuI h192 r174 17 20) → zin 18 (zlen h193 r174) = true ∧ ∀ h194 : ZH, h194 = (zuI h193 r174 18 30) → zin 19 (zlen h194 r174) = true ∧ ∀ h195 : ZH, h195 = (zuI h194 r174 19 2) → zin 20 (zlen h195 r174) = true ∧ ∀ h196 : ZH, h196 = (zuI h195 r174 20 1) → zin 21 (zlen h196 r174) = true ∧ ∀ h197 : ZH, h197 = (zuI h196 r174 21 1) → zin 22 (zlen h197 r174) = true ∧ ∀ h198 : ZH, h198 = (zuI h197 r174 22 1) → zin 23 (zlen h198 r174) = true ∧ ∀ h199 : ZH, h199 = (zuI h198 r174 23 2) → zin 24 (zlen h199 r174) = true ∧ ∀ h200 : ZH, h200 = (zuI h199 r174 24 1) → zin 25 (zlen h200 r174) = true ∧ ∀ h201 : ZH, h201 = (zuI h200 r174 25 1) → zin 26 (zlen h201 r174) = true ∧ ∀ h202 : ZH, h202 = (zuI h201 r174 26 1) → zin 27 (zlen h202 r174) = true ∧ ∀ h203 : ZH, h203 = (zuI h202 r174 27 2) → ztag h203 a0 = 11 ∧ ∀ h205 : ZH, h205 = (zuR h203 a0 12 (r174 + 1)) → wb_134_746 E d Q a0 h205
set_option maxRecDepth 100000 in
set_option maxHeartbeats 16000000 in
theorem okb_134_630 {E : Nat → Nat} {d : Nat} {Q : Option Value → ZH → Prop} {a0 : Nat} {h : ZH} (hw : wb_134_630 E d Q a0 h) : Gx E (d + 1) 134 630 [.ref a0] [] h Q := by
  unfold wb_134_630 at hw
  refine zg_aload zi_134_630 rfl ?_
  refine zg_const (v := 28) zi_134_631 (by rfl) ?_
  refine zg_newarray_int (N := 28) zi_134_632 (by decide) (by decide) ?_
  refine zg_nameH fun h173 eh173 => ?_
  have hw := hw h173 eh173
  refine zg_nameA fun r174 er174 => ?_
  have hw := hw r174 er174
  refine zg_dup zi_134_633 rfl ?_
  refine zg_const (v := 0) zi_134_634 (by rfl) ?_
  refine zg_const (v := 2) zi_134_635 (by rfl) ?_
  obtain ⟨t175, hw⟩ := hw
  obtain ⟨hb, hw⟩ := hw
  refine zg_iastore (h1 := zuI h173 r174 0 2) zi_134_636 t175 hb rfl ?_
  refine zg_nameH fun h176 eh176 => ?_
  have hw := hw h176 eh176
  have tth176 : ztag h176 r174 = 13 := by rw [eh176]; exact t175
  refine zg_dup zi_134_637 rfl ?_
  refine zg_const (v := 1) zi_134_638 (by rfl) ?_
  refine zg_const (v := 4) zi_134_639 (by rfl) ?_
  obtain ⟨hb, hw⟩ := hw
  refine zg_iastore (h1 := zuI h176 r174 1 4) zi_134_640 tth176 hb rfl ?_
  refine zg_nameH fun h177 eh177 => ?_
  have hw := hw h177 eh177
  have tth177 : ztag h177 r174 = 13 := by rw [eh177]; exact tth176
  refine zg_dup zi_134_641 rfl ?_
  refine zg_const (v := 2) zi_134_642 (by rfl) ?_
  refine zg_const (v := 8) zi_134_643 (by rfl) ?_
  obtain ⟨hb, hw⟩ := hw
  refine zg_iastore (h1 := zuI h177 r174 2 8) zi_134_644 tth177 hb rfl ?_
  refine zg_nameH fun h178 eh178 => ?_
  have hw := hw h178 eh178
  have tth178 : ztag h178 r174 = 13 := by rw [eh178]; exact tth177
  refine zg_dup zi_134_645 rfl ?_
  refine zg_const (v := 3) zi_134_646 (by rfl) ?_
  refine zg_const (v := 0) zi_134_647 (by rfl) ?_
  obtain ⟨hb, hw⟩ := hw
  refine zg_iastore (h1 := zuI h178 r174 3 0) zi_134_648 tth178 hb rfl ?_
  refine zg_nameH fun h179 eh179 => ?_
  have hw := hw h179 eh179
  have tth179 : ztag h179 r174 = 13 := by rw [eh179]; exact tth178
  refine zg_dup zi_134_649 rfl ?_
  refine zg_const (v := 4) zi_134_650 (by rfl) ?_
  refine zg_const (v := 3) zi_134_651 (by rfl) ?_
  obtain ⟨hb, hw⟩ := hw
  refine zg_iastore (h1 := zuI h179 r174 4 3) zi_134_652 tth179 hb rfl ?_
  refine zg_nameH fun h180 eh180 => ?_
  have hw := hw h180 eh180
  have tth180 : ztag h180 r174 = 13 := by rw [eh180]; exact tth179
  refine zg_dup zi_134_653 rfl ?_
  refine zg_const (v := 5) zi_134_654 (by rfl) ?_
  refine zg_const (v := 80) zi_134_655 (by rfl) ?_
  obtain ⟨hb, hw⟩ := hw
  refine zg_iastore (h1 := zuI h180 r174 5 80) zi_134_656 tth180 hb rfl ?_
  refine zg_nameH fun h181 eh181 => ?_
  have hw := hw h181 eh181
  have tth181 : ztag h181 r174 = 13 := by rw [eh181]; exact tth180
  refine zg_dup zi_134_657 rfl ?_
  refine zg_const (v := 6) zi_134_658 (by rfl) ?_
  refine zg_const (v := 20) zi_134_659 (by rfl) ?_
  obtain ⟨hb, hw⟩ := hw
  refine zg_iastore (h1 := zuI h181 r174 6 20) zi_134_660 tth181 hb rfl ?_
  refine zg_nameH fun h182 eh182 => ?_
  have hw := hw h182 eh182
  have tth182 : ztag h182 r174 = 13 := by rw [eh182]; exact tth181
  refine zg_dup zi_134_661 rfl ?_
  refine zg_const (v := 7) zi_134_662 (by rfl) ?_
  refine zg_const (v := 0) zi_134_663 (by rfl) ?_
  obtain ⟨hb, hw⟩ := hw
  refine zg_iastore (h1 := zuI h182 r174 7 0) zi_134_664 tth182 hb rfl ?_
  refine zg_nameH fun h183 eh183 => ?_
  have hw := hw h183 eh183
  have tth183 : ztag h183 r174 = 13 := by rw [eh183]; exact tth182
  refine zg_dup zi_134_665 rfl ?_
  refine zg_const (v := 8) zi_134_666 (by rfl) ?_
  refine zg_const (v := 0) zi_134_667 (by rfl) ?_
  obtain ⟨hb, hw⟩ := hw
  refine zg_iastore (h1 := zuI h183 r174 8 0) zi_134_668 tth183 hb rfl ?_
  refine zg_nameH fun h184 eh184 => ?_
  have hw := hw h184 eh184
  have tth184 : ztag h184 r174 = 13 := by rw [eh184]; exact tth183
  refine zg_dup zi_134_669 rfl ?_
  refine zg_const (v := 9) zi_134_670 (by rfl) ?_
  refine zg_const (v := 0) zi_134_671 (by rfl) ?_
  obtain ⟨hb, hw⟩ := hw
  refine zg_iastore (h1 := zuI h184 r174 9 0) zi_134_672 tth184 hb rfl ?_
  refine zg_nameH fun h185 eh185 => ?_
  have hw := hw h185 eh185
  have tth185 : ztag h185 r174 = 13 := by rw [eh185]; exact tth184
  refine zg_dup zi_134_673 rfl ?_
  refine zg_const (v := 10) zi_134_674 (by rfl) ?_
  refine zg_const (v := 0) zi_134_675 (by rfl) ?_
  obtain ⟨hb, hw⟩ := hw
  refine zg_iastore (h1 := zuI h185 r174 10 0) zi_134_676 tth185 hb rfl ?_
  refine zg_nameH fun h186 eh186 => ?_
  have hw := hw h186 eh186
  have tth186 : ztag h186 r174 = 13 := by rw [eh186]; exact tth185
  refine zg_dup zi_134_677 rfl ?_
  refine zg_const (v := 11) zi_134_678 (by rfl) ?_
  refine zg_const (v := 0) zi_134_679 (by rfl) ?_
  obtain ⟨hb, hw⟩ := hw
  refine zg_iastore (h1 := zuI h186 r174 11 0) zi_134_680 tth186 hb rfl ?_
  refine zg_nameH fun h187 eh187 => ?_
  have hw := hw h187 eh187
  have tth187 : ztag h187 r174 = 13 := by rw [eh187]; exact tth186
  refine zg_dup zi_134_681 rfl ?_
  refine zg_const (v := 12) zi_134_682 (by rfl) ?_
  refine zg_const (v := 0) zi_134_683 (by rfl) ?_
  obtain ⟨hb, hw⟩ := hw
  refine zg_iastore (h1 := zuI h187 r174 12 0) zi_134_684 tth187 hb rfl ?_
  refine zg_nameH fun h188 eh188 => ?_
  have hw := hw h188 eh188
  have tth188 : ztag h188 r174 = 13 := by rw [eh188]; exact tth187
  refine zg_dup zi_134_685 rfl ?_
  refine zg_const (v := 13) zi_134_686 (by rfl) ?_
  refine zg_const (v := 0) zi_134_687 (by rfl) ?_
  obtain ⟨hb, hw⟩ := hw
  refine zg_iastore (h1 := zuI h188 r174 13 0) zi_134_688 tth188 hb rfl ?_
  refine zg_nameH fun h189 eh189 => ?_
  have hw := hw h189 eh189
  have tth189 : ztag h189 r174 = 13 := by rw [eh189]; exact tth188
  refine zg_dup zi_134_689 rfl ?_
  refine zg_const (v := 14) zi_134_690 (by rfl) ?_
  refine zg_const (v := 10) zi_134_691 (by rfl) ?_
  obtain ⟨hb, hw⟩ := hw
  refine zg_iastore (h1 := zuI h189 r174 14 10) zi_134_692 tth189 hb rfl ?_
  refine zg_nameH fun h190 eh190 => ?_
  have hw := hw h190 eh190
  have tth190 : ztag h190 r174 = 13 := by rw [eh190]; exact tth189
  refine zg_dup zi_134_693 rfl ?_
  refine zg_const (v := 15) zi_134_694 (by rfl) ?_
  refine zg_const (v := 1) zi_134_695 (by rfl) ?_
  obtain ⟨hb, hw⟩ := hw
  refine zg_iastore (h1 := zuI h190 r174 15 1) zi_134_696 tth190 hb rfl ?_
  refine zg_nameH fun h191 eh191 => ?_
  have hw := hw h191 eh191
  have tth191 : ztag h191 r174 = 13 := by rw [eh191]; exact tth190
  refine zg_dup zi_134_697 rfl ?_
  refine zg_const (v := 16) zi_134_698 (by rfl) ?_
  refine zg_const (v := 15) zi_134_699 (by rfl) ?_
  obtain ⟨hb, hw⟩ := hw
  refine zg_iastore (h1 := zuI h191 r174 16 15) zi_134_700 tth191 hb rfl ?_
  refine zg_nameH fun h192 eh192 => ?_
  have hw := hw h192 eh192
  have tth192 : ztag h192 r174 = 13 := by rw [eh192]; exact tth191
  refine zg_dup zi_134_701 rfl ?_
  refine zg_const (v := 17) zi_134_702 (by rfl) ?_
  refine zg_const (v := 20) zi_134_703 (by rfl) ?_
  obtain ⟨hb, hw⟩ := hw
  refine zg_iastore (h1 := zuI h192 r174 17 20) zi_134_704 tth192 hb rfl ?_
  refine zg_nameH fun h193 eh193 => ?_
  have hw := hw h193 eh193
  have tth193 : ztag h193 r174 = 13 := by rw [eh193]; exact tth192
  refine zg_dup zi_134_705 rfl ?_
  refine zg_const (v := 18) zi_134_706 (by rfl) ?_
  refine zg_const (v := 30) zi_134_707 (by rfl) ?_
  obtain ⟨hb, hw⟩ := hw
  refine zg_iastore (h1 := zuI h193 r174 18 30) zi_134_708 tth193 hb rfl ?_
  refine zg_nameH fun h194 eh194 => ?_
  have hw := hw h194 eh194
  have tth194 : ztag h194 r174 = 13 := by rw [eh194]; exact tth193
  refine zg_dup zi_134_709 rfl ?_
  refine zg_const (v := 19) zi_134_710 (by rfl) ?_
  refine zg_const (v := 2) zi_134_711 (by rfl) ?_
  obtain ⟨hb, hw⟩ := hw
  refine zg_iastore (h1 := zuI h194 r174 19 2) zi_134_712 tth194 hb rfl ?_
  refine zg_nameH fun h195 eh195 => ?_
  have hw := hw h195 eh195
  have tth195 : ztag h195 r174 = 13 := by rw [eh195]; exact tth194
  refine zg_dup zi_134_713 rfl ?_
  refine zg_const (v := 20) zi_134_714 (by rfl) ?_
  refine zg_const (v := 1) zi_134_715 (by rfl) ?_
  obtain ⟨hb, hw⟩ := hw
  refine zg_iastore (h1 := zuI h195 r174 20 1) zi_134_716 tth195 hb rfl ?_
  refine zg_nameH fun h196 eh196 => ?_
  have hw := hw h196 eh196
  have tth196 : ztag h196 r174 = 13 := by rw [eh196]; exact tth195
  refine zg_dup zi_134_717 rfl ?_
  refine zg_const (v := 21) zi_134_718 (by rfl) ?_
  refine zg_const (v := 1) zi_134_719 (by rfl) ?_
  obtain ⟨hb, hw⟩ := hw
  refine zg_iastore (h1 := zuI h196 r174 21 1) zi_134_720 tth196 hb rfl ?_
  refine zg_nameH fun h197 eh197 => ?_
  have hw := hw h197 eh197
  have tth197 : ztag h197 r174 = 13 := by rw [eh197]; exact tth196
  refine zg_dup zi_134_721 rfl ?_
  refine zg_const (v := 22) zi_134_722 (by rfl) ?_
  refine zg_const (v := 1) zi_134_723 (by rfl) ?_
  obtain ⟨hb, hw⟩ := hw
  refine zg_iastore (h1 := zuI h197 r174 22 1) zi_134_724 tth197 hb rfl ?_
  refine zg_nameH fun h198 eh198 => ?_
  have hw := hw h198 eh198
  have tth198 : ztag h198 r174 = 13 := by rw [eh198]; exact tth197
  refine zg_dup zi_134_725 rfl ?_
  refine zg_const (v := 23) zi_134_726 (by rfl) ?_
  refine zg_const (v := 2) zi_134_727 (by rfl) ?_
  obtain ⟨hb, hw⟩ := hw
  refine zg_iastore (h1 := zuI h198 r174 23 2) zi_134_728 tth198 hb rfl ?_
  refine zg_nameH fun h199 eh199 => ?_
  have hw := hw h199 eh199
  have tth199 : ztag h199 r174 = 13 := by rw [eh199]; exact tth198
  refine zg_dup zi_134_729 rfl ?_
  refine zg_const (v := 24) zi_134_730 (by rfl) ?_
  refine zg_const (v := 1) zi_134_731 (by rfl) ?_
  obtain ⟨hb, hw⟩ := hw
  refine zg_iastore (h1 := zuI h199 r174 24 1) zi_134_732 tth199 hb rfl ?_
  refine zg_nameH fun h200 eh200 => ?_
  have hw := hw h200 eh200
  have tth200 : ztag h200 r174 = 13 := by rw [eh200]; exact tth199
  refine zg_dup zi_134_733 rfl ?_
  refine zg_const (v := 25) zi_134_734 (by rfl) ?_
  refine zg_const (v := 1) zi_134_735 (by rfl) ?_
  obtain ⟨hb, hw⟩ := hw
  refine zg_iastore (h1 := zuI h200 r174 25 1) zi_134_736 tth200 hb rfl ?_
  refine zg_nameH fun h201 eh201 => ?_
  have hw := hw h201 eh201
  have tth201 : ztag h201 r174 = 13 := by rw [eh201]; exact tth200
  refine zg_dup zi_134_737 rfl ?_
  refine zg_const (v := 26) zi_134_738 (by rfl) ?_
  refine zg_const (v := 1) zi_134_739 (by rfl) ?_
  obtain ⟨hb, hw⟩ := hw
  refine zg_iastore (h1 := zuI h201 r174 26 1) zi_134_740 tth201 hb rfl ?_
  refine zg_nameH fun h202 eh202 => ?_
  have hw := hw h202 eh202
  have tth202 : ztag h202 r174 = 13 := by rw [eh202]; exact tth201
  refine zg_dup zi_134_741 rfl ?_
  refine zg_const (v := 27) zi_134_742 (by rfl) ?_
  refine zg_const (v := 2) zi_134_743 (by rfl) ?_
  obtain ⟨hb, hw⟩ := hw
  refine zg_iastore (h1 := zuI h202 r174 27 2) zi_134_744 tth202 hb rfl ?_
  refine zg_nameH fun h203 eh203 => ?_
  have hw := hw h203 eh203
  have tth203 : ztag h203 r174 = 13 := by rw [eh203]; exact tth202
  obtain ⟨t204, hw⟩ := hw
  refine zg_putR (h1 := zuR h203 a0 12 (r174 + 1)) zi_134_745 t204 (by rfl) rfl ?_
  refine zg_nameH fun h205 eh205 => ?_
  have hw := hw h205 eh205
  exact okb_134_746 hw
set_option maxRecDepth 100000 in
def wb_134_558 (E : Nat → Nat) (d : Nat) (Q : Option Value → ZH → Prop) (a0 : Nat) (h : ZH) : Prop := ∀ h151 : ZH, h151 = (znew h 13 17) → ∀ r152 : Nat, r152 = (zsz h) → ztag h151 r152 = 13 ∧ zin 0 (zlen h151 r152) = true ∧ ∀ h154 : ZH, h154 = (zuI h151 r152 0 0) → zin 1 (zlen h154 r152) = true ∧ ∀ h155 : ZH, h155 = (zuI h154 r152 1 1) → zin 2 (zlen h155 r152) = true ∧ ∀ h156 : ZH, h156 = (zuI h155 r152 2 2) → zin 3 (zlen h156 r152) = true ∧ ∀ h157 : ZH, h157 = (zuI h156 r152 3 3) → zin 4 (zlen h157 r152) = true ∧ ∀ h158 : ZH, h158 = (zuI h157 r152 4 5) → zin 5 (zlen h158 r152) = true ∧ ∀ h159 : ZH, h159 = (zuI h158 r152 5 6) → zin 6 (zlen h159 r152) = true ∧ ∀ h160 : ZH, h160 = (zuI h159 r152 6 7) → zin 7 (zlen h160 r152) = true ∧ ∀ h161 : ZH, h161 = (zuI h160 r152 7 8) → zin 8 (zlen h161 r152) = true ∧ ∀ h162 : ZH, h162 = (zuI h161 r152 8 9) → zin 9 (zlen h162 r152) = true ∧ ∀ h163 : ZH, h163 = (zuI h162 r152 9 10) → zin 10 (zlen h163 r152) = true ∧ ∀ h164 : ZH, h164 = (zuI h163 r152 10 11) → zin 11 (zlen h164 r152) = true ∧ ∀ h165 : ZH, h165 = (zuI h164 r152 11 12) → zin 12 (zlen h165 r152) = true ∧ ∀ h166 : ZH, h166 = (zuI h165 r152 12 13) → zin 13 (zlen h166 r152) = true ∧ ∀ h167 : ZH, h167 = (zuI h166 r152 13 14) → zin 14 (zlen h167 r152) = true ∧ ∀ h168 : ZH, h168 = (zuI h167 r152 14 16) → zin 15 (zlen h168 r152) = true ∧ ∀ h169 : ZH, h169 = (zuI h168 r152 15 19) → zin 16 (zlen h169 r152) = true ∧ ∀ h170 : ZH, h170 = (zuI h169 r152 16 15) → ztag h170 a0 = 11 ∧ ∀ h172 : ZH, h172 = (zuR h170 a0 11 (r152 + 1)) → wb_134_630 E d Q a0 h172
set_option maxRecDepth 100000 in
set_option maxHeartbeats 16000000 in
theorem okb_134_558 {E : Nat → Nat} {d : Nat} {Q : Option Value → ZH → Prop} {a0 : Nat} {h : ZH} (hw : wb_134_558 E d Q a0 h) : Gx E (d + 1) 134 558 [.ref a0] [] h Q := by
  unfold wb_134_558 at hw
  refine zg_aload zi_134_558 rfl ?_
  refine zg_const (v := 17) zi_134_559 (by rfl) ?_
  refine zg_newarray_int (N := 17) zi_134_560 (by decide) (by decide) ?_
  refine zg_nameH fun h151 eh151 => ?_
  have hw := hw h151 eh151
  refine zg_nameA fun r152 er152 => ?_
  have hw := hw r152 er152
  refine zg_dup zi_134_561 rfl ?_
  refine zg_const (v := 0) zi_134_562 (by rfl) ?_
  refine zg_const (v := 0) zi_134_563 (by rfl) ?_
  obtain ⟨t153, hw⟩ := hw
  obtain ⟨hb, hw⟩ := hw
  refine zg_iastore (h1 := zuI h151 r152 0 0) zi_134_564 t153 hb rfl ?_
  refine zg_nameH fun h154 eh154 => ?_
  have hw := hw h154 eh154
  have tth154 : ztag h154 r152 = 13 := by rw [eh154]; exact t153
  refine zg_dup zi_134_565 rfl ?_
  refine zg_const (v := 1) zi_134_566 (by rfl) ?_
  refine zg_const (v := 1) zi_134_567 (by rfl) ?_
  obtain ⟨hb, hw⟩ := hw
  refine zg_iastore (h1 := zuI h154 r152 1 1) zi_134_568 tth154 hb rfl ?_
  refine zg_nameH fun h155 eh155 => ?_
  have hw := hw h155 eh155
  have tth155 : ztag h155 r152 = 13 := by rw [eh155]; exact tth154
  refine zg_dup zi_134_569 rfl ?_
  refine zg_const (v := 2) zi_134_570 (by rfl) ?_
  refine zg_const (v := 2) zi_134_571 (by rfl) ?_
  obtain ⟨hb, hw⟩ := hw
  refine zg_iastore (h1 := zuI h155 r152 2 2) zi_134_572 tth155 hb rfl ?_
  refine zg_nameH fun h156 eh156 => ?_
  have hw := hw h156 eh156
  have tth156 : ztag h156 r152 = 13 := by rw [eh156]; exact tth155
  refine zg_dup zi_134_573 rfl ?_
  refine zg_const (v := 3) zi_134_574 (by rfl) ?_
  refine zg_const (v := 3) zi_134_575 (by rfl) ?_
  obtain ⟨hb, hw⟩ := hw
  refine zg_iastore (h1 := zuI h156 r152 3 3) zi_134_576 tth156 hb rfl ?_
  refine zg_nameH fun h157 eh157 => ?_
  have hw := hw h157 eh157
  have tth157 : ztag h157 r152 = 13 := by rw [eh157]; exact tth156
  refine zg_dup zi_134_577 rfl ?_
  refine zg_const (v := 4) zi_134_578 (by rfl) ?_
  refine zg_const (v := 5) zi_134_579 (by rfl) ?_
  obtain ⟨hb, hw⟩ := hw
  refine zg_iastore (h1 := zuI h157 r152 4 5) zi_134_580 tth157 hb rfl ?_
  refine zg_nameH fun h158 eh158 => ?_
  have hw := hw h158 eh158
  have tth158 : ztag h158 r152 = 13 := by rw [eh158]; exact tth157
  refine zg_dup zi_134_581 rfl ?_
  refine zg_const (v := 5) zi_134_582 (by rfl) ?_
  refine zg_const (v := 6) zi_134_583 (by rfl) ?_
  obtain ⟨hb, hw⟩ := hw
  refine zg_iastore (h1 := zuI h158 r152 5 6) zi_134_584 tth158 hb rfl ?_
  refine zg_nameH fun h159 eh159 => ?_
  have hw := hw h159 eh159
  have tth159 : ztag h159 r152 = 13 := by rw [eh159]; exact tth158
  refine zg_dup zi_134_585 rfl ?_
  refine zg_const (v := 6) zi_134_586 (by rfl) ?_
  refine zg_const (v := 7) zi_134_587 (by rfl) ?_
  obtain ⟨hb, hw⟩ := hw
  refine zg_iastore (h1 := zuI h159 r152 6 7) zi_134_588 tth159 hb rfl ?_
  refine zg_nameH fun h160 eh160 => ?_
  have hw := hw h160 eh160
  have tth160 : ztag h160 r152 = 13 := by rw [eh160]; exact tth159
  refine zg_dup zi_134_589 rfl ?_
  refine zg_const (v := 7) zi_134_590 (by rfl) ?_
  refine zg_const (v := 8) zi_134_591 (by rfl) ?_
  obtain ⟨hb, hw⟩ := hw
  refine zg_iastore (h1 := zuI h160 r152 7 8) zi_134_592 tth160 hb rfl ?_
  refine zg_nameH fun h161 eh161 => ?_
  have hw := hw h161 eh161
  have tth161 : ztag h161 r152 = 13 := by rw [eh161]; exact tth160
  refine zg_dup zi_134_593 rfl ?_
  refine zg_const (v := 8) zi_134_594 (by rfl) ?_
  refine zg_const (v := 9) zi_134_595 (by rfl) ?_
  obtain ⟨hb, hw⟩ := hw
  refine zg_iastore (h1 := zuI h161 r152 8 9) zi_134_596 tth161 hb rfl ?_
  refine zg_nameH fun h162 eh162 => ?_
  have hw := hw h162 eh162
  have tth162 : ztag h162 r152 = 13 := by rw [eh162]; exact tth161
  refine zg_dup zi_134_597 rfl ?_
  refine zg_const (v := 9) zi_134_598 (by rfl) ?_
  refine zg_const (v := 10) zi_134_599 (by rfl) ?_
  obtain ⟨hb, hw⟩ := hw
  refine zg_iastore (h1 := zuI h162 r152 9 10) zi_134_600 tth162 hb rfl ?_
  refine zg_nameH fun h163 eh163 => ?_
  have hw := hw h163 eh163
  have tth163 : ztag h163 r152 = 13 := by rw [eh163]; exact tth162
  refine zg_dup zi_134_601 rfl ?_
  refine zg_const (v := 10) zi_134_602 (by rfl) ?_
  refine zg_const (v := 11) zi_134_603 (by rfl) ?_
  obtain ⟨hb, hw⟩ := hw
  refine zg_iastore (h1 := zuI h163 r152 10 11) zi_134_604 tth163 hb rfl ?_
  refine zg_nameH fun h164 eh164 => ?_
  have hw := hw h164 eh164
  have tth164 : ztag h164 r152 = 13 := by rw [eh164]; exact tth163
  refine zg_dup zi_134_605 rfl ?_
  refine zg_const (v := 11) zi_134_606 (by rfl) ?_
  refine zg_const (v := 12) zi_134_607 (by rfl) ?_
  obtain ⟨hb, hw⟩ := hw
  refine zg_iastore (h1 := zuI h164 r152 11 12) zi_134_608 tth164 hb rfl ?_
  refine zg_nameH fun h165 eh165 => ?_
  have hw := hw h165 eh165
  have tth165 : ztag h165 r152 = 13 := by rw [eh165]; exact tth164
  refine zg_dup zi_134_609 rfl ?_
  refine zg_const (v := 12) zi_134_610 (by rfl) ?_
  refine zg_const (v := 13) zi_134_611 (by rfl) ?_
  obtain ⟨hb, hw⟩ := hw
  refine zg_iastore (h1 := zuI h165 r152 12 13) zi_134_612 tth165 hb rfl ?_
  refine zg_nameH fun h166 eh166 => ?_
  have hw := hw h166 eh166
  have tth166 : ztag h166 r152 = 13 := by rw [eh166]; exact tth165
  refine zg_dup zi_134_613 rfl ?_
  refine zg_const (v := 13) zi_134_614 (by rfl) ?_
  refine zg_const (v := 14) zi_134_615 (by rfl) ?_
  obtain ⟨hb, hw⟩ := hw
  refine zg_iastore (h1 := zuI h166 r152 13 14) zi_134_616 tth166 hb rfl ?_
  refine zg_nameH fun h167 eh167 => ?_
  have hw := hw h167 eh167
  have tth167 : ztag h167 r152 = 13 := by rw [eh167]; exact tth166
  refine zg_dup zi_134_617 rfl ?_
  refine zg_const (v := 14) zi_134_618 (by rfl) ?_
  refine zg_const (v := 16) zi_134_619 (by rfl) ?_
  obtain ⟨hb, hw⟩ := hw
  refine zg_iastore (h1 := zuI h167 r152 14 16) zi_134_620 tth167 hb rfl ?_
  refine zg_nameH fun h168 eh168 => ?_
  have hw := hw h168 eh168
  have tth168 : ztag h168 r152 = 13 := by rw [eh168]; exact tth167
  refine zg_dup zi_134_621 rfl ?_
  refine zg_const (v := 15) zi_134_622 (by rfl) ?_
  refine zg_const (v := 19) zi_134_623 (by rfl) ?_
  obtain ⟨hb, hw⟩ := hw
  refine zg_iastore (h1 := zuI h168 r152 15 19) zi_134_624 tth168 hb rfl ?_
  refine zg_nameH fun h169 eh169 => ?_
  have hw := hw h169 eh169
  have tth169 : ztag h169 r152 = 13 := by rw [eh169]; exact tth168
  refine zg_dup zi_134_625 rfl ?_
  refine zg_const (v := 16) zi_134_626 (by rfl) ?_
  refine zg_const (v := 15) zi_134_627 (by rfl) ?_
  obtain ⟨hb, hw⟩ := hw
  refine zg_iastore (h1 := zuI h169 r152 16 15) zi_134_628 tth169 hb rfl ?_
  refine zg_nameH fun h170 eh170 => ?_
  have hw := hw h170 eh170
  have tth170 : ztag h170 r152 = 13 := by rw [eh170]; exact tth169
  obtain ⟨t171, hw⟩ := hw
  refine zg_putR (h1 := zuR h170 a0 11 (r152 + 1)) zi_134_629 t171 (by rfl) rfl ?_
  refine zg_nameH fun h172 eh172 => ?_
  have hw := hw h172 eh172
  exact okb_134_630 hw
set_option maxRecDepth 100000 in
def wb_134_102 (E : Nat → Nat) (d : Nat) (Q : Option Value → ZH → Prop) (a0 : Nat) (h : ZH) : Prop := ∀ h33 : ZH, h33 = (znew h 13 113) → ∀ r34 : Nat, r34 = (zsz h) → ztag h33 r34 = 13 ∧ zin 0 (zlen h33 r34) = true ∧ ∀ h36 : ZH, h36 = (zuI h33 r34 0 121) → zin 1 (zlen h36 r34) = true ∧ ∀ h37 : ZH, h37 = (zuI h36 r34 1 101) → zin 2 (zlen h37 r34) = true ∧ ∀ h38 : ZH, h38 = (zuI h37 r34 2 97) → zin 3 (zlen h38 r34) = true ∧ ∀ h39 : ZH, h39 = (zuI h38 r34 3 114) → zin 4 (zlen h39 r34) = true ∧ ∀ h40 : ZH, h40 = (zuI h39 r34 4 115) → zin 5 (zlen h40 r34) = true ∧ ∀ h41 : ZH, h41 = (zuI h40 r34 5 100) → zin 6 (zlen h41 r34) = true ∧ ∀ h42 : ZH, h42 = (zuI h41 r34 6 97) → zin 7 (zlen h42 r34) = true ∧ ∀ h43 : ZH, h43 = (zuI h42 r34 7 121) → zin 8 (zlen h43 r34) = true ∧ ∀ h44 : ZH, h44 = (zuI h43 r34 8 115) → zin 9 (zlen h44 r34) = true ∧ ∀ h45 : ZH, h45 = (zuI h44 r34 9 113) → zin 10 (zlen h45 r34) = true ∧ ∀ h46 : ZH, h46 = (zuI h45 r34 10 117) → zin 11 (zlen h46 r34) = true ∧ ∀ h47 : ZH, h47 = (zuI h46 r34 11 97) → zin 12 (zlen h47 r34) = true ∧ ∀ h48 : ZH, h48 = (zuI h47 r34 12 110) → zin 13 (zlen h48 r34) = true ∧ ∀ h49 : ZH, h49 = (zuI h48 r34 13 116) → zin 14 (zlen h49 r34) = true ∧ ∀ h50 : ZH, h50 = (zuI h49 r34 14 105) → zin 15 (zlen h50 r34) = true ∧ ∀ h51 : ZH, h51 = (zuI h50 r34 15 116) → zin 16 (zlen h51 r34) = true ∧ ∀ h52 : ZH, h52 = (zuI h51 r34 16 121) → zin 17 (zlen h52 r34) = true ∧ ∀ h53 : ZH, h53 = (zuI h52 r34 17 100) → zin 18 (zlen h53 r34) = true ∧ ∀ h54 : ZH, h54 = (zuI h53 r34 18 97) → zin 19 (zlen h54 r34) = true ∧ ∀ h55 : ZH, h55 = (zuI h54 r34 19 121) → zin 20 (zlen h55 r34) = true ∧ ∀ h56 : ZH, h56 = (zuI h55 r34 20 112) → zin 21 (zlen h56 r34) = true ∧ ∀ h57 : ZH, h57 = (zuI h56 r34 21 97) → zin 22 (zlen h57 r34) = true ∧ ∀ h58 : ZH, h58 = (zuI h57 r34 22 105) → zin 23 (zlen h58 r34) = true ∧ ∀ h59 : ZH, h59 = (zuI h58 r34 23 100) → zin 24 (zlen h59 r34) = true ∧ ∀ h60 : ZH, h60 = (zuI h59 r34 24 98) → zin 25 (zlen h60 r34) = true ∧ ∀ h61 : ZH, h61 = (zuI h60 r34 25 97) → zin 26 (zlen h61 r34) = true ∧ ∀ h62 : ZH, h62 = (zuI h61 r34 26 115) → zin 27 (zlen h62 r34) = true ∧ ∀ h63 : ZH, h63 = (zuI h62 r34 27 101) → zin 28 (zlen h63 r34) = true ∧ ∀ h64 : ZH, h64 = (zuI h63 r34 28 105) → zin 29 (zlen h64 r34) = true ∧ ∀ h65 : ZH, h65 = (zuI h64 r34 29 110) → zin 30 (zlen h65 r34) = true ∧ ∀ h66 : ZH, h66 = (zuI h65 r34 30 100) → zin 31 (zlen h66 r34) = true ∧ ∀ h67 : ZH, h67 = (zuI h66 r34 31 101) → zin 32 (zlen h67 r34) = true ∧ ∀ h68 : ZH, h68 = (zuI h67 r34 32 120) → zin 33 (zlen h68 r34) = true ∧ ∀ h69 : ZH, h69 = (zuI h68 r34 33 115) → zin 34 (zlen h69 r34) = true ∧ ∀ h70 : ZH, h70 = (zuI h69 r34 34 117) → zin 35 (zlen h70 r34) = true ∧ ∀ h71 : ZH, h71 = (zuI h70 r34 35 114) → zin 36 (zlen h71 r34) = true ∧ ∀ h72 : ZH, h72 = (zuI h71 r34 36 99) → zin 37 (zlen h72 r34) = true ∧ ∀ h73 : ZH, h73 = (zuI h72 r34 37 104) → zin 38 (zlen h73 r34) = true ∧ ∀ h74 : ZH, h74 = (zuI h73 r34 38 97) → zin 39 (zlen h74 r34) = true ∧ ∀ h75 : ZH, h75 = (zuI h74 r34 39 114) → zin 40 (zlen h75 r34) = true ∧ ∀ h76 : ZH, h76 = (zuI h75 r34 40 103) → zin 41 (zlen h76 r34) = true ∧ ∀ h77 : ZH, h77 = (zuI h76 r34 41 101) → zin 42 (zlen h77 r34) = true ∧ ∀ h78 : ZH, h78 = (zuI h77 r34 42 109) → zin 43 (zlen h78 r34) = true ∧ ∀ h79 : ZH, h79 = (zuI h78 r34 43 97) → zin 44 (zlen h79 r34) = true ∧ ∀ h80 : ZH, h80 = (zuI h79 r34 44 100) → zin 45 (zlen h80 r34) = true ∧ ∀ h81 : ZH, h81 = (zuI h80 r34 45 101) → zin 46 (zlen h81 r34) = true ∧ ∀ h82 : ZH, h82 = (zuI h81 r34 46 114) → zin 47 (zlen h82 r34) = true ∧ ∀ h83 : ZH, h83 = (zuI h82 r34 47 101) → zin 48 (zlen h83 r34) = true ∧ ∀ h84 : ZH, h84 = (zuI h83 r34 48 115) → zin 49 (zlen h84 r34) = true ∧ ∀ h85 : ZH, h85 = (zuI h84 r34 49 116) → zin 50 (zlen h85 r34) = true ∧ ∀ h86 : ZH, h86 = (zuI h85 r34 50 99) → zin 51 (zlen h86 r34) = true ∧ ∀ h87 : ZH, h87 = (zuI h86 r34 51 97) → zin 52 (zlen h87 r34) = true ∧ ∀ h88 : ZH, h88 = (zuI h87 r34 52 114) → zin 53 (zlen h88 r34) = true ∧ ∀ h89 : ZH, h89 = (zuI h88 r34 53 114) → zin 54 (zlen h89 r34) = true ∧ ∀ h90 : ZH, h90 = (zuI h89 r34 54 105) → zin 55 (zlen h90 r34) = true ∧ ∀ h91 : ZH, h91 = (zuI h90 r34 55 101) → zin 56 (zlen h91 r34) = true ∧ ∀ h92 : ZH, h92 = (zuI h91 r34 56 100) → zin 57 (zlen h92 r34) = true ∧ ∀ h93 : ZH, h93 = (zuI h92 r34 57 110) → zin 58 (zlen h93 r34) = true ∧ ∀ h94 : ZH, h94 = (zuI h93 r34 58 111) → zin 59 (zlen h94 r34) = true ∧ ∀ h95 : ZH, h95 = (zuI h94 r34 59 116) → zin 60 (zlen h95 r34) = true ∧ ∀ h96 : ZH, h96 = (zuI h95 r34 60 105) → zin 61 (zlen h96 r34) = true ∧ ∀ h97 : ZH, h97 = (zuI h96 r34 61 99) → zin 62 (zlen h97 r34) = true ∧ ∀ h98 : ZH, h98 = (zuI h97 r34 62 101) → zin 63 (zlen h98 r34) = true ∧ ∀ h99 : ZH, h99 = (zuI h98 r34 63 102) → zin 64 (zlen h99 r34) = true ∧ ∀ h100 : ZH, h100 = (zuI h99 r34 64 114) → zin 65 (zlen h100 r34) = true ∧ ∀ h101 : ZH, h101 = (zuI h100 r34 65 101) → zin 66 (zlen h101 r34) = true ∧ ∀ h102 : ZH, h102 = (zuI h101 r34 66 101) → zin 67 (zlen h102 r34) = true ∧ ∀ h103 : ZH, h103 = (zuI h102 r34 67 99) → zin 68 (zlen h103 r34) = true ∧ ∀ h104 : ZH, h104 = (zuI h103 r34 68 111) → zin 69 (zlen h104 r34) = true ∧ ∀ h105 : ZH, h105 = (zuI h104 r34 69 115) → zin 70 (zlen h105 r34) = true ∧ ∀ h106 : ZH, h106 = (zuI h105 r34 70 116) → zin 71 (zlen h106 r34) = true ∧ ∀ h107 : ZH, h107 = (zuI h106 r34 71 112) → zin 72 (zlen h107 r34) = true ∧ ∀ h108 : ZH, h108 = (zuI h107 r34 72 114) → zin 73 (zlen h108 r34) = true ∧ ∀ h109 : ZH, h109 = (zuI h108 r34 73 105) → zin 74 (zlen h109 r34) = true ∧ ∀ h110 : ZH, h110 = (zuI h109 r34 74 99) → zin 75 (zlen h110 r34) = true ∧ ∀ h111 : ZH, h111 = (zuI h110 r34 75 101) → zin 76 (zlen h111 r34) = true ∧ ∀ h112 : ZH, h112 = (zuI h111 r34 76 99) → zin 77 (zlen h112 r34) = true ∧ ∀ h113 : ZH, h113 = (zuI h112 r34 77 104) → zin 78 (zlen h113 r34) = true ∧ ∀ h114 : ZH, h114 = (zuI h113 r34 78 97) → zin 79 (zlen h114 r34) = true ∧ ∀ h115 : ZH, h115 = (zuI h114 r34 79 110) → zin 80 (zlen h115 r34) = true ∧ ∀ h116 : ZH, h116 = (zuI h115 r34 80 99) → zin 81 (zlen h116 r34) = true ∧ ∀ h117 : ZH, h117 = (zuI h116 r34 81 101) → zin 82 (zlen h117 r34) = true ∧ ∀ h118 : ZH, h118 = (zuI h117 r34 82 115) → zin 83 (zlen h118 r34) = true ∧ ∀ h119 : ZH, h119 = (zuI h118 r34 83 116) → zin 84 (zlen h119 r34) = true ∧ ∀ h120 : ZH, h120 = (zuI h119 r34 84 97) → zin 85 (zlen h120 r34) = true ∧ ∀ h121 : ZH, h121 = (zuI h120 r34 85 114) → zin 86 (zlen h121 r34) = true ∧ ∀ h122 : ZH, h122 = (zuI h121 r34 86 116) → zin 87 (zlen h122 r34) = true ∧ ∀ h123 : ZH, h123 = (zuI h122 r34 87 102) → zin 88 (zlen h123 r34) = true ∧ ∀ h124 : ZH, h124 = (zuI h123 r34 88 105) → zin 89 (zlen h124 r34) = true ∧ ∀ h125 : ZH, h125 = (zuI h124 r34 89 114) → zin 90 (zlen h125 r34) = true ∧ ∀ h126 : ZH, h126 = (zuI h125 r34 90 115) → zin 91 (zlen h126 r34) = true ∧ ∀ h127 : ZH, h127 = (zuI h126 r34 91 116) → zin 92 (zlen h127 r34) = true ∧ ∀ h128 : ZH, h128 = (zuI h127 r34 92 108) → zin 93 (zlen h128 r34) = true ∧ ∀ h129 : ZH, h129 = (zuI h128 r34 93 97) → zin 94 (zlen h129 r34) = true ∧ ∀ h130 : ZH, h130 = (zuI h129 r34 94 115) → zin 95 (zlen h130 r34) = true ∧ ∀ h131 : ZH, h131 = (zuI h130 r34 95 116) → zin 96 (zlen h131 r34) = true ∧ ∀ h132 : ZH, h132 = (zuI h131 r34 96 110) → zin 97 (zlen h132 r34) = true ∧ ∀ h133 : ZH, h133 = (zuI h132 r34 97 111) → zin 98 (zlen h133 r34) = true ∧ ∀ h134 : ZH, h134 = (zuI h133 r34 98 98) → zin 99 (zlen h134 r34) = true ∧ ∀ h135 : ZH, h135 = (zuI h134 r34 99 111) → zin 100 (zlen h135 r34) = true ∧ ∀ h136 : ZH, h136 = (zuI h135 r34 100 100) → zin 101 (zlen h136 r34) = true ∧ ∀ h137 : ZH, h137 = (zuI h136 r34 101 121) → zin 102 (zlen h137 r34) = true ∧ ∀ h138 : ZH, h138 = (zuI h137 r34 102 115) → zin 103 (zlen h138 r34) = true ∧ ∀ h139 : ZH, h139 = (zuI h138 r34 103 101) → zin 104 (zlen h139 r34) = true ∧ ∀ h140 : ZH, h140 = (zuI h139 r34 104 108) → zin 105 (zlen h140 r34) = true ∧ ∀ h141 : ZH, h141 = (zuI h140 r34 105 108) → zin 106 (zlen h141 r34) = true ∧ ∀ h142 : ZH, h142 = (zuI h141 r34 106 101) → zin 107 (zlen h142 r34) = true ∧ ∀ h143 : ZH, h143 = (zuI h142 r34 107 114) → zin 108 (zlen h143 r34) = true ∧ ∀ h144 : ZH, h144 = (zuI h143 r34 108 98) → zin 109 (zlen h144 r34) = true ∧ ∀ h145 : ZH, h145 = (zuI h144 r34 109 117) → zin 110 (zlen h145 r34) = true ∧ ∀ h146 : ZH, h146 = (zuI h145 r34 110 121) → zin 111 (zlen h146 r34) = true ∧ ∀ h147 : ZH, h147 = (zuI h146 r34 111 101) → zin 112 (zlen h147 r34) = true ∧ ∀ h148 : ZH, h148 = (zuI h147 r34 112 114) → ztag h148 a0 = 11 ∧ ∀ h150 : ZH, h150 = (zuR h148 a0 10 (r34 + 1)) → wb_134_558 E d Q a0 h150
set_option maxRecDepth 100000 in
set_option maxHeartbeats 16000000 in
theorem okb_134_102 {E : Nat → Nat} {d : Nat} {Q : Option Value → ZH → Prop} {a0 : Nat} {h : ZH} (hw : wb_134_102 E d Q a0 h) : Gx E (d + 1) 134 102 [.ref a0] [] h Q := by
  unfold wb_134_102 at hw
  refine zg_aload zi_134_102 rfl ?_
  refine zg_const (v := 113) zi_134_103 (by rfl) ?_
  refine zg_newarray_int (N := 113) zi_134_104 (by decide) (by decide) ?_
  refine zg_nameH fun h33 eh33 => ?_
  have hw := hw h33 eh33
  refine zg_nameA fun r34 er34 => ?_
  have hw := hw r34 er34
  refine zg_dup zi_134_105 rfl ?_
  refine zg_const (v := 0) zi_134_106 (by rfl) ?_
  refine zg_const (v := 121) zi_134_107 (by rfl) ?_
  obtain ⟨t35, hw⟩ := hw
  obtain ⟨hb, hw⟩ := hw
  refine zg_iastore (h1 := zuI h33 r34 0 121) zi_134_108 t35 hb rfl ?_
  refine zg_nameH fun h36 eh36 => ?_
  have hw := hw h36 eh36
  have tth36 : ztag h36 r34 = 13 := by rw [eh36]; exact t35
  refine zg_dup zi_134_109 rfl ?_
  refine zg_const (v := 1) zi_134_110 (by rfl) ?_
  refine zg_const (v := 101) zi_134_111 (by rfl) ?_
  obtain ⟨hb, hw⟩ := hw
  refine zg_iastore (h1 := zuI h36 r34 1 101) zi_134_112 tth36 hb rfl ?_
  refine zg_nameH fun h37 eh37 => ?_
  have hw := hw h37 eh37
  have tth37 : ztag h37 r34 = 13 := by rw [eh37]; exact tth36
  refine zg_dup zi_134_113 rfl ?_
  refine zg_const (v := 2) zi_134_114 (by rfl) ?_
  refine zg_const (v := 97) zi_134_115 (by rfl) ?_
  obtain ⟨hb, hw⟩ := hw
  refine zg_iastore (h1 := zuI h37 r34 2 97) zi_134_116 tth37 hb rfl ?_
  refine zg_nameH fun h38 eh38 => ?_
  have hw := hw h38 eh38
  have tth38 : ztag h38 r34 = 13 := by rw [eh38]; exact tth37
  refine zg_dup zi_134_117 rfl ?_
  refine zg_const (v := 3) zi_134_118 (by rfl) ?_
  refine zg_const (v := 114) zi_134_119 (by rfl) ?_
  obtain ⟨hb, hw⟩ := hw
  refine zg_iastore (h1 := zuI h38 r34 3 114) zi_134_120 tth38 hb rfl ?_
  refine zg_nameH fun h39 eh39 => ?_
  have hw := hw h39 eh39
  have tth39 : ztag h39 r34 = 13 := by rw [eh39]; exact tth38
  refine zg_dup zi_134_121 rfl ?_
  refine zg_const (v := 4) zi_134_122 (by rfl) ?_
  refine zg_const (v := 115) zi_134_123 (by rfl) ?_
  obtain ⟨hb, hw⟩ := hw
  refine zg_iastore (h1 := zuI h39 r34 4 115) zi_134_124 tth39 hb rfl ?_
  refine zg_nameH fun h40 eh40 => ?_
  have hw := hw h40 eh40
  have tth40 : ztag h40 r34 = 13 := by rw [eh40]; exact tth39
  refine zg_dup zi_134_125 rfl ?_
  refine zg_const (v := 5) zi_134_126 (by rfl) ?_
  refine zg_const (v := 100) zi_134_127 (by rfl) ?_
  obtain ⟨hb, hw⟩ := hw
  refine zg_iastore (h1 := zuI h40 r34 5 100) zi_134_128 tth40 hb rfl ?_
  refine zg_nameH fun h41 eh41 => ?_
  have hw := hw h41 eh41
  have tth41 : ztag h41 r34 = 13 := by rw [eh41]; exact tth40
  refine zg_dup zi_134_129 rfl ?_
  refine zg_const (v := 6) zi_134_130 (by rfl) ?_
  refine zg_const (v := 97) zi_134_131 (by rfl) ?_
  obtain ⟨hb, hw⟩ := hw
  refine zg_iastore (h1 := zuI h41 r34 6 97) zi_134_132 tth41 hb rfl ?_
  refine zg_nameH fun h42 eh42 => ?_
  have hw := hw h42 eh42
  have tth42 : ztag h42 r34 = 13 := by rw [eh42]; exact tth41
  refine zg_dup zi_134_133 rfl ?_
  refine zg_const (v := 7) zi_134_134 (by rfl) ?_
  refine zg_const (v := 121) zi_134_135 (by rfl) ?_
  obtain ⟨hb, hw⟩ := hw
  refine zg_iastore (h1 := zuI h42 r34 7 121) zi_134_136 tth42 hb rfl ?_
  refine zg_nameH fun h43 eh43 => ?_
  have hw := hw h43 eh43
  have tth43 : ztag h43 r34 = 13 := by rw [eh43]; exact tth42
  refine zg_dup zi_134_137 rfl ?_
  refine zg_const (v := 8) zi_134_138 (by rfl) ?_
  refine zg_const (v := 115) zi_134_139 (by rfl) ?_
  obtain ⟨hb, hw⟩ := hw
  refine zg_iastore (h1 := zuI h43 r34 8 115) zi_134_140 tth43 hb rfl ?_
  refine zg_nameH fun h44 eh44 => ?_
  have hw := hw h44 eh44
  have tth44 : ztag h44 r34 = 13 := by rw [eh44]; exact tth43
  refine zg_dup zi_134_141 rfl ?_
  refine zg_const (v := 9) zi_134_142 (by rfl) ?_
  refine zg_const (v := 113) zi_134_143 (by rfl) ?_
  obtain ⟨hb, hw⟩ := hw
  refine zg_iastore (h1 := zuI h44 r34 9 113) zi_134_144 tth44 hb rfl ?_
  refine zg_nameH fun h45 eh45 => ?_
  have hw := hw h45 eh45
  have tth45 : ztag h45 r34 = 13 := by rw [eh45]; exact tth44
  refine zg_dup zi_134_145 rfl ?_
  refine zg_const (v := 10) zi_134_146 (by rfl) ?_
  refine zg_const (v := 117) zi_134_147 (by rfl) ?_
  obtain ⟨hb, hw⟩ := hw
  refine zg_iastore (h1 := zuI h45 r34 10 117) zi_134_148 tth45 hb rfl ?_
  refine zg_nameH fun h46 eh46 => ?_
  have hw := hw h46 eh46
  have tth46 : ztag h46 r34 = 13 := by rw [eh46]; exact tth45
  refine zg_dup zi_134_149 rfl ?_
  refine zg_const (v := 11) zi_134_150 (by rfl) ?_
  refine zg_const (v := 97) zi_134_151 (by rfl) ?_
  obtain ⟨hb, hw⟩ := hw
  refine zg_iastore (h1 := zuI h46 r34 11 97) zi_134_152 tth46 hb rfl ?_
  refine zg_nameH fun h47 eh47 => ?_
  have hw := hw h47 eh47
  have tth47 : ztag h47 r34 = 13 := by rw [eh47]; exact tth46
  refine zg_dup zi_134_153 rfl ?_
  refine zg_const (v := 12) zi_134_154 (by rfl) ?_
  refine zg_const (v := 110) zi_134_155 (by rfl) ?_
  obtain ⟨hb, hw⟩ := hw
  refine zg_iastore (h1 := zuI h47 r34 12 110) zi_134_156 tth47 hb rfl ?_
  refine zg_nameH fun h48 eh48 => ?_
  have hw := hw h48 eh48
  have tth48 : ztag h48 r34 = 13 := by rw [eh48]; exact tth47
  refine zg_dup zi_134_157 rfl ?_
  refine zg_const (v := 13) zi_134_158 (by rfl) ?_
  refine zg_const (v := 116) zi_134_159 (by rfl) ?_
  obtain ⟨hb, hw⟩ := hw
  refine zg_iastore (h1 := zuI h48 r34 13 116) zi_134_160 tth48 hb rfl ?_
  refine zg_nameH fun h49 eh49 => ?_
  have hw := hw h49 eh49
  have tth49 : ztag h49 r34 = 13 := by rw [eh49]; exact tth48
  refine zg_dup zi_134_161 rfl ?_
  refine zg_const (v := 14) zi_134_162 (by rfl) ?_
  refine zg_const (v := 105) zi_134_163 (by rfl) ?_
  obtain ⟨hb, hw⟩ := hw
  refine zg_iastore (h1 := zuI h49 r34 14 105) zi_134_164 tth49 hb rfl ?_
  refine zg_nameH fun h50 eh50 => ?_
  have hw := hw h50 eh50
  have tth50 : ztag h50 r34 = 13 := by rw [eh50]; exact tth49
  refine zg_dup zi_134_165 rfl ?_
  refine zg_const (v := 15) zi_134_166 (by rfl) ?_
  refine zg_const (v := 116) zi_134_167 (by rfl) ?_
  obtain ⟨hb, hw⟩ := hw
  refine zg_iastore (h1 := zuI h50 r34 15 116) zi_134_168 tth50 hb rfl ?_
  refine zg_nameH fun h51 eh51 => ?_
  have hw := hw h51 eh51
  have tth51 : ztag h51 r34 = 13 := by rw [eh51]; exact tth50
  refine zg_dup zi_134_169 rfl ?_
  refine zg_const (v := 16) zi_134_170 (by rfl) ?_
  refine zg_const (v := 121) zi_134_171 (by rfl) ?_
  obtain ⟨hb, hw⟩ := hw
  refine zg_iastore (h1 := zuI h51 r34 16 121) zi_134_172 tth51 hb rfl ?_
  refine zg_nameH fun h52 eh52 => ?_
  have hw := hw h52 eh52
  have tth52 : ztag h52 r34 = 13 := by rw [eh52]; exact tth51
  refine zg_dup zi_134_173 rfl ?_
  refine zg_const (v := 17) zi_134_174 (by rfl) ?_
  refine zg_const (v := 100) zi_134_175 (by rfl) ?_
  obtain ⟨hb, hw⟩ := hw
  refine zg_iastore (h1 := zuI h52 r34 17 100) zi_134_176 tth52 hb rfl ?_
  refine zg_nameH fun h53 eh53 => ?_
  have hw := hw h53 eh53
  have tth53 : ztag h53 r34 = 13 := by rw [eh53]; exact tth52
  refine zg_dup zi_134_177 rfl ?_
  refine zg_const (v := 18) zi_134_178 (by rfl) ?_
  refine zg_const (v := 97) zi_134_179 (by rfl) ?_
  obtain ⟨hb, hw⟩ := hw
  refine zg_iastore (h1 := zuI h53 r34 18 97) zi_134_180 tth53 hb rfl ?_
  refine zg_nameH fun h54 eh54 => ?_
  have hw := hw h54 eh54
  have tth54 : ztag h54 r34 = 13 := by rw [eh54]; exact tth53
  refine zg_dup zi_134_181 rfl ?_
  refine zg_const (v := 19) zi_134_182 (by rfl) ?_
  refine zg_const (v := 121) zi_134_183 (by rfl) ?_
  obtain ⟨hb, hw⟩ := hw
  refine zg_iastore (h1 := zuI h54 r34 19 121) zi_134_184 tth54 hb rfl ?_
  refine zg_nameH fun h55 eh55 => ?_
  have hw := hw h55 eh55
  have tth55 : ztag h55 r34 = 13 := by rw [eh55]; exact tth54
  refine zg_dup zi_134_185 rfl ?_
  refine zg_const (v := 20) zi_134_186 (by rfl) ?_
  refine zg_const (v := 112) zi_134_187 (by rfl) ?_
  obtain ⟨hb, hw⟩ := hw
  refine zg_iastore (h1 := zuI h55 r34 20 112) zi_134_188 tth55 hb rfl ?_
  refine zg_nameH fun h56 eh56 => ?_
  have hw := hw h56 eh56
  have tth56 : ztag h56 r34 = 13 := by rw [eh56]; exact tth55
  refine zg_dup zi_134_189 rfl ?_
  refine zg_const (v := 21) zi_134_190 (by rfl) ?_
  refine zg_const (v := 97) zi_134_191 (by rfl) ?_
  obtain ⟨hb, hw⟩ := hw
  refine zg_iastore (h1 := zuI h56 r34 21 97) zi_134_192 tth56 hb rfl ?_
  refine zg_nameH fun h57 eh57 => ?_
  have hw := hw h57 eh57
  have tth57 : ztag h57 r34 = 13 := by rw [eh57]; exact tth56
  refine zg_dup zi_134_193 rfl ?_
  refine zg_const (v := 22) zi_134_194 (by rfl) ?_
  refine zg_const (v := 105) zi_134_195 (by rfl) ?_
  obtain ⟨hb, hw⟩ := hw
  refine zg_iastore (h1 := zuI h57 r34 22 105) zi_134_196 tth57 hb rfl ?_
  refine zg_nameH fun h58 eh58 => ?_
  have hw := hw h58 eh58
  have tth58 : ztag h58 r34 = 13 := by rw [eh58]; exact tth57
  refine zg_dup zi_134_197 rfl ?_
  refine zg_const (v := 23) zi_134_198 (by rfl) ?_
  refine zg_const (v := 100) zi_134_199 (by rfl) ?_
  obtain ⟨hb, hw⟩ := hw
  refine zg_iastore (h1 := zuI h58 r34 23 100) zi_134_200 tth58 hb rfl ?_
  refine zg_nameH fun h59 eh59 => ?_
  have hw := hw h59 eh59
  have tth59 : ztag h59 r34 = 13 := by rw [eh59]; exact tth58
  refine zg_dup zi_134_201 rfl ?_
  refine zg_const (v := 24) zi_134_202 (by rfl) ?_
  refine zg_const (v := 98) zi_134_203 (by rfl) ?_
  obtain ⟨hb, hw⟩ := hw
  refine zg_iastore (h1 := zuI h59 r34 24 98) zi_134_204 tth59 hb rfl ?_
  refine zg_nameH fun h60 eh60 => ?_
  have hw := hw h60 eh60
  have tth60 : ztag h60 r34 = 13 := by rw [eh60]; exact tth59
  refine zg_dup zi_134_205 rfl ?_
  refine zg_const (v := 25) zi_134_206 (by rfl) ?_
  refine zg_const (v := 97) zi_134_207 (by rfl) ?_
  obtain ⟨hb, hw⟩ := hw
  refine zg_iastore (h1 := zuI h60 r34 25 97) zi_134_208 tth60 hb rfl ?_
  refine zg_nameH fun h61 eh61 => ?_
  have hw := hw h61 eh61
  have tth61 : ztag h61 r34 = 13 := by rw [eh61]; exact tth60
  refine zg_dup zi_134_209 rfl ?_
  refine zg_const (v := 26) zi_134_210 (by rfl) ?_
  refine zg_const (v := 115) zi_134_211 (by rfl) ?_
  obtain ⟨hb, hw⟩ := hw
  refine zg_iastore (h1 := zuI h61 r34 26 115) zi_134_212 tth61 hb rfl ?_
  refine zg_nameH fun h62 eh62 => ?_
  have hw := hw h62 eh62
  have tth62 : ztag h62 r34 = 13 := by rw [eh62]; exact tth61
  refine zg_dup zi_134_213 rfl ?_
  refine zg_const (v := 27) zi_134_214 (by rfl) ?_
  refine zg_const (v := 101) zi_134_215 (by rfl) ?_
  obtain ⟨hb, hw⟩ := hw
  refine zg_iastore (h1 := zuI h62 r34 27 101) zi_134_216 tth62 hb rfl ?_
  refine zg_nameH fun h63 eh63 => ?_
  have hw := hw h63 eh63
  have tth63 : ztag h63 r34 = 13 := by rw [eh63]; exact tth62
  refine zg_dup zi_134_217 rfl ?_
  refine zg_const (v := 28) zi_134_218 (by rfl) ?_
  refine zg_const (v := 105) zi_134_219 (by rfl) ?_
  obtain ⟨hb, hw⟩ := hw
  refine zg_iastore (h1 := zuI h63 r34 28 105) zi_134_220 tth63 hb rfl ?_
  refine zg_nameH fun h64 eh64 => ?_
  have hw := hw h64 eh64
  have tth64 : ztag h64 r34 = 13 := by rw [eh64]; exact tth63
  refine zg_dup zi_134_221 rfl ?_
  refine zg_const (v := 29) zi_134_222 (by rfl) ?_
  refine zg_const (v := 110) zi_134_223 (by rfl) ?_
  obtain ⟨hb, hw⟩ := hw
  refine zg_iastore (h1 := zuI h64 r34 29 110) zi_134_224 tth64 hb rfl ?_
  refine zg_nameH fun h65 eh65 => ?_
  have hw := hw h65 eh65
  have tth65 : ztag h65 r34 = 13 := by rw [eh65]; exact tth64
  refine zg_dup zi_134_225 rfl ?_
  refine zg_const (v := 30) zi_134_226 (by rfl) ?_
  refine zg_const (v := 100) zi_134_227 (by rfl) ?_
  obtain ⟨hb, hw⟩ := hw
  refine zg_iastore (h1 := zuI h65 r34 30 100) zi_134_228 tth65 hb rfl ?_
  refine zg_nameH fun h66 eh66 => ?_
  have hw := hw h66 eh66
  have tth66 : ztag h66 r34 = 13 := by rw [eh66]; exact tth65
  refine zg_dup zi_134_229 rfl ?_
  refine zg_const (v := 31) zi_134_230 (by rfl) ?_
  refine zg_const (v := 101) zi_134_231 (by rfl) ?_
  obtain ⟨hb, hw⟩ := hw
  refine zg_iastore (h1 := zuI h66 r34 31 101) zi_134_232 tth66 hb rfl ?_
  refine zg_nameH fun h67 eh67 => ?_
  have hw := hw h67 eh67
  have tth67 : ztag h67 r34 = 13 := by rw [eh67]; exact tth66
  refine zg_dup zi_134_233 rfl ?_
  refine zg_const (v := 32) zi_134_234 (by rfl) ?_
  refine zg_const (v := 120) zi_134_235 (by rfl) ?_
  obtain ⟨hb, hw⟩ := hw
  refine zg_iastore (h1 := zuI h67 r34 32 120) zi_134_236 tth67 hb rfl ?_
  refine zg_nameH fun h68 eh68 => ?_
  have hw := hw h68 eh68
  have tth68 : ztag h68 r34 = 13 := by rw [eh68]; exact tth67
  refine zg_dup zi_134_237 rfl ?_
  refine zg_const (v := 33) zi_134_238 (by rfl) ?_
  refine zg_const (v := 115) zi_134_239 (by rfl) ?_
  obtain ⟨hb, hw⟩ := hw
  refine zg_iastore (h1 := zuI h68 r34 33 115) zi_134_240 tth68 hb rfl ?_
  refine zg_nameH fun h69 eh69 => ?_
  have hw := hw h69 eh69
  have tth69 : ztag h69 r34 = 13 := by rw [eh69]; exact tth68
  refine zg_dup zi_134_241 rfl ?_
  refine zg_const (v := 34) zi_134_242 (by rfl) ?_
  refine zg_const (v := 117) zi_134_243 (by rfl) ?_
  obtain ⟨hb, hw⟩ := hw
  refine zg_iastore (h1 := zuI h69 r34 34 117) zi_134_244 tth69 hb rfl ?_
  refine zg_nameH fun h70 eh70 => ?_
  have hw := hw h70 eh70
  have tth70 : ztag h70 r34 = 13 := by rw [eh70]; exact tth69
  refine zg_dup zi_134_245 rfl ?_
  refine zg_const (v := 35) zi_134_246 (by rfl) ?_
  refine zg_const (v := 114) zi_134_247 (by rfl) ?_
  obtain ⟨hb, hw⟩ := hw
  refine zg_iastore (h1 := zuI h70 r34 35 114) zi_134_248 tth70 hb rfl ?_
  refine zg_nameH fun h71 eh71 => ?_
  have hw := hw h71 eh71
  have tth71 : ztag h71 r34 = 13 := by rw [eh71]; exact tth70
  refine zg_dup zi_134_249 rfl ?_
  refine zg_const (v := 36) zi_134_250 (by rfl) ?_
  refine zg_const (v := 99) zi_134_251 (by rfl) ?_
  obtain ⟨hb, hw⟩ := hw
  refine zg_iastore (h1 := zuI h71 r34 36 99) zi_134_252 tth71 hb rfl ?_
  refine zg_nameH fun h72 eh72 => ?_
  have hw := hw h72 eh72
  have tth72 : ztag h72 r34 = 13 := by rw [eh72]; exact tth71
  refine zg_dup zi_134_253 rfl ?_
  refine zg_const (v := 37) zi_134_254 (by rfl) ?_
  refine zg_const (v := 104) zi_134_255 (by rfl) ?_
  obtain ⟨hb, hw⟩ := hw
  refine zg_iastore (h1 := zuI h72 r34 37 104) zi_134_256 tth72 hb rfl ?_
  refine zg_nameH fun h73 eh73 => ?_
  have hw := hw h73 eh73
  have tth73 : ztag h73 r34 = 13 := by rw [eh73]; exact tth72
  refine zg_dup zi_134_257 rfl ?_
  refine zg_const (v := 38) zi_134_258 (by rfl) ?_
  refine zg_const (v := 97) zi_134_259 (by rfl) ?_
  obtain ⟨hb, hw⟩ := hw
  refine zg_iastore (h1 := zuI h73 r34 38 97) zi_134_260 tth73 hb rfl ?_
  refine zg_nameH fun h74 eh74 => ?_
  have hw := hw h74 eh74
  have tth74 : ztag h74 r34 = 13 := by rw [eh74]; exact tth73
  refine zg_dup zi_134_261 rfl ?_
  refine zg_const (v := 39) zi_134_262 (by rfl) ?_
  refine zg_const (v := 114) zi_134_263 (by rfl) ?_
  obtain ⟨hb, hw⟩ := hw
  refine zg_iastore (h1 := zuI h74 r34 39 114) zi_134_264 tth74 hb rfl ?_
  refine zg_nameH fun h75 eh75 => ?_
  have hw := hw h75 eh75
  have tth75 : ztag h75 r34 = 13 := by rw [eh75]; exact tth74
  refine zg_dup zi_134_265 rfl ?_
  refine zg_const (v := 40) zi_134_266 (by rfl) ?_
  refine zg_const (v := 103) zi_134_267 (by rfl) ?_
  obtain ⟨hb, hw⟩ := hw
  refine zg_iastore (h1 := zuI h75 r34 40 103) zi_134_268 tth75 hb rfl ?_
  refine zg_nameH fun h76 eh76 => ?_
  have hw := hw h76 eh76
  have tth76 : ztag h76 r34 = 13 := by rw [eh76]; exact tth75
  refine zg_dup zi_134_269 rfl ?_
  refine zg_const (v := 41) zi_134_270 (by rfl) ?_
  refine zg_const (v := 101) zi_134_271 (by rfl) ?_
  obtain ⟨hb, hw⟩ := hw
  refine zg_iastore (h1 := zuI h76 r34 41 101) zi_134_272 tth76 hb rfl ?_
  refine zg_nameH fun h77 eh77 => ?_
  have hw := hw h77 eh77
  have tth77 : ztag h77 r34 = 13 := by rw [eh77]; exact tth76
  refine zg_dup zi_134_273 rfl ?_
  refine zg_const (v := 42) zi_134_274 (by rfl) ?_
  refine zg_const (v := 109) zi_134_275 (by rfl) ?_
  obtain ⟨hb, hw⟩ := hw
  refine zg_iastore (h1 := zuI h77 r34 42 109) zi_134_276 tth77 hb rfl ?_
  refine zg_nameH fun h78 eh78 => ?_
  have hw := hw h78 eh78
  have tth78 : ztag h78 r34 = 13 := by rw [eh78]; exact tth77
  refine zg_dup zi_134_277 rfl ?_
  refine zg_const (v := 43) zi_134_278 (by rfl) ?_
  refine zg_const (v := 97) zi_134_279 (by rfl) ?_
  obtain ⟨hb, hw⟩ := hw
  refine zg_iastore (h1 := zuI h78 r34 43 97) zi_134_280 tth78 hb rfl ?_
  refine zg_nameH fun h79 eh79 => ?_
  have hw := hw h79 eh79
  have tth79 : ztag h79 r34 = 13 := by rw [eh79]; exact tth78
  refine zg_dup zi_134_281 rfl ?_
  refine zg_const (v := 44) zi_134_282 (by rfl) ?_
  refine zg_const (v := 100) zi_134_283 (by rfl) ?_
  obtain ⟨hb, hw⟩ := hw
  refine zg_iastore (h1 := zuI h79 r34 44 100) zi_134_284 tth79 hb rfl ?_
  refine zg_nameH fun h80 eh80 => ?_
  have hw := hw h80 eh80
  have tth80 : ztag h80 r34 = 13 := by rw [eh80]; exact tth79
  refine zg_dup zi_134_285 rfl ?_
  refine zg_const (v := 45) zi_134_286 (by rfl) ?_
  refine zg_const (v := 101) zi_134_287 (by rfl) ?_
  obtain ⟨hb, hw⟩ := hw
  refine zg_iastore (h1 := zuI h80 r34 45 101) zi_134_288 tth80 hb rfl ?_
  refine zg_nameH fun h81 eh81 => ?_
  have hw := hw h81 eh81
  have tth81 : ztag h81 r34 = 13 := by rw [eh81]; exact tth80
  refine zg_dup zi_134_289 rfl ?_
  refine zg_const (v := 46) zi_134_290 (by rfl) ?_
  refine zg_const (v := 114) zi_134_291 (by rfl) ?_
  obtain ⟨hb, hw⟩ := hw
  refine zg_iastore (h1 := zuI h81 r34 46 114) zi_134_292 tth81 hb rfl ?_
  refine zg_nameH fun h82 eh82 => ?_
  have hw := hw h82 eh82
  have tth82 : ztag h82 r34 = 13 := by rw [eh82]; exact tth81
  refine zg_dup zi_134_293 rfl ?_
  refine zg_const (v := 47) zi_134_294 (by rfl) ?_
  refine zg_const (v := 101) zi_134_295 (by rfl) ?_
  obtain ⟨hb, hw⟩ := hw
  refine zg_iastore (h1 := zuI h82 r34 47 101) zi_134_296 tth82 hb rfl ?_
  refine zg_nameH fun h83 eh83 => ?_
  have hw := hw h83 eh83
  have tth83 : ztag h83 r34 = 13 := by rw [eh83]; exact tth82
  refine zg_dup zi_134_297 rfl ?_
  refine zg_const (v := 48) zi_134_298 (by rfl) ?_
  refine zg_const (v := 115) zi_134_299 (by rfl) ?_
  obtain ⟨hb, hw⟩ := hw
  refine zg_iastore (h1 := zuI h83 r34 48 115) zi_134_300 tth83 hb rfl ?_
  refine zg_nameH fun h84 eh84 => ?_
  have hw := hw h84 eh84
  have tth84 : ztag h84 r34 = 13 := by rw [eh84]; exact tth83
  refine zg_dup zi_134_301 rfl ?_
  refine zg_const (v := 49) zi_134_302 (by rfl) ?_
  refine zg_const (v := 116) zi_134_303 (by rfl) ?_
  obtain ⟨hb, hw⟩ := hw
  refine zg_iastore (h1 := zuI h84 r34 49 116) zi_134_304 tth84 hb rfl ?_
  refine zg_nameH fun h85 eh85 => ?_
  have hw := hw h85 eh85
  have tth85 : ztag h85 r34 = 13 := by rw [eh85]; exact tth84
  refine zg_dup zi_134_305 rfl ?_
  refine zg_const (v := 50) zi_134_306 (by rfl) ?_
  refine zg_const (v := 99) zi_134_307 (by rfl) ?_
  obtain ⟨hb, hw⟩ := hw
  refine zg_iastore (h1 := zuI h85 r34 50 99) zi_134_308 tth85 hb rfl ?_
  refine zg_nameH fun h86 eh86 => ?_
  have hw := hw h86 eh86
  have tth86 : ztag h86 r34 = 13 := by rw [eh86]; exact tth85
  refine zg_dup zi_134_309 rfl ?_
  refine zg_const (v := 51) zi_134_310 (by rfl) ?_
  refine zg_const (v := 97) zi_134_311 (by rfl) ?_
  obtain ⟨hb, hw⟩ := hw
  refine zg_iastore (h1 := zuI h86 r34 51 97) zi_134_312 tth86 hb rfl ?_
  refine zg_nameH fun h87 eh87 => ?_
  have hw := hw h87 eh87
  have tth87 : ztag h87 r34 = 13 := by rw [eh87]; exact tth86
  refine zg_dup zi_134_313 rfl ?_
  refine zg_const (v := 52) zi_134_314 (by rfl) ?_
  refine zg_const (v := 114) zi_134_315 (by rfl) ?_
  obtain ⟨hb, hw⟩ := hw
  refine zg_iastore (h1 := zuI h87 r34 52 114) zi_134_316 tth87 hb rfl ?_
  refine zg_nameH fun h88 eh88 => ?_
  have hw := hw h88 eh88
  have tth88 : ztag h88 r34 = 13 := by rw [eh88]; exact tth87
  refine zg_dup zi_134_317 rfl ?_
  refine zg_const (v := 53) zi_134_318 (by rfl) ?_
  refine zg_const (v := 114) zi_134_319 (by rfl) ?_
  obtain ⟨hb, hw⟩ := hw
  refine zg_iastore (h1 := zuI h88 r34 53 114) zi_134_320 tth88 hb rfl ?_
  refine zg_nameH fun h89 eh89 => ?_
  have hw := hw h89 eh89
  have tth89 : ztag h89 r34 = 13 := by rw [eh89]; exact tth88
  refine zg_dup zi_134_321 rfl ?_
  refine zg_const (v := 54) zi_134_322 (by rfl) ?_
  refine zg_const (v := 105) zi_134_323 (by rfl) ?_
  obtain ⟨hb, hw⟩ := hw
  refine zg_iastore (h1 := zuI h89 r34 54 105) zi_134_324 tth89 hb rfl ?_
  refine zg_nameH fun h90 eh90 => ?_
  have hw := hw h90 eh90
  have tth90 : ztag h90 r34 = 13 := by rw [eh90]; exact tth89
  refine zg_dup zi_134_325 rfl ?_
  refine zg_const (v := 55) zi_134_326 (by rfl) ?_
  refine zg_const (v := 101) zi_134_327 (by rfl) ?_
  obtain ⟨hb, hw⟩ := hw
  refine zg_iastore (h1 := zuI h90 r34 55 101) zi_134_328 tth90 hb rfl ?_
  refine zg_nameH fun h91 eh91 => ?_
  have hw := hw h91 eh91
  have tth91 : ztag h91 r34 = 13 := by rw [eh91]; exact tth90
  refine zg_dup zi_134_329 rfl ?_
  refine zg_const (v := 56) zi_134_330 (by rfl) ?_
  refine zg_const (v := 100) zi_134_331 (by rfl) ?_
  obtain ⟨hb, hw⟩ := hw
  refine zg_iastore (h1 := zuI h91 r34 56 100) zi_134_332 tth91 hb rfl ?_
  refine zg_nameH fun h92 eh92 => ?_
  have hw := hw h92 eh92
  have tth92 : ztag h92 r34 = 13 := by rw [eh92]; exact tth91
  refine zg_dup zi_134_333 rfl ?_
  refine zg_const (v := 57) zi_134_334 (by rfl) ?_
  refine zg_const (v := 110) zi_134_335 (by rfl) ?_
  obtain ⟨hb, hw⟩ := hw
  refine zg_iastore (h1 := zuI h92 r34 57 110) zi_134_336 tth92 hb rfl ?_
  refine zg_nameH fun h93 eh93 => ?_
  have hw := hw h93 eh93
  have tth93 : ztag h93 r34 = 13 := by rw [eh93]; exact tth92
  refine zg_dup zi_134_337 rfl ?_
  refine zg_const (v := 58) zi_134_338 (by rfl) ?_
  refine zg_const (v := 111) zi_134_339 (by rfl) ?_
  obtain ⟨hb, hw⟩ := hw
  refine zg_iastore (h1 := zuI h93 r34 58 111) zi_134_340 tth93 hb rfl ?_
  refine zg_nameH fun h94 eh94 => ?_
  have hw := hw h94 eh94
  have tth94 : ztag h94 r34 = 13 := by rw [eh94]; exact tth93
  refine zg_dup zi_134_341 rfl ?_
  refine zg_const (v := 59) zi_134_342 (by rfl) ?_
  refine zg_const (v := 116) zi_134_343 (by rfl) ?_
  obtain ⟨hb, hw⟩ := hw
  refine zg_iastore (h1 := zuI h94 r34 59 116) zi_134_344 tth94 hb rfl ?_
  refine zg_nameH fun h95 eh95 => ?_
  have hw := hw h95 eh95
  have tth95 : ztag h95 r34 = 13 := by rw [eh95]; exact tth94
  refine zg_dup zi_134_345 rfl ?_
  refine zg_const (v := 60) zi_134_346 (by rfl) ?_
  refine zg_const (v := 105) zi_134_347 (by rfl) ?_
  obtain ⟨hb, hw⟩ := hw
  refine zg_iastore (h1 := zuI h95 r34 60 105) zi_134_348 tth95 hb rfl ?_
  refine zg_nameH fun h96 eh96 => ?_
  have hw := hw h96 eh96
  have tth96 : ztag h96 r34 = 13 := by rw [eh96]; exact tth95
  refine zg_dup zi_134_349 rfl ?_
  refine zg_const (v := 61) zi_134_350 (by rfl) ?_
  refine zg_const (v := 99) zi_134_351 (by rfl) ?_
  obtain ⟨hb, hw⟩ := hw
  refine zg_iastore (h1 := zuI h96 r34 61 99) zi_134_352 tth96 hb rfl ?_
  refine zg_nameH fun h97 eh97 => ?_
  have hw := hw h97 eh97
  have tth97 : ztag h97 r34 = 13 := by rw [eh97]; exact tth96
  refine zg_dup zi_134_353 rfl ?_
  refine zg_const (v := 62) zi_134_354 (by rfl) ?_
  refine zg_const (v := 101) zi_134_355 (by rfl) ?_
  obtain ⟨hb, hw⟩ := hw
  refine zg_iastore (h1 := zuI h97 r34 62 101) zi_134_356 tth97 hb rfl ?_
  refine zg_nameH fun h98 eh98 => ?_
  have hw := hw h98 eh98
  have tth98 : ztag h98 r34 = 13 := by rw [eh98]; exact tth97
  refine zg_dup zi_134_357 rfl ?_
  refine zg_const (v := 63) zi_134_358 (by rfl) ?_
  refine zg_const (v := 102) zi_134_359 (by rfl) ?_
  obtain ⟨hb, hw⟩ := hw
  refine zg_iastore (h1 := zuI h98 r34 63 102) zi_134_360 tth98 hb rfl ?_
  refine zg_nameH fun h99 eh99 => ?_
  have hw := hw h99 eh99
  have tth99 : ztag h99 r34 = 13 := by rw [eh99]; exact tth98
  refine zg_dup zi_134_361 rfl ?_
  refine zg_const (v := 64) zi_134_362 (by rfl) ?_
  refine zg_const (v := 114) zi_134_363 (by rfl) ?_
  obtain ⟨hb, hw⟩ := hw
  refine zg_iastore (h1 := zuI h99 r34 64 114) zi_134_364 tth99 hb rfl ?_
  refine zg_nameH fun h100 eh100 => ?_
  have hw := hw h100 eh100
  have tth100 : ztag h100 r34 = 13 := by rw [eh100]; exact tth99
  refine zg_dup zi_134_365 rfl ?_
  refine zg_const (v := 65) zi_134_366 (by rfl) ?_
  refine zg_const (v := 101) zi_134_367 (by rfl) ?_
  obtain ⟨hb, hw⟩ := hw
  refine zg_iastore (h1 := zuI h100 r34 65 101) zi_134_368 tth100 hb rfl ?_
  refine zg_nameH fun h101 eh101 => ?_
  have hw := hw h101 eh101
  have tth101 : ztag h101 r34 = 13 := by rw [eh101]; exact tth100
  refine zg_dup zi_134_369 rfl ?_
  refine zg_const (v := 66) zi_134_370 (by rfl) ?_
  refine zg_const (v := 101) zi_134_371 (by rfl) ?_
  obtain ⟨hb, hw⟩ := hw
  refine zg_iastore (h1 := zuI h101 r34 66 101) zi_134_372 tth101 hb rfl ?_
  refine zg_nameH fun h102 eh102 => ?_
  have hw := hw h102 eh102
  have tth102 : ztag h102 r34 = 13 := by rw [eh102]; exact tth101
  refine zg_dup zi_134_373 rfl ?_
  refine zg_const (v := 67) zi_134_374 (by rfl) ?_
  refine zg_const (v := 99) zi_134_375 (by rfl) ?_
  obtain ⟨hb, hw⟩ := hw
  refine zg_iastore (h1 := zuI h102 r34 67 99) zi_134_376 tth102 hb rfl ?_
  refine zg_nameH fun h103 eh103 => ?_
  have hw := hw h103 eh103
  have tth103 : ztag h103 r34 = 13 := by rw [eh103]; exact tth102
  refine zg_dup zi_134_377 rfl ?_
  refine zg_const (v := 68) zi_134_378 (by rfl) ?_
  refine zg_const (v := 111) zi_134_379 (by rfl) ?_
  obtain ⟨hb, hw⟩ := hw
  refine zg_iastore (h1 := zuI h103 r34 68 111) zi_134_380 tth103 hb rfl ?_
  refine zg_nameH fun h104 eh104 => ?_
  have hw := hw h104 eh104
  have tth104 : ztag h104 r34 = 13 := by rw [eh104]; exact tth103
  refine zg_dup zi_134_381 rfl ?_
  refine zg_const (v := 69) zi_134_382 (by rfl) ?_
  refine zg_const (v := 115) zi_134_383 (by rfl) ?_
  obtain ⟨hb, hw⟩ := hw
  refine zg_iastore (h1 := zuI h104 r34 69 115) zi_134_384 tth104 hb rfl ?_
  refine zg_nameH fun h105 eh105 => ?_
  have hw := hw h105 eh105
  have tth105 : ztag h105 r34 = 13 := by rw [eh105]; exact tth104
  refine zg_dup zi_134_385 rfl ?_
  refine zg_const (v := 70) zi_134_386 (by rfl) ?_
  refine zg_const (v := 116) zi_134_387 (by rfl) ?_
  obtain ⟨hb, hw⟩ := hw
  refine zg_iastore (h1 := zuI h105 r34 70 116) zi_134_388 tth105 hb rfl ?_
  refine zg_nameH fun h106 eh106 => ?_
  have hw := hw h106 eh106
  have tth106 : ztag h106 r34 = 13 := by rw [eh106]; exact tth105
  refine zg_dup zi_134_389 rfl ?_
  refine zg_const (v := 71) zi_134_390 (by rfl) ?_
  refine zg_const (v := 112) zi_134_391 (by rfl) ?_
  obtain ⟨hb, hw⟩ := hw
  refine zg_iastore (h1 := zuI h106 r34 71 112) zi_134_392 tth106 hb rfl ?_
  refine zg_nameH fun h107 eh107 => ?_
  have hw := hw h107 eh107
  have tth107 : ztag h107 r34 = 13 := by rw [eh107]; exact tth106
  refine zg_dup zi_134_393 rfl ?_
  refine zg_const (v := 72) zi_134_394 (by rfl) ?_
  refine zg_const (v := 114) zi_134_395 (by rfl) ?_
  obtain ⟨hb, hw⟩ := hw
  refine zg_iastore (h1 := zuI h107 r34 72 114) zi_134_396 tth107 hb rfl ?_
  refine zg_nameH fun h108 eh108 => ?_
  have hw := hw h108 eh108
  have tth108 : ztag h108 r34 = 13 := by rw [eh108]; exact tth107
  refine zg_dup zi_134_397 rfl ?_
  refine zg_const (v := 73) zi_134_398 (by rfl) ?_
  refine zg_const (v := 105) zi_134_399 (by rfl) ?_
  obtain ⟨hb, hw⟩ := hw
  refine zg_iastore (h1 := zuI h108 r34 73 105) zi_134_400 tth108 hb rfl ?_
  refine zg_nameH fun h109 eh109 => ?_
  have hw := hw h109 eh109
  have tth109 : ztag h109 r34 = 13 := by rw [eh109]; exact tth108
  refine zg_dup zi_134_401 rfl ?_
  refine zg_const (v := 74) zi_134_402 (by rfl) ?_
  refine zg_const (v := 99) zi_134_403 (by rfl) ?_
  obtain ⟨hb, hw⟩ := hw
  refine zg_iastore (h1 := zuI h109 r34 74 99) zi_134_404 tth109 hb rfl ?_
  refine zg_nameH fun h110 eh110 => ?_
  have hw := hw h110 eh110
  have tth110 : ztag h110 r34 = 13 := by rw [eh110]; exact tth109
  refine zg_dup zi_134_405 rfl ?_
  refine zg_const (v := 75) zi_134_406 (by rfl) ?_
  refine zg_const (v := 101) zi_134_407 (by rfl) ?_
  obtain ⟨hb, hw⟩ := hw
  refine zg_iastore (h1 := zuI h110 r34 75 101) zi_134_408 tth110 hb rfl ?_
  refine zg_nameH fun h111 eh111 => ?_
  have hw := hw h111 eh111
  have tth111 : ztag h111 r34 = 13 := by rw [eh111]; exact tth110
  refine zg_dup zi_134_409 rfl ?_
  refine zg_const (v := 76) zi_134_410 (by rfl) ?_
  refine zg_const (v := 99) zi_134_411 (by rfl) ?_
  obtain ⟨hb, hw⟩ := hw
  refine zg_iastore (h1 := zuI h111 r34 76 99) zi_134_412 tth111 hb rfl ?_
  refine zg_nameH fun h112 eh112 => ?_
  have hw := hw h112 eh112
  have tth112 : ztag h112 r34 = 13 := by rw [eh112]; exact tth111
  refine zg_dup zi_134_413 rfl ?_
  refine zg_const (v := 77) zi_134_414 (by rfl) ?_
  refine zg_const (v := 104) zi_134_415 (by rfl) ?_
  obtain ⟨hb, hw⟩ := hw
  refine zg_iastore (h1 := zuI h112 r34 77 104) zi_134_416 tth112 hb rfl ?_
  refine zg_nameH fun h113 eh113 => ?_
  have hw := hw h113 eh113
  have tth113 : ztag h113 r34 = 13 := by rw [eh113]; exact tth112
  refine zg_dup zi_134_417 rfl ?_
  refine zg_const (v := 78) zi_134_418 (by rfl) ?_
  refine zg_const (v := 97) zi_134_419 (by rfl) ?_
  obtain ⟨hb, hw⟩ := hw
  refine zg_iastore (h1 := zuI h113 r34 78 97) zi_134_420 tth113 hb rfl ?_
  refine zg_nameH fun h114 eh114 => ?_
  have hw := hw h114 eh114
  have tth114 : ztag h114 r34 = 13 := by rw [eh114]; exact tth113
  refine zg_dup zi_134_421 rfl ?_
  refine zg_const (v := 79) zi_134_422 (by rfl) ?_
  refine zg_const (v := 110) zi_134_423 (by rfl) ?_
  obtain ⟨hb, hw⟩ := hw
  refine zg_iastore (h1 := zuI h114 r34 79 110) zi_134_424 tth114 hb rfl ?_
  refine zg_nameH fun h115 eh115 => ?_
  have hw := hw h115 eh115
  have tth115 : ztag h115 r34 = 13 := by rw [eh115]; exact tth114
  refine zg_dup zi_134_425 rfl ?_
  refine zg_const (v := 80) zi_134_426 (by rfl) ?_
  refine zg_const (v := 99) zi_134_427 (by rfl) ?_
  obtain ⟨hb, hw⟩ := hw
  refine zg_iastore (h1 := zuI h115 r34 80 99) zi_134_428 tth115 hb rfl ?_
  refine zg_nameH fun h116 eh116 => ?_
  have hw := hw h116 eh116
  have tth116 : ztag h116 r34 = 13 := by rw [eh116]; exact tth115
  refine zg_dup zi_134_429 rfl ?_
  refine zg_const (v := 81) zi_134_430 (by rfl) ?_
  refine zg_const (v := 101) zi_134_431 (by rfl) ?_
  obtain ⟨hb, hw⟩ := hw
  refine zg_iastore (h1 := zuI h116 r34 81 101) zi_134_432 tth116 hb rfl ?_
  refine zg_nameH fun h117 eh117 => ?_
  have hw := hw h117 eh117
  have tth117 : ztag h117 r34 = 13 := by rw [eh117]; exact tth116
  refine zg_dup zi_134_433 rfl ?_
  refine zg_const (v := 82) zi_134_434 (by rfl) ?_
  refine zg_const (v := 115) zi_134_435 (by rfl) ?_
  obtain ⟨hb, hw⟩ := hw
  refine zg_iastore (h1 := zuI h117 r34 82 115) zi_134_436 tth117 hb rfl ?_
  refine zg_nameH fun h118 eh118 => ?_
  have hw := hw h118 eh118
  have tth118 : ztag h118 r34 = 13 := by rw [eh118]; exact tth117
  refine zg_dup zi_134_437 rfl ?_
  refine zg_const (v := 83) zi_134_438 (by rfl) ?_
  refine zg_const (v := 116) zi_134_439 (by rfl) ?_
  obtain ⟨hb, hw⟩ := hw
  refine zg_iastore (h1 := zuI h118 r34 83 116) zi_134_440 tth118 hb rfl ?_
  refine zg_nameH fun h119 eh119 => ?_
  have hw := hw h119 eh119
  have tth119 : ztag h119 r34 = 13 := by rw [eh119]; exact tth118
  refine zg_dup zi_134_441 rfl ?_
  refine zg_const (v := 84) zi_134_442 (by rfl) ?_
  refine zg_const (v := 97) zi_134_443 (by rfl) ?_
  obtain ⟨hb, hw⟩ := hw
  refine zg_iastore (h1 := zuI h119 r34 84 97) zi_134_444 tth119 hb rfl ?_
  refine zg_nameH fun h120 eh120 => ?_
  have hw := hw h120 eh120
  have tth120 : ztag h120 r34 = 13 := by rw [eh120]; exact tth119
  refine zg_dup zi_134_445 rfl ?_
  refine zg_const (v := 85) zi_134_446 (by rfl) ?_
  refine zg_const (v := 114) zi_134_447 (by rfl) ?_
  obtain ⟨hb, hw⟩ := hw
  refine zg_iastore (h1 := zuI h120 r34 85 114) zi_134_448 tth120 hb rfl ?_
  refine zg_nameH fun h121 eh121 => ?_
  have hw := hw h121 eh121
  have tth121 : ztag h121 r34 = 13 := by rw [eh121]; exact tth120
  refine zg_dup zi_134_449 rfl ?_
  refine zg_const (v := 86) zi_134_450 (by rfl) ?_
  refine zg_const (v := 116) zi_134_451 (by rfl) ?_
  obtain ⟨hb, hw⟩ := hw
  refine zg_iastore (h1 := zuI h121 r34 86 116) zi_134_452 tth121 hb rfl ?_
  refine zg_nameH fun h122 eh122 => ?_
  have hw := hw h122 eh122
  have tth122 : ztag h122 r34 = 13 := by rw [eh122]; exact tth121
  refine zg_dup zi_134_453 rfl ?_
  refine zg_const (v := 87) zi_134_454 (by rfl) ?_
  refine zg_const (v := 102) zi_134_455 (by rfl) ?_
  obtain ⟨hb, hw⟩ := hw
  refine zg_iastore (h1 := zuI h122 r34 87 102) zi_134_456 tth122 hb rfl ?_
  refine zg_nameH fun h123 eh123 => ?_
  have hw := hw h123 eh123
  have tth123 : ztag h123 r34 = 13 := by rw [eh123]; exact tth122
  refine zg_dup zi_134_457 rfl ?_
  refine zg_const (v := 88) zi_134_458 (by rfl) ?_
  refine zg_const (v := 105) zi_134_459 (by rfl) ?_
  obtain ⟨hb, hw⟩ := hw
  refine zg_iastore (h1 := zuI h123 r34 88 105) zi_134_460 tth123 hb rfl ?_
  refine zg_nameH fun h124 eh124 => ?_
  have hw := hw h124 eh124
  have tth124 : ztag h124 r34 = 13 := by rw [eh124]; exact tth123
  refine zg_dup zi_134_461 rfl ?_
  refine zg_const (v := 89) zi_134_462 (by rfl) ?_
  refine zg_const (v := 114) zi_134_463 (by rfl) ?_
  obtain ⟨hb, hw⟩ := hw
  refine zg_iastore (h1 := zuI h124 r34 89 114) zi_134_464 tth124 hb rfl ?_
  refine zg_nameH fun h125 eh125 => ?_
  have hw := hw h125 eh125
  have tth125 : ztag h125 r34 = 13 := by rw [eh125]; exact tth124
  refine zg_dup zi_134_465 rfl ?_
  refine zg_const (v := 90) zi_134_466 (by rfl) ?_
  refine zg_const (v := 115) zi_134_467 (by rfl) ?_
  obtain ⟨hb, hw⟩ := hw
  refine zg_iastore (h1 := zuI h125 r34 90 115) zi_134_468 tth125 hb rfl ?_
  refine zg_nameH fun h126 eh126 => ?_
  have hw := hw h126 eh126
  have tth126 : ztag h126 r34 = 13 := by rw [eh126]; exact tth125
  refine zg_dup zi_134_469 rfl ?_
  refine zg_const (v := 91) zi_134_470 (by rfl) ?_
  refine zg_const (v := 116) zi_134_471 (by rfl) ?_
  obtain ⟨hb, hw⟩ := hw
  refine zg_iastore (h1 := zuI h126 r34 91 116) zi_134_472 tth126 hb rfl ?_
  refine zg_nameH fun h127 eh127 => ?_
  have hw := hw h127 eh127
  have tth127 : ztag h127 r34 = 13 := by rw [eh127]; exact tth126
  refine zg_dup zi_134_473 rfl ?_
  refine zg_const (v := 92) zi_134_474 (by rfl) ?_
  refine zg_const (v := 108) zi_134_475 (by rfl) ?_
  obtain ⟨hb, hw⟩ := hw
  refine zg_iastore (h1 := zuI h127 r34 92 108) zi_134_476 tth127 hb rfl ?_
  refine zg_nameH fun h128 eh128 => ?_
  have hw := hw h128 eh128
  have tth128 : ztag h128 r34 = 13 := by rw [eh128]; exact tth127
  refine zg_dup zi_134_477 rfl ?_
  refine zg_const (v := 93) zi_134_478 (by rfl) ?_
  refine zg_const (v := 97) zi_134_479 (by rfl) ?_
  obtain ⟨hb, hw⟩ := hw
  refine zg_iastore (h1 := zuI h128 r34 93 97) zi_134_480 tth128 hb rfl ?_
  refine zg_nameH fun h129 eh129 => ?_
  have hw := hw h129 eh129
  have tth129 : ztag h129 r34 = 13 := by rw [eh129]; exact tth128
  refine zg_dup zi_134_481 rfl ?_
  refine zg_const (v := 94) zi_134_482 (by rfl) ?_
  refine zg_const (v := 115) zi_134_483 (by rfl) ?_
  obtain ⟨hb, hw⟩ := hw
  refine zg_iastore (h1 := zuI h129 r34 94 115) zi_134_484 tth129 hb rfl ?_
  refine zg_nameH fun h130 eh130 => ?_
  have hw := hw h130 eh130
  have tth130 : ztag h130 r34 = 13 := by rw [eh130]; exact tth129
  refine zg_dup zi_134_485 rfl ?_
  refine zg_const (v := 95) zi_134_486 (by rfl) ?_
  refine zg_const (v := 116) zi_134_487 (by rfl) ?_
  obtain ⟨hb, hw⟩ := hw
  refine zg_iastore (h1 := zuI h130 r34 95 116) zi_134_488 tth130 hb rfl ?_
  refine zg_nameH fun h131 eh131 => ?_
  have hw := hw h131 eh131
  have tth131 : ztag h131 r34 = 13 := by rw [eh131]; exact tth130
  refine zg_dup zi_134_489 rfl ?_
  refine zg_const (v := 96) zi_134_490 (by rfl) ?_
  refine zg_const (v := 110) zi_134_491 (by rfl) ?_
  obtain ⟨hb, hw⟩ := hw
  refine zg_iastore (h1 := zuI h131 r34 96 110) zi_134_492 tth131 hb rfl ?_
  refine zg_nameH fun h132 eh132 => ?_
  have hw := hw h132 eh132
  have tth132 : ztag h132 r34 = 13 := by rw [eh132]; exact tth131
  refine zg_dup zi_134_493 rfl ?_
  refine zg_const (v := 97) zi_134_494 (by rfl) ?_
  refine zg_const (v := 111) zi_134_495 (by rfl) ?_
  obtain ⟨hb, hw⟩ := hw
  refine zg_iastore (h1 := zuI h132 r34 97 111) zi_134_496 tth132 hb rfl ?_
  refine zg_nameH fun h133 eh133 => ?_
  have hw := hw h133 eh133
  have tth133 : ztag h133 r34 = 13 := by rw [eh133]; exact tth132
  refine zg_dup zi_134_497 rfl ?_
  refine zg_const (v := 98) zi_134_498 (by rfl) ?_
  refine zg_const (v := 98) zi_134_499 (by rfl) ?_
  obtain ⟨hb, hw⟩ := hw
  refine zg_iastore (h1 := zuI h133 r34 98 98) zi_134_500 tth133 hb rfl ?_
  refine zg_nameH fun h134 eh134 => ?_
  have hw := hw h134 eh134
  have tth134 : ztag h134 r34 = 13 := by rw [eh134]; exact tth133
  refine zg_dup zi_134_501 rfl ?_
  refine zg_const (v := 99) zi_134_502 (by rfl) ?_
  refine zg_const (v := 111) zi_134_503 (by rfl) ?_
  obtain ⟨hb, hw⟩ := hw
  refine zg_iastore (h1 := zuI h134 r34 99 111) zi_134_504 tth134 hb rfl ?_
  refine zg_nameH fun h135 eh135 => ?_
  have hw := hw h135 eh135
  have tth135 : ztag h135 r34 = 13 := by rw [eh135]; exact tth134
  refine zg_dup zi_134_505 rfl ?_
  refine zg_const (v := 100) zi_134_506 (by rfl) ?_
  refine zg_const (v := 100) zi_134_507 (by rfl) ?_
  obtain ⟨hb, hw⟩ := hw
  refine zg_iastore (h1 := zuI h135 r34 100 100) zi_134_508 tth135 hb rfl ?_
  refine zg_nameH fun h136 eh136 => ?_
  have hw := hw h136 eh136
  have tth136 : ztag h136 r34 = 13 := by rw [eh136]; exact tth135
  refine zg_dup zi_134_509 rfl ?_
  refine zg_const (v := 101) zi_134_510 (by rfl) ?_
  refine zg_const (v := 121) zi_134_511 (by rfl) ?_
  obtain ⟨hb, hw⟩ := hw
  refine zg_iastore (h1 := zuI h136 r34 101 121) zi_134_512 tth136 hb rfl ?_
  refine zg_nameH fun h137 eh137 => ?_
  have hw := hw h137 eh137
  have tth137 : ztag h137 r34 = 13 := by rw [eh137]; exact tth136
  refine zg_dup zi_134_513 rfl ?_
  refine zg_const (v := 102) zi_134_514 (by rfl) ?_
  refine zg_const (v := 115) zi_134_515 (by rfl) ?_
  obtain ⟨hb, hw⟩ := hw
  refine zg_iastore (h1 := zuI h137 r34 102 115) zi_134_516 tth137 hb rfl ?_
  refine zg_nameH fun h138 eh138 => ?_
  have hw := hw h138 eh138
  have tth138 : ztag h138 r34 = 13 := by rw [eh138]; exact tth137
  refine zg_dup zi_134_517 rfl ?_
  refine zg_const (v := 103) zi_134_518 (by rfl) ?_
  refine zg_const (v := 101) zi_134_519 (by rfl) ?_
  obtain ⟨hb, hw⟩ := hw
  refine zg_iastore (h1 := zuI h138 r34 103 101) zi_134_520 tth138 hb rfl ?_
  refine zg_nameH fun h139 eh139 => ?_
  have hw := hw h139 eh139
  have tth139 : ztag h139 r34 = 13 := by rw [eh139]; exact tth138
  refine zg_dup zi_134_521 rfl ?_
  refine zg_const (v := 104) zi_134_522 (by rfl) ?_
  refine zg_const (v := 108) zi_134_523 (by rfl) ?_
  obtain ⟨hb, hw⟩ := hw
  refine zg_iastore (h1 := zuI h139 r34 104 108) zi_134_524 tth139 hb rfl ?_
  refine zg_nameH fun h140 eh140 => ?_
  have hw := hw h140 eh140
  have tth140 : ztag h140 r34 = 13 := by rw [eh140]; exact tth139
  refine zg_dup zi_134_525 rfl ?_
  refine zg_const (v := 105) zi_134_526 (by rfl) ?_
  refine zg_const (v := 108) zi_134_527 (by rfl) ?_
  obtain ⟨hb, hw⟩ := hw
  refine zg_iastore (h1 := zuI h140 r34 105 108) zi_134_528 tth140 hb rfl ?_
  refine zg_nameH fun h141 eh141 => ?_
  have hw := hw h141 eh141
  have tth141 : ztag h141 r34 = 13 := by rw [eh141]; exact tth140
  refine zg_dup zi_134_529 rfl ?_
  refine zg_const (v := 106) zi_134_530 (by rfl) ?_
  refine zg_const (v := 101) zi_134_531 (by rfl) ?_
  obtain ⟨hb, hw⟩ := hw
  refine zg_iastore (h1 := zuI h141 r34 106 101) zi_134_532 tth141 hb rfl ?_
  refine zg_nameH fun h142 eh142 => ?_
  have hw := hw h142 eh142
  have tth142 : ztag h142 r34 = 13 := by rw [eh142]; exact tth141
  refine zg_dup zi_134_533 rfl ?_
  refine zg_const (v := 107) zi_134_534 (by rfl) ?_
  refine zg_const (v := 114) zi_134_535 (by rfl) ?_
  obtain ⟨hb, hw⟩ := hw
  refine zg_iastore (h1 := zuI h142 r34 107 114) zi_134_536 tth142 hb rfl ?_
  refine zg_nameH fun h143 eh143 => ?_
  have hw := hw h143 eh143
  have tth143 : ztag h143 r34 = 13 := by rw [eh143]; exact tth142
  refine zg_dup zi_134_537 rfl ?_
  refine zg_const (v := 108) zi_134_538 (by rfl) ?_
  refine zg_const (v := 98) zi_134_539 (by rfl) ?_
  obtain ⟨hb, hw⟩ := hw
  refine zg_iastore (h1 := zuI h143 r34 108 98) zi_134_540 tth143 hb rfl ?_
  refine zg_nameH fun h144 eh144 => ?_
  have hw := hw h144 eh144
  have tth144 : ztag h144 r34 = 13 := by rw [eh144]; exact tth143
  refine zg_dup zi_134_541 rfl ?_
  refine zg_const (v := 109) zi_134_542 (by rfl) ?_
  refine zg_const (v := 117) zi_134_543 (by rfl) ?_
  obtain ⟨hb, hw⟩ := hw
  refine zg_iastore (h1 := zuI h144 r34 109 117) zi_134_544 tth144 hb rfl ?_
  refine zg_nameH fun h145 eh145 => ?_
  have hw := hw h145 eh145
  have tth145 : ztag h145 r34 = 13 := by rw [eh145]; exact tth144
  refine zg_dup zi_134_545 rfl ?_
  refine zg_const (v := 110) zi_134_546 (by rfl) ?_
  refine zg_const (v := 121) zi_134_547 (by rfl) ?_
  obtain ⟨hb, hw⟩ := hw
  refine zg_iastore (h1 := zuI h145 r34 110 121) zi_134_548 tth145 hb rfl ?_
  refine zg_nameH fun h146 eh146 => ?_
  have hw := hw h146 eh146
  have tth146 : ztag h146 r34 = 13 := by rw [eh146]; exact tth145
  refine zg_dup zi_134_549 rfl ?_
  refine zg_const (v := 111) zi_134_550 (by rfl) ?_
  refine zg_const (v := 101) zi_134_551 (by rfl) ?_
  obtain ⟨hb, hw⟩ := hw
  refine zg_iastore (h1 := zuI h146 r34 111 101) zi_134_552 tth146 hb rfl ?_
  refine zg_nameH fun h147 eh147 => ?_
  have hw := hw h147 eh147
  have tth147 : ztag h147 r34 = 13 := by rw [eh147]; exact tth146
  refine zg_dup zi_134_553 rfl ?_
  refine zg_const (v := 112) zi_134_554 (by rfl) ?_
  refine zg_const (v := 114) zi_134_555 (by rfl) ?_
  obtain ⟨hb, hw⟩ := hw
  refine zg_iastore (h1 := zuI h147 r34 112 114) zi_134_556 tth147 hb rfl ?_
  refine zg_nameH fun h148 eh148 => ?_
  have hw := hw h148 eh148
  have tth148 : ztag h148 r34 = 13 := by rw [eh148]; exact tth147
  obtain ⟨t149, hw⟩ := hw
  refine zg_putR (h1 := zuR h148 a0 10 (r34 + 1)) zi_134_557 t149 (by rfl) rfl ?_
  refine zg_nameH fun h150 eh150 => ?_
  have hw := hw h150 eh150
  exact okb_134_558 hw
set_option maxRecDepth 100000 in
def wb_134_6 (E : Nat → Nat) (d : Nat) (Q : Option Value → ZH → Prop) (a0 : Nat) (h : ZH) : Prop := ∀ h5 : ZH, h5 = (znew h 13 23) → ∀ r6 : Nat, r6 = (zsz h) → ztag h5 r6 = 13 ∧ zin 0 (zlen h5 r6) = true ∧ ∀ h8 : ZH, h8 = (zuI h5 r6 0 0) → zin 1 (zlen h8 r6) = true ∧ ∀ h9 : ZH, h9 = (zuI h8 r6 1 5) → zin 2 (zlen h9 r6) = true ∧ ∀ h10 : ZH, h10 = (zuI h9 r6 2 9) → zin 3 (zlen h10 r6) = true ∧ ∀ h11 : ZH, h11 = (zuI h10 r6 3 17) → zin 4 (zlen h11 r6) = true ∧ ∀ h12 : ZH, h12 = (zuI h11 r6 4 20) → zin 5 (zlen h12 r6) = true ∧ ∀ h13 : ZH, h13 = (zuI h12 r6 5 24) → zin 6 (zlen h13 r6) = true ∧ ∀ h14 : ZH, h14 = (zuI h13 r6 6 28) → zin 7 (zlen h14 r6) = true ∧ ∀ h15 : ZH, h15 = (zuI h14 r6 7 33) → zin 8 (zlen h15 r6) = true ∧ ∀ h16 : ZH, h16 = (zuI h15 r6 8 42) → zin 9 (zlen h16 r6) = true ∧ ∀ h17 : ZH, h17 = (zuI h16 r6 9 46) → zin 10 (zlen h17 r6) = true ∧ ∀ h18 : ZH, h18 = (zuI h17 r6 10 50) → zin 11 (zlen h18 r6) = true ∧ ∀ h19 : ZH, h19 = (zuI h18 r6 11 57) → zin 12 (zlen h19 r6) = true ∧ ∀ h20 : ZH, h20 = (zuI h19 r6 12 63) → zin 13 (zlen h20 r6) = true ∧ ∀ h21 : ZH, h21 = (zuI h20 r6 13 67) → zin 14 (zlen h21 r6) = true ∧ ∀ h22 : ZH, h22 = (zuI h21 r6 14 71) → zin 15 (zlen h22 r6) = true ∧ ∀ h23 : ZH, h23 = (zuI h22 r6 15 76) → zin 16 (zlen h23 r6) = true ∧ ∀ h24 : ZH, h24 = (zuI h23 r6 16 82) → zin 17 (zlen h24 r6) = true ∧ ∀ h25 : ZH, h25 = (zuI h24 r6 17 87) → zin 18 (zlen h25 r6) = true ∧ ∀ h26 : ZH, h26 = (zuI h25 r6 18 92) → zin 19 (zlen h26 r6) = true ∧ ∀ h27 : ZH, h27 = (zuI h26 r6 19 96) → zin 20 (zlen h27 r6) = true ∧ ∀ h28 : ZH, h28 = (zuI h27 r6 20 102) → zin 21 (zlen h28 r6) = true ∧ ∀ h29 : ZH, h29 = (zuI h28 r6 21 108) → zin 22 (zlen h29 r6) = true ∧ ∀ h30 : ZH, h30 = (zuI h29 r6 22 113) → ztag h30 a0 = 11 ∧ ∀ h32 : ZH, h32 = (zuR h30 a0 9 (r6 + 1)) → wb_134_102 E d Q a0 h32
set_option maxRecDepth 100000 in
set_option maxHeartbeats 16000000 in
theorem okb_134_6 {E : Nat → Nat} {d : Nat} {Q : Option Value → ZH → Prop} {a0 : Nat} {h : ZH} (hw : wb_134_6 E d Q a0 h) : Gx E (d + 1) 134 6 [.ref a0] [] h Q := by
  unfold wb_134_6 at hw
  refine zg_aload zi_134_6 rfl ?_
  refine zg_const (v := 23) zi_134_7 (by rfl) ?_
  refine zg_newarray_int (N := 23) zi_134_8 (by decide) (by decide) ?_
  refine zg_nameH fun h5 eh5 => ?_
  have hw := hw h5 eh5
  refine zg_nameA fun r6 er6 => ?_
  have hw := hw r6 er6
  refine zg_dup zi_134_9 rfl ?_
  refine zg_const (v := 0) zi_134_10 (by rfl) ?_
  refine zg_const (v := 0) zi_134_11 (by rfl) ?_
  obtain ⟨t7, hw⟩ := hw
  obtain ⟨hb, hw⟩ := hw
  refine zg_iastore (h1 := zuI h5 r6 0 0) zi_134_12 t7 hb rfl ?_
  refine zg_nameH fun h8 eh8 => ?_
  have hw := hw h8 eh8
  have tth8 : ztag h8 r6 = 13 := by rw [eh8]; exact t7
  refine zg_dup zi_134_13 rfl ?_
  refine zg_const (v := 1) zi_134_14 (by rfl) ?_
  refine zg_const (v := 5) zi_134_15 (by rfl) ?_
  obtain ⟨hb, hw⟩ := hw
  refine zg_iastore (h1 := zuI h8 r6 1 5) zi_134_16 tth8 hb rfl ?_
  refine zg_nameH fun h9 eh9 => ?_
  have hw := hw h9 eh9
  have tth9 : ztag h9 r6 = 13 := by rw [eh9]; exact tth8
  refine zg_dup zi_134_17 rfl ?_
  refine zg_const (v := 2) zi_134_18 (by rfl) ?_
  refine zg_const (v := 9) zi_134_19 (by rfl) ?_
  obtain ⟨hb, hw⟩ := hw
  refine zg_iastore (h1 := zuI h9 r6 2 9) zi_134_20 tth9 hb rfl ?_
  refine zg_nameH fun h10 eh10 => ?_
  have hw := hw h10 eh10
  have tth10 : ztag h10 r6 = 13 := by rw [eh10]; exact tth9
  refine zg_dup zi_134_21 rfl ?_
  refine zg_const (v := 3) zi_134_22 (by rfl) ?_
  refine zg_const (v := 17) zi_134_23 (by rfl) ?_
  obtain ⟨hb, hw⟩ := hw
  refine zg_iastore (h1 := zuI h10 r6 3 17) zi_134_24 tth10 hb rfl ?_
  refine zg_nameH fun h11 eh11 => ?_
  have hw := hw h11 eh11
  have tth11 : ztag h11 r6 = 13 := by rw [eh11]; exact tth10
  refine zg_dup zi_134_25 rfl ?_
  refine zg_const (v := 4) zi_134_26 (by rfl) ?_
  refine zg_const (v := 20) zi_134_27 (by rfl) ?_
  obtain ⟨hb, hw⟩ := hw
  refine zg_iastore (h1 := zuI h11 r6 4 20) zi_134_28 tth11 hb rfl ?_
  refine zg_nameH fun h12 eh12 => ?_
  have hw := hw h12 eh12
  have tth12 : ztag h12 r6 = 13 := by rw [eh12]; exact tth11
  refine zg_dup zi_134_29 rfl ?_
  refine zg_const (v := 5) zi_134_30 (by rfl) ?_
  refine zg_const (v := 24) zi_134_31 (by rfl) ?_
  obtain ⟨hb, hw⟩ := hw
  refine zg_iastore (h1 := zuI h12 r6 5 24) zi_134_32 tth12 hb rfl ?_
  refine zg_nameH fun h13 eh13 => ?_
  have hw := hw h13 eh13
  have tth13 : ztag h13 r6 = 13 := by rw [eh13]; exact tth12
  refine zg_dup zi_134_33 rfl ?_
  refine zg_const (v := 6) zi_134_34 (by rfl) ?_
  refine zg_const (v := 28) zi_134_35 (by rfl) ?_
  obtain ⟨hb, hw⟩ := hw
  refine zg_iastore (h1 := zuI h13 r6 6 28) zi_134_36 tth13 hb rfl ?_
  refine zg_nameH fun h14 eh14 => ?_
  have hw := hw h14 eh14
  have tth14 : ztag h14 r6 = 13 := by rw [eh14]; exact tth13
  refine zg_dup zi_134_37 rfl ?_
  refine zg_const (v := 7) zi_134_38 (by rfl) ?_
  refine zg_const (v := 33) zi_134_39 (by rfl) ?_
  obtain ⟨hb, hw⟩ := hw
  refine zg_iastore (h1 := zuI h14 r6 7 33) zi_134_40 tth14 hb rfl ?_
  refine zg_nameH fun h15 eh15 => ?_
  have hw := hw h15 eh15
  have tth15 : ztag h15 r6 = 13 := by rw [eh15]; exact tth14
  refine zg_dup zi_134_41 rfl ?_
  refine zg_const (v := 8) zi_134_42 (by rfl) ?_
  refine zg_const (v := 42) zi_134_43 (by rfl) ?_
  obtain ⟨hb, hw⟩ := hw
  refine zg_iastore (h1 := zuI h15 r6 8 42) zi_134_44 tth15 hb rfl ?_
  refine zg_nameH fun h16 eh16 => ?_
  have hw := hw h16 eh16
  have tth16 : ztag h16 r6 = 13 := by rw [eh16]; exact tth15
  refine zg_dup zi_134_45 rfl ?_
  refine zg_const (v := 9) zi_134_46 (by rfl) ?_
  refine zg_const (v := 46) zi_134_47 (by rfl) ?_
  obtain ⟨hb, hw⟩ := hw
  refine zg_iastore (h1 := zuI h16 r6 9 46) zi_134_48 tth16 hb rfl ?_
  refine zg_nameH fun h17 eh17 => ?_
  have hw := hw h17 eh17
  have tth17 : ztag h17 r6 = 13 := by rw [eh17]; exact tth16
  refine zg_dup zi_134_49 rfl ?_
  refine zg_const (v := 10) zi_134_50 (by rfl) ?_
  refine zg_const (v := 50) zi_134_51 (by rfl) ?_
  obtain ⟨hb, hw⟩ := hw
  refine zg_iastore (h1 := zuI h17 r6 10 50) zi_134_52 tth17 hb rfl ?_
  refine zg_nameH fun h18 eh18 => ?_
  have hw := hw h18 eh18
  have tth18 : ztag h18 r6 = 13 := by rw [eh18]; exact tth17
  refine zg_dup zi_134_53 rfl ?_
  refine zg_const (v := 11) zi_134_54 (by rfl) ?_
  refine zg_const (v := 57) zi_134_55 (by rfl) ?_
  obtain ⟨hb, hw⟩ := hw
  refine zg_iastore (h1 := zuI h18 r6 11 57) zi_134_56 tth18 hb rfl ?_
  refine zg_nameH fun h19 eh19 => ?_
  have hw := hw h19 eh19
  have tth19 : ztag h19 r6 = 13 := by rw [eh19]; exact tth18
  refine zg_dup zi_134_57 rfl ?_
  refine zg_const (v := 12) zi_134_58 (by rfl) ?_
  refine zg_const (v := 63) zi_134_59 (by rfl) ?_
  obtain ⟨hb, hw⟩ := hw
  refine zg_iastore (h1 := zuI h19 r6 12 63) zi_134_60 tth19 hb rfl ?_
  refine zg_nameH fun h20 eh20 => ?_
  have hw := hw h20 eh20
  have tth20 : ztag h20 r6 = 13 := by rw [eh20]; exact tth19
  refine zg_dup zi_134_61 rfl ?_
  refine zg_const (v := 13) zi_134_62 (by rfl) ?_
  refine zg_const (v := 67) zi_134_63 (by rfl) ?_
  obtain ⟨hb, hw⟩ := hw
  refine zg_iastore (h1 := zuI h20 r6 13 67) zi_134_64 tth20 hb rfl ?_
  refine zg_nameH fun h21 eh21 => ?_
  have hw := hw h21 eh21
  have tth21 : ztag h21 r6 = 13 := by rw [eh21]; exact tth20
  refine zg_dup zi_134_65 rfl ?_
  refine zg_const (v := 14) zi_134_66 (by rfl) ?_
  refine zg_const (v := 71) zi_134_67 (by rfl) ?_
  obtain ⟨hb, hw⟩ := hw
  refine zg_iastore (h1 := zuI h21 r6 14 71) zi_134_68 tth21 hb rfl ?_
  refine zg_nameH fun h22 eh22 => ?_
  have hw := hw h22 eh22
  have tth22 : ztag h22 r6 = 13 := by rw [eh22]; exact tth21
  refine zg_dup zi_134_69 rfl ?_
  refine zg_const (v := 15) zi_134_70 (by rfl) ?_
  refine zg_const (v := 76) zi_134_71 (by rfl) ?_
  obtain ⟨hb, hw⟩ := hw
  refine zg_iastore (h1 := zuI h22 r6 15 76) zi_134_72 tth22 hb rfl ?_
  refine zg_nameH fun h23 eh23 => ?_
  have hw := hw h23 eh23
  have tth23 : ztag h23 r6 = 13 := by rw [eh23]; exact tth22
  refine zg_dup zi_134_73 rfl ?_
  refine zg_const (v := 16) zi_134_74 (by rfl) ?_
  refine zg_const (v := 82) zi_134_75 (by rfl) ?_
  obtain ⟨hb, hw⟩ := hw
  refine zg_iastore (h1 := zuI h23 r6 16 82) zi_134_76 tth23 hb rfl ?_
  refine zg_nameH fun h24 eh24 => ?_
  have hw := hw h24 eh24
  have tth24 : ztag h24 r6 = 13 := by rw [eh24]; exact tth23
  refine zg_dup zi_134_77 rfl ?_
  refine zg_const (v := 17) zi_134_78 (by rfl) ?_
  refine zg_const (v := 87) zi_134_79 (by rfl) ?_
  obtain ⟨hb, hw⟩ := hw
  refine zg_iastore (h1 := zuI h24 r6 17 87) zi_134_80 tth24 hb rfl ?_
  refine zg_nameH fun h25 eh25 => ?_
  have hw := hw h25 eh25
  have tth25 : ztag h25 r6 = 13 := by rw [eh25]; exact tth24
  refine zg_dup zi_134_81 rfl ?_
  refine zg_const (v := 18) zi_134_82 (by rfl) ?_
  refine zg_const (v := 92) zi_134_83 (by rfl) ?_
  obtain ⟨hb, hw⟩ := hw
  refine zg_iastore (h1 := zuI h25 r6 18 92) zi_134_84 tth25 hb rfl ?_
  refine zg_nameH fun h26 eh26 => ?_
  have hw := hw h26 eh26
  have tth26 : ztag h26 r6 = 13 := by rw [eh26]; exact tth25
  refine zg_dup zi_134_85 rfl ?_
  refine zg_const (v := 19) zi_134_86 (by rfl) ?_
  refine zg_const (v := 96) zi_134_87 (by rfl) ?_
  obtain ⟨hb, hw⟩ := hw
  refine zg_iastore (h1 := zuI h26 r6 19 96) zi_134_88 tth26 hb rfl ?_
  refine zg_nameH fun h27 eh27 => ?_
  have hw := hw h27 eh27
  have tth27 : ztag h27 r6 = 13 := by rw [eh27]; exact tth26
  refine zg_dup zi_134_89 rfl ?_
  refine zg_const (v := 20) zi_134_90 (by rfl) ?_
  refine zg_const (v := 102) zi_134_91 (by rfl) ?_
  obtain ⟨hb, hw⟩ := hw
  refine zg_iastore (h1 := zuI h27 r6 20 102) zi_134_92 tth27 hb rfl ?_
  refine zg_nameH fun h28 eh28 => ?_
  have hw := hw h28 eh28
  have tth28 : ztag h28 r6 = 13 := by rw [eh28]; exact tth27
  refine zg_dup zi_134_93 rfl ?_
  refine zg_const (v := 21) zi_134_94 (by rfl) ?_
  refine zg_const (v := 108) zi_134_95 (by rfl) ?_
  obtain ⟨hb, hw⟩ := hw
  refine zg_iastore (h1 := zuI h28 r6 21 108) zi_134_96 tth28 hb rfl ?_
  refine zg_nameH fun h29 eh29 => ?_
  have hw := hw h29 eh29
  have tth29 : ztag h29 r6 = 13 := by rw [eh29]; exact tth28
  refine zg_dup zi_134_97 rfl ?_
  refine zg_const (v := 22) zi_134_98 (by rfl) ?_
  refine zg_const (v := 113) zi_134_99 (by rfl) ?_
  obtain ⟨hb, hw⟩ := hw
  refine zg_iastore (h1 := zuI h29 r6 22 113) zi_134_100 tth29 hb rfl ?_
  refine zg_nameH fun h30 eh30 => ?_
  have hw := hw h30 eh30
  have tth30 : ztag h30 r6 = 13 := by rw [eh30]; exact tth29
  obtain ⟨t31, hw⟩ := hw
  refine zg_putR (h1 := zuR h30 a0 9 (r6 + 1)) zi_134_101 t31 (by rfl) rfl ?_
  refine zg_nameH fun h32 eh32 => ?_
  have hw := hw h32 eh32
  exact okb_134_102 hw
set_option maxRecDepth 100000 in
/-- TakeOrPayModel.<init>()V -/
def w_134 (E : Nat → Nat) (d : Nat) (a0 : Nat) (h : ZH) (Q : Option Value → ZH → Prop) : Prop := 4 ≤ d ∧ ∀ h1 : ZH, h1 = (znew h 13 320) → ∀ r2 : Nat, r2 = (zsz h) → ztag h1 a0 = 11 ∧ ∀ h4 : ZH, h4 = (zuR h1 a0 0 (r2 + 1)) → wb_134_6 E d Q a0 h4
set_option maxRecDepth 100000 in
set_option maxHeartbeats 16000000 in
theorem ok_134 {E : Nat → Nat} {d : Nat} {a0 : Nat} {h : ZH} {Q : Option Value → ZH → Prop} (hw : w_134 E d a0 h Q) : Ct E (d + 1) 134 [.ref a0] h Q := by
  unfold w_134 at hw
  show Gx E (d + 1) 134 0 [.ref a0] [] h Q
  refine zg_aload zi_134_0 rfl ?_
  obtain ⟨hd, hw⟩ := hw
  refine zg_object zi_134_1 ⟨by omega, Nat.le_of_ble_eq_true rfl⟩ ?_
  refine zg_aload zi_134_2 rfl ?_
  refine zg_const (v := 320) zi_134_3 (by rfl) ?_
  refine zg_newarray_int (N := 320) zi_134_4 (by decide) (by decide) ?_
  refine zg_nameH fun h1 eh1 => ?_
  have hw := hw h1 eh1
  refine zg_nameA fun r2 er2 => ?_
  have hw := hw r2 er2
  obtain ⟨t3, hw⟩ := hw
  refine zg_putR (h1 := zuR h1 a0 0 (r2 + 1)) zi_134_5 t3 (by rfl) rfl ?_
  refine zg_nameH fun h4 eh4 => ?_
  have hw := hw h4 eh4
  exact okb_134_6 hw
