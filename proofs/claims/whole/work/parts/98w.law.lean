/-! the law -/
theorem zq_219 : zQ 219 1 4 12 := by unfold zQ; decide +kernel
theorem zi_219_0 : (zM 219).1[0]? = some (.new 10) := by rfl
theorem zi_219_1 : (zM 219).1[1]? = some (.dup) := by rfl
theorem zi_219_2 : (zM 219).1[2]? = some (.invokespecial 89) := by rfl
theorem zi_219_3 : (zM 219).1[3]? = some (.astore 1) := by rfl
theorem zi_219_4 : (zM 219).1[4]? = some (.new 11) := by rfl
theorem zi_219_5 : (zM 219).1[5]? = some (.dup) := by rfl
theorem zi_219_6 : (zM 219).1[6]? = some (.invokespecial 134) := by rfl
theorem zi_219_7 : (zM 219).1[7]? = some (.astore 2) := by rfl
theorem zi_219_8 : (zM 219).1[8]? = some (.iconst 0) := by rfl
theorem zi_219_9 : (zM 219).1[9]? = some (.istore 3) := by rfl
theorem zi_219_10 : (zM 219).1[10]? = some (.iload 3) := by rfl
theorem zi_219_11 : (zM 219).1[11]? = some (.aload 0) := by rfl
theorem zi_219_12 : (zM 219).1[12]? = some (.arraylength) := by rfl
theorem zi_219_13 : (zM 219).1[13]? = some (.iconst 8) := by rfl
theorem zi_219_14 : (zM 219).1[14]? = some (.isub) := by rfl
theorem zi_219_15 : (zM 219).1[15]? = some (.if_icmp .gt ((954 : Nat) : Int)) := by rfl
theorem zi_219_16 : (zM 219).1[16]? = some (.aload 0) := by rfl
theorem zi_219_17 : (zM 219).1[17]? = some (.iload 3) := by rfl
theorem zi_219_18 : (zM 219).1[18]? = some (.iaload) := by rfl
theorem zi_219_19 : (zM 219).1[19]? = some (.iconst 31) := by rfl
theorem zi_219_20 : (zM 219).1[20]? = some (.iand) := by rfl
theorem zi_219_21 : (zM 219).1[21]? = some (.tableswitch 952 0 29 #[22, 63, 80, 87, 94, 111, 138, 165, 192, 269, 316, 373, 441, 519, 547, 565, 603, 660, 678, 705, 712, 729, 756, 773, 790, 807, 844, 881, 928, 935]) := by rfl
theorem zi_219_22 : (zM 219).1[22]? = some (.aload 1) := by rfl
theorem zi_219_23 : (zM 219).1[23]? = some (.aload 0) := by rfl
theorem zi_219_24 : (zM 219).1[24]? = some (.iload 3) := by rfl
theorem zi_219_25 : (zM 219).1[25]? = some (.iconst 1) := by rfl
theorem zi_219_26 : (zM 219).1[26]? = some (.iadd) := by rfl
theorem zi_219_27 : (zM 219).1[27]? = some (.iaload) := by rfl
theorem zi_219_28 : (zM 219).1[28]? = some (.i2l) := by rfl
theorem zi_219_29 : (zM 219).1[29]? = some (.iconst 32) := by rfl
theorem zi_219_30 : (zM 219).1[30]? = some (.lshl) := by rfl
theorem zi_219_31 : (zM 219).1[31]? = some (.aload 0) := by rfl
theorem zi_219_32 : (zM 219).1[32]? = some (.iload 3) := by rfl
theorem zi_219_33 : (zM 219).1[33]? = some (.iconst 2) := by rfl
theorem zi_219_34 : (zM 219).1[34]? = some (.iadd) := by rfl
theorem zi_219_35 : (zM 219).1[35]? = some (.iaload) := by rfl
theorem zi_219_36 : (zM 219).1[36]? = some (.i2l) := by rfl
theorem zi_219_37 : (zM 219).1[37]? = some (.jsr_w 4294967295) := by rfl
theorem zi_219_38 : (zM 219).1[38]? = some (.land) := by rfl
theorem zi_219_39 : (zM 219).1[39]? = some (.lor) := by rfl
theorem zi_219_40 : (zM 219).1[40]? = some (.invokevirtual 90) := by rfl
theorem zi_219_41 : (zM 219).1[41]? = some (.aload 2) := by rfl
theorem zi_219_42 : (zM 219).1[42]? = some (.aload 0) := by rfl
theorem zi_219_43 : (zM 219).1[43]? = some (.iload 3) := by rfl
theorem zi_219_44 : (zM 219).1[44]? = some (.iconst 1) := by rfl
theorem zi_219_45 : (zM 219).1[45]? = some (.iadd) := by rfl
theorem zi_219_46 : (zM 219).1[46]? = some (.iaload) := by rfl
theorem zi_219_47 : (zM 219).1[47]? = some (.i2l) := by rfl
theorem zi_219_48 : (zM 219).1[48]? = some (.iconst 32) := by rfl
theorem zi_219_49 : (zM 219).1[49]? = some (.lshl) := by rfl
theorem zi_219_50 : (zM 219).1[50]? = some (.aload 0) := by rfl
theorem zi_219_51 : (zM 219).1[51]? = some (.iload 3) := by rfl
theorem zi_219_52 : (zM 219).1[52]? = some (.iconst 2) := by rfl
theorem zi_219_53 : (zM 219).1[53]? = some (.iadd) := by rfl
theorem zi_219_54 : (zM 219).1[54]? = some (.iaload) := by rfl
theorem zi_219_55 : (zM 219).1[55]? = some (.i2l) := by rfl
theorem zi_219_56 : (zM 219).1[56]? = some (.jsr_w 4294967295) := by rfl
theorem zi_219_57 : (zM 219).1[57]? = some (.land) := by rfl
theorem zi_219_58 : (zM 219).1[58]? = some (.lor) := by rfl
theorem zi_219_59 : (zM 219).1[59]? = some (.invokevirtual 136) := by rfl
theorem zi_219_60 : (zM 219).1[60]? = some (.if_icmp .eq ((952 : Nat) : Int)) := by rfl
theorem zi_219_61 : (zM 219).1[61]? = some (.iconst 0) := by rfl
theorem zi_219_62 : (zM 219).1[62]? = some (.ireturn) := by rfl
theorem zi_219_63 : (zM 219).1[63]? = some (.aload 1) := by rfl
theorem zi_219_64 : (zM 219).1[64]? = some (.aload 0) := by rfl
theorem zi_219_65 : (zM 219).1[65]? = some (.iload 3) := by rfl
theorem zi_219_66 : (zM 219).1[66]? = some (.iconst 1) := by rfl
theorem zi_219_67 : (zM 219).1[67]? = some (.iadd) := by rfl
theorem zi_219_68 : (zM 219).1[68]? = some (.iaload) := by rfl
theorem zi_219_69 : (zM 219).1[69]? = some (.invokevirtual 91) := by rfl
theorem zi_219_70 : (zM 219).1[70]? = some (.aload 2) := by rfl
theorem zi_219_71 : (zM 219).1[71]? = some (.aload 0) := by rfl
theorem zi_219_72 : (zM 219).1[72]? = some (.iload 3) := by rfl
theorem zi_219_73 : (zM 219).1[73]? = some (.iconst 1) := by rfl
theorem zi_219_74 : (zM 219).1[74]? = some (.iadd) := by rfl
theorem zi_219_75 : (zM 219).1[75]? = some (.iaload) := by rfl
theorem zi_219_76 : (zM 219).1[76]? = some (.invokevirtual 137) := by rfl
theorem zi_219_77 : (zM 219).1[77]? = some (.if_icmp .eq ((952 : Nat) : Int)) := by rfl
theorem zi_219_78 : (zM 219).1[78]? = some (.iconst 0) := by rfl
theorem zi_219_79 : (zM 219).1[79]? = some (.ireturn) := by rfl
theorem zi_219_80 : (zM 219).1[80]? = some (.aload 1) := by rfl
theorem zi_219_81 : (zM 219).1[81]? = some (.invokevirtual 92) := by rfl
theorem zi_219_82 : (zM 219).1[82]? = some (.aload 2) := by rfl
theorem zi_219_83 : (zM 219).1[83]? = some (.invokevirtual 149) := by rfl
theorem zi_219_84 : (zM 219).1[84]? = some (.if_icmp .eq ((952 : Nat) : Int)) := by rfl
theorem zi_219_85 : (zM 219).1[85]? = some (.iconst 0) := by rfl
theorem zi_219_86 : (zM 219).1[86]? = some (.ireturn) := by rfl
theorem zi_219_87 : (zM 219).1[87]? = some (.aload 1) := by rfl
theorem zi_219_88 : (zM 219).1[88]? = some (.invokevirtual 93) := by rfl
theorem zi_219_89 : (zM 219).1[89]? = some (.aload 2) := by rfl
theorem zi_219_90 : (zM 219).1[90]? = some (.invokevirtual 150) := by rfl
theorem zi_219_91 : (zM 219).1[91]? = some (.if_icmp .eq ((952 : Nat) : Int)) := by rfl
theorem zi_219_92 : (zM 219).1[92]? = some (.iconst 0) := by rfl
theorem zi_219_93 : (zM 219).1[93]? = some (.ireturn) := by rfl
theorem zi_219_94 : (zM 219).1[94]? = some (.aload 1) := by rfl
theorem zi_219_95 : (zM 219).1[95]? = some (.aload 0) := by rfl
theorem zi_219_96 : (zM 219).1[96]? = some (.iload 3) := by rfl
theorem zi_219_97 : (zM 219).1[97]? = some (.iconst 1) := by rfl
theorem zi_219_98 : (zM 219).1[98]? = some (.iadd) := by rfl
theorem zi_219_99 : (zM 219).1[99]? = some (.iaload) := by rfl
theorem zi_219_100 : (zM 219).1[100]? = some (.invokevirtual 94) := by rfl
theorem zi_219_101 : (zM 219).1[101]? = some (.aload 2) := by rfl
theorem zi_219_102 : (zM 219).1[102]? = some (.aload 0) := by rfl
theorem zi_219_103 : (zM 219).1[103]? = some (.iload 3) := by rfl
theorem zi_219_104 : (zM 219).1[104]? = some (.iconst 1) := by rfl
theorem zi_219_105 : (zM 219).1[105]? = some (.iadd) := by rfl
theorem zi_219_106 : (zM 219).1[106]? = some (.iaload) := by rfl
theorem zi_219_107 : (zM 219).1[107]? = some (.invokevirtual 151) := by rfl
theorem zi_219_108 : (zM 219).1[108]? = some (.if_icmp .eq ((952 : Nat) : Int)) := by rfl
theorem zi_219_109 : (zM 219).1[109]? = some (.iconst 0) := by rfl
theorem zi_219_110 : (zM 219).1[110]? = some (.ireturn) := by rfl
theorem zi_219_111 : (zM 219).1[111]? = some (.aload 1) := by rfl
theorem zi_219_112 : (zM 219).1[112]? = some (.aload 0) := by rfl
theorem zi_219_113 : (zM 219).1[113]? = some (.iload 3) := by rfl
theorem zi_219_114 : (zM 219).1[114]? = some (.iconst 1) := by rfl
theorem zi_219_115 : (zM 219).1[115]? = some (.iadd) := by rfl
theorem zi_219_116 : (zM 219).1[116]? = some (.iaload) := by rfl
theorem zi_219_117 : (zM 219).1[117]? = some (.aload 0) := by rfl
theorem zi_219_118 : (zM 219).1[118]? = some (.iload 3) := by rfl
theorem zi_219_119 : (zM 219).1[119]? = some (.iconst 2) := by rfl
theorem zi_219_120 : (zM 219).1[120]? = some (.iadd) := by rfl
theorem zi_219_121 : (zM 219).1[121]? = some (.iaload) := by rfl
theorem zi_219_122 : (zM 219).1[122]? = some (.invokevirtual 95) := by rfl
theorem zi_219_123 : (zM 219).1[123]? = some (.aload 2) := by rfl
theorem zi_219_124 : (zM 219).1[124]? = some (.aload 0) := by rfl
theorem zi_219_125 : (zM 219).1[125]? = some (.iload 3) := by rfl
theorem zi_219_126 : (zM 219).1[126]? = some (.iconst 1) := by rfl
theorem zi_219_127 : (zM 219).1[127]? = some (.iadd) := by rfl
theorem zi_219_128 : (zM 219).1[128]? = some (.iaload) := by rfl
theorem zi_219_129 : (zM 219).1[129]? = some (.aload 0) := by rfl
theorem zi_219_130 : (zM 219).1[130]? = some (.iload 3) := by rfl
theorem zi_219_131 : (zM 219).1[131]? = some (.iconst 2) := by rfl
theorem zi_219_132 : (zM 219).1[132]? = some (.iadd) := by rfl
theorem zi_219_133 : (zM 219).1[133]? = some (.iaload) := by rfl
theorem zi_219_134 : (zM 219).1[134]? = some (.invokevirtual 154) := by rfl
theorem zi_219_135 : (zM 219).1[135]? = some (.if_icmp .eq ((952 : Nat) : Int)) := by rfl
theorem zi_219_136 : (zM 219).1[136]? = some (.iconst 0) := by rfl
theorem zi_219_137 : (zM 219).1[137]? = some (.ireturn) := by rfl
theorem zi_219_138 : (zM 219).1[138]? = some (.aload 1) := by rfl
theorem zi_219_139 : (zM 219).1[139]? = some (.aload 0) := by rfl
theorem zi_219_140 : (zM 219).1[140]? = some (.iload 3) := by rfl
theorem zi_219_141 : (zM 219).1[141]? = some (.iconst 1) := by rfl
theorem zi_219_142 : (zM 219).1[142]? = some (.iadd) := by rfl
theorem zi_219_143 : (zM 219).1[143]? = some (.iaload) := by rfl
theorem zi_219_144 : (zM 219).1[144]? = some (.aload 0) := by rfl
theorem zi_219_145 : (zM 219).1[145]? = some (.iload 3) := by rfl
theorem zi_219_146 : (zM 219).1[146]? = some (.iconst 2) := by rfl
theorem zi_219_147 : (zM 219).1[147]? = some (.iadd) := by rfl
theorem zi_219_148 : (zM 219).1[148]? = some (.iaload) := by rfl
theorem zi_219_149 : (zM 219).1[149]? = some (.invokevirtual 96) := by rfl
theorem zi_219_150 : (zM 219).1[150]? = some (.aload 2) := by rfl
theorem zi_219_151 : (zM 219).1[151]? = some (.aload 0) := by rfl
theorem zi_219_152 : (zM 219).1[152]? = some (.iload 3) := by rfl
theorem zi_219_153 : (zM 219).1[153]? = some (.iconst 1) := by rfl
theorem zi_219_154 : (zM 219).1[154]? = some (.iadd) := by rfl
theorem zi_219_155 : (zM 219).1[155]? = some (.iaload) := by rfl
theorem zi_219_156 : (zM 219).1[156]? = some (.aload 0) := by rfl
theorem zi_219_157 : (zM 219).1[157]? = some (.iload 3) := by rfl
theorem zi_219_158 : (zM 219).1[158]? = some (.iconst 2) := by rfl
theorem zi_219_159 : (zM 219).1[159]? = some (.iadd) := by rfl
theorem zi_219_160 : (zM 219).1[160]? = some (.iaload) := by rfl
theorem zi_219_161 : (zM 219).1[161]? = some (.invokevirtual 161) := by rfl
theorem zi_219_162 : (zM 219).1[162]? = some (.if_icmp .eq ((952 : Nat) : Int)) := by rfl
theorem zi_219_163 : (zM 219).1[163]? = some (.iconst 0) := by rfl
theorem zi_219_164 : (zM 219).1[164]? = some (.ireturn) := by rfl
theorem zi_219_165 : (zM 219).1[165]? = some (.aload 1) := by rfl
theorem zi_219_166 : (zM 219).1[166]? = some (.aload 0) := by rfl
theorem zi_219_167 : (zM 219).1[167]? = some (.iload 3) := by rfl
theorem zi_219_168 : (zM 219).1[168]? = some (.iconst 1) := by rfl
theorem zi_219_169 : (zM 219).1[169]? = some (.iadd) := by rfl
theorem zi_219_170 : (zM 219).1[170]? = some (.iaload) := by rfl
theorem zi_219_171 : (zM 219).1[171]? = some (.aload 0) := by rfl
theorem zi_219_172 : (zM 219).1[172]? = some (.iload 3) := by rfl
theorem zi_219_173 : (zM 219).1[173]? = some (.iconst 2) := by rfl
theorem zi_219_174 : (zM 219).1[174]? = some (.iadd) := by rfl
theorem zi_219_175 : (zM 219).1[175]? = some (.iaload) := by rfl
theorem zi_219_176 : (zM 219).1[176]? = some (.invokevirtual 97) := by rfl
theorem zi_219_177 : (zM 219).1[177]? = some (.aload 2) := by rfl
theorem zi_219_178 : (zM 219).1[178]? = some (.aload 0) := by rfl
theorem zi_219_179 : (zM 219).1[179]? = some (.iload 3) := by rfl
theorem zi_219_180 : (zM 219).1[180]? = some (.iconst 1) := by rfl
theorem zi_219_181 : (zM 219).1[181]? = some (.iadd) := by rfl
theorem zi_219_182 : (zM 219).1[182]? = some (.iaload) := by rfl
theorem zi_219_183 : (zM 219).1[183]? = some (.aload 0) := by rfl
theorem zi_219_184 : (zM 219).1[184]? = some (.iload 3) := by rfl
theorem zi_219_185 : (zM 219).1[185]? = some (.iconst 2) := by rfl
theorem zi_219_186 : (zM 219).1[186]? = some (.iadd) := by rfl
theorem zi_219_187 : (zM 219).1[187]? = some (.iaload) := by rfl
theorem zi_219_188 : (zM 219).1[188]? = some (.invokevirtual 162) := by rfl
theorem zi_219_189 : (zM 219).1[189]? = some (.if_icmp .eq ((952 : Nat) : Int)) := by rfl
theorem zi_219_190 : (zM 219).1[190]? = some (.iconst 0) := by rfl
theorem zi_219_191 : (zM 219).1[191]? = some (.ireturn) := by rfl
theorem zi_219_192 : (zM 219).1[192]? = some (.aload 1) := by rfl
theorem zi_219_193 : (zM 219).1[193]? = some (.aload 0) := by rfl
theorem zi_219_194 : (zM 219).1[194]? = some (.iload 3) := by rfl
theorem zi_219_195 : (zM 219).1[195]? = some (.iconst 1) := by rfl
theorem zi_219_196 : (zM 219).1[196]? = some (.iadd) := by rfl
theorem zi_219_197 : (zM 219).1[197]? = some (.iaload) := by rfl
theorem zi_219_198 : (zM 219).1[198]? = some (.aload 0) := by rfl
theorem zi_219_199 : (zM 219).1[199]? = some (.iload 3) := by rfl
theorem zi_219_200 : (zM 219).1[200]? = some (.iconst 2) := by rfl
theorem zi_219_201 : (zM 219).1[201]? = some (.iadd) := by rfl
theorem zi_219_202 : (zM 219).1[202]? = some (.iaload) := by rfl
theorem zi_219_203 : (zM 219).1[203]? = some (.aload 0) := by rfl
theorem zi_219_204 : (zM 219).1[204]? = some (.iload 3) := by rfl
theorem zi_219_205 : (zM 219).1[205]? = some (.iconst 3) := by rfl
theorem zi_219_206 : (zM 219).1[206]? = some (.iadd) := by rfl
theorem zi_219_207 : (zM 219).1[207]? = some (.iaload) := by rfl
theorem zi_219_208 : (zM 219).1[208]? = some (.aload 0) := by rfl
theorem zi_219_209 : (zM 219).1[209]? = some (.iload 3) := by rfl
theorem zi_219_210 : (zM 219).1[210]? = some (.iconst 4) := by rfl
theorem zi_219_211 : (zM 219).1[211]? = some (.iadd) := by rfl
theorem zi_219_212 : (zM 219).1[212]? = some (.iaload) := by rfl
theorem zi_219_213 : (zM 219).1[213]? = some (.aload 0) := by rfl
theorem zi_219_214 : (zM 219).1[214]? = some (.iload 3) := by rfl
theorem zi_219_215 : (zM 219).1[215]? = some (.iconst 5) := by rfl
theorem zi_219_216 : (zM 219).1[216]? = some (.iadd) := by rfl
theorem zi_219_217 : (zM 219).1[217]? = some (.iaload) := by rfl
theorem zi_219_218 : (zM 219).1[218]? = some (.aload 0) := by rfl
theorem zi_219_219 : (zM 219).1[219]? = some (.iload 3) := by rfl
theorem zi_219_220 : (zM 219).1[220]? = some (.iconst 6) := by rfl
theorem zi_219_221 : (zM 219).1[221]? = some (.iadd) := by rfl
theorem zi_219_222 : (zM 219).1[222]? = some (.iaload) := by rfl
theorem zi_219_223 : (zM 219).1[223]? = some (.aload 0) := by rfl
theorem zi_219_224 : (zM 219).1[224]? = some (.iload 3) := by rfl
theorem zi_219_225 : (zM 219).1[225]? = some (.iconst 7) := by rfl
theorem zi_219_226 : (zM 219).1[226]? = some (.iadd) := by rfl
theorem zi_219_227 : (zM 219).1[227]? = some (.iaload) := by rfl
theorem zi_219_228 : (zM 219).1[228]? = some (.invokevirtual 98) := by rfl
theorem zi_219_229 : (zM 219).1[229]? = some (.aload 2) := by rfl
theorem zi_219_230 : (zM 219).1[230]? = some (.aload 0) := by rfl
theorem zi_219_231 : (zM 219).1[231]? = some (.iload 3) := by rfl
theorem zi_219_232 : (zM 219).1[232]? = some (.iconst 1) := by rfl
theorem zi_219_233 : (zM 219).1[233]? = some (.iadd) := by rfl
theorem zi_219_234 : (zM 219).1[234]? = some (.iaload) := by rfl
theorem zi_219_235 : (zM 219).1[235]? = some (.aload 0) := by rfl
theorem zi_219_236 : (zM 219).1[236]? = some (.iload 3) := by rfl
theorem zi_219_237 : (zM 219).1[237]? = some (.iconst 2) := by rfl
theorem zi_219_238 : (zM 219).1[238]? = some (.iadd) := by rfl
theorem zi_219_239 : (zM 219).1[239]? = some (.iaload) := by rfl
theorem zi_219_240 : (zM 219).1[240]? = some (.aload 0) := by rfl
theorem zi_219_241 : (zM 219).1[241]? = some (.iload 3) := by rfl
theorem zi_219_242 : (zM 219).1[242]? = some (.iconst 3) := by rfl
theorem zi_219_243 : (zM 219).1[243]? = some (.iadd) := by rfl
theorem zi_219_244 : (zM 219).1[244]? = some (.iaload) := by rfl
theorem zi_219_245 : (zM 219).1[245]? = some (.aload 0) := by rfl
theorem zi_219_246 : (zM 219).1[246]? = some (.iload 3) := by rfl
theorem zi_219_247 : (zM 219).1[247]? = some (.iconst 4) := by rfl
theorem zi_219_248 : (zM 219).1[248]? = some (.iadd) := by rfl
theorem zi_219_249 : (zM 219).1[249]? = some (.iaload) := by rfl
theorem zi_219_250 : (zM 219).1[250]? = some (.aload 0) := by rfl
theorem zi_219_251 : (zM 219).1[251]? = some (.iload 3) := by rfl
theorem zi_219_252 : (zM 219).1[252]? = some (.iconst 5) := by rfl
theorem zi_219_253 : (zM 219).1[253]? = some (.iadd) := by rfl
theorem zi_219_254 : (zM 219).1[254]? = some (.iaload) := by rfl
theorem zi_219_255 : (zM 219).1[255]? = some (.aload 0) := by rfl
theorem zi_219_256 : (zM 219).1[256]? = some (.iload 3) := by rfl
theorem zi_219_257 : (zM 219).1[257]? = some (.iconst 6) := by rfl
theorem zi_219_258 : (zM 219).1[258]? = some (.iadd) := by rfl
theorem zi_219_259 : (zM 219).1[259]? = some (.iaload) := by rfl
theorem zi_219_260 : (zM 219).1[260]? = some (.aload 0) := by rfl
theorem zi_219_261 : (zM 219).1[261]? = some (.iload 3) := by rfl
theorem zi_219_262 : (zM 219).1[262]? = some (.iconst 7) := by rfl
theorem zi_219_263 : (zM 219).1[263]? = some (.iadd) := by rfl
theorem zi_219_264 : (zM 219).1[264]? = some (.iaload) := by rfl
theorem zi_219_265 : (zM 219).1[265]? = some (.invokevirtual 170) := by rfl
theorem zi_219_266 : (zM 219).1[266]? = some (.if_icmp .eq ((952 : Nat) : Int)) := by rfl
theorem zi_219_267 : (zM 219).1[267]? = some (.iconst 0) := by rfl
theorem zi_219_268 : (zM 219).1[268]? = some (.ireturn) := by rfl
theorem zi_219_269 : (zM 219).1[269]? = some (.aload 1) := by rfl
theorem zi_219_270 : (zM 219).1[270]? = some (.aload 0) := by rfl
theorem zi_219_271 : (zM 219).1[271]? = some (.iload 3) := by rfl
theorem zi_219_272 : (zM 219).1[272]? = some (.iconst 1) := by rfl
theorem zi_219_273 : (zM 219).1[273]? = some (.iadd) := by rfl
theorem zi_219_274 : (zM 219).1[274]? = some (.iaload) := by rfl
theorem zi_219_275 : (zM 219).1[275]? = some (.aload 0) := by rfl
theorem zi_219_276 : (zM 219).1[276]? = some (.iload 3) := by rfl
theorem zi_219_277 : (zM 219).1[277]? = some (.iconst 2) := by rfl
theorem zi_219_278 : (zM 219).1[278]? = some (.iadd) := by rfl
theorem zi_219_279 : (zM 219).1[279]? = some (.iaload) := by rfl
theorem zi_219_280 : (zM 219).1[280]? = some (.aload 0) := by rfl
theorem zi_219_281 : (zM 219).1[281]? = some (.iload 3) := by rfl
theorem zi_219_282 : (zM 219).1[282]? = some (.iconst 3) := by rfl
theorem zi_219_283 : (zM 219).1[283]? = some (.iadd) := by rfl
theorem zi_219_284 : (zM 219).1[284]? = some (.iaload) := by rfl
theorem zi_219_285 : (zM 219).1[285]? = some (.aload 0) := by rfl
theorem zi_219_286 : (zM 219).1[286]? = some (.iload 3) := by rfl
theorem zi_219_287 : (zM 219).1[287]? = some (.iconst 4) := by rfl
theorem zi_219_288 : (zM 219).1[288]? = some (.iadd) := by rfl
theorem zi_219_289 : (zM 219).1[289]? = some (.iaload) := by rfl
theorem zi_219_290 : (zM 219).1[290]? = some (.invokevirtual 99) := by rfl
theorem zi_219_291 : (zM 219).1[291]? = some (.aload 2) := by rfl
theorem zi_219_292 : (zM 219).1[292]? = some (.aload 0) := by rfl
theorem zi_219_293 : (zM 219).1[293]? = some (.iload 3) := by rfl
theorem zi_219_294 : (zM 219).1[294]? = some (.iconst 1) := by rfl
theorem zi_219_295 : (zM 219).1[295]? = some (.iadd) := by rfl
theorem zi_219_296 : (zM 219).1[296]? = some (.iaload) := by rfl
theorem zi_219_297 : (zM 219).1[297]? = some (.aload 0) := by rfl
theorem zi_219_298 : (zM 219).1[298]? = some (.iload 3) := by rfl
theorem zi_219_299 : (zM 219).1[299]? = some (.iconst 2) := by rfl
theorem zi_219_300 : (zM 219).1[300]? = some (.iadd) := by rfl
theorem zi_219_301 : (zM 219).1[301]? = some (.iaload) := by rfl
theorem zi_219_302 : (zM 219).1[302]? = some (.aload 0) := by rfl
theorem zi_219_303 : (zM 219).1[303]? = some (.iload 3) := by rfl
theorem zi_219_304 : (zM 219).1[304]? = some (.iconst 3) := by rfl
theorem zi_219_305 : (zM 219).1[305]? = some (.iadd) := by rfl
theorem zi_219_306 : (zM 219).1[306]? = some (.iaload) := by rfl
theorem zi_219_307 : (zM 219).1[307]? = some (.aload 0) := by rfl
theorem zi_219_308 : (zM 219).1[308]? = some (.iload 3) := by rfl
theorem zi_219_309 : (zM 219).1[309]? = some (.iconst 4) := by rfl
theorem zi_219_310 : (zM 219).1[310]? = some (.iadd) := by rfl
theorem zi_219_311 : (zM 219).1[311]? = some (.iaload) := by rfl
theorem zi_219_312 : (zM 219).1[312]? = some (.invokevirtual 174) := by rfl
theorem zi_219_313 : (zM 219).1[313]? = some (.if_icmp .eq ((952 : Nat) : Int)) := by rfl
theorem zi_219_314 : (zM 219).1[314]? = some (.iconst 0) := by rfl
theorem zi_219_315 : (zM 219).1[315]? = some (.ireturn) := by rfl
theorem zi_219_316 : (zM 219).1[316]? = some (.aload 1) := by rfl
theorem zi_219_317 : (zM 219).1[317]? = some (.aload 0) := by rfl
theorem zi_219_318 : (zM 219).1[318]? = some (.iload 3) := by rfl
theorem zi_219_319 : (zM 219).1[319]? = some (.iconst 1) := by rfl
theorem zi_219_320 : (zM 219).1[320]? = some (.iadd) := by rfl
theorem zi_219_321 : (zM 219).1[321]? = some (.iaload) := by rfl
theorem zi_219_322 : (zM 219).1[322]? = some (.aload 0) := by rfl
theorem zi_219_323 : (zM 219).1[323]? = some (.iload 3) := by rfl
theorem zi_219_324 : (zM 219).1[324]? = some (.iconst 2) := by rfl
theorem zi_219_325 : (zM 219).1[325]? = some (.iadd) := by rfl
theorem zi_219_326 : (zM 219).1[326]? = some (.iaload) := by rfl
theorem zi_219_327 : (zM 219).1[327]? = some (.aload 0) := by rfl
theorem zi_219_328 : (zM 219).1[328]? = some (.iload 3) := by rfl
theorem zi_219_329 : (zM 219).1[329]? = some (.iconst 3) := by rfl
theorem zi_219_330 : (zM 219).1[330]? = some (.iadd) := by rfl
theorem zi_219_331 : (zM 219).1[331]? = some (.iaload) := by rfl
theorem zi_219_332 : (zM 219).1[332]? = some (.aload 0) := by rfl
theorem zi_219_333 : (zM 219).1[333]? = some (.iload 3) := by rfl
theorem zi_219_334 : (zM 219).1[334]? = some (.iconst 4) := by rfl
theorem zi_219_335 : (zM 219).1[335]? = some (.iadd) := by rfl
theorem zi_219_336 : (zM 219).1[336]? = some (.iaload) := by rfl
theorem zi_219_337 : (zM 219).1[337]? = some (.aload 0) := by rfl
theorem zi_219_338 : (zM 219).1[338]? = some (.iload 3) := by rfl
theorem zi_219_339 : (zM 219).1[339]? = some (.iconst 5) := by rfl
theorem zi_219_340 : (zM 219).1[340]? = some (.iadd) := by rfl
theorem zi_219_341 : (zM 219).1[341]? = some (.iaload) := by rfl
theorem zi_219_342 : (zM 219).1[342]? = some (.invokevirtual 100) := by rfl
theorem zi_219_343 : (zM 219).1[343]? = some (.aload 2) := by rfl
theorem zi_219_344 : (zM 219).1[344]? = some (.aload 0) := by rfl
theorem zi_219_345 : (zM 219).1[345]? = some (.iload 3) := by rfl
theorem zi_219_346 : (zM 219).1[346]? = some (.iconst 1) := by rfl
theorem zi_219_347 : (zM 219).1[347]? = some (.iadd) := by rfl
theorem zi_219_348 : (zM 219).1[348]? = some (.iaload) := by rfl
theorem zi_219_349 : (zM 219).1[349]? = some (.aload 0) := by rfl
theorem zi_219_350 : (zM 219).1[350]? = some (.iload 3) := by rfl
theorem zi_219_351 : (zM 219).1[351]? = some (.iconst 2) := by rfl
theorem zi_219_352 : (zM 219).1[352]? = some (.iadd) := by rfl
theorem zi_219_353 : (zM 219).1[353]? = some (.iaload) := by rfl
theorem zi_219_354 : (zM 219).1[354]? = some (.aload 0) := by rfl
theorem zi_219_355 : (zM 219).1[355]? = some (.iload 3) := by rfl
theorem zi_219_356 : (zM 219).1[356]? = some (.iconst 3) := by rfl
theorem zi_219_357 : (zM 219).1[357]? = some (.iadd) := by rfl
theorem zi_219_358 : (zM 219).1[358]? = some (.iaload) := by rfl
theorem zi_219_359 : (zM 219).1[359]? = some (.aload 0) := by rfl
theorem zi_219_360 : (zM 219).1[360]? = some (.iload 3) := by rfl
theorem zi_219_361 : (zM 219).1[361]? = some (.iconst 4) := by rfl
theorem zi_219_362 : (zM 219).1[362]? = some (.iadd) := by rfl
theorem zi_219_363 : (zM 219).1[363]? = some (.iaload) := by rfl
theorem zi_219_364 : (zM 219).1[364]? = some (.aload 0) := by rfl
theorem zi_219_365 : (zM 219).1[365]? = some (.iload 3) := by rfl
theorem zi_219_366 : (zM 219).1[366]? = some (.iconst 5) := by rfl
theorem zi_219_367 : (zM 219).1[367]? = some (.iadd) := by rfl
theorem zi_219_368 : (zM 219).1[368]? = some (.iaload) := by rfl
theorem zi_219_369 : (zM 219).1[369]? = some (.invokevirtual 183) := by rfl
theorem zi_219_370 : (zM 219).1[370]? = some (.if_icmp .eq ((952 : Nat) : Int)) := by rfl
theorem zi_219_371 : (zM 219).1[371]? = some (.iconst 0) := by rfl
theorem zi_219_372 : (zM 219).1[372]? = some (.ireturn) := by rfl
theorem zi_219_373 : (zM 219).1[373]? = some (.aload 1) := by rfl
theorem zi_219_374 : (zM 219).1[374]? = some (.aload 0) := by rfl
theorem zi_219_375 : (zM 219).1[375]? = some (.iload 3) := by rfl
theorem zi_219_376 : (zM 219).1[376]? = some (.iconst 1) := by rfl
theorem zi_219_377 : (zM 219).1[377]? = some (.iadd) := by rfl
theorem zi_219_378 : (zM 219).1[378]? = some (.iaload) := by rfl
theorem zi_219_379 : (zM 219).1[379]? = some (.aload 0) := by rfl
theorem zi_219_380 : (zM 219).1[380]? = some (.iload 3) := by rfl
theorem zi_219_381 : (zM 219).1[381]? = some (.iconst 2) := by rfl
theorem zi_219_382 : (zM 219).1[382]? = some (.iadd) := by rfl
theorem zi_219_383 : (zM 219).1[383]? = some (.iaload) := by rfl
theorem zi_219_384 : (zM 219).1[384]? = some (.aload 0) := by rfl
theorem zi_219_385 : (zM 219).1[385]? = some (.iload 3) := by rfl
theorem zi_219_386 : (zM 219).1[386]? = some (.iconst 3) := by rfl
theorem zi_219_387 : (zM 219).1[387]? = some (.iadd) := by rfl
theorem zi_219_388 : (zM 219).1[388]? = some (.iaload) := by rfl
theorem zi_219_389 : (zM 219).1[389]? = some (.aload 0) := by rfl
theorem zi_219_390 : (zM 219).1[390]? = some (.iload 3) := by rfl
theorem zi_219_391 : (zM 219).1[391]? = some (.iconst 4) := by rfl
theorem zi_219_392 : (zM 219).1[392]? = some (.iadd) := by rfl
theorem zi_219_393 : (zM 219).1[393]? = some (.iaload) := by rfl
theorem zi_219_394 : (zM 219).1[394]? = some (.aload 0) := by rfl
theorem zi_219_395 : (zM 219).1[395]? = some (.iload 3) := by rfl
theorem zi_219_396 : (zM 219).1[396]? = some (.iconst 5) := by rfl
theorem zi_219_397 : (zM 219).1[397]? = some (.iadd) := by rfl
theorem zi_219_398 : (zM 219).1[398]? = some (.iaload) := by rfl
theorem zi_219_399 : (zM 219).1[399]? = some (.aload 0) := by rfl
set_option maxRecDepth 20000 in
theorem zi_219_400 : (zM 219).1[400]? = some (.iload 3) := by rfl
set_option maxRecDepth 20000 in
theorem zi_219_401 : (zM 219).1[401]? = some (.iconst 6) := by rfl
set_option maxRecDepth 20000 in
theorem zi_219_402 : (zM 219).1[402]? = some (.iadd) := by rfl
set_option maxRecDepth 20000 in
theorem zi_219_403 : (zM 219).1[403]? = some (.iaload) := by rfl
set_option maxRecDepth 20000 in
theorem zi_219_404 : (zM 219).1[404]? = some (.invokevirtual 101) := by rfl
set_option maxRecDepth 20000 in
theorem zi_219_405 : (zM 219).1[405]? = some (.aload 2) := by rfl
set_option maxRecDepth 20000 in
theorem zi_219_406 : (zM 219).1[406]? = some (.aload 0) := by rfl
set_option maxRecDepth 20000 in
theorem zi_219_407 : (zM 219).1[407]? = some (.iload 3) := by rfl
set_option maxRecDepth 20000 in
theorem zi_219_408 : (zM 219).1[408]? = some (.iconst 1) := by rfl
set_option maxRecDepth 20000 in
theorem zi_219_409 : (zM 219).1[409]? = some (.iadd) := by rfl
set_option maxRecDepth 20000 in
theorem zi_219_410 : (zM 219).1[410]? = some (.iaload) := by rfl
set_option maxRecDepth 20000 in
theorem zi_219_411 : (zM 219).1[411]? = some (.aload 0) := by rfl
set_option maxRecDepth 20000 in
theorem zi_219_412 : (zM 219).1[412]? = some (.iload 3) := by rfl
set_option maxRecDepth 20000 in
theorem zi_219_413 : (zM 219).1[413]? = some (.iconst 2) := by rfl
set_option maxRecDepth 20000 in
theorem zi_219_414 : (zM 219).1[414]? = some (.iadd) := by rfl
set_option maxRecDepth 20000 in
theorem zi_219_415 : (zM 219).1[415]? = some (.iaload) := by rfl
set_option maxRecDepth 20000 in
theorem zi_219_416 : (zM 219).1[416]? = some (.aload 0) := by rfl
set_option maxRecDepth 20000 in
theorem zi_219_417 : (zM 219).1[417]? = some (.iload 3) := by rfl
set_option maxRecDepth 20000 in
theorem zi_219_418 : (zM 219).1[418]? = some (.iconst 3) := by rfl
set_option maxRecDepth 20000 in
theorem zi_219_419 : (zM 219).1[419]? = some (.iadd) := by rfl
set_option maxRecDepth 20000 in
theorem zi_219_420 : (zM 219).1[420]? = some (.iaload) := by rfl
set_option maxRecDepth 20000 in
theorem zi_219_421 : (zM 219).1[421]? = some (.aload 0) := by rfl
set_option maxRecDepth 20000 in
theorem zi_219_422 : (zM 219).1[422]? = some (.iload 3) := by rfl
set_option maxRecDepth 20000 in
theorem zi_219_423 : (zM 219).1[423]? = some (.iconst 4) := by rfl
set_option maxRecDepth 20000 in
theorem zi_219_424 : (zM 219).1[424]? = some (.iadd) := by rfl
set_option maxRecDepth 20000 in
theorem zi_219_425 : (zM 219).1[425]? = some (.iaload) := by rfl
set_option maxRecDepth 20000 in
theorem zi_219_426 : (zM 219).1[426]? = some (.aload 0) := by rfl
set_option maxRecDepth 20000 in
theorem zi_219_427 : (zM 219).1[427]? = some (.iload 3) := by rfl
set_option maxRecDepth 20000 in
theorem zi_219_428 : (zM 219).1[428]? = some (.iconst 5) := by rfl
set_option maxRecDepth 20000 in
theorem zi_219_429 : (zM 219).1[429]? = some (.iadd) := by rfl
set_option maxRecDepth 20000 in
theorem zi_219_430 : (zM 219).1[430]? = some (.iaload) := by rfl
set_option maxRecDepth 20000 in
theorem zi_219_431 : (zM 219).1[431]? = some (.aload 0) := by rfl
set_option maxRecDepth 20000 in
theorem zi_219_432 : (zM 219).1[432]? = some (.iload 3) := by rfl
set_option maxRecDepth 20000 in
theorem zi_219_433 : (zM 219).1[433]? = some (.iconst 6) := by rfl
set_option maxRecDepth 20000 in
theorem zi_219_434 : (zM 219).1[434]? = some (.iadd) := by rfl
set_option maxRecDepth 20000 in
theorem zi_219_435 : (zM 219).1[435]? = some (.iaload) := by rfl
set_option maxRecDepth 20000 in
theorem zi_219_436 : (zM 219).1[436]? = some (.invokevirtual 185) := by rfl
set_option maxRecDepth 20000 in
theorem zi_219_437 : (zM 219).1[437]? = some (.lcmp) := by rfl
set_option maxRecDepth 20000 in
theorem zi_219_438 : (zM 219).1[438]? = some (.ifCond .eq ((952 : Nat) : Int)) := by rfl
set_option maxRecDepth 20000 in
theorem zi_219_439 : (zM 219).1[439]? = some (.iconst 0) := by rfl
set_option maxRecDepth 20000 in
theorem zi_219_440 : (zM 219).1[440]? = some (.ireturn) := by rfl
set_option maxRecDepth 20000 in
theorem zi_219_441 : (zM 219).1[441]? = some (.aload 1) := by rfl
set_option maxRecDepth 20000 in
theorem zi_219_442 : (zM 219).1[442]? = some (.aload 0) := by rfl
set_option maxRecDepth 20000 in
theorem zi_219_443 : (zM 219).1[443]? = some (.iload 3) := by rfl
set_option maxRecDepth 20000 in
theorem zi_219_444 : (zM 219).1[444]? = some (.iconst 1) := by rfl
set_option maxRecDepth 20000 in
theorem zi_219_445 : (zM 219).1[445]? = some (.iadd) := by rfl
set_option maxRecDepth 20000 in
theorem zi_219_446 : (zM 219).1[446]? = some (.iaload) := by rfl
set_option maxRecDepth 20000 in
theorem zi_219_447 : (zM 219).1[447]? = some (.aload 0) := by rfl
set_option maxRecDepth 20000 in
theorem zi_219_448 : (zM 219).1[448]? = some (.iload 3) := by rfl
set_option maxRecDepth 20000 in
theorem zi_219_449 : (zM 219).1[449]? = some (.iconst 2) := by rfl
set_option maxRecDepth 20000 in
theorem zi_219_450 : (zM 219).1[450]? = some (.iadd) := by rfl
set_option maxRecDepth 20000 in
theorem zi_219_451 : (zM 219).1[451]? = some (.iaload) := by rfl
set_option maxRecDepth 20000 in
theorem zi_219_452 : (zM 219).1[452]? = some (.aload 0) := by rfl
set_option maxRecDepth 20000 in
theorem zi_219_453 : (zM 219).1[453]? = some (.iload 3) := by rfl
set_option maxRecDepth 20000 in
theorem zi_219_454 : (zM 219).1[454]? = some (.iconst 3) := by rfl
set_option maxRecDepth 20000 in
theorem zi_219_455 : (zM 219).1[455]? = some (.iadd) := by rfl
set_option maxRecDepth 20000 in
theorem zi_219_456 : (zM 219).1[456]? = some (.iaload) := by rfl
set_option maxRecDepth 20000 in
theorem zi_219_457 : (zM 219).1[457]? = some (.aload 0) := by rfl
set_option maxRecDepth 20000 in
theorem zi_219_458 : (zM 219).1[458]? = some (.iload 3) := by rfl
set_option maxRecDepth 20000 in
theorem zi_219_459 : (zM 219).1[459]? = some (.iconst 4) := by rfl
set_option maxRecDepth 20000 in
theorem zi_219_460 : (zM 219).1[460]? = some (.iadd) := by rfl
set_option maxRecDepth 20000 in
theorem zi_219_461 : (zM 219).1[461]? = some (.iaload) := by rfl
set_option maxRecDepth 20000 in
theorem zi_219_462 : (zM 219).1[462]? = some (.aload 0) := by rfl
set_option maxRecDepth 20000 in
theorem zi_219_463 : (zM 219).1[463]? = some (.iload 3) := by rfl
set_option maxRecDepth 20000 in
theorem zi_219_464 : (zM 219).1[464]? = some (.iconst 5) := by rfl
set_option maxRecDepth 20000 in
theorem zi_219_465 : (zM 219).1[465]? = some (.iadd) := by rfl
set_option maxRecDepth 20000 in
theorem zi_219_466 : (zM 219).1[466]? = some (.iaload) := by rfl
set_option maxRecDepth 20000 in
theorem zi_219_467 : (zM 219).1[467]? = some (.aload 0) := by rfl
set_option maxRecDepth 20000 in
theorem zi_219_468 : (zM 219).1[468]? = some (.iload 3) := by rfl
set_option maxRecDepth 20000 in
theorem zi_219_469 : (zM 219).1[469]? = some (.iconst 6) := by rfl
set_option maxRecDepth 20000 in
theorem zi_219_470 : (zM 219).1[470]? = some (.iadd) := by rfl
set_option maxRecDepth 20000 in
theorem zi_219_471 : (zM 219).1[471]? = some (.iaload) := by rfl
set_option maxRecDepth 20000 in
theorem zi_219_472 : (zM 219).1[472]? = some (.aload 0) := by rfl
set_option maxRecDepth 20000 in
theorem zi_219_473 : (zM 219).1[473]? = some (.iload 3) := by rfl
set_option maxRecDepth 20000 in
theorem zi_219_474 : (zM 219).1[474]? = some (.iconst 7) := by rfl
set_option maxRecDepth 20000 in
theorem zi_219_475 : (zM 219).1[475]? = some (.iadd) := by rfl
set_option maxRecDepth 20000 in
theorem zi_219_476 : (zM 219).1[476]? = some (.iaload) := by rfl
set_option maxRecDepth 20000 in
theorem zi_219_477 : (zM 219).1[477]? = some (.invokevirtual 102) := by rfl
set_option maxRecDepth 20000 in
theorem zi_219_478 : (zM 219).1[478]? = some (.aload 2) := by rfl
set_option maxRecDepth 20000 in
theorem zi_219_479 : (zM 219).1[479]? = some (.aload 0) := by rfl
set_option maxRecDepth 20000 in
theorem zi_219_480 : (zM 219).1[480]? = some (.iload 3) := by rfl
set_option maxRecDepth 20000 in
theorem zi_219_481 : (zM 219).1[481]? = some (.iconst 1) := by rfl
set_option maxRecDepth 20000 in
theorem zi_219_482 : (zM 219).1[482]? = some (.iadd) := by rfl
set_option maxRecDepth 20000 in
theorem zi_219_483 : (zM 219).1[483]? = some (.iaload) := by rfl
set_option maxRecDepth 20000 in
theorem zi_219_484 : (zM 219).1[484]? = some (.aload 0) := by rfl
set_option maxRecDepth 20000 in
theorem zi_219_485 : (zM 219).1[485]? = some (.iload 3) := by rfl
set_option maxRecDepth 20000 in
theorem zi_219_486 : (zM 219).1[486]? = some (.iconst 2) := by rfl
set_option maxRecDepth 20000 in
theorem zi_219_487 : (zM 219).1[487]? = some (.iadd) := by rfl
set_option maxRecDepth 20000 in
theorem zi_219_488 : (zM 219).1[488]? = some (.iaload) := by rfl
set_option maxRecDepth 20000 in
theorem zi_219_489 : (zM 219).1[489]? = some (.aload 0) := by rfl
set_option maxRecDepth 20000 in
theorem zi_219_490 : (zM 219).1[490]? = some (.iload 3) := by rfl
set_option maxRecDepth 20000 in
theorem zi_219_491 : (zM 219).1[491]? = some (.iconst 3) := by rfl
set_option maxRecDepth 20000 in
theorem zi_219_492 : (zM 219).1[492]? = some (.iadd) := by rfl
set_option maxRecDepth 20000 in
theorem zi_219_493 : (zM 219).1[493]? = some (.iaload) := by rfl
set_option maxRecDepth 20000 in
theorem zi_219_494 : (zM 219).1[494]? = some (.aload 0) := by rfl
set_option maxRecDepth 20000 in
theorem zi_219_495 : (zM 219).1[495]? = some (.iload 3) := by rfl
set_option maxRecDepth 20000 in
theorem zi_219_496 : (zM 219).1[496]? = some (.iconst 4) := by rfl
set_option maxRecDepth 20000 in
theorem zi_219_497 : (zM 219).1[497]? = some (.iadd) := by rfl
set_option maxRecDepth 20000 in
theorem zi_219_498 : (zM 219).1[498]? = some (.iaload) := by rfl
set_option maxRecDepth 20000 in
theorem zi_219_499 : (zM 219).1[499]? = some (.aload 0) := by rfl
set_option maxRecDepth 20000 in
theorem zi_219_500 : (zM 219).1[500]? = some (.iload 3) := by rfl
set_option maxRecDepth 20000 in
theorem zi_219_501 : (zM 219).1[501]? = some (.iconst 5) := by rfl
set_option maxRecDepth 20000 in
theorem zi_219_502 : (zM 219).1[502]? = some (.iadd) := by rfl
set_option maxRecDepth 20000 in
theorem zi_219_503 : (zM 219).1[503]? = some (.iaload) := by rfl
set_option maxRecDepth 20000 in
theorem zi_219_504 : (zM 219).1[504]? = some (.aload 0) := by rfl
set_option maxRecDepth 20000 in
theorem zi_219_505 : (zM 219).1[505]? = some (.iload 3) := by rfl
set_option maxRecDepth 20000 in
theorem zi_219_506 : (zM 219).1[506]? = some (.iconst 6) := by rfl
set_option maxRecDepth 20000 in
theorem zi_219_507 : (zM 219).1[507]? = some (.iadd) := by rfl
set_option maxRecDepth 20000 in
theorem zi_219_508 : (zM 219).1[508]? = some (.iaload) := by rfl
set_option maxRecDepth 20000 in
theorem zi_219_509 : (zM 219).1[509]? = some (.aload 0) := by rfl
set_option maxRecDepth 20000 in
theorem zi_219_510 : (zM 219).1[510]? = some (.iload 3) := by rfl
set_option maxRecDepth 20000 in
theorem zi_219_511 : (zM 219).1[511]? = some (.iconst 7) := by rfl
set_option maxRecDepth 20000 in
theorem zi_219_512 : (zM 219).1[512]? = some (.iadd) := by rfl
set_option maxRecDepth 20000 in
theorem zi_219_513 : (zM 219).1[513]? = some (.iaload) := by rfl
set_option maxRecDepth 20000 in
theorem zi_219_514 : (zM 219).1[514]? = some (.invokevirtual 186) := by rfl
set_option maxRecDepth 20000 in
theorem zi_219_515 : (zM 219).1[515]? = some (.lcmp) := by rfl
set_option maxRecDepth 20000 in
theorem zi_219_516 : (zM 219).1[516]? = some (.ifCond .eq ((952 : Nat) : Int)) := by rfl
set_option maxRecDepth 20000 in
theorem zi_219_517 : (zM 219).1[517]? = some (.iconst 0) := by rfl
set_option maxRecDepth 20000 in
theorem zi_219_518 : (zM 219).1[518]? = some (.ireturn) := by rfl
set_option maxRecDepth 20000 in
theorem zi_219_519 : (zM 219).1[519]? = some (.aload 1) := by rfl
set_option maxRecDepth 20000 in
theorem zi_219_520 : (zM 219).1[520]? = some (.aload 0) := by rfl
set_option maxRecDepth 20000 in
theorem zi_219_521 : (zM 219).1[521]? = some (.iload 3) := by rfl
set_option maxRecDepth 20000 in
theorem zi_219_522 : (zM 219).1[522]? = some (.iconst 1) := by rfl
set_option maxRecDepth 20000 in
theorem zi_219_523 : (zM 219).1[523]? = some (.iadd) := by rfl
set_option maxRecDepth 20000 in
theorem zi_219_524 : (zM 219).1[524]? = some (.iaload) := by rfl
set_option maxRecDepth 20000 in
theorem zi_219_525 : (zM 219).1[525]? = some (.aload 0) := by rfl
set_option maxRecDepth 20000 in
theorem zi_219_526 : (zM 219).1[526]? = some (.iload 3) := by rfl
set_option maxRecDepth 20000 in
theorem zi_219_527 : (zM 219).1[527]? = some (.iconst 2) := by rfl
set_option maxRecDepth 20000 in
theorem zi_219_528 : (zM 219).1[528]? = some (.iadd) := by rfl
set_option maxRecDepth 20000 in
theorem zi_219_529 : (zM 219).1[529]? = some (.iaload) := by rfl
set_option maxRecDepth 20000 in
theorem zi_219_530 : (zM 219).1[530]? = some (.invokevirtual 103) := by rfl
set_option maxRecDepth 20000 in
theorem zi_219_531 : (zM 219).1[531]? = some (.aload 2) := by rfl
set_option maxRecDepth 20000 in
theorem zi_219_532 : (zM 219).1[532]? = some (.aload 0) := by rfl
set_option maxRecDepth 20000 in
theorem zi_219_533 : (zM 219).1[533]? = some (.iload 3) := by rfl
set_option maxRecDepth 20000 in
theorem zi_219_534 : (zM 219).1[534]? = some (.iconst 1) := by rfl
set_option maxRecDepth 20000 in
theorem zi_219_535 : (zM 219).1[535]? = some (.iadd) := by rfl
set_option maxRecDepth 20000 in
theorem zi_219_536 : (zM 219).1[536]? = some (.iaload) := by rfl
set_option maxRecDepth 20000 in
theorem zi_219_537 : (zM 219).1[537]? = some (.aload 0) := by rfl
set_option maxRecDepth 20000 in
theorem zi_219_538 : (zM 219).1[538]? = some (.iload 3) := by rfl
set_option maxRecDepth 20000 in
theorem zi_219_539 : (zM 219).1[539]? = some (.iconst 2) := by rfl
set_option maxRecDepth 20000 in
theorem zi_219_540 : (zM 219).1[540]? = some (.iadd) := by rfl
set_option maxRecDepth 20000 in
theorem zi_219_541 : (zM 219).1[541]? = some (.iaload) := by rfl
set_option maxRecDepth 20000 in
theorem zi_219_542 : (zM 219).1[542]? = some (.invokevirtual 191) := by rfl
set_option maxRecDepth 20000 in
theorem zi_219_543 : (zM 219).1[543]? = some (.lcmp) := by rfl
set_option maxRecDepth 20000 in
theorem zi_219_544 : (zM 219).1[544]? = some (.ifCond .eq ((952 : Nat) : Int)) := by rfl
set_option maxRecDepth 20000 in
theorem zi_219_545 : (zM 219).1[545]? = some (.iconst 0) := by rfl
set_option maxRecDepth 20000 in
theorem zi_219_546 : (zM 219).1[546]? = some (.ireturn) := by rfl
set_option maxRecDepth 20000 in
theorem zi_219_547 : (zM 219).1[547]? = some (.aload 1) := by rfl
set_option maxRecDepth 20000 in
theorem zi_219_548 : (zM 219).1[548]? = some (.aload 0) := by rfl
set_option maxRecDepth 20000 in
theorem zi_219_549 : (zM 219).1[549]? = some (.iload 3) := by rfl
set_option maxRecDepth 20000 in
theorem zi_219_550 : (zM 219).1[550]? = some (.iconst 1) := by rfl
set_option maxRecDepth 20000 in
theorem zi_219_551 : (zM 219).1[551]? = some (.iadd) := by rfl
set_option maxRecDepth 20000 in
theorem zi_219_552 : (zM 219).1[552]? = some (.iaload) := by rfl
set_option maxRecDepth 20000 in
theorem zi_219_553 : (zM 219).1[553]? = some (.invokevirtual 104) := by rfl
set_option maxRecDepth 20000 in
theorem zi_219_554 : (zM 219).1[554]? = some (.aload 2) := by rfl
set_option maxRecDepth 20000 in
theorem zi_219_555 : (zM 219).1[555]? = some (.aload 0) := by rfl
set_option maxRecDepth 20000 in
theorem zi_219_556 : (zM 219).1[556]? = some (.iload 3) := by rfl
set_option maxRecDepth 20000 in
theorem zi_219_557 : (zM 219).1[557]? = some (.iconst 1) := by rfl
set_option maxRecDepth 20000 in
theorem zi_219_558 : (zM 219).1[558]? = some (.iadd) := by rfl
set_option maxRecDepth 20000 in
theorem zi_219_559 : (zM 219).1[559]? = some (.iaload) := by rfl
set_option maxRecDepth 20000 in
theorem zi_219_560 : (zM 219).1[560]? = some (.invokevirtual 192) := by rfl
set_option maxRecDepth 20000 in
theorem zi_219_561 : (zM 219).1[561]? = some (.lcmp) := by rfl
set_option maxRecDepth 20000 in
theorem zi_219_562 : (zM 219).1[562]? = some (.ifCond .eq ((952 : Nat) : Int)) := by rfl
set_option maxRecDepth 20000 in
theorem zi_219_563 : (zM 219).1[563]? = some (.iconst 0) := by rfl
set_option maxRecDepth 20000 in
theorem zi_219_564 : (zM 219).1[564]? = some (.ireturn) := by rfl
set_option maxRecDepth 20000 in
theorem zi_219_565 : (zM 219).1[565]? = some (.aload 1) := by rfl
set_option maxRecDepth 20000 in
theorem zi_219_566 : (zM 219).1[566]? = some (.aload 0) := by rfl
set_option maxRecDepth 20000 in
theorem zi_219_567 : (zM 219).1[567]? = some (.iload 3) := by rfl
set_option maxRecDepth 20000 in
theorem zi_219_568 : (zM 219).1[568]? = some (.iconst 1) := by rfl
set_option maxRecDepth 20000 in
theorem zi_219_569 : (zM 219).1[569]? = some (.iadd) := by rfl
set_option maxRecDepth 20000 in
theorem zi_219_570 : (zM 219).1[570]? = some (.iaload) := by rfl
set_option maxRecDepth 20000 in
theorem zi_219_571 : (zM 219).1[571]? = some (.aload 0) := by rfl
set_option maxRecDepth 20000 in
theorem zi_219_572 : (zM 219).1[572]? = some (.iload 3) := by rfl
set_option maxRecDepth 20000 in
theorem zi_219_573 : (zM 219).1[573]? = some (.iconst 2) := by rfl
set_option maxRecDepth 20000 in
theorem zi_219_574 : (zM 219).1[574]? = some (.iadd) := by rfl
set_option maxRecDepth 20000 in
theorem zi_219_575 : (zM 219).1[575]? = some (.iaload) := by rfl
set_option maxRecDepth 20000 in
theorem zi_219_576 : (zM 219).1[576]? = some (.aload 0) := by rfl
set_option maxRecDepth 20000 in
theorem zi_219_577 : (zM 219).1[577]? = some (.iload 3) := by rfl
set_option maxRecDepth 20000 in
theorem zi_219_578 : (zM 219).1[578]? = some (.iconst 3) := by rfl
set_option maxRecDepth 20000 in
theorem zi_219_579 : (zM 219).1[579]? = some (.iadd) := by rfl
set_option maxRecDepth 20000 in
theorem zi_219_580 : (zM 219).1[580]? = some (.iaload) := by rfl
set_option maxRecDepth 20000 in
theorem zi_219_581 : (zM 219).1[581]? = some (.invokevirtual 105) := by rfl
set_option maxRecDepth 20000 in
theorem zi_219_582 : (zM 219).1[582]? = some (.aload 2) := by rfl
set_option maxRecDepth 20000 in
theorem zi_219_583 : (zM 219).1[583]? = some (.aload 0) := by rfl
set_option maxRecDepth 20000 in
theorem zi_219_584 : (zM 219).1[584]? = some (.iload 3) := by rfl
set_option maxRecDepth 20000 in
theorem zi_219_585 : (zM 219).1[585]? = some (.iconst 1) := by rfl
set_option maxRecDepth 20000 in
theorem zi_219_586 : (zM 219).1[586]? = some (.iadd) := by rfl
set_option maxRecDepth 20000 in
theorem zi_219_587 : (zM 219).1[587]? = some (.iaload) := by rfl
set_option maxRecDepth 20000 in
theorem zi_219_588 : (zM 219).1[588]? = some (.aload 0) := by rfl
set_option maxRecDepth 20000 in
theorem zi_219_589 : (zM 219).1[589]? = some (.iload 3) := by rfl
set_option maxRecDepth 20000 in
theorem zi_219_590 : (zM 219).1[590]? = some (.iconst 2) := by rfl
set_option maxRecDepth 20000 in
theorem zi_219_591 : (zM 219).1[591]? = some (.iadd) := by rfl
set_option maxRecDepth 20000 in
theorem zi_219_592 : (zM 219).1[592]? = some (.iaload) := by rfl
set_option maxRecDepth 20000 in
theorem zi_219_593 : (zM 219).1[593]? = some (.aload 0) := by rfl
set_option maxRecDepth 20000 in
theorem zi_219_594 : (zM 219).1[594]? = some (.iload 3) := by rfl
set_option maxRecDepth 20000 in
theorem zi_219_595 : (zM 219).1[595]? = some (.iconst 3) := by rfl
set_option maxRecDepth 20000 in
theorem zi_219_596 : (zM 219).1[596]? = some (.iadd) := by rfl
set_option maxRecDepth 20000 in
theorem zi_219_597 : (zM 219).1[597]? = some (.iaload) := by rfl
set_option maxRecDepth 20000 in
theorem zi_219_598 : (zM 219).1[598]? = some (.invokevirtual 196) := by rfl
set_option maxRecDepth 20000 in
theorem zi_219_599 : (zM 219).1[599]? = some (.lcmp) := by rfl
set_option maxRecDepth 20000 in
theorem zi_219_600 : (zM 219).1[600]? = some (.ifCond .eq ((952 : Nat) : Int)) := by rfl
set_option maxRecDepth 20000 in
theorem zi_219_601 : (zM 219).1[601]? = some (.iconst 0) := by rfl
set_option maxRecDepth 20000 in
theorem zi_219_602 : (zM 219).1[602]? = some (.ireturn) := by rfl
set_option maxRecDepth 20000 in
theorem zi_219_603 : (zM 219).1[603]? = some (.aload 1) := by rfl
set_option maxRecDepth 20000 in
theorem zi_219_604 : (zM 219).1[604]? = some (.aload 0) := by rfl
set_option maxRecDepth 20000 in
theorem zi_219_605 : (zM 219).1[605]? = some (.iload 3) := by rfl
set_option maxRecDepth 20000 in
theorem zi_219_606 : (zM 219).1[606]? = some (.iconst 1) := by rfl
set_option maxRecDepth 20000 in
theorem zi_219_607 : (zM 219).1[607]? = some (.iadd) := by rfl
set_option maxRecDepth 20000 in
theorem zi_219_608 : (zM 219).1[608]? = some (.iaload) := by rfl
set_option maxRecDepth 20000 in
theorem zi_219_609 : (zM 219).1[609]? = some (.aload 0) := by rfl
set_option maxRecDepth 20000 in
theorem zi_219_610 : (zM 219).1[610]? = some (.iload 3) := by rfl
set_option maxRecDepth 20000 in
theorem zi_219_611 : (zM 219).1[611]? = some (.iconst 2) := by rfl
set_option maxRecDepth 20000 in
theorem zi_219_612 : (zM 219).1[612]? = some (.iadd) := by rfl
set_option maxRecDepth 20000 in
theorem zi_219_613 : (zM 219).1[613]? = some (.iaload) := by rfl
set_option maxRecDepth 20000 in
theorem zi_219_614 : (zM 219).1[614]? = some (.aload 0) := by rfl
set_option maxRecDepth 20000 in
theorem zi_219_615 : (zM 219).1[615]? = some (.iload 3) := by rfl
set_option maxRecDepth 20000 in
theorem zi_219_616 : (zM 219).1[616]? = some (.iconst 3) := by rfl
set_option maxRecDepth 20000 in
theorem zi_219_617 : (zM 219).1[617]? = some (.iadd) := by rfl
set_option maxRecDepth 20000 in
theorem zi_219_618 : (zM 219).1[618]? = some (.iaload) := by rfl
set_option maxRecDepth 20000 in
theorem zi_219_619 : (zM 219).1[619]? = some (.aload 0) := by rfl
set_option maxRecDepth 20000 in
theorem zi_219_620 : (zM 219).1[620]? = some (.iload 3) := by rfl
set_option maxRecDepth 20000 in
theorem zi_219_621 : (zM 219).1[621]? = some (.iconst 4) := by rfl
set_option maxRecDepth 20000 in
theorem zi_219_622 : (zM 219).1[622]? = some (.iadd) := by rfl
set_option maxRecDepth 20000 in
theorem zi_219_623 : (zM 219).1[623]? = some (.iaload) := by rfl
set_option maxRecDepth 20000 in
theorem zi_219_624 : (zM 219).1[624]? = some (.aload 0) := by rfl
set_option maxRecDepth 20000 in
theorem zi_219_625 : (zM 219).1[625]? = some (.iload 3) := by rfl
set_option maxRecDepth 20000 in
theorem zi_219_626 : (zM 219).1[626]? = some (.iconst 5) := by rfl
set_option maxRecDepth 20000 in
theorem zi_219_627 : (zM 219).1[627]? = some (.iadd) := by rfl
set_option maxRecDepth 20000 in
theorem zi_219_628 : (zM 219).1[628]? = some (.iaload) := by rfl
set_option maxRecDepth 20000 in
theorem zi_219_629 : (zM 219).1[629]? = some (.invokevirtual 106) := by rfl
set_option maxRecDepth 20000 in
theorem zi_219_630 : (zM 219).1[630]? = some (.aload 2) := by rfl
set_option maxRecDepth 20000 in
theorem zi_219_631 : (zM 219).1[631]? = some (.aload 0) := by rfl
set_option maxRecDepth 20000 in
theorem zi_219_632 : (zM 219).1[632]? = some (.iload 3) := by rfl
set_option maxRecDepth 20000 in
theorem zi_219_633 : (zM 219).1[633]? = some (.iconst 1) := by rfl
set_option maxRecDepth 20000 in
theorem zi_219_634 : (zM 219).1[634]? = some (.iadd) := by rfl
set_option maxRecDepth 20000 in
theorem zi_219_635 : (zM 219).1[635]? = some (.iaload) := by rfl
set_option maxRecDepth 20000 in
theorem zi_219_636 : (zM 219).1[636]? = some (.aload 0) := by rfl
set_option maxRecDepth 20000 in
theorem zi_219_637 : (zM 219).1[637]? = some (.iload 3) := by rfl
set_option maxRecDepth 20000 in
theorem zi_219_638 : (zM 219).1[638]? = some (.iconst 2) := by rfl
set_option maxRecDepth 20000 in
theorem zi_219_639 : (zM 219).1[639]? = some (.iadd) := by rfl
set_option maxRecDepth 20000 in
theorem zi_219_640 : (zM 219).1[640]? = some (.iaload) := by rfl
set_option maxRecDepth 20000 in
theorem zi_219_641 : (zM 219).1[641]? = some (.aload 0) := by rfl
set_option maxRecDepth 20000 in
theorem zi_219_642 : (zM 219).1[642]? = some (.iload 3) := by rfl
set_option maxRecDepth 20000 in
theorem zi_219_643 : (zM 219).1[643]? = some (.iconst 3) := by rfl
set_option maxRecDepth 20000 in
theorem zi_219_644 : (zM 219).1[644]? = some (.iadd) := by rfl
set_option maxRecDepth 20000 in
theorem zi_219_645 : (zM 219).1[645]? = some (.iaload) := by rfl
set_option maxRecDepth 20000 in
theorem zi_219_646 : (zM 219).1[646]? = some (.aload 0) := by rfl
set_option maxRecDepth 20000 in
theorem zi_219_647 : (zM 219).1[647]? = some (.iload 3) := by rfl
set_option maxRecDepth 20000 in
theorem zi_219_648 : (zM 219).1[648]? = some (.iconst 4) := by rfl
set_option maxRecDepth 20000 in
theorem zi_219_649 : (zM 219).1[649]? = some (.iadd) := by rfl
set_option maxRecDepth 20000 in
theorem zi_219_650 : (zM 219).1[650]? = some (.iaload) := by rfl
set_option maxRecDepth 20000 in
theorem zi_219_651 : (zM 219).1[651]? = some (.aload 0) := by rfl
set_option maxRecDepth 20000 in
theorem zi_219_652 : (zM 219).1[652]? = some (.iload 3) := by rfl
set_option maxRecDepth 20000 in
theorem zi_219_653 : (zM 219).1[653]? = some (.iconst 5) := by rfl
set_option maxRecDepth 20000 in
theorem zi_219_654 : (zM 219).1[654]? = some (.iadd) := by rfl
set_option maxRecDepth 20000 in
theorem zi_219_655 : (zM 219).1[655]? = some (.iaload) := by rfl
set_option maxRecDepth 20000 in
theorem zi_219_656 : (zM 219).1[656]? = some (.invokevirtual 197) := by rfl
set_option maxRecDepth 20000 in
theorem zi_219_657 : (zM 219).1[657]? = some (.if_icmp .eq ((952 : Nat) : Int)) := by rfl
set_option maxRecDepth 20000 in
theorem zi_219_658 : (zM 219).1[658]? = some (.iconst 0) := by rfl
set_option maxRecDepth 20000 in
theorem zi_219_659 : (zM 219).1[659]? = some (.ireturn) := by rfl
set_option maxRecDepth 20000 in
theorem zi_219_660 : (zM 219).1[660]? = some (.aload 1) := by rfl
set_option maxRecDepth 20000 in
theorem zi_219_661 : (zM 219).1[661]? = some (.aload 0) := by rfl
set_option maxRecDepth 20000 in
theorem zi_219_662 : (zM 219).1[662]? = some (.iload 3) := by rfl
set_option maxRecDepth 20000 in
theorem zi_219_663 : (zM 219).1[663]? = some (.iconst 1) := by rfl
set_option maxRecDepth 20000 in
theorem zi_219_664 : (zM 219).1[664]? = some (.iadd) := by rfl
set_option maxRecDepth 20000 in
theorem zi_219_665 : (zM 219).1[665]? = some (.iaload) := by rfl
set_option maxRecDepth 20000 in
theorem zi_219_666 : (zM 219).1[666]? = some (.invokevirtual 107) := by rfl
set_option maxRecDepth 20000 in
theorem zi_219_667 : (zM 219).1[667]? = some (.aload 2) := by rfl
set_option maxRecDepth 20000 in
theorem zi_219_668 : (zM 219).1[668]? = some (.aload 0) := by rfl
set_option maxRecDepth 20000 in
theorem zi_219_669 : (zM 219).1[669]? = some (.iload 3) := by rfl
set_option maxRecDepth 20000 in
theorem zi_219_670 : (zM 219).1[670]? = some (.iconst 1) := by rfl
set_option maxRecDepth 20000 in
theorem zi_219_671 : (zM 219).1[671]? = some (.iadd) := by rfl
set_option maxRecDepth 20000 in
theorem zi_219_672 : (zM 219).1[672]? = some (.iaload) := by rfl
set_option maxRecDepth 20000 in
theorem zi_219_673 : (zM 219).1[673]? = some (.invokevirtual 198) := by rfl
set_option maxRecDepth 20000 in
theorem zi_219_674 : (zM 219).1[674]? = some (.lcmp) := by rfl
set_option maxRecDepth 20000 in
theorem zi_219_675 : (zM 219).1[675]? = some (.ifCond .eq ((952 : Nat) : Int)) := by rfl
set_option maxRecDepth 20000 in
theorem zi_219_676 : (zM 219).1[676]? = some (.iconst 0) := by rfl
set_option maxRecDepth 20000 in
theorem zi_219_677 : (zM 219).1[677]? = some (.ireturn) := by rfl
set_option maxRecDepth 20000 in
theorem zi_219_678 : (zM 219).1[678]? = some (.aload 1) := by rfl
set_option maxRecDepth 20000 in
theorem zi_219_679 : (zM 219).1[679]? = some (.aload 0) := by rfl
set_option maxRecDepth 20000 in
theorem zi_219_680 : (zM 219).1[680]? = some (.iload 3) := by rfl
set_option maxRecDepth 20000 in
theorem zi_219_681 : (zM 219).1[681]? = some (.iconst 1) := by rfl
set_option maxRecDepth 20000 in
theorem zi_219_682 : (zM 219).1[682]? = some (.iadd) := by rfl
set_option maxRecDepth 20000 in
theorem zi_219_683 : (zM 219).1[683]? = some (.iaload) := by rfl
set_option maxRecDepth 20000 in
theorem zi_219_684 : (zM 219).1[684]? = some (.aload 0) := by rfl
set_option maxRecDepth 20000 in
theorem zi_219_685 : (zM 219).1[685]? = some (.iload 3) := by rfl
set_option maxRecDepth 20000 in
theorem zi_219_686 : (zM 219).1[686]? = some (.iconst 2) := by rfl
set_option maxRecDepth 20000 in
theorem zi_219_687 : (zM 219).1[687]? = some (.iadd) := by rfl
set_option maxRecDepth 20000 in
theorem zi_219_688 : (zM 219).1[688]? = some (.iaload) := by rfl
set_option maxRecDepth 20000 in
theorem zi_219_689 : (zM 219).1[689]? = some (.invokevirtual 108) := by rfl
set_option maxRecDepth 20000 in
theorem zi_219_690 : (zM 219).1[690]? = some (.aload 2) := by rfl
set_option maxRecDepth 20000 in
theorem zi_219_691 : (zM 219).1[691]? = some (.aload 0) := by rfl
set_option maxRecDepth 20000 in
theorem zi_219_692 : (zM 219).1[692]? = some (.iload 3) := by rfl
set_option maxRecDepth 20000 in
theorem zi_219_693 : (zM 219).1[693]? = some (.iconst 1) := by rfl
set_option maxRecDepth 20000 in
theorem zi_219_694 : (zM 219).1[694]? = some (.iadd) := by rfl
set_option maxRecDepth 20000 in
theorem zi_219_695 : (zM 219).1[695]? = some (.iaload) := by rfl
set_option maxRecDepth 20000 in
theorem zi_219_696 : (zM 219).1[696]? = some (.aload 0) := by rfl
set_option maxRecDepth 20000 in
theorem zi_219_697 : (zM 219).1[697]? = some (.iload 3) := by rfl
set_option maxRecDepth 20000 in
theorem zi_219_698 : (zM 219).1[698]? = some (.iconst 2) := by rfl
set_option maxRecDepth 20000 in
theorem zi_219_699 : (zM 219).1[699]? = some (.iadd) := by rfl
set_option maxRecDepth 20000 in
theorem zi_219_700 : (zM 219).1[700]? = some (.iaload) := by rfl
set_option maxRecDepth 20000 in
theorem zi_219_701 : (zM 219).1[701]? = some (.invokevirtual 199) := by rfl
set_option maxRecDepth 20000 in
theorem zi_219_702 : (zM 219).1[702]? = some (.if_icmp .eq ((952 : Nat) : Int)) := by rfl
set_option maxRecDepth 20000 in
theorem zi_219_703 : (zM 219).1[703]? = some (.iconst 0) := by rfl
set_option maxRecDepth 20000 in
theorem zi_219_704 : (zM 219).1[704]? = some (.ireturn) := by rfl
set_option maxRecDepth 20000 in
theorem zi_219_705 : (zM 219).1[705]? = some (.aload 1) := by rfl
set_option maxRecDepth 20000 in
theorem zi_219_706 : (zM 219).1[706]? = some (.invokevirtual 109) := by rfl
set_option maxRecDepth 20000 in
theorem zi_219_707 : (zM 219).1[707]? = some (.aload 2) := by rfl
set_option maxRecDepth 20000 in
theorem zi_219_708 : (zM 219).1[708]? = some (.invokevirtual 200) := by rfl
set_option maxRecDepth 20000 in
theorem zi_219_709 : (zM 219).1[709]? = some (.if_icmp .eq ((952 : Nat) : Int)) := by rfl
set_option maxRecDepth 20000 in
theorem zi_219_710 : (zM 219).1[710]? = some (.iconst 0) := by rfl
set_option maxRecDepth 20000 in
theorem zi_219_711 : (zM 219).1[711]? = some (.ireturn) := by rfl
set_option maxRecDepth 20000 in
theorem zi_219_712 : (zM 219).1[712]? = some (.aload 1) := by rfl
set_option maxRecDepth 20000 in
theorem zi_219_713 : (zM 219).1[713]? = some (.aload 0) := by rfl
set_option maxRecDepth 20000 in
theorem zi_219_714 : (zM 219).1[714]? = some (.iload 3) := by rfl
set_option maxRecDepth 20000 in
theorem zi_219_715 : (zM 219).1[715]? = some (.iconst 1) := by rfl
set_option maxRecDepth 20000 in
theorem zi_219_716 : (zM 219).1[716]? = some (.iadd) := by rfl
set_option maxRecDepth 20000 in
theorem zi_219_717 : (zM 219).1[717]? = some (.iaload) := by rfl
set_option maxRecDepth 20000 in
theorem zi_219_718 : (zM 219).1[718]? = some (.invokevirtual 110) := by rfl
set_option maxRecDepth 20000 in
theorem zi_219_719 : (zM 219).1[719]? = some (.aload 2) := by rfl
set_option maxRecDepth 20000 in
theorem zi_219_720 : (zM 219).1[720]? = some (.aload 0) := by rfl
set_option maxRecDepth 20000 in
theorem zi_219_721 : (zM 219).1[721]? = some (.iload 3) := by rfl
set_option maxRecDepth 20000 in
theorem zi_219_722 : (zM 219).1[722]? = some (.iconst 1) := by rfl
set_option maxRecDepth 20000 in
theorem zi_219_723 : (zM 219).1[723]? = some (.iadd) := by rfl
set_option maxRecDepth 20000 in
theorem zi_219_724 : (zM 219).1[724]? = some (.iaload) := by rfl
set_option maxRecDepth 20000 in
theorem zi_219_725 : (zM 219).1[725]? = some (.invokevirtual 205) := by rfl
set_option maxRecDepth 20000 in
theorem zi_219_726 : (zM 219).1[726]? = some (.if_icmp .eq ((952 : Nat) : Int)) := by rfl
set_option maxRecDepth 20000 in
theorem zi_219_727 : (zM 219).1[727]? = some (.iconst 0) := by rfl
set_option maxRecDepth 20000 in
theorem zi_219_728 : (zM 219).1[728]? = some (.ireturn) := by rfl
set_option maxRecDepth 20000 in
theorem zi_219_729 : (zM 219).1[729]? = some (.aload 1) := by rfl
set_option maxRecDepth 20000 in
theorem zi_219_730 : (zM 219).1[730]? = some (.aload 0) := by rfl
set_option maxRecDepth 20000 in
theorem zi_219_731 : (zM 219).1[731]? = some (.iload 3) := by rfl
set_option maxRecDepth 20000 in
theorem zi_219_732 : (zM 219).1[732]? = some (.iconst 1) := by rfl
set_option maxRecDepth 20000 in
theorem zi_219_733 : (zM 219).1[733]? = some (.iadd) := by rfl
set_option maxRecDepth 20000 in
theorem zi_219_734 : (zM 219).1[734]? = some (.iaload) := by rfl
set_option maxRecDepth 20000 in
theorem zi_219_735 : (zM 219).1[735]? = some (.aload 0) := by rfl
set_option maxRecDepth 20000 in
theorem zi_219_736 : (zM 219).1[736]? = some (.iload 3) := by rfl
set_option maxRecDepth 20000 in
theorem zi_219_737 : (zM 219).1[737]? = some (.iconst 2) := by rfl
set_option maxRecDepth 20000 in
theorem zi_219_738 : (zM 219).1[738]? = some (.iadd) := by rfl
set_option maxRecDepth 20000 in
theorem zi_219_739 : (zM 219).1[739]? = some (.iaload) := by rfl
set_option maxRecDepth 20000 in
theorem zi_219_740 : (zM 219).1[740]? = some (.invokevirtual 111) := by rfl
set_option maxRecDepth 20000 in
theorem zi_219_741 : (zM 219).1[741]? = some (.aload 2) := by rfl
set_option maxRecDepth 20000 in
theorem zi_219_742 : (zM 219).1[742]? = some (.aload 0) := by rfl
set_option maxRecDepth 20000 in
theorem zi_219_743 : (zM 219).1[743]? = some (.iload 3) := by rfl
set_option maxRecDepth 20000 in
theorem zi_219_744 : (zM 219).1[744]? = some (.iconst 1) := by rfl
set_option maxRecDepth 20000 in
theorem zi_219_745 : (zM 219).1[745]? = some (.iadd) := by rfl
set_option maxRecDepth 20000 in
theorem zi_219_746 : (zM 219).1[746]? = some (.iaload) := by rfl
set_option maxRecDepth 20000 in
theorem zi_219_747 : (zM 219).1[747]? = some (.aload 0) := by rfl
set_option maxRecDepth 20000 in
theorem zi_219_748 : (zM 219).1[748]? = some (.iload 3) := by rfl
set_option maxRecDepth 20000 in
theorem zi_219_749 : (zM 219).1[749]? = some (.iconst 2) := by rfl
set_option maxRecDepth 20000 in
theorem zi_219_750 : (zM 219).1[750]? = some (.iadd) := by rfl
set_option maxRecDepth 20000 in
theorem zi_219_751 : (zM 219).1[751]? = some (.iaload) := by rfl
set_option maxRecDepth 20000 in
theorem zi_219_752 : (zM 219).1[752]? = some (.invokevirtual 206) := by rfl
set_option maxRecDepth 20000 in
theorem zi_219_753 : (zM 219).1[753]? = some (.if_icmp .eq ((952 : Nat) : Int)) := by rfl
set_option maxRecDepth 20000 in
theorem zi_219_754 : (zM 219).1[754]? = some (.iconst 0) := by rfl
set_option maxRecDepth 20000 in
theorem zi_219_755 : (zM 219).1[755]? = some (.ireturn) := by rfl
set_option maxRecDepth 20000 in
theorem zi_219_756 : (zM 219).1[756]? = some (.aload 1) := by rfl
set_option maxRecDepth 20000 in
theorem zi_219_757 : (zM 219).1[757]? = some (.aload 0) := by rfl
set_option maxRecDepth 20000 in
theorem zi_219_758 : (zM 219).1[758]? = some (.iload 3) := by rfl
set_option maxRecDepth 20000 in
theorem zi_219_759 : (zM 219).1[759]? = some (.iconst 1) := by rfl
set_option maxRecDepth 20000 in
theorem zi_219_760 : (zM 219).1[760]? = some (.iadd) := by rfl
set_option maxRecDepth 20000 in
theorem zi_219_761 : (zM 219).1[761]? = some (.iaload) := by rfl
set_option maxRecDepth 20000 in
theorem zi_219_762 : (zM 219).1[762]? = some (.invokevirtual 112) := by rfl
set_option maxRecDepth 20000 in
theorem zi_219_763 : (zM 219).1[763]? = some (.aload 2) := by rfl
set_option maxRecDepth 20000 in
theorem zi_219_764 : (zM 219).1[764]? = some (.aload 0) := by rfl
set_option maxRecDepth 20000 in
theorem zi_219_765 : (zM 219).1[765]? = some (.iload 3) := by rfl
set_option maxRecDepth 20000 in
theorem zi_219_766 : (zM 219).1[766]? = some (.iconst 1) := by rfl
set_option maxRecDepth 20000 in
theorem zi_219_767 : (zM 219).1[767]? = some (.iadd) := by rfl
set_option maxRecDepth 20000 in
theorem zi_219_768 : (zM 219).1[768]? = some (.iaload) := by rfl
set_option maxRecDepth 20000 in
theorem zi_219_769 : (zM 219).1[769]? = some (.invokevirtual 209) := by rfl
set_option maxRecDepth 20000 in
theorem zi_219_770 : (zM 219).1[770]? = some (.if_icmp .eq ((952 : Nat) : Int)) := by rfl
set_option maxRecDepth 20000 in
theorem zi_219_771 : (zM 219).1[771]? = some (.iconst 0) := by rfl
set_option maxRecDepth 20000 in
theorem zi_219_772 : (zM 219).1[772]? = some (.ireturn) := by rfl
set_option maxRecDepth 20000 in
theorem zi_219_773 : (zM 219).1[773]? = some (.aload 1) := by rfl
set_option maxRecDepth 20000 in
theorem zi_219_774 : (zM 219).1[774]? = some (.aload 0) := by rfl
set_option maxRecDepth 20000 in
theorem zi_219_775 : (zM 219).1[775]? = some (.iload 3) := by rfl
set_option maxRecDepth 20000 in
theorem zi_219_776 : (zM 219).1[776]? = some (.iconst 1) := by rfl
set_option maxRecDepth 20000 in
theorem zi_219_777 : (zM 219).1[777]? = some (.iadd) := by rfl
set_option maxRecDepth 20000 in
theorem zi_219_778 : (zM 219).1[778]? = some (.iaload) := by rfl
set_option maxRecDepth 20000 in
theorem zi_219_779 : (zM 219).1[779]? = some (.invokevirtual 113) := by rfl
set_option maxRecDepth 20000 in
theorem zi_219_780 : (zM 219).1[780]? = some (.aload 2) := by rfl
set_option maxRecDepth 20000 in
theorem zi_219_781 : (zM 219).1[781]? = some (.aload 0) := by rfl
set_option maxRecDepth 20000 in
theorem zi_219_782 : (zM 219).1[782]? = some (.iload 3) := by rfl
set_option maxRecDepth 20000 in
theorem zi_219_783 : (zM 219).1[783]? = some (.iconst 1) := by rfl
set_option maxRecDepth 20000 in
theorem zi_219_784 : (zM 219).1[784]? = some (.iadd) := by rfl
set_option maxRecDepth 20000 in
theorem zi_219_785 : (zM 219).1[785]? = some (.iaload) := by rfl
set_option maxRecDepth 20000 in
theorem zi_219_786 : (zM 219).1[786]? = some (.invokevirtual 212) := by rfl
set_option maxRecDepth 20000 in
theorem zi_219_787 : (zM 219).1[787]? = some (.if_icmp .eq ((952 : Nat) : Int)) := by rfl
set_option maxRecDepth 20000 in
theorem zi_219_788 : (zM 219).1[788]? = some (.iconst 0) := by rfl
set_option maxRecDepth 20000 in
theorem zi_219_789 : (zM 219).1[789]? = some (.ireturn) := by rfl
set_option maxRecDepth 20000 in
theorem zi_219_790 : (zM 219).1[790]? = some (.aload 1) := by rfl
set_option maxRecDepth 20000 in
theorem zi_219_791 : (zM 219).1[791]? = some (.aload 0) := by rfl
set_option maxRecDepth 20000 in
theorem zi_219_792 : (zM 219).1[792]? = some (.iload 3) := by rfl
set_option maxRecDepth 20000 in
theorem zi_219_793 : (zM 219).1[793]? = some (.iconst 1) := by rfl
set_option maxRecDepth 20000 in
theorem zi_219_794 : (zM 219).1[794]? = some (.iadd) := by rfl
set_option maxRecDepth 20000 in
theorem zi_219_795 : (zM 219).1[795]? = some (.iaload) := by rfl
set_option maxRecDepth 20000 in
theorem zi_219_796 : (zM 219).1[796]? = some (.invokevirtual 114) := by rfl
set_option maxRecDepth 20000 in
theorem zi_219_797 : (zM 219).1[797]? = some (.aload 2) := by rfl
set_option maxRecDepth 20000 in
theorem zi_219_798 : (zM 219).1[798]? = some (.aload 0) := by rfl
set_option maxRecDepth 20000 in
theorem zi_219_799 : (zM 219).1[799]? = some (.iload 3) := by rfl
set_option maxRecDepth 20000 in
theorem zi_219_800 : (zM 219).1[800]? = some (.iconst 1) := by rfl
set_option maxRecDepth 20000 in
theorem zi_219_801 : (zM 219).1[801]? = some (.iadd) := by rfl
set_option maxRecDepth 20000 in
theorem zi_219_802 : (zM 219).1[802]? = some (.iaload) := by rfl
set_option maxRecDepth 20000 in
theorem zi_219_803 : (zM 219).1[803]? = some (.invokevirtual 213) := by rfl
set_option maxRecDepth 20000 in
theorem zi_219_804 : (zM 219).1[804]? = some (.if_icmp .eq ((952 : Nat) : Int)) := by rfl
set_option maxRecDepth 20000 in
theorem zi_219_805 : (zM 219).1[805]? = some (.iconst 0) := by rfl
set_option maxRecDepth 20000 in
theorem zi_219_806 : (zM 219).1[806]? = some (.ireturn) := by rfl
set_option maxRecDepth 20000 in
theorem zi_219_807 : (zM 219).1[807]? = some (.aload 1) := by rfl
set_option maxRecDepth 20000 in
theorem zi_219_808 : (zM 219).1[808]? = some (.aload 0) := by rfl
set_option maxRecDepth 20000 in
theorem zi_219_809 : (zM 219).1[809]? = some (.iload 3) := by rfl
set_option maxRecDepth 20000 in
theorem zi_219_810 : (zM 219).1[810]? = some (.iconst 1) := by rfl
set_option maxRecDepth 20000 in
theorem zi_219_811 : (zM 219).1[811]? = some (.iadd) := by rfl
set_option maxRecDepth 20000 in
theorem zi_219_812 : (zM 219).1[812]? = some (.iaload) := by rfl
set_option maxRecDepth 20000 in
theorem zi_219_813 : (zM 219).1[813]? = some (.aload 0) := by rfl
set_option maxRecDepth 20000 in
theorem zi_219_814 : (zM 219).1[814]? = some (.iload 3) := by rfl
set_option maxRecDepth 20000 in
theorem zi_219_815 : (zM 219).1[815]? = some (.iconst 2) := by rfl
set_option maxRecDepth 20000 in
theorem zi_219_816 : (zM 219).1[816]? = some (.iadd) := by rfl
set_option maxRecDepth 20000 in
theorem zi_219_817 : (zM 219).1[817]? = some (.iaload) := by rfl
set_option maxRecDepth 20000 in
theorem zi_219_818 : (zM 219).1[818]? = some (.aload 0) := by rfl
set_option maxRecDepth 20000 in
theorem zi_219_819 : (zM 219).1[819]? = some (.iload 3) := by rfl
set_option maxRecDepth 20000 in
theorem zi_219_820 : (zM 219).1[820]? = some (.iconst 3) := by rfl
set_option maxRecDepth 20000 in
theorem zi_219_821 : (zM 219).1[821]? = some (.iadd) := by rfl
set_option maxRecDepth 20000 in
theorem zi_219_822 : (zM 219).1[822]? = some (.iaload) := by rfl
set_option maxRecDepth 20000 in
theorem zi_219_823 : (zM 219).1[823]? = some (.invokevirtual 115) := by rfl
set_option maxRecDepth 20000 in
theorem zi_219_824 : (zM 219).1[824]? = some (.aload 2) := by rfl
set_option maxRecDepth 20000 in
theorem zi_219_825 : (zM 219).1[825]? = some (.aload 0) := by rfl
set_option maxRecDepth 20000 in
theorem zi_219_826 : (zM 219).1[826]? = some (.iload 3) := by rfl
set_option maxRecDepth 20000 in
theorem zi_219_827 : (zM 219).1[827]? = some (.iconst 1) := by rfl
set_option maxRecDepth 20000 in
theorem zi_219_828 : (zM 219).1[828]? = some (.iadd) := by rfl
set_option maxRecDepth 20000 in
theorem zi_219_829 : (zM 219).1[829]? = some (.iaload) := by rfl
set_option maxRecDepth 20000 in
theorem zi_219_830 : (zM 219).1[830]? = some (.aload 0) := by rfl
set_option maxRecDepth 20000 in
theorem zi_219_831 : (zM 219).1[831]? = some (.iload 3) := by rfl
set_option maxRecDepth 20000 in
theorem zi_219_832 : (zM 219).1[832]? = some (.iconst 2) := by rfl
set_option maxRecDepth 20000 in
theorem zi_219_833 : (zM 219).1[833]? = some (.iadd) := by rfl
set_option maxRecDepth 20000 in
theorem zi_219_834 : (zM 219).1[834]? = some (.iaload) := by rfl
set_option maxRecDepth 20000 in
theorem zi_219_835 : (zM 219).1[835]? = some (.aload 0) := by rfl
set_option maxRecDepth 20000 in
theorem zi_219_836 : (zM 219).1[836]? = some (.iload 3) := by rfl
set_option maxRecDepth 20000 in
theorem zi_219_837 : (zM 219).1[837]? = some (.iconst 3) := by rfl
set_option maxRecDepth 20000 in
theorem zi_219_838 : (zM 219).1[838]? = some (.iadd) := by rfl
set_option maxRecDepth 20000 in
theorem zi_219_839 : (zM 219).1[839]? = some (.iaload) := by rfl
set_option maxRecDepth 20000 in
theorem zi_219_840 : (zM 219).1[840]? = some (.invokevirtual 214) := by rfl
set_option maxRecDepth 20000 in
theorem zi_219_841 : (zM 219).1[841]? = some (.if_icmp .eq ((952 : Nat) : Int)) := by rfl
set_option maxRecDepth 20000 in
theorem zi_219_842 : (zM 219).1[842]? = some (.iconst 0) := by rfl
set_option maxRecDepth 20000 in
theorem zi_219_843 : (zM 219).1[843]? = some (.ireturn) := by rfl
set_option maxRecDepth 20000 in
theorem zi_219_844 : (zM 219).1[844]? = some (.aload 1) := by rfl
set_option maxRecDepth 20000 in
theorem zi_219_845 : (zM 219).1[845]? = some (.aload 0) := by rfl
set_option maxRecDepth 20000 in
theorem zi_219_846 : (zM 219).1[846]? = some (.iload 3) := by rfl
set_option maxRecDepth 20000 in
theorem zi_219_847 : (zM 219).1[847]? = some (.iconst 1) := by rfl
set_option maxRecDepth 20000 in
theorem zi_219_848 : (zM 219).1[848]? = some (.iadd) := by rfl
set_option maxRecDepth 20000 in
theorem zi_219_849 : (zM 219).1[849]? = some (.iaload) := by rfl
set_option maxRecDepth 20000 in
theorem zi_219_850 : (zM 219).1[850]? = some (.aload 0) := by rfl
set_option maxRecDepth 20000 in
theorem zi_219_851 : (zM 219).1[851]? = some (.iload 3) := by rfl
set_option maxRecDepth 20000 in
theorem zi_219_852 : (zM 219).1[852]? = some (.iconst 2) := by rfl
set_option maxRecDepth 20000 in
theorem zi_219_853 : (zM 219).1[853]? = some (.iadd) := by rfl
set_option maxRecDepth 20000 in
theorem zi_219_854 : (zM 219).1[854]? = some (.iaload) := by rfl
set_option maxRecDepth 20000 in
theorem zi_219_855 : (zM 219).1[855]? = some (.aload 0) := by rfl
set_option maxRecDepth 20000 in
theorem zi_219_856 : (zM 219).1[856]? = some (.iload 3) := by rfl
set_option maxRecDepth 20000 in
theorem zi_219_857 : (zM 219).1[857]? = some (.iconst 3) := by rfl
set_option maxRecDepth 20000 in
theorem zi_219_858 : (zM 219).1[858]? = some (.iadd) := by rfl
set_option maxRecDepth 20000 in
theorem zi_219_859 : (zM 219).1[859]? = some (.iaload) := by rfl
set_option maxRecDepth 20000 in
theorem zi_219_860 : (zM 219).1[860]? = some (.invokevirtual 116) := by rfl
set_option maxRecDepth 20000 in
theorem zi_219_861 : (zM 219).1[861]? = some (.aload 2) := by rfl
set_option maxRecDepth 20000 in
theorem zi_219_862 : (zM 219).1[862]? = some (.aload 0) := by rfl
set_option maxRecDepth 20000 in
theorem zi_219_863 : (zM 219).1[863]? = some (.iload 3) := by rfl
set_option maxRecDepth 20000 in
theorem zi_219_864 : (zM 219).1[864]? = some (.iconst 1) := by rfl
set_option maxRecDepth 20000 in
theorem zi_219_865 : (zM 219).1[865]? = some (.iadd) := by rfl
set_option maxRecDepth 20000 in
theorem zi_219_866 : (zM 219).1[866]? = some (.iaload) := by rfl
set_option maxRecDepth 20000 in
theorem zi_219_867 : (zM 219).1[867]? = some (.aload 0) := by rfl
set_option maxRecDepth 20000 in
theorem zi_219_868 : (zM 219).1[868]? = some (.iload 3) := by rfl
set_option maxRecDepth 20000 in
theorem zi_219_869 : (zM 219).1[869]? = some (.iconst 2) := by rfl
set_option maxRecDepth 20000 in
theorem zi_219_870 : (zM 219).1[870]? = some (.iadd) := by rfl
set_option maxRecDepth 20000 in
theorem zi_219_871 : (zM 219).1[871]? = some (.iaload) := by rfl
set_option maxRecDepth 20000 in
theorem zi_219_872 : (zM 219).1[872]? = some (.aload 0) := by rfl
set_option maxRecDepth 20000 in
theorem zi_219_873 : (zM 219).1[873]? = some (.iload 3) := by rfl
set_option maxRecDepth 20000 in
theorem zi_219_874 : (zM 219).1[874]? = some (.iconst 3) := by rfl
set_option maxRecDepth 20000 in
theorem zi_219_875 : (zM 219).1[875]? = some (.iadd) := by rfl
set_option maxRecDepth 20000 in
theorem zi_219_876 : (zM 219).1[876]? = some (.iaload) := by rfl
set_option maxRecDepth 20000 in
theorem zi_219_877 : (zM 219).1[877]? = some (.invokevirtual 215) := by rfl
set_option maxRecDepth 20000 in
theorem zi_219_878 : (zM 219).1[878]? = some (.if_icmp .eq ((952 : Nat) : Int)) := by rfl
set_option maxRecDepth 20000 in
theorem zi_219_879 : (zM 219).1[879]? = some (.iconst 0) := by rfl
set_option maxRecDepth 20000 in
theorem zi_219_880 : (zM 219).1[880]? = some (.ireturn) := by rfl
set_option maxRecDepth 20000 in
theorem zi_219_881 : (zM 219).1[881]? = some (.aload 1) := by rfl
set_option maxRecDepth 20000 in
theorem zi_219_882 : (zM 219).1[882]? = some (.aload 0) := by rfl
set_option maxRecDepth 20000 in
theorem zi_219_883 : (zM 219).1[883]? = some (.iload 3) := by rfl
set_option maxRecDepth 20000 in
theorem zi_219_884 : (zM 219).1[884]? = some (.iconst 1) := by rfl
set_option maxRecDepth 20000 in
theorem zi_219_885 : (zM 219).1[885]? = some (.iadd) := by rfl
set_option maxRecDepth 20000 in
theorem zi_219_886 : (zM 219).1[886]? = some (.iaload) := by rfl
set_option maxRecDepth 20000 in
theorem zi_219_887 : (zM 219).1[887]? = some (.aload 0) := by rfl
set_option maxRecDepth 20000 in
theorem zi_219_888 : (zM 219).1[888]? = some (.iload 3) := by rfl
set_option maxRecDepth 20000 in
theorem zi_219_889 : (zM 219).1[889]? = some (.iconst 2) := by rfl
set_option maxRecDepth 20000 in
theorem zi_219_890 : (zM 219).1[890]? = some (.iadd) := by rfl
set_option maxRecDepth 20000 in
theorem zi_219_891 : (zM 219).1[891]? = some (.iaload) := by rfl
set_option maxRecDepth 20000 in
theorem zi_219_892 : (zM 219).1[892]? = some (.aload 0) := by rfl
set_option maxRecDepth 20000 in
theorem zi_219_893 : (zM 219).1[893]? = some (.iload 3) := by rfl
set_option maxRecDepth 20000 in
theorem zi_219_894 : (zM 219).1[894]? = some (.iconst 3) := by rfl
set_option maxRecDepth 20000 in
theorem zi_219_895 : (zM 219).1[895]? = some (.iadd) := by rfl
set_option maxRecDepth 20000 in
theorem zi_219_896 : (zM 219).1[896]? = some (.iaload) := by rfl
set_option maxRecDepth 20000 in
theorem zi_219_897 : (zM 219).1[897]? = some (.aload 0) := by rfl
set_option maxRecDepth 20000 in
theorem zi_219_898 : (zM 219).1[898]? = some (.iload 3) := by rfl
set_option maxRecDepth 20000 in
theorem zi_219_899 : (zM 219).1[899]? = some (.iconst 4) := by rfl
set_option maxRecDepth 20000 in
theorem zi_219_900 : (zM 219).1[900]? = some (.iadd) := by rfl
set_option maxRecDepth 20000 in
theorem zi_219_901 : (zM 219).1[901]? = some (.iaload) := by rfl
set_option maxRecDepth 20000 in
theorem zi_219_902 : (zM 219).1[902]? = some (.invokevirtual 117) := by rfl
set_option maxRecDepth 20000 in
theorem zi_219_903 : (zM 219).1[903]? = some (.aload 2) := by rfl
set_option maxRecDepth 20000 in
theorem zi_219_904 : (zM 219).1[904]? = some (.aload 0) := by rfl
set_option maxRecDepth 20000 in
theorem zi_219_905 : (zM 219).1[905]? = some (.iload 3) := by rfl
set_option maxRecDepth 20000 in
theorem zi_219_906 : (zM 219).1[906]? = some (.iconst 1) := by rfl
set_option maxRecDepth 20000 in
theorem zi_219_907 : (zM 219).1[907]? = some (.iadd) := by rfl
set_option maxRecDepth 20000 in
theorem zi_219_908 : (zM 219).1[908]? = some (.iaload) := by rfl
set_option maxRecDepth 20000 in
theorem zi_219_909 : (zM 219).1[909]? = some (.aload 0) := by rfl
set_option maxRecDepth 20000 in
theorem zi_219_910 : (zM 219).1[910]? = some (.iload 3) := by rfl
set_option maxRecDepth 20000 in
theorem zi_219_911 : (zM 219).1[911]? = some (.iconst 2) := by rfl
set_option maxRecDepth 20000 in
theorem zi_219_912 : (zM 219).1[912]? = some (.iadd) := by rfl
set_option maxRecDepth 20000 in
theorem zi_219_913 : (zM 219).1[913]? = some (.iaload) := by rfl
set_option maxRecDepth 20000 in
theorem zi_219_914 : (zM 219).1[914]? = some (.aload 0) := by rfl
set_option maxRecDepth 20000 in
theorem zi_219_915 : (zM 219).1[915]? = some (.iload 3) := by rfl
set_option maxRecDepth 20000 in
theorem zi_219_916 : (zM 219).1[916]? = some (.iconst 3) := by rfl
set_option maxRecDepth 20000 in
theorem zi_219_917 : (zM 219).1[917]? = some (.iadd) := by rfl
set_option maxRecDepth 20000 in
theorem zi_219_918 : (zM 219).1[918]? = some (.iaload) := by rfl
set_option maxRecDepth 20000 in
theorem zi_219_919 : (zM 219).1[919]? = some (.aload 0) := by rfl
set_option maxRecDepth 20000 in
theorem zi_219_920 : (zM 219).1[920]? = some (.iload 3) := by rfl
set_option maxRecDepth 20000 in
theorem zi_219_921 : (zM 219).1[921]? = some (.iconst 4) := by rfl
set_option maxRecDepth 20000 in
theorem zi_219_922 : (zM 219).1[922]? = some (.iadd) := by rfl
set_option maxRecDepth 20000 in
theorem zi_219_923 : (zM 219).1[923]? = some (.iaload) := by rfl
set_option maxRecDepth 20000 in
theorem zi_219_924 : (zM 219).1[924]? = some (.invokevirtual 216) := by rfl
set_option maxRecDepth 20000 in
theorem zi_219_925 : (zM 219).1[925]? = some (.if_icmp .eq ((952 : Nat) : Int)) := by rfl
set_option maxRecDepth 20000 in
theorem zi_219_926 : (zM 219).1[926]? = some (.iconst 0) := by rfl
set_option maxRecDepth 20000 in
theorem zi_219_927 : (zM 219).1[927]? = some (.ireturn) := by rfl
set_option maxRecDepth 20000 in
theorem zi_219_928 : (zM 219).1[928]? = some (.aload 1) := by rfl
set_option maxRecDepth 20000 in
theorem zi_219_929 : (zM 219).1[929]? = some (.invokevirtual 118) := by rfl
set_option maxRecDepth 20000 in
theorem zi_219_930 : (zM 219).1[930]? = some (.aload 2) := by rfl
set_option maxRecDepth 20000 in
theorem zi_219_931 : (zM 219).1[931]? = some (.invokevirtual 217) := by rfl
set_option maxRecDepth 20000 in
theorem zi_219_932 : (zM 219).1[932]? = some (.if_icmp .eq ((952 : Nat) : Int)) := by rfl
set_option maxRecDepth 20000 in
theorem zi_219_933 : (zM 219).1[933]? = some (.iconst 0) := by rfl
set_option maxRecDepth 20000 in
theorem zi_219_934 : (zM 219).1[934]? = some (.ireturn) := by rfl
set_option maxRecDepth 20000 in
theorem zi_219_935 : (zM 219).1[935]? = some (.aload 1) := by rfl
set_option maxRecDepth 20000 in
theorem zi_219_936 : (zM 219).1[936]? = some (.aload 0) := by rfl
set_option maxRecDepth 20000 in
theorem zi_219_937 : (zM 219).1[937]? = some (.iload 3) := by rfl
set_option maxRecDepth 20000 in
theorem zi_219_938 : (zM 219).1[938]? = some (.iconst 1) := by rfl
set_option maxRecDepth 20000 in
theorem zi_219_939 : (zM 219).1[939]? = some (.iadd) := by rfl
set_option maxRecDepth 20000 in
theorem zi_219_940 : (zM 219).1[940]? = some (.iaload) := by rfl
set_option maxRecDepth 20000 in
theorem zi_219_941 : (zM 219).1[941]? = some (.invokevirtual 119) := by rfl
set_option maxRecDepth 20000 in
theorem zi_219_942 : (zM 219).1[942]? = some (.aload 2) := by rfl
set_option maxRecDepth 20000 in
theorem zi_219_943 : (zM 219).1[943]? = some (.aload 0) := by rfl
set_option maxRecDepth 20000 in
theorem zi_219_944 : (zM 219).1[944]? = some (.iload 3) := by rfl
set_option maxRecDepth 20000 in
theorem zi_219_945 : (zM 219).1[945]? = some (.iconst 1) := by rfl
set_option maxRecDepth 20000 in
theorem zi_219_946 : (zM 219).1[946]? = some (.iadd) := by rfl
set_option maxRecDepth 20000 in
theorem zi_219_947 : (zM 219).1[947]? = some (.iaload) := by rfl
set_option maxRecDepth 20000 in
theorem zi_219_948 : (zM 219).1[948]? = some (.invokevirtual 218) := by rfl
set_option maxRecDepth 20000 in
theorem zi_219_949 : (zM 219).1[949]? = some (.if_icmp .eq ((952 : Nat) : Int)) := by rfl
set_option maxRecDepth 20000 in
theorem zi_219_950 : (zM 219).1[950]? = some (.iconst 0) := by rfl
set_option maxRecDepth 20000 in
theorem zi_219_951 : (zM 219).1[951]? = some (.ireturn) := by rfl
set_option maxRecDepth 20000 in
theorem zi_219_952 : (zM 219).1[952]? = some (.iinc 3 8) := by rfl
set_option maxRecDepth 20000 in
theorem zi_219_953 : (zM 219).1[953]? = some (.goto ((10 : Nat) : Int)) := by rfl
set_option maxRecDepth 20000 in
theorem zi_219_954 : (zM 219).1[954]? = some (.iconst 1) := by rfl
set_option maxRecDepth 20000 in
theorem zi_219_955 : (zM 219).1[955]? = some (.ireturn) := by rfl
set_option maxRecDepth 20000 in
theorem zsl_219_21 : ∀ z : Int, ¬ (z < 0 ∨ 29 < z) → ¬ z = 0 → ¬ z = 1 → ¬ z = 2 → ¬ z = 3 → ¬ z = 4 → ¬ z = 5 → ¬ z = 6 → ¬ z = 7 → ¬ z = 8 → ¬ z = 9 → ¬ z = 10 → ¬ z = 11 → ¬ z = 12 → ¬ z = 13 → ¬ z = 14 → ¬ z = 15 → ¬ z = 16 → ¬ z = 17 → ¬ z = 18 → ¬ z = 19 → ¬ z = 20 → ¬ z = 21 → ¬ z = 22 → ¬ z = 23 → ¬ z = 24 → ¬ z = 25 → ¬ z = 26 → ¬ z = 27 → ¬ z = 28 →  z = 29 := by intros; omega
set_option maxRecDepth 100000 in
def wl_219_10 (E : Nat → Nat) (d : Nat) (Q : Option Value → ZH → Prop) : Nat → Nat → Nat → Nat → Int32 → ZH → Prop
  | 0, _, _, _, _, _ => False
  | n + 1, a0, a1, a2, a3, h => (12 ≤ ztag h a0 ∧ ztag h a0 ≤ 19 ∧ ztag h a0 ≠ 18) ∧ ((((Int32.ofNat (zlen h a0)) - 8 : Int32) < a3 → (Q (some (.int 1)) h)) ∧ (¬ (((Int32.ofNat (zlen h a0)) - 8 : Int32) < a3) → ((ztag h a0 = 13 ∨ ztag h a0 = 19) ∧ zin a3 (zlen h a0) = true ∧ (((((zI h a0 a3.toNatClampNeg) &&& 31 : Int32).toInt < 0 ∨ 29 < ((zI h a0 a3.toNatClampNeg) &&& 31 : Int32).toInt) → (∀ x10 : Int32, x10 = (a3 + 8) → wl_219_10 E d Q n a0 a1 a2 x10 h)) ∧ (((zI h a0 a3.toNatClampNeg) &&& 31 : Int32).toInt = 0 → (zin (a3 + 1) (zlen h a0) = true ∧ zin (a3 + 2) (zlen h a0) = true ∧ ztag h a1 = 10 ∧ Ct E d 90 [.ref a1, .long ((((zI h a0 (a3 + 1 : Int32).toNatClampNeg : Int32).toInt64) <<< ((32 : Int32).toInt64 &&& 63)) ||| (((zI h a0 (a3 + 2 : Int32).toNatClampNeg : Int32).toInt64) &&& 4294967295))] h (fun v h12 => ∃ x13 : Int32, v = some (.int x13) ∧ (ztag h12 a0 = 13 ∨ ztag h12 a0 = 19) ∧ zin (a3 + 1) (zlen h12 a0) = true ∧ zin (a3 + 2) (zlen h12 a0) = true ∧ ztag h12 a2 = 11 ∧ Ct E d 136 [.ref a2, .long ((((zI h12 a0 (a3 + 1 : Int32).toNatClampNeg : Int32).toInt64) <<< ((32 : Int32).toInt64 &&& 63)) ||| (((zI h12 a0 (a3 + 2 : Int32).toNatClampNeg : Int32).toInt64) &&& 4294967295))] h12 (fun v h16 => ∃ x17 : Int32, v = some (.int x17) ∧ ((x13 = x17 → (∀ x18 : Int32, x18 = (a3 + 8) → wl_219_10 E d Q n a0 a1 a2 x18 h16)) ∧ (¬ (x13 = x17) → (Q (some (.int 0)) h16))))))) ∧ (((zI h a0 a3.toNatClampNeg) &&& 31 : Int32).toInt = 1 → (zin (a3 + 1) (zlen h a0) = true ∧ ztag h a1 = 10 ∧ Ct E d 91 [.ref a1, .int (zI h a0 (a3 + 1 : Int32).toNatClampNeg)] h (fun v h20 => ∃ x21 : Int32, v = some (.int x21) ∧ (ztag h20 a0 = 13 ∨ ztag h20 a0 = 19) ∧ zin (a3 + 1) (zlen h20 a0) = true ∧ ztag h20 a2 = 11 ∧ Ct E d 137 [.ref a2, .int (zI h20 a0 (a3 + 1 : Int32).toNatClampNeg)] h20 (fun v h24 => ∃ x25 : Int32, v = some (.int x25) ∧ ((x21 = x25 → (∀ x26 : Int32, x26 = (a3 + 8) → wl_219_10 E d Q n a0 a1 a2 x26 h24)) ∧ (¬ (x21 = x25) → (Q (some (.int 0)) h24))))))) ∧ (((zI h a0 a3.toNatClampNeg) &&& 31 : Int32).toInt = 2 → (ztag h a1 = 10 ∧ Ct E d 92 [.ref a1] h (fun v h28 => ∃ x29 : Int32, v = some (.int x29) ∧ ztag h28 a2 = 11 ∧ Ct E d 149 [.ref a2] h28 (fun v h31 => ∃ x32 : Int32, v = some (.int x32) ∧ ((x29 = x32 → (∀ x33 : Int32, x33 = (a3 + 8) → wl_219_10 E d Q n a0 a1 a2 x33 h31)) ∧ (¬ (x29 = x32) → (Q (some (.int 0)) h31))))))) ∧ (((zI h a0 a3.toNatClampNeg) &&& 31 : Int32).toInt = 3 → (ztag h a1 = 10 ∧ 1 ≤ d ∧ sz_93 E h a1 ∧ ztag h a2 = 11 ∧ 1 ≤ d ∧ sz_150 E h a2 ∧ (((fz_93 E h a1 : Int32) = (fz_150 E h a2 : Int32) → (∀ x36 : Int32, x36 = (a3 + 8) → wl_219_10 E d Q n a0 a1 a2 x36 h)) ∧ (¬ ((fz_93 E h a1 : Int32) = (fz_150 E h a2 : Int32)) → (Q (some (.int 0)) h))))) ∧ (((zI h a0 a3.toNatClampNeg) &&& 31 : Int32).toInt = 4 → (zin (a3 + 1) (zlen h a0) = true ∧ ztag h a1 = 10 ∧ 1 ≤ d ∧ sz_94 E h a1 (zI h a0 (a3 + 1 : Int32).toNatClampNeg) ∧ zin (a3 + 1) (zlen h a0) = true ∧ ztag h a2 = 11 ∧ 2 ≤ d ∧ sz_151 E h a2 (zI h a0 (a3 + 1 : Int32).toNatClampNeg) ∧ (((fz_94 E h a1 (zI h a0 (a3 + 1 : Int32).toNatClampNeg) : Int32) = (fz_151 E h a2 (zI h a0 (a3 + 1 : Int32).toNatClampNeg) : Int32) → (∀ x39 : Int32, x39 = (a3 + 8) → wl_219_10 E d Q n a0 a1 a2 x39 h)) ∧ (¬ ((fz_94 E h a1 (zI h a0 (a3 + 1 : Int32).toNatClampNeg) : Int32) = (fz_151 E h a2 (zI h a0 (a3 + 1 : Int32).toNatClampNeg) : Int32)) → (Q (some (.int 0)) h))))) ∧ (((zI h a0 a3.toNatClampNeg) &&& 31 : Int32).toInt = 5 → (zin (a3 + 1) (zlen h a0) = true ∧ zin (a3 + 2) (zlen h a0) = true ∧ ztag h a1 = 10 ∧ Ct E d 95 [.ref a1, .int (zI h a0 (a3 + 1 : Int32).toNatClampNeg), .int (zI h a0 (a3 + 2 : Int32).toNatClampNeg)] h (fun v h41 => ∃ x42 : Int32, v = some (.int x42) ∧ (ztag h41 a0 = 13 ∨ ztag h41 a0 = 19) ∧ zin (a3 + 1) (zlen h41 a0) = true ∧ zin (a3 + 2) (zlen h41 a0) = true ∧ ztag h41 a2 = 11 ∧ Ct E d 154 [.ref a2, .int (zI h41 a0 (a3 + 1 : Int32).toNatClampNeg), .int (zI h41 a0 (a3 + 2 : Int32).toNatClampNeg)] h41 (fun v h45 => ∃ x46 : Int32, v = some (.int x46) ∧ ((x42 = x46 → (∀ x47 : Int32, x47 = (a3 + 8) → wl_219_10 E d Q n a0 a1 a2 x47 h45)) ∧ (¬ (x42 = x46) → (Q (some (.int 0)) h45))))))) ∧ (((zI h a0 a3.toNatClampNeg) &&& 31 : Int32).toInt = 6 → (zin (a3 + 1) (zlen h a0) = true ∧ zin (a3 + 2) (zlen h a0) = true ∧ ztag h a1 = 10 ∧ Ct E d 96 [.ref a1, .int (zI h a0 (a3 + 1 : Int32).toNatClampNeg), .int (zI h a0 (a3 + 2 : Int32).toNatClampNeg)] h (fun v h49 => ∃ x50 : Int32, v = some (.int x50) ∧ (ztag h49 a0 = 13 ∨ ztag h49 a0 = 19) ∧ zin (a3 + 1) (zlen h49 a0) = true ∧ zin (a3 + 2) (zlen h49 a0) = true ∧ ztag h49 a2 = 11 ∧ Ct E d 161 [.ref a2, .int (zI h49 a0 (a3 + 1 : Int32).toNatClampNeg), .int (zI h49 a0 (a3 + 2 : Int32).toNatClampNeg)] h49 (fun v h53 => ∃ x54 : Int32, v = some (.int x54) ∧ ((x50 = x54 → (∀ x55 : Int32, x55 = (a3 + 8) → wl_219_10 E d Q n a0 a1 a2 x55 h53)) ∧ (¬ (x50 = x54) → (Q (some (.int 0)) h53))))))) ∧ (((zI h a0 a3.toNatClampNeg) &&& 31 : Int32).toInt = 7 → (zin (a3 + 1) (zlen h a0) = true ∧ zin (a3 + 2) (zlen h a0) = true ∧ ztag h a1 = 10 ∧ Ct E d 97 [.ref a1, .int (zI h a0 (a3 + 1 : Int32).toNatClampNeg), .int (zI h a0 (a3 + 2 : Int32).toNatClampNeg)] h (fun v h57 => ∃ x58 : Int32, v = some (.int x58) ∧ (ztag h57 a0 = 13 ∨ ztag h57 a0 = 19) ∧ zin (a3 + 1) (zlen h57 a0) = true ∧ zin (a3 + 2) (zlen h57 a0) = true ∧ ztag h57 a2 = 11 ∧ Ct E d 162 [.ref a2, .int (zI h57 a0 (a3 + 1 : Int32).toNatClampNeg), .int (zI h57 a0 (a3 + 2 : Int32).toNatClampNeg)] h57 (fun v h61 => ∃ x62 : Int32, v = some (.int x62) ∧ ((x58 = x62 → (∀ x63 : Int32, x63 = (a3 + 8) → wl_219_10 E d Q n a0 a1 a2 x63 h61)) ∧ (¬ (x58 = x62) → (Q (some (.int 0)) h61))))))) ∧ (((zI h a0 a3.toNatClampNeg) &&& 31 : Int32).toInt = 8 → (zin (a3 + 1) (zlen h a0) = true ∧ zin (a3 + 2) (zlen h a0) = true ∧ zin (a3 + 3) (zlen h a0) = true ∧ zin (a3 + 4) (zlen h a0) = true ∧ zin (a3 + 5) (zlen h a0) = true ∧ zin (a3 + 6) (zlen h a0) = true ∧ zin (a3 + 7) (zlen h a0) = true ∧ ztag h a1 = 10 ∧ Ct E d 98 [.ref a1, .int (zI h a0 (a3 + 1 : Int32).toNatClampNeg), .int (zI h a0 (a3 + 2 : Int32).toNatClampNeg), .int (zI h a0 (a3 + 3 : Int32).toNatClampNeg), .int (zI h a0 (a3 + 4 : Int32).toNatClampNeg), .int (zI h a0 (a3 + 5 : Int32).toNatClampNeg), .int (zI h a0 (a3 + 6 : Int32).toNatClampNeg), .int (zI h a0 (a3 + 7 : Int32).toNatClampNeg)] h (fun v h65 => ∃ x66 : Int32, v = some (.int x66) ∧ (ztag h65 a0 = 13 ∨ ztag h65 a0 = 19) ∧ zin (a3 + 1) (zlen h65 a0) = true ∧ zin (a3 + 2) (zlen h65 a0) = true ∧ zin (a3 + 3) (zlen h65 a0) = true ∧ zin (a3 + 4) (zlen h65 a0) = true ∧ zin (a3 + 5) (zlen h65 a0) = true ∧ zin (a3 + 6) (zlen h65 a0) = true ∧ zin (a3 + 7) (zlen h65 a0) = true ∧ ztag h65 a2 = 11 ∧ Ct E d 170 [.ref a2, .int (zI h65 a0 (a3 + 1 : Int32).toNatClampNeg), .int (zI h65 a0 (a3 + 2 : Int32).toNatClampNeg), .int (zI h65 a0 (a3 + 3 : Int32).toNatClampNeg), .int (zI h65 a0 (a3 + 4 : Int32).toNatClampNeg), .int (zI h65 a0 (a3 + 5 : Int32).toNatClampNeg), .int (zI h65 a0 (a3 + 6 : Int32).toNatClampNeg), .int (zI h65 a0 (a3 + 7 : Int32).toNatClampNeg)] h65 (fun v h69 => ∃ x70 : Int32, v = some (.int x70) ∧ ((x66 = x70 → (∀ x71 : Int32, x71 = (a3 + 8) → wl_219_10 E d Q n a0 a1 a2 x71 h69)) ∧ (¬ (x66 = x70) → (Q (some (.int 0)) h69))))))) ∧ (((zI h a0 a3.toNatClampNeg) &&& 31 : Int32).toInt = 9 → (zin (a3 + 1) (zlen h a0) = true ∧ zin (a3 + 2) (zlen h a0) = true ∧ zin (a3 + 3) (zlen h a0) = true ∧ zin (a3 + 4) (zlen h a0) = true ∧ ztag h a1 = 10 ∧ Ct E d 99 [.ref a1, .int (zI h a0 (a3 + 1 : Int32).toNatClampNeg), .int (zI h a0 (a3 + 2 : Int32).toNatClampNeg), .int (zI h a0 (a3 + 3 : Int32).toNatClampNeg), .int (zI h a0 (a3 + 4 : Int32).toNatClampNeg)] h (fun v h73 => ∃ x74 : Int32, v = some (.int x74) ∧ (ztag h73 a0 = 13 ∨ ztag h73 a0 = 19) ∧ zin (a3 + 1) (zlen h73 a0) = true ∧ zin (a3 + 2) (zlen h73 a0) = true ∧ zin (a3 + 3) (zlen h73 a0) = true ∧ zin (a3 + 4) (zlen h73 a0) = true ∧ ztag h73 a2 = 11 ∧ Ct E d 174 [.ref a2, .int (zI h73 a0 (a3 + 1 : Int32).toNatClampNeg), .int (zI h73 a0 (a3 + 2 : Int32).toNatClampNeg), .int (zI h73 a0 (a3 + 3 : Int32).toNatClampNeg), .int (zI h73 a0 (a3 + 4 : Int32).toNatClampNeg)] h73 (fun v h77 => ∃ x78 : Int32, v = some (.int x78) ∧ ((x74 = x78 → (∀ x79 : Int32, x79 = (a3 + 8) → wl_219_10 E d Q n a0 a1 a2 x79 h77)) ∧ (¬ (x74 = x78) → (Q (some (.int 0)) h77))))))) ∧ (((zI h a0 a3.toNatClampNeg) &&& 31 : Int32).toInt = 10 → (zin (a3 + 1) (zlen h a0) = true ∧ zin (a3 + 2) (zlen h a0) = true ∧ zin (a3 + 3) (zlen h a0) = true ∧ zin (a3 + 4) (zlen h a0) = true ∧ zin (a3 + 5) (zlen h a0) = true ∧ ztag h a1 = 10 ∧ Ct E d 100 [.ref a1, .int (zI h a0 (a3 + 1 : Int32).toNatClampNeg), .int (zI h a0 (a3 + 2 : Int32).toNatClampNeg), .int (zI h a0 (a3 + 3 : Int32).toNatClampNeg), .int (zI h a0 (a3 + 4 : Int32).toNatClampNeg), .int (zI h a0 (a3 + 5 : Int32).toNatClampNeg)] h (fun v h81 => ∃ x82 : Int32, v = some (.int x82) ∧ (ztag h81 a0 = 13 ∨ ztag h81 a0 = 19) ∧ zin (a3 + 1) (zlen h81 a0) = true ∧ zin (a3 + 2) (zlen h81 a0) = true ∧ zin (a3 + 3) (zlen h81 a0) = true ∧ zin (a3 + 4) (zlen h81 a0) = true ∧ zin (a3 + 5) (zlen h81 a0) = true ∧ ztag h81 a2 = 11 ∧ Ct E d 183 [.ref a2, .int (zI h81 a0 (a3 + 1 : Int32).toNatClampNeg), .int (zI h81 a0 (a3 + 2 : Int32).toNatClampNeg), .int (zI h81 a0 (a3 + 3 : Int32).toNatClampNeg), .int (zI h81 a0 (a3 + 4 : Int32).toNatClampNeg), .int (zI h81 a0 (a3 + 5 : Int32).toNatClampNeg)] h81 (fun v h85 => ∃ x86 : Int32, v = some (.int x86) ∧ ((x82 = x86 → (∀ x87 : Int32, x87 = (a3 + 8) → wl_219_10 E d Q n a0 a1 a2 x87 h85)) ∧ (¬ (x82 = x86) → (Q (some (.int 0)) h85))))))) ∧ (((zI h a0 a3.toNatClampNeg) &&& 31 : Int32).toInt = 11 → (zin (a3 + 1) (zlen h a0) = true ∧ zin (a3 + 2) (zlen h a0) = true ∧ zin (a3 + 3) (zlen h a0) = true ∧ zin (a3 + 4) (zlen h a0) = true ∧ zin (a3 + 5) (zlen h a0) = true ∧ zin (a3 + 6) (zlen h a0) = true ∧ ztag h a1 = 10 ∧ Ct E d 101 [.ref a1, .int (zI h a0 (a3 + 1 : Int32).toNatClampNeg), .int (zI h a0 (a3 + 2 : Int32).toNatClampNeg), .int (zI h a0 (a3 + 3 : Int32).toNatClampNeg), .int (zI h a0 (a3 + 4 : Int32).toNatClampNeg), .int (zI h a0 (a3 + 5 : Int32).toNatClampNeg), .int (zI h a0 (a3 + 6 : Int32).toNatClampNeg)] h (fun v h89 => ∃ x90 : Int64, v = some (.long x90) ∧ (ztag h89 a0 = 13 ∨ ztag h89 a0 = 19) ∧ zin (a3 + 1) (zlen h89 a0) = true ∧ zin (a3 + 2) (zlen h89 a0) = true ∧ zin (a3 + 3) (zlen h89 a0) = true ∧ zin (a3 + 4) (zlen h89 a0) = true ∧ zin (a3 + 5) (zlen h89 a0) = true ∧ zin (a3 + 6) (zlen h89 a0) = true ∧ ztag h89 a2 = 11 ∧ Ct E d 185 [.ref a2, .int (zI h89 a0 (a3 + 1 : Int32).toNatClampNeg), .int (zI h89 a0 (a3 + 2 : Int32).toNatClampNeg), .int (zI h89 a0 (a3 + 3 : Int32).toNatClampNeg), .int (zI h89 a0 (a3 + 4 : Int32).toNatClampNeg), .int (zI h89 a0 (a3 + 5 : Int32).toNatClampNeg), .int (zI h89 a0 (a3 + 6 : Int32).toNatClampNeg)] h89 (fun v h93 => ∃ x94 : Int64, v = some (.long x94) ∧ ((x90 = x94 → (∀ x95 : Int32, x95 = (a3 + 8) → wl_219_10 E d Q n a0 a1 a2 x95 h93)) ∧ (¬ (x90 = x94) → (Q (some (.int 0)) h93))))))) ∧ (((zI h a0 a3.toNatClampNeg) &&& 31 : Int32).toInt = 12 → (zin (a3 + 1) (zlen h a0) = true ∧ zin (a3 + 2) (zlen h a0) = true ∧ zin (a3 + 3) (zlen h a0) = true ∧ zin (a3 + 4) (zlen h a0) = true ∧ zin (a3 + 5) (zlen h a0) = true ∧ zin (a3 + 6) (zlen h a0) = true ∧ zin (a3 + 7) (zlen h a0) = true ∧ ztag h a1 = 10 ∧ Ct E d 102 [.ref a1, .int (zI h a0 (a3 + 1 : Int32).toNatClampNeg), .int (zI h a0 (a3 + 2 : Int32).toNatClampNeg), .int (zI h a0 (a3 + 3 : Int32).toNatClampNeg), .int (zI h a0 (a3 + 4 : Int32).toNatClampNeg), .int (zI h a0 (a3 + 5 : Int32).toNatClampNeg), .int (zI h a0 (a3 + 6 : Int32).toNatClampNeg), .int (zI h a0 (a3 + 7 : Int32).toNatClampNeg)] h (fun v h97 => ∃ x98 : Int64, v = some (.long x98) ∧ (ztag h97 a0 = 13 ∨ ztag h97 a0 = 19) ∧ zin (a3 + 1) (zlen h97 a0) = true ∧ zin (a3 + 2) (zlen h97 a0) = true ∧ zin (a3 + 3) (zlen h97 a0) = true ∧ zin (a3 + 4) (zlen h97 a0) = true ∧ zin (a3 + 5) (zlen h97 a0) = true ∧ zin (a3 + 6) (zlen h97 a0) = true ∧ zin (a3 + 7) (zlen h97 a0) = true ∧ ztag h97 a2 = 11 ∧ Ct E d 186 [.ref a2, .int (zI h97 a0 (a3 + 1 : Int32).toNatClampNeg), .int (zI h97 a0 (a3 + 2 : Int32).toNatClampNeg), .int (zI h97 a0 (a3 + 3 : Int32).toNatClampNeg), .int (zI h97 a0 (a3 + 4 : Int32).toNatClampNeg), .int (zI h97 a0 (a3 + 5 : Int32).toNatClampNeg), .int (zI h97 a0 (a3 + 6 : Int32).toNatClampNeg), .int (zI h97 a0 (a3 + 7 : Int32).toNatClampNeg)] h97 (fun v h101 => ∃ x102 : Int64, v = some (.long x102) ∧ ((x98 = x102 → (∀ x103 : Int32, x103 = (a3 + 8) → wl_219_10 E d Q n a0 a1 a2 x103 h101)) ∧ (¬ (x98 = x102) → (Q (some (.int 0)) h101))))))) ∧ (((zI h a0 a3.toNatClampNeg) &&& 31 : Int32).toInt = 13 → (zin (a3 + 1) (zlen h a0) = true ∧ zin (a3 + 2) (zlen h a0) = true ∧ ztag h a1 = 10 ∧ Ct E d 103 [.ref a1, .int (zI h a0 (a3 + 1 : Int32).toNatClampNeg), .int (zI h a0 (a3 + 2 : Int32).toNatClampNeg)] h (fun v h105 => ∃ x106 : Int64, v = some (.long x106) ∧ (ztag h105 a0 = 13 ∨ ztag h105 a0 = 19) ∧ zin (a3 + 1) (zlen h105 a0) = true ∧ zin (a3 + 2) (zlen h105 a0) = true ∧ ztag h105 a2 = 11 ∧ Ct E d 191 [.ref a2, .int (zI h105 a0 (a3 + 1 : Int32).toNatClampNeg), .int (zI h105 a0 (a3 + 2 : Int32).toNatClampNeg)] h105 (fun v h109 => ∃ x110 : Int64, v = some (.long x110) ∧ ((x106 = x110 → (∀ x111 : Int32, x111 = (a3 + 8) → wl_219_10 E d Q n a0 a1 a2 x111 h109)) ∧ (¬ (x106 = x110) → (Q (some (.int 0)) h109))))))) ∧ (((zI h a0 a3.toNatClampNeg) &&& 31 : Int32).toInt = 14 → (zin (a3 + 1) (zlen h a0) = true ∧ ztag h a1 = 10 ∧ Ct E d 104 [.ref a1, .int (zI h a0 (a3 + 1 : Int32).toNatClampNeg)] h (fun v h113 => ∃ x114 : Int64, v = some (.long x114) ∧ (ztag h113 a0 = 13 ∨ ztag h113 a0 = 19) ∧ zin (a3 + 1) (zlen h113 a0) = true ∧ ztag h113 a2 = 11 ∧ Ct E d 192 [.ref a2, .int (zI h113 a0 (a3 + 1 : Int32).toNatClampNeg)] h113 (fun v h117 => ∃ x118 : Int64, v = some (.long x118) ∧ ((x114 = x118 → (∀ x119 : Int32, x119 = (a3 + 8) → wl_219_10 E d Q n a0 a1 a2 x119 h117)) ∧ (¬ (x114 = x118) → (Q (some (.int 0)) h117))))))) ∧ (((zI h a0 a3.toNatClampNeg) &&& 31 : Int32).toInt = 15 → (zin (a3 + 1) (zlen h a0) = true ∧ zin (a3 + 2) (zlen h a0) = true ∧ zin (a3 + 3) (zlen h a0) = true ∧ ztag h a1 = 10 ∧ Ct E d 105 [.ref a1, .int (zI h a0 (a3 + 1 : Int32).toNatClampNeg), .int (zI h a0 (a3 + 2 : Int32).toNatClampNeg), .int (zI h a0 (a3 + 3 : Int32).toNatClampNeg)] h (fun v h121 => ∃ x122 : Int64, v = some (.long x122) ∧ (ztag h121 a0 = 13 ∨ ztag h121 a0 = 19) ∧ zin (a3 + 1) (zlen h121 a0) = true ∧ zin (a3 + 2) (zlen h121 a0) = true ∧ zin (a3 + 3) (zlen h121 a0) = true ∧ ztag h121 a2 = 11 ∧ Ct E d 196 [.ref a2, .int (zI h121 a0 (a3 + 1 : Int32).toNatClampNeg), .int (zI h121 a0 (a3 + 2 : Int32).toNatClampNeg), .int (zI h121 a0 (a3 + 3 : Int32).toNatClampNeg)] h121 (fun v h125 => ∃ x126 : Int64, v = some (.long x126) ∧ ((x122 = x126 → (∀ x127 : Int32, x127 = (a3 + 8) → wl_219_10 E d Q n a0 a1 a2 x127 h125)) ∧ (¬ (x122 = x126) → (Q (some (.int 0)) h125))))))) ∧ (((zI h a0 a3.toNatClampNeg) &&& 31 : Int32).toInt = 16 → (zin (a3 + 1) (zlen h a0) = true ∧ zin (a3 + 2) (zlen h a0) = true ∧ zin (a3 + 3) (zlen h a0) = true ∧ zin (a3 + 4) (zlen h a0) = true ∧ zin (a3 + 5) (zlen h a0) = true ∧ ztag h a1 = 10 ∧ Ct E d 106 [.ref a1, .int (zI h a0 (a3 + 1 : Int32).toNatClampNeg), .int (zI h a0 (a3 + 2 : Int32).toNatClampNeg), .int (zI h a0 (a3 + 3 : Int32).toNatClampNeg), .int (zI h a0 (a3 + 4 : Int32).toNatClampNeg), .int (zI h a0 (a3 + 5 : Int32).toNatClampNeg)] h (fun v h129 => ∃ x130 : Int32, v = some (.int x130) ∧ (ztag h129 a0 = 13 ∨ ztag h129 a0 = 19) ∧ zin (a3 + 1) (zlen h129 a0) = true ∧ zin (a3 + 2) (zlen h129 a0) = true ∧ zin (a3 + 3) (zlen h129 a0) = true ∧ zin (a3 + 4) (zlen h129 a0) = true ∧ zin (a3 + 5) (zlen h129 a0) = true ∧ ztag h129 a2 = 11 ∧ Ct E d 197 [.ref a2, .int (zI h129 a0 (a3 + 1 : Int32).toNatClampNeg), .int (zI h129 a0 (a3 + 2 : Int32).toNatClampNeg), .int (zI h129 a0 (a3 + 3 : Int32).toNatClampNeg), .int (zI h129 a0 (a3 + 4 : Int32).toNatClampNeg), .int (zI h129 a0 (a3 + 5 : Int32).toNatClampNeg)] h129 (fun v h133 => ∃ x134 : Int32, v = some (.int x134) ∧ ((x130 = x134 → (∀ x135 : Int32, x135 = (a3 + 8) → wl_219_10 E d Q n a0 a1 a2 x135 h133)) ∧ (¬ (x130 = x134) → (Q (some (.int 0)) h133))))))) ∧ (((zI h a0 a3.toNatClampNeg) &&& 31 : Int32).toInt = 17 → (zin (a3 + 1) (zlen h a0) = true ∧ ztag h a1 = 10 ∧ Ct E d 107 [.ref a1, .int (zI h a0 (a3 + 1 : Int32).toNatClampNeg)] h (fun v h137 => ∃ x138 : Int64, v = some (.long x138) ∧ (ztag h137 a0 = 13 ∨ ztag h137 a0 = 19) ∧ zin (a3 + 1) (zlen h137 a0) = true ∧ ztag h137 a2 = 11 ∧ Ct E d 198 [.ref a2, .int (zI h137 a0 (a3 + 1 : Int32).toNatClampNeg)] h137 (fun v h141 => ∃ x142 : Int64, v = some (.long x142) ∧ ((x138 = x142 → (∀ x143 : Int32, x143 = (a3 + 8) → wl_219_10 E d Q n a0 a1 a2 x143 h141)) ∧ (¬ (x138 = x142) → (Q (some (.int 0)) h141))))))) ∧ (((zI h a0 a3.toNatClampNeg) &&& 31 : Int32).toInt = 18 → (zin (a3 + 1) (zlen h a0) = true ∧ zin (a3 + 2) (zlen h a0) = true ∧ ztag h a1 = 10 ∧ Ct E d 108 [.ref a1, .int (zI h a0 (a3 + 1 : Int32).toNatClampNeg), .int (zI h a0 (a3 + 2 : Int32).toNatClampNeg)] h (fun v h145 => ∃ x146 : Int32, v = some (.int x146) ∧ (ztag h145 a0 = 13 ∨ ztag h145 a0 = 19) ∧ zin (a3 + 1) (zlen h145 a0) = true ∧ zin (a3 + 2) (zlen h145 a0) = true ∧ ztag h145 a2 = 11 ∧ Ct E d 199 [.ref a2, .int (zI h145 a0 (a3 + 1 : Int32).toNatClampNeg), .int (zI h145 a0 (a3 + 2 : Int32).toNatClampNeg)] h145 (fun v h149 => ∃ x150 : Int32, v = some (.int x150) ∧ ((x146 = x150 → (∀ x151 : Int32, x151 = (a3 + 8) → wl_219_10 E d Q n a0 a1 a2 x151 h149)) ∧ (¬ (x146 = x150) → (Q (some (.int 0)) h149))))))) ∧ (((zI h a0 a3.toNatClampNeg) &&& 31 : Int32).toInt = 19 → (ztag h a1 = 10 ∧ Ct E d 109 [.ref a1] h (fun v h153 => ∃ x154 : Int32, v = some (.int x154) ∧ ztag h153 a2 = 11 ∧ Ct E d 200 [.ref a2] h153 (fun v h156 => ∃ x157 : Int32, v = some (.int x157) ∧ ((x154 = x157 → (∀ x158 : Int32, x158 = (a3 + 8) → wl_219_10 E d Q n a0 a1 a2 x158 h156)) ∧ (¬ (x154 = x157) → (Q (some (.int 0)) h156))))))) ∧ (((zI h a0 a3.toNatClampNeg) &&& 31 : Int32).toInt = 20 → (zin (a3 + 1) (zlen h a0) = true ∧ ztag h a1 = 10 ∧ Ct E d 110 [.ref a1, .int (zI h a0 (a3 + 1 : Int32).toNatClampNeg)] h (fun v h160 => ∃ x161 : Int32, v = some (.int x161) ∧ (ztag h160 a0 = 13 ∨ ztag h160 a0 = 19) ∧ zin (a3 + 1) (zlen h160 a0) = true ∧ ztag h160 a2 = 11 ∧ Ct E d 205 [.ref a2, .int (zI h160 a0 (a3 + 1 : Int32).toNatClampNeg)] h160 (fun v h164 => ∃ x165 : Int32, v = some (.int x165) ∧ ((x161 = x165 → (∀ x166 : Int32, x166 = (a3 + 8) → wl_219_10 E d Q n a0 a1 a2 x166 h164)) ∧ (¬ (x161 = x165) → (Q (some (.int 0)) h164))))))) ∧ (((zI h a0 a3.toNatClampNeg) &&& 31 : Int32).toInt = 21 → (zin (a3 + 1) (zlen h a0) = true ∧ zin (a3 + 2) (zlen h a0) = true ∧ ztag h a1 = 10 ∧ Ct E d 111 [.ref a1, .int (zI h a0 (a3 + 1 : Int32).toNatClampNeg), .int (zI h a0 (a3 + 2 : Int32).toNatClampNeg)] h (fun v h168 => ∃ x169 : Int32, v = some (.int x169) ∧ (ztag h168 a0 = 13 ∨ ztag h168 a0 = 19) ∧ zin (a3 + 1) (zlen h168 a0) = true ∧ zin (a3 + 2) (zlen h168 a0) = true ∧ ztag h168 a2 = 11 ∧ Ct E d 206 [.ref a2, .int (zI h168 a0 (a3 + 1 : Int32).toNatClampNeg), .int (zI h168 a0 (a3 + 2 : Int32).toNatClampNeg)] h168 (fun v h172 => ∃ x173 : Int32, v = some (.int x173) ∧ ((x169 = x173 → (∀ x174 : Int32, x174 = (a3 + 8) → wl_219_10 E d Q n a0 a1 a2 x174 h172)) ∧ (¬ (x169 = x173) → (Q (some (.int 0)) h172))))))) ∧ (((zI h a0 a3.toNatClampNeg) &&& 31 : Int32).toInt = 22 → (zin (a3 + 1) (zlen h a0) = true ∧ ztag h a1 = 10 ∧ Ct E d 112 [.ref a1, .int (zI h a0 (a3 + 1 : Int32).toNatClampNeg)] h (fun v h176 => ∃ x177 : Int32, v = some (.int x177) ∧ (ztag h176 a0 = 13 ∨ ztag h176 a0 = 19) ∧ zin (a3 + 1) (zlen h176 a0) = true ∧ ztag h176 a2 = 11 ∧ Ct E d 209 [.ref a2, .int (zI h176 a0 (a3 + 1 : Int32).toNatClampNeg)] h176 (fun v h180 => ∃ x181 : Int32, v = some (.int x181) ∧ ((x177 = x181 → (∀ x182 : Int32, x182 = (a3 + 8) → wl_219_10 E d Q n a0 a1 a2 x182 h180)) ∧ (¬ (x177 = x181) → (Q (some (.int 0)) h180))))))) ∧ (((zI h a0 a3.toNatClampNeg) &&& 31 : Int32).toInt = 23 → (zin (a3 + 1) (zlen h a0) = true ∧ ztag h a1 = 10 ∧ Ct E d 113 [.ref a1, .int (zI h a0 (a3 + 1 : Int32).toNatClampNeg)] h (fun v h184 => ∃ x185 : Int32, v = some (.int x185) ∧ (ztag h184 a0 = 13 ∨ ztag h184 a0 = 19) ∧ zin (a3 + 1) (zlen h184 a0) = true ∧ ztag h184 a2 = 11 ∧ Ct E d 212 [.ref a2, .int (zI h184 a0 (a3 + 1 : Int32).toNatClampNeg)] h184 (fun v h188 => ∃ x189 : Int32, v = some (.int x189) ∧ ((x185 = x189 → (∀ x190 : Int32, x190 = (a3 + 8) → wl_219_10 E d Q n a0 a1 a2 x190 h188)) ∧ (¬ (x185 = x189) → (Q (some (.int 0)) h188))))))) ∧ (((zI h a0 a3.toNatClampNeg) &&& 31 : Int32).toInt = 24 → (zin (a3 + 1) (zlen h a0) = true ∧ ztag h a1 = 10 ∧ Ct E d 114 [.ref a1, .int (zI h a0 (a3 + 1 : Int32).toNatClampNeg)] h (fun v h192 => ∃ x193 : Int32, v = some (.int x193) ∧ (ztag h192 a0 = 13 ∨ ztag h192 a0 = 19) ∧ zin (a3 + 1) (zlen h192 a0) = true ∧ ztag h192 a2 = 11 ∧ Ct E d 213 [.ref a2, .int (zI h192 a0 (a3 + 1 : Int32).toNatClampNeg)] h192 (fun v h196 => ∃ x197 : Int32, v = some (.int x197) ∧ ((x193 = x197 → (∀ x198 : Int32, x198 = (a3 + 8) → wl_219_10 E d Q n a0 a1 a2 x198 h196)) ∧ (¬ (x193 = x197) → (Q (some (.int 0)) h196))))))) ∧ (((zI h a0 a3.toNatClampNeg) &&& 31 : Int32).toInt = 25 → (zin (a3 + 1) (zlen h a0) = true ∧ zin (a3 + 2) (zlen h a0) = true ∧ zin (a3 + 3) (zlen h a0) = true ∧ ztag h a1 = 10 ∧ Ct E d 115 [.ref a1, .int (zI h a0 (a3 + 1 : Int32).toNatClampNeg), .int (zI h a0 (a3 + 2 : Int32).toNatClampNeg), .int (zI h a0 (a3 + 3 : Int32).toNatClampNeg)] h (fun v h200 => ∃ x201 : Int32, v = some (.int x201) ∧ (ztag h200 a0 = 13 ∨ ztag h200 a0 = 19) ∧ zin (a3 + 1) (zlen h200 a0) = true ∧ zin (a3 + 2) (zlen h200 a0) = true ∧ zin (a3 + 3) (zlen h200 a0) = true ∧ ztag h200 a2 = 11 ∧ Ct E d 214 [.ref a2, .int (zI h200 a0 (a3 + 1 : Int32).toNatClampNeg), .int (zI h200 a0 (a3 + 2 : Int32).toNatClampNeg), .int (zI h200 a0 (a3 + 3 : Int32).toNatClampNeg)] h200 (fun v h204 => ∃ x205 : Int32, v = some (.int x205) ∧ ((x201 = x205 → (∀ x206 : Int32, x206 = (a3 + 8) → wl_219_10 E d Q n a0 a1 a2 x206 h204)) ∧ (¬ (x201 = x205) → (Q (some (.int 0)) h204))))))) ∧ (((zI h a0 a3.toNatClampNeg) &&& 31 : Int32).toInt = 26 → (zin (a3 + 1) (zlen h a0) = true ∧ zin (a3 + 2) (zlen h a0) = true ∧ zin (a3 + 3) (zlen h a0) = true ∧ ztag h a1 = 10 ∧ Ct E d 116 [.ref a1, .int (zI h a0 (a3 + 1 : Int32).toNatClampNeg), .int (zI h a0 (a3 + 2 : Int32).toNatClampNeg), .int (zI h a0 (a3 + 3 : Int32).toNatClampNeg)] h (fun v h208 => ∃ x209 : Int32, v = some (.int x209) ∧ (ztag h208 a0 = 13 ∨ ztag h208 a0 = 19) ∧ zin (a3 + 1) (zlen h208 a0) = true ∧ zin (a3 + 2) (zlen h208 a0) = true ∧ zin (a3 + 3) (zlen h208 a0) = true ∧ ztag h208 a2 = 11 ∧ Ct E d 215 [.ref a2, .int (zI h208 a0 (a3 + 1 : Int32).toNatClampNeg), .int (zI h208 a0 (a3 + 2 : Int32).toNatClampNeg), .int (zI h208 a0 (a3 + 3 : Int32).toNatClampNeg)] h208 (fun v h212 => ∃ x213 : Int32, v = some (.int x213) ∧ ((x209 = x213 → (∀ x214 : Int32, x214 = (a3 + 8) → wl_219_10 E d Q n a0 a1 a2 x214 h212)) ∧ (¬ (x209 = x213) → (Q (some (.int 0)) h212))))))) ∧ (((zI h a0 a3.toNatClampNeg) &&& 31 : Int32).toInt = 27 → (zin (a3 + 1) (zlen h a0) = true ∧ zin (a3 + 2) (zlen h a0) = true ∧ zin (a3 + 3) (zlen h a0) = true ∧ zin (a3 + 4) (zlen h a0) = true ∧ ztag h a1 = 10 ∧ Ct E d 117 [.ref a1, .int (zI h a0 (a3 + 1 : Int32).toNatClampNeg), .int (zI h a0 (a3 + 2 : Int32).toNatClampNeg), .int (zI h a0 (a3 + 3 : Int32).toNatClampNeg), .int (zI h a0 (a3 + 4 : Int32).toNatClampNeg)] h (fun v h216 => ∃ x217 : Int32, v = some (.int x217) ∧ (ztag h216 a0 = 13 ∨ ztag h216 a0 = 19) ∧ zin (a3 + 1) (zlen h216 a0) = true ∧ zin (a3 + 2) (zlen h216 a0) = true ∧ zin (a3 + 3) (zlen h216 a0) = true ∧ zin (a3 + 4) (zlen h216 a0) = true ∧ ztag h216 a2 = 11 ∧ Ct E d 216 [.ref a2, .int (zI h216 a0 (a3 + 1 : Int32).toNatClampNeg), .int (zI h216 a0 (a3 + 2 : Int32).toNatClampNeg), .int (zI h216 a0 (a3 + 3 : Int32).toNatClampNeg), .int (zI h216 a0 (a3 + 4 : Int32).toNatClampNeg)] h216 (fun v h220 => ∃ x221 : Int32, v = some (.int x221) ∧ ((x217 = x221 → (∀ x222 : Int32, x222 = (a3 + 8) → wl_219_10 E d Q n a0 a1 a2 x222 h220)) ∧ (¬ (x217 = x221) → (Q (some (.int 0)) h220))))))) ∧ (((zI h a0 a3.toNatClampNeg) &&& 31 : Int32).toInt = 28 → (ztag h a1 = 10 ∧ 1 ≤ d ∧ sz_118 E h a1 ∧ ztag h a2 = 11 ∧ 1 ≤ d ∧ sz_217 E h a2 ∧ (((fz_118 E h a1 : Int32) = (fz_217 E h a2 : Int32) → (∀ x225 : Int32, x225 = (a3 + 8) → wl_219_10 E d Q n a0 a1 a2 x225 h)) ∧ (¬ ((fz_118 E h a1 : Int32) = (fz_217 E h a2 : Int32)) → (Q (some (.int 0)) h))))) ∧ (((zI h a0 a3.toNatClampNeg) &&& 31 : Int32).toInt = 29 → (zin (a3 + 1) (zlen h a0) = true ∧ ztag h a1 = 10 ∧ Ct E d 119 [.ref a1, .int (zI h a0 (a3 + 1 : Int32).toNatClampNeg)] h (fun v h227 => ∃ x228 : Int32, v = some (.int x228) ∧ (ztag h227 a0 = 13 ∨ ztag h227 a0 = 19) ∧ zin (a3 + 1) (zlen h227 a0) = true ∧ ztag h227 a2 = 11 ∧ Ct E d 218 [.ref a2, .int (zI h227 a0 (a3 + 1 : Int32).toNatClampNeg)] h227 (fun v h231 => ∃ x232 : Int32, v = some (.int x232) ∧ ((x228 = x232 → (∀ x233 : Int32, x233 = (a3 + 8) → wl_219_10 E d Q n a0 a1 a2 x233 h231)) ∧ (¬ (x228 = x232) → (Q (some (.int 0)) h231)))))))))))
set_option maxRecDepth 100000 in
set_option maxHeartbeats 16000000 in
theorem okl_219_10 {E : Nat → Nat} {d : Nat} {Q : Option Value → ZH → Prop} : ∀ (n : Nat) (a0 : Nat) (a1 : Nat) (a2 : Nat) (a3 : Int32) (h : ZH), wl_219_10 E d Q n a0 a1 a2 a3 h → Gx E (d + 1) 219 10 [.ref a0, .ref a1, .ref a2, .int a3] [] h Q := by
  intro n
  induction n with
  | zero => intro a0 a1 a2 a3 h hw; exact hw.elim
  | succ n ih =>
    intro a0 a1 a2 a3 h hw
    rw [wl_219_10] at hw
    refine zg_iload zi_219_10 rfl ?_
    refine zg_aload zi_219_11 rfl ?_
    obtain ⟨ht, hw⟩ := hw
    refine zg_alen zi_219_12 ht rfl ?_
    refine zg_const (v := 8) zi_219_13 (by rfl) ?_
    refine zg_isub zi_219_14 ?_
    refine zg_icmp_gt zi_219_15 (fun hc => ?_) (fun hc => ?_)
    · have hw := hw.1 hc
      refine zg_const (v := 1) zi_219_954 (by rfl) ?_
      exact zg_zreturn zi_219_955 (by decide) hw
    · have hw := hw.2 hc
      refine zg_aload zi_219_16 rfl ?_
      refine zg_iload zi_219_17 rfl ?_
      obtain ⟨t9, hw⟩ := hw
      obtain ⟨hb, hw⟩ := hw
      refine zg_iaload (v := .int (zI h a0 a3.toNatClampNeg)) zi_219_18 t9 hb rfl ?_
      refine zg_const (v := 31) zi_219_19 (by rfl) ?_
      refine zg_iand zi_219_20 ?_
      by_cases ho : ((zI h a0 a3.toNatClampNeg) &&& 31 : Int32).toInt < 0 ∨ 29 < ((zI h a0 a3.toNatClampNeg) &&& 31 : Int32).toInt
      · have hw := hw.1 ho
        refine zg_switch (t := 952) zi_219_21 (by unfold zsw; rw [if_pos ho]; rfl) ?_
        obtain ⟨x10, ex10⟩ : ∃ x : Int32, x = a3 + 8 := ⟨_, rfl⟩
        have hw := hw x10 ex10
        refine zg_iinc (v := x10) (ls1 := [.ref a0, .ref a1, .ref a2, .int x10]) zi_219_952 rfl (by rw [ex10]; rfl) rfl ?_
        refine zg_goto zi_219_953 ?_
        exact ih a0 a1 a2 x10 h hw
      have hw := hw.2
      by_cases hv0 : ((zI h a0 a3.toNatClampNeg) &&& 31 : Int32).toInt = 0
      · have hw := hw.1 hv0
        refine zg_switch (t := 22) zi_219_21 (by rw [hv0]; rfl) ?_
        refine zg_aload zi_219_22 rfl ?_
        refine zg_aload zi_219_23 rfl ?_
        refine zg_iload zi_219_24 rfl ?_
        refine zg_const (v := 1) zi_219_25 (by rfl) ?_
        refine zg_iadd zi_219_26 ?_
        obtain ⟨hb, hw⟩ := hw
        refine zg_iaload (v := .int (zI h a0 (a3 + 1 : Int32).toNatClampNeg)) zi_219_27 t9 hb rfl ?_
        refine zg_i2l zi_219_28 ?_
        refine zg_const (v := 32) zi_219_29 (by rfl) ?_
        refine zg_lshl zi_219_30 ?_
        refine zg_aload zi_219_31 rfl ?_
        refine zg_iload zi_219_32 rfl ?_
        refine zg_const (v := 2) zi_219_33 (by rfl) ?_
        refine zg_iadd zi_219_34 ?_
        obtain ⟨hb, hw⟩ := hw
        refine zg_iaload (v := .int (zI h a0 (a3 + 2 : Int32).toNatClampNeg)) zi_219_35 t9 hb rfl ?_
        refine zg_i2l zi_219_36 ?_
        refine zg_lconst (v := 4294967295) zi_219_37 (by rfl) ?_
        refine zg_land zi_219_38 ?_
        refine zg_lor zi_219_39 ?_
        obtain ⟨t11, hw⟩ := hw
        refine Gx.call2 (as := [.ref a1, .long ((((zI h a0 (a3 + 1 : Int32).toNatClampNeg : Int32).toInt64) <<< ((32 : Int32).toInt64 &&& 63)) ||| (((zI h a0 (a3 + 2 : Int32).toNatClampNeg : Int32).toInt64) &&& 4294967295))]) (rest := []) zq_90 zi_219_40 rfl rfl rfl (Nat.le_of_ble_eq_true rfl) (Nat.le_of_ble_eq_true rfl) (zrv_v t11 rfl rfl) (Nat.le_of_ble_eq_true rfl) ?_
        refine Ct.mono hw ?_
        rintro v h12 ⟨x13, rfl, hw⟩
        show Gx E (d + 1) 219 41 [.ref a0, .ref a1, .ref a2, .int a3] [.int x13] h12 Q
        refine zg_aload zi_219_41 rfl ?_
        refine zg_aload zi_219_42 rfl ?_
        refine zg_iload zi_219_43 rfl ?_
        refine zg_const (v := 1) zi_219_44 (by rfl) ?_
        refine zg_iadd zi_219_45 ?_
        obtain ⟨t14, hw⟩ := hw
        obtain ⟨hb, hw⟩ := hw
        refine zg_iaload (v := .int (zI h12 a0 (a3 + 1 : Int32).toNatClampNeg)) zi_219_46 t14 hb rfl ?_
        refine zg_i2l zi_219_47 ?_
        refine zg_const (v := 32) zi_219_48 (by rfl) ?_
        refine zg_lshl zi_219_49 ?_
        refine zg_aload zi_219_50 rfl ?_
        refine zg_iload zi_219_51 rfl ?_
        refine zg_const (v := 2) zi_219_52 (by rfl) ?_
        refine zg_iadd zi_219_53 ?_
        obtain ⟨hb, hw⟩ := hw
        refine zg_iaload (v := .int (zI h12 a0 (a3 + 2 : Int32).toNatClampNeg)) zi_219_54 t14 hb rfl ?_
        refine zg_i2l zi_219_55 ?_
        refine zg_lconst (v := 4294967295) zi_219_56 (by rfl) ?_
        refine zg_land zi_219_57 ?_
        refine zg_lor zi_219_58 ?_
        obtain ⟨t15, hw⟩ := hw
        refine Gx.call2 (as := [.ref a2, .long ((((zI h12 a0 (a3 + 1 : Int32).toNatClampNeg : Int32).toInt64) <<< ((32 : Int32).toInt64 &&& 63)) ||| (((zI h12 a0 (a3 + 2 : Int32).toNatClampNeg : Int32).toInt64) &&& 4294967295))]) (rest := [.int x13]) zq_136 zi_219_59 rfl rfl rfl (Nat.le_of_ble_eq_true rfl) (Nat.le_of_ble_eq_true rfl) (zrv_v t15 rfl rfl) (Nat.le_of_ble_eq_true rfl) ?_
        refine Ct.mono hw ?_
        rintro v h16 ⟨x17, rfl, hw⟩
        show Gx E (d + 1) 219 60 [.ref a0, .ref a1, .ref a2, .int a3] [.int x17, .int x13] h16 Q
        refine zg_icmp_eq zi_219_60 (fun hc => ?_) (fun hc => ?_)
        · have hw := hw.1 hc
          obtain ⟨x18, ex18⟩ : ∃ x : Int32, x = a3 + 8 := ⟨_, rfl⟩
          have hw := hw x18 ex18
          refine zg_iinc (v := x18) (ls1 := [.ref a0, .ref a1, .ref a2, .int x18]) zi_219_952 rfl (by rw [ex18]; rfl) rfl ?_
          refine zg_goto zi_219_953 ?_
          exact ih a0 a1 a2 x18 h16 hw
        · have hw := hw.2 hc
          refine zg_const (v := 0) zi_219_61 (by rfl) ?_
          exact zg_zreturn zi_219_62 (by decide) hw
      have hw := hw.2
      by_cases hv1 : ((zI h a0 a3.toNatClampNeg) &&& 31 : Int32).toInt = 1
      · have hw := hw.1 hv1
        refine zg_switch (t := 63) zi_219_21 (by rw [hv1]; rfl) ?_
        refine zg_aload zi_219_63 rfl ?_
        refine zg_aload zi_219_64 rfl ?_
        refine zg_iload zi_219_65 rfl ?_
        refine zg_const (v := 1) zi_219_66 (by rfl) ?_
        refine zg_iadd zi_219_67 ?_
        obtain ⟨hb, hw⟩ := hw
        refine zg_iaload (v := .int (zI h a0 (a3 + 1 : Int32).toNatClampNeg)) zi_219_68 t9 hb rfl ?_
        obtain ⟨t19, hw⟩ := hw
        refine Gx.call2 (as := [.ref a1, .int (zI h a0 (a3 + 1 : Int32).toNatClampNeg)]) (rest := []) zq_91 zi_219_69 rfl rfl rfl (Nat.le_of_ble_eq_true rfl) (Nat.le_of_ble_eq_true rfl) (zrv_v t19 rfl rfl) (Nat.le_of_ble_eq_true rfl) ?_
        refine Ct.mono hw ?_
        rintro v h20 ⟨x21, rfl, hw⟩
        show Gx E (d + 1) 219 70 [.ref a0, .ref a1, .ref a2, .int a3] [.int x21] h20 Q
        refine zg_aload zi_219_70 rfl ?_
        refine zg_aload zi_219_71 rfl ?_
        refine zg_iload zi_219_72 rfl ?_
        refine zg_const (v := 1) zi_219_73 (by rfl) ?_
        refine zg_iadd zi_219_74 ?_
        obtain ⟨t22, hw⟩ := hw
        obtain ⟨hb, hw⟩ := hw
        refine zg_iaload (v := .int (zI h20 a0 (a3 + 1 : Int32).toNatClampNeg)) zi_219_75 t22 hb rfl ?_
        obtain ⟨t23, hw⟩ := hw
        refine Gx.call2 (as := [.ref a2, .int (zI h20 a0 (a3 + 1 : Int32).toNatClampNeg)]) (rest := [.int x21]) zq_137 zi_219_76 rfl rfl rfl (Nat.le_of_ble_eq_true rfl) (Nat.le_of_ble_eq_true rfl) (zrv_v t23 rfl rfl) (Nat.le_of_ble_eq_true rfl) ?_
        refine Ct.mono hw ?_
        rintro v h24 ⟨x25, rfl, hw⟩
        show Gx E (d + 1) 219 77 [.ref a0, .ref a1, .ref a2, .int a3] [.int x25, .int x21] h24 Q
        refine zg_icmp_eq zi_219_77 (fun hc => ?_) (fun hc => ?_)
        · have hw := hw.1 hc
          obtain ⟨x26, ex26⟩ : ∃ x : Int32, x = a3 + 8 := ⟨_, rfl⟩
          have hw := hw x26 ex26
          refine zg_iinc (v := x26) (ls1 := [.ref a0, .ref a1, .ref a2, .int x26]) zi_219_952 rfl (by rw [ex26]; rfl) rfl ?_
          refine zg_goto zi_219_953 ?_
          exact ih a0 a1 a2 x26 h24 hw
        · have hw := hw.2 hc
          refine zg_const (v := 0) zi_219_78 (by rfl) ?_
          exact zg_zreturn zi_219_79 (by decide) hw
      have hw := hw.2
      by_cases hv2 : ((zI h a0 a3.toNatClampNeg) &&& 31 : Int32).toInt = 2
      · have hw := hw.1 hv2
        refine zg_switch (t := 80) zi_219_21 (by rw [hv2]; rfl) ?_
        refine zg_aload zi_219_80 rfl ?_
        obtain ⟨t27, hw⟩ := hw
        refine Gx.call2 (as := [.ref a1]) (rest := []) zq_92 zi_219_81 rfl rfl rfl (Nat.le_of_ble_eq_true rfl) (Nat.le_of_ble_eq_true rfl) (zrv_v t27 rfl rfl) (Nat.le_of_ble_eq_true rfl) ?_
        refine Ct.mono hw ?_
        rintro v h28 ⟨x29, rfl, hw⟩
        show Gx E (d + 1) 219 82 [.ref a0, .ref a1, .ref a2, .int a3] [.int x29] h28 Q
        refine zg_aload zi_219_82 rfl ?_
        obtain ⟨t30, hw⟩ := hw
        refine Gx.call2 (as := [.ref a2]) (rest := [.int x29]) zq_149 zi_219_83 rfl rfl rfl (Nat.le_of_ble_eq_true rfl) (Nat.le_of_ble_eq_true rfl) (zrv_v t30 rfl rfl) (Nat.le_of_ble_eq_true rfl) ?_
        refine Ct.mono hw ?_
        rintro v h31 ⟨x32, rfl, hw⟩
        show Gx E (d + 1) 219 84 [.ref a0, .ref a1, .ref a2, .int a3] [.int x32, .int x29] h31 Q
        refine zg_icmp_eq zi_219_84 (fun hc => ?_) (fun hc => ?_)
        · have hw := hw.1 hc
          obtain ⟨x33, ex33⟩ : ∃ x : Int32, x = a3 + 8 := ⟨_, rfl⟩
          have hw := hw x33 ex33
          refine zg_iinc (v := x33) (ls1 := [.ref a0, .ref a1, .ref a2, .int x33]) zi_219_952 rfl (by rw [ex33]; rfl) rfl ?_
          refine zg_goto zi_219_953 ?_
          exact ih a0 a1 a2 x33 h31 hw
        · have hw := hw.2 hc
          refine zg_const (v := 0) zi_219_85 (by rfl) ?_
          exact zg_zreturn zi_219_86 (by decide) hw
      have hw := hw.2
      by_cases hv3 : ((zI h a0 a3.toNatClampNeg) &&& 31 : Int32).toInt = 3
      · have hw := hw.1 hv3
        refine zg_switch (t := 87) zi_219_21 (by rw [hv3]; rfl) ?_
        refine zg_aload zi_219_87 rfl ?_
        obtain ⟨t34, hw⟩ := hw
        obtain ⟨hd, hs, hw⟩ := hw
        refine Gx.call2 (as := [.ref a1]) (rest := []) zq_93 zi_219_88 rfl rfl rfl (Nat.le_of_ble_eq_true rfl) (Nat.le_of_ble_eq_true rfl) (zrv_v t34 rfl rfl) (Nat.le_of_ble_eq_true rfl) ?_
        refine cz_93 hd hs ?_
        show Gx E (d + 1) 219 89 [.ref a0, .ref a1, .ref a2, .int a3] [.int (fz_93 E h a1)] h Q
        refine zg_aload zi_219_89 rfl ?_
        obtain ⟨t35, hw⟩ := hw
        obtain ⟨hd, hs, hw⟩ := hw
        refine Gx.call2 (as := [.ref a2]) (rest := [.int (fz_93 E h a1)]) zq_150 zi_219_90 rfl rfl rfl (Nat.le_of_ble_eq_true rfl) (Nat.le_of_ble_eq_true rfl) (zrv_v t35 rfl rfl) (Nat.le_of_ble_eq_true rfl) ?_
        refine cz_150 hd hs ?_
        show Gx E (d + 1) 219 91 [.ref a0, .ref a1, .ref a2, .int a3] [.int (fz_150 E h a2), .int (fz_93 E h a1)] h Q
        refine zg_icmp_eq zi_219_91 (fun hc => ?_) (fun hc => ?_)
        · have hw := hw.1 hc
          obtain ⟨x36, ex36⟩ : ∃ x : Int32, x = a3 + 8 := ⟨_, rfl⟩
          have hw := hw x36 ex36
          refine zg_iinc (v := x36) (ls1 := [.ref a0, .ref a1, .ref a2, .int x36]) zi_219_952 rfl (by rw [ex36]; rfl) rfl ?_
          refine zg_goto zi_219_953 ?_
          exact ih a0 a1 a2 x36 h hw
        · have hw := hw.2 hc
          refine zg_const (v := 0) zi_219_92 (by rfl) ?_
          exact zg_zreturn zi_219_93 (by decide) hw
      have hw := hw.2
      by_cases hv4 : ((zI h a0 a3.toNatClampNeg) &&& 31 : Int32).toInt = 4
      · have hw := hw.1 hv4
        refine zg_switch (t := 94) zi_219_21 (by rw [hv4]; rfl) ?_
        refine zg_aload zi_219_94 rfl ?_
        refine zg_aload zi_219_95 rfl ?_
        refine zg_iload zi_219_96 rfl ?_
        refine zg_const (v := 1) zi_219_97 (by rfl) ?_
        refine zg_iadd zi_219_98 ?_
        obtain ⟨hb, hw⟩ := hw
        refine zg_iaload (v := .int (zI h a0 (a3 + 1 : Int32).toNatClampNeg)) zi_219_99 t9 hb rfl ?_
        obtain ⟨t37, hw⟩ := hw
        obtain ⟨hd, hs, hw⟩ := hw
        refine Gx.call2 (as := [.ref a1, .int (zI h a0 (a3 + 1 : Int32).toNatClampNeg)]) (rest := []) zq_94 zi_219_100 rfl rfl rfl (Nat.le_of_ble_eq_true rfl) (Nat.le_of_ble_eq_true rfl) (zrv_v t37 rfl rfl) (Nat.le_of_ble_eq_true rfl) ?_
        refine cz_94 hd hs ?_
        show Gx E (d + 1) 219 101 [.ref a0, .ref a1, .ref a2, .int a3] [.int (fz_94 E h a1 (zI h a0 (a3 + 1 : Int32).toNatClampNeg))] h Q
        refine zg_aload zi_219_101 rfl ?_
        refine zg_aload zi_219_102 rfl ?_
        refine zg_iload zi_219_103 rfl ?_
        refine zg_const (v := 1) zi_219_104 (by rfl) ?_
        refine zg_iadd zi_219_105 ?_
        obtain ⟨hb, hw⟩ := hw
        refine zg_iaload (v := .int (zI h a0 (a3 + 1 : Int32).toNatClampNeg)) zi_219_106 t9 hb rfl ?_
        obtain ⟨t38, hw⟩ := hw
        obtain ⟨hd, hs, hw⟩ := hw
        refine Gx.call2 (as := [.ref a2, .int (zI h a0 (a3 + 1 : Int32).toNatClampNeg)]) (rest := [.int (fz_94 E h a1 (zI h a0 (a3 + 1 : Int32).toNatClampNeg))]) zq_151 zi_219_107 rfl rfl rfl (Nat.le_of_ble_eq_true rfl) (Nat.le_of_ble_eq_true rfl) (zrv_v t38 rfl rfl) (Nat.le_of_ble_eq_true rfl) ?_
        refine cz_151 hd hs ?_
        show Gx E (d + 1) 219 108 [.ref a0, .ref a1, .ref a2, .int a3] [.int (fz_151 E h a2 (zI h a0 (a3 + 1 : Int32).toNatClampNeg)), .int (fz_94 E h a1 (zI h a0 (a3 + 1 : Int32).toNatClampNeg))] h Q
        refine zg_icmp_eq zi_219_108 (fun hc => ?_) (fun hc => ?_)
        · have hw := hw.1 hc
          obtain ⟨x39, ex39⟩ : ∃ x : Int32, x = a3 + 8 := ⟨_, rfl⟩
          have hw := hw x39 ex39
          refine zg_iinc (v := x39) (ls1 := [.ref a0, .ref a1, .ref a2, .int x39]) zi_219_952 rfl (by rw [ex39]; rfl) rfl ?_
          refine zg_goto zi_219_953 ?_
          exact ih a0 a1 a2 x39 h hw
        · have hw := hw.2 hc
          refine zg_const (v := 0) zi_219_109 (by rfl) ?_
          exact zg_zreturn zi_219_110 (by decide) hw
      have hw := hw.2
      by_cases hv5 : ((zI h a0 a3.toNatClampNeg) &&& 31 : Int32).toInt = 5
      · have hw := hw.1 hv5
        refine zg_switch (t := 111) zi_219_21 (by rw [hv5]; rfl) ?_
        refine zg_aload zi_219_111 rfl ?_
        refine zg_aload zi_219_112 rfl ?_
        refine zg_iload zi_219_113 rfl ?_
        refine zg_const (v := 1) zi_219_114 (by rfl) ?_
        refine zg_iadd zi_219_115 ?_
        obtain ⟨hb, hw⟩ := hw
        refine zg_iaload (v := .int (zI h a0 (a3 + 1 : Int32).toNatClampNeg)) zi_219_116 t9 hb rfl ?_
        refine zg_aload zi_219_117 rfl ?_
        refine zg_iload zi_219_118 rfl ?_
        refine zg_const (v := 2) zi_219_119 (by rfl) ?_
        refine zg_iadd zi_219_120 ?_
        obtain ⟨hb, hw⟩ := hw
        refine zg_iaload (v := .int (zI h a0 (a3 + 2 : Int32).toNatClampNeg)) zi_219_121 t9 hb rfl ?_
        obtain ⟨t40, hw⟩ := hw
        refine Gx.call2 (as := [.ref a1, .int (zI h a0 (a3 + 1 : Int32).toNatClampNeg), .int (zI h a0 (a3 + 2 : Int32).toNatClampNeg)]) (rest := []) zq_95 zi_219_122 rfl rfl rfl (Nat.le_of_ble_eq_true rfl) (Nat.le_of_ble_eq_true rfl) (zrv_v t40 rfl rfl) (Nat.le_of_ble_eq_true rfl) ?_
        refine Ct.mono hw ?_
        rintro v h41 ⟨x42, rfl, hw⟩
        show Gx E (d + 1) 219 123 [.ref a0, .ref a1, .ref a2, .int a3] [.int x42] h41 Q
        refine zg_aload zi_219_123 rfl ?_
        refine zg_aload zi_219_124 rfl ?_
        refine zg_iload zi_219_125 rfl ?_
        refine zg_const (v := 1) zi_219_126 (by rfl) ?_
        refine zg_iadd zi_219_127 ?_
        obtain ⟨t43, hw⟩ := hw
        obtain ⟨hb, hw⟩ := hw
        refine zg_iaload (v := .int (zI h41 a0 (a3 + 1 : Int32).toNatClampNeg)) zi_219_128 t43 hb rfl ?_
        refine zg_aload zi_219_129 rfl ?_
        refine zg_iload zi_219_130 rfl ?_
        refine zg_const (v := 2) zi_219_131 (by rfl) ?_
        refine zg_iadd zi_219_132 ?_
        obtain ⟨hb, hw⟩ := hw
        refine zg_iaload (v := .int (zI h41 a0 (a3 + 2 : Int32).toNatClampNeg)) zi_219_133 t43 hb rfl ?_
        obtain ⟨t44, hw⟩ := hw
        refine Gx.call2 (as := [.ref a2, .int (zI h41 a0 (a3 + 1 : Int32).toNatClampNeg), .int (zI h41 a0 (a3 + 2 : Int32).toNatClampNeg)]) (rest := [.int x42]) zq_154 zi_219_134 rfl rfl rfl (Nat.le_of_ble_eq_true rfl) (Nat.le_of_ble_eq_true rfl) (zrv_v t44 rfl rfl) (Nat.le_of_ble_eq_true rfl) ?_
        refine Ct.mono hw ?_
        rintro v h45 ⟨x46, rfl, hw⟩
        show Gx E (d + 1) 219 135 [.ref a0, .ref a1, .ref a2, .int a3] [.int x46, .int x42] h45 Q
        refine zg_icmp_eq zi_219_135 (fun hc => ?_) (fun hc => ?_)
        · have hw := hw.1 hc
          obtain ⟨x47, ex47⟩ : ∃ x : Int32, x = a3 + 8 := ⟨_, rfl⟩
          have hw := hw x47 ex47
          refine zg_iinc (v := x47) (ls1 := [.ref a0, .ref a1, .ref a2, .int x47]) zi_219_952 rfl (by rw [ex47]; rfl) rfl ?_
          refine zg_goto zi_219_953 ?_
          exact ih a0 a1 a2 x47 h45 hw
        · have hw := hw.2 hc
          refine zg_const (v := 0) zi_219_136 (by rfl) ?_
          exact zg_zreturn zi_219_137 (by decide) hw
      have hw := hw.2
      by_cases hv6 : ((zI h a0 a3.toNatClampNeg) &&& 31 : Int32).toInt = 6
      · have hw := hw.1 hv6
        refine zg_switch (t := 138) zi_219_21 (by rw [hv6]; rfl) ?_
        refine zg_aload zi_219_138 rfl ?_
        refine zg_aload zi_219_139 rfl ?_
        refine zg_iload zi_219_140 rfl ?_
        refine zg_const (v := 1) zi_219_141 (by rfl) ?_
        refine zg_iadd zi_219_142 ?_
        obtain ⟨hb, hw⟩ := hw
        refine zg_iaload (v := .int (zI h a0 (a3 + 1 : Int32).toNatClampNeg)) zi_219_143 t9 hb rfl ?_
        refine zg_aload zi_219_144 rfl ?_
        refine zg_iload zi_219_145 rfl ?_
        refine zg_const (v := 2) zi_219_146 (by rfl) ?_
        refine zg_iadd zi_219_147 ?_
        obtain ⟨hb, hw⟩ := hw
        refine zg_iaload (v := .int (zI h a0 (a3 + 2 : Int32).toNatClampNeg)) zi_219_148 t9 hb rfl ?_
        obtain ⟨t48, hw⟩ := hw
        refine Gx.call2 (as := [.ref a1, .int (zI h a0 (a3 + 1 : Int32).toNatClampNeg), .int (zI h a0 (a3 + 2 : Int32).toNatClampNeg)]) (rest := []) zq_96 zi_219_149 rfl rfl rfl (Nat.le_of_ble_eq_true rfl) (Nat.le_of_ble_eq_true rfl) (zrv_v t48 rfl rfl) (Nat.le_of_ble_eq_true rfl) ?_
        refine Ct.mono hw ?_
        rintro v h49 ⟨x50, rfl, hw⟩
        show Gx E (d + 1) 219 150 [.ref a0, .ref a1, .ref a2, .int a3] [.int x50] h49 Q
        refine zg_aload zi_219_150 rfl ?_
        refine zg_aload zi_219_151 rfl ?_
        refine zg_iload zi_219_152 rfl ?_
        refine zg_const (v := 1) zi_219_153 (by rfl) ?_
        refine zg_iadd zi_219_154 ?_
        obtain ⟨t51, hw⟩ := hw
        obtain ⟨hb, hw⟩ := hw
        refine zg_iaload (v := .int (zI h49 a0 (a3 + 1 : Int32).toNatClampNeg)) zi_219_155 t51 hb rfl ?_
        refine zg_aload zi_219_156 rfl ?_
        refine zg_iload zi_219_157 rfl ?_
        refine zg_const (v := 2) zi_219_158 (by rfl) ?_
        refine zg_iadd zi_219_159 ?_
        obtain ⟨hb, hw⟩ := hw
        refine zg_iaload (v := .int (zI h49 a0 (a3 + 2 : Int32).toNatClampNeg)) zi_219_160 t51 hb rfl ?_
        obtain ⟨t52, hw⟩ := hw
        refine Gx.call2 (as := [.ref a2, .int (zI h49 a0 (a3 + 1 : Int32).toNatClampNeg), .int (zI h49 a0 (a3 + 2 : Int32).toNatClampNeg)]) (rest := [.int x50]) zq_161 zi_219_161 rfl rfl rfl (Nat.le_of_ble_eq_true rfl) (Nat.le_of_ble_eq_true rfl) (zrv_v t52 rfl rfl) (Nat.le_of_ble_eq_true rfl) ?_
        refine Ct.mono hw ?_
        rintro v h53 ⟨x54, rfl, hw⟩
        show Gx E (d + 1) 219 162 [.ref a0, .ref a1, .ref a2, .int a3] [.int x54, .int x50] h53 Q
        refine zg_icmp_eq zi_219_162 (fun hc => ?_) (fun hc => ?_)
        · have hw := hw.1 hc
          obtain ⟨x55, ex55⟩ : ∃ x : Int32, x = a3 + 8 := ⟨_, rfl⟩
          have hw := hw x55 ex55
          refine zg_iinc (v := x55) (ls1 := [.ref a0, .ref a1, .ref a2, .int x55]) zi_219_952 rfl (by rw [ex55]; rfl) rfl ?_
          refine zg_goto zi_219_953 ?_
          exact ih a0 a1 a2 x55 h53 hw
        · have hw := hw.2 hc
          refine zg_const (v := 0) zi_219_163 (by rfl) ?_
          exact zg_zreturn zi_219_164 (by decide) hw
      have hw := hw.2
      by_cases hv7 : ((zI h a0 a3.toNatClampNeg) &&& 31 : Int32).toInt = 7
      · have hw := hw.1 hv7
        refine zg_switch (t := 165) zi_219_21 (by rw [hv7]; rfl) ?_
        refine zg_aload zi_219_165 rfl ?_
        refine zg_aload zi_219_166 rfl ?_
        refine zg_iload zi_219_167 rfl ?_
        refine zg_const (v := 1) zi_219_168 (by rfl) ?_
        refine zg_iadd zi_219_169 ?_
        obtain ⟨hb, hw⟩ := hw
        refine zg_iaload (v := .int (zI h a0 (a3 + 1 : Int32).toNatClampNeg)) zi_219_170 t9 hb rfl ?_
        refine zg_aload zi_219_171 rfl ?_
        refine zg_iload zi_219_172 rfl ?_
        refine zg_const (v := 2) zi_219_173 (by rfl) ?_
        refine zg_iadd zi_219_174 ?_
        obtain ⟨hb, hw⟩ := hw
        refine zg_iaload (v := .int (zI h a0 (a3 + 2 : Int32).toNatClampNeg)) zi_219_175 t9 hb rfl ?_
        obtain ⟨t56, hw⟩ := hw
        refine Gx.call2 (as := [.ref a1, .int (zI h a0 (a3 + 1 : Int32).toNatClampNeg), .int (zI h a0 (a3 + 2 : Int32).toNatClampNeg)]) (rest := []) zq_97 zi_219_176 rfl rfl rfl (Nat.le_of_ble_eq_true rfl) (Nat.le_of_ble_eq_true rfl) (zrv_v t56 rfl rfl) (Nat.le_of_ble_eq_true rfl) ?_
        refine Ct.mono hw ?_
        rintro v h57 ⟨x58, rfl, hw⟩
        show Gx E (d + 1) 219 177 [.ref a0, .ref a1, .ref a2, .int a3] [.int x58] h57 Q
        refine zg_aload zi_219_177 rfl ?_
        refine zg_aload zi_219_178 rfl ?_
        refine zg_iload zi_219_179 rfl ?_
        refine zg_const (v := 1) zi_219_180 (by rfl) ?_
        refine zg_iadd zi_219_181 ?_
        obtain ⟨t59, hw⟩ := hw
        obtain ⟨hb, hw⟩ := hw
        refine zg_iaload (v := .int (zI h57 a0 (a3 + 1 : Int32).toNatClampNeg)) zi_219_182 t59 hb rfl ?_
        refine zg_aload zi_219_183 rfl ?_
        refine zg_iload zi_219_184 rfl ?_
        refine zg_const (v := 2) zi_219_185 (by rfl) ?_
        refine zg_iadd zi_219_186 ?_
        obtain ⟨hb, hw⟩ := hw
        refine zg_iaload (v := .int (zI h57 a0 (a3 + 2 : Int32).toNatClampNeg)) zi_219_187 t59 hb rfl ?_
        obtain ⟨t60, hw⟩ := hw
        refine Gx.call2 (as := [.ref a2, .int (zI h57 a0 (a3 + 1 : Int32).toNatClampNeg), .int (zI h57 a0 (a3 + 2 : Int32).toNatClampNeg)]) (rest := [.int x58]) zq_162 zi_219_188 rfl rfl rfl (Nat.le_of_ble_eq_true rfl) (Nat.le_of_ble_eq_true rfl) (zrv_v t60 rfl rfl) (Nat.le_of_ble_eq_true rfl) ?_
        refine Ct.mono hw ?_
        rintro v h61 ⟨x62, rfl, hw⟩
        show Gx E (d + 1) 219 189 [.ref a0, .ref a1, .ref a2, .int a3] [.int x62, .int x58] h61 Q
        refine zg_icmp_eq zi_219_189 (fun hc => ?_) (fun hc => ?_)
        · have hw := hw.1 hc
          obtain ⟨x63, ex63⟩ : ∃ x : Int32, x = a3 + 8 := ⟨_, rfl⟩
          have hw := hw x63 ex63
          refine zg_iinc (v := x63) (ls1 := [.ref a0, .ref a1, .ref a2, .int x63]) zi_219_952 rfl (by rw [ex63]; rfl) rfl ?_
          refine zg_goto zi_219_953 ?_
          exact ih a0 a1 a2 x63 h61 hw
        · have hw := hw.2 hc
          refine zg_const (v := 0) zi_219_190 (by rfl) ?_
          exact zg_zreturn zi_219_191 (by decide) hw
      have hw := hw.2
      by_cases hv8 : ((zI h a0 a3.toNatClampNeg) &&& 31 : Int32).toInt = 8
      · have hw := hw.1 hv8
        refine zg_switch (t := 192) zi_219_21 (by rw [hv8]; rfl) ?_
        refine zg_aload zi_219_192 rfl ?_
        refine zg_aload zi_219_193 rfl ?_
        refine zg_iload zi_219_194 rfl ?_
        refine zg_const (v := 1) zi_219_195 (by rfl) ?_
        refine zg_iadd zi_219_196 ?_
        obtain ⟨hb, hw⟩ := hw
        refine zg_iaload (v := .int (zI h a0 (a3 + 1 : Int32).toNatClampNeg)) zi_219_197 t9 hb rfl ?_
        refine zg_aload zi_219_198 rfl ?_
        refine zg_iload zi_219_199 rfl ?_
        refine zg_const (v := 2) zi_219_200 (by rfl) ?_
        refine zg_iadd zi_219_201 ?_
        obtain ⟨hb, hw⟩ := hw
        refine zg_iaload (v := .int (zI h a0 (a3 + 2 : Int32).toNatClampNeg)) zi_219_202 t9 hb rfl ?_
        refine zg_aload zi_219_203 rfl ?_
        refine zg_iload zi_219_204 rfl ?_
        refine zg_const (v := 3) zi_219_205 (by rfl) ?_
        refine zg_iadd zi_219_206 ?_
        obtain ⟨hb, hw⟩ := hw
        refine zg_iaload (v := .int (zI h a0 (a3 + 3 : Int32).toNatClampNeg)) zi_219_207 t9 hb rfl ?_
        refine zg_aload zi_219_208 rfl ?_
        refine zg_iload zi_219_209 rfl ?_
        refine zg_const (v := 4) zi_219_210 (by rfl) ?_
        refine zg_iadd zi_219_211 ?_
        obtain ⟨hb, hw⟩ := hw
        refine zg_iaload (v := .int (zI h a0 (a3 + 4 : Int32).toNatClampNeg)) zi_219_212 t9 hb rfl ?_
        refine zg_aload zi_219_213 rfl ?_
        refine zg_iload zi_219_214 rfl ?_
        refine zg_const (v := 5) zi_219_215 (by rfl) ?_
        refine zg_iadd zi_219_216 ?_
        obtain ⟨hb, hw⟩ := hw
        refine zg_iaload (v := .int (zI h a0 (a3 + 5 : Int32).toNatClampNeg)) zi_219_217 t9 hb rfl ?_
        refine zg_aload zi_219_218 rfl ?_
        refine zg_iload zi_219_219 rfl ?_
        refine zg_const (v := 6) zi_219_220 (by rfl) ?_
        refine zg_iadd zi_219_221 ?_
        obtain ⟨hb, hw⟩ := hw
        refine zg_iaload (v := .int (zI h a0 (a3 + 6 : Int32).toNatClampNeg)) zi_219_222 t9 hb rfl ?_
        refine zg_aload zi_219_223 rfl ?_
        refine zg_iload zi_219_224 rfl ?_
        refine zg_const (v := 7) zi_219_225 (by rfl) ?_
        refine zg_iadd zi_219_226 ?_
        obtain ⟨hb, hw⟩ := hw
        refine zg_iaload (v := .int (zI h a0 (a3 + 7 : Int32).toNatClampNeg)) zi_219_227 t9 hb rfl ?_
        obtain ⟨t64, hw⟩ := hw
        refine Gx.call2 (as := [.ref a1, .int (zI h a0 (a3 + 1 : Int32).toNatClampNeg), .int (zI h a0 (a3 + 2 : Int32).toNatClampNeg), .int (zI h a0 (a3 + 3 : Int32).toNatClampNeg), .int (zI h a0 (a3 + 4 : Int32).toNatClampNeg), .int (zI h a0 (a3 + 5 : Int32).toNatClampNeg), .int (zI h a0 (a3 + 6 : Int32).toNatClampNeg), .int (zI h a0 (a3 + 7 : Int32).toNatClampNeg)]) (rest := []) zq_98 zi_219_228 rfl rfl rfl (Nat.le_of_ble_eq_true rfl) (Nat.le_of_ble_eq_true rfl) (zrv_v t64 rfl rfl) (Nat.le_of_ble_eq_true rfl) ?_
        refine Ct.mono hw ?_
        rintro v h65 ⟨x66, rfl, hw⟩
        show Gx E (d + 1) 219 229 [.ref a0, .ref a1, .ref a2, .int a3] [.int x66] h65 Q
        refine zg_aload zi_219_229 rfl ?_
        refine zg_aload zi_219_230 rfl ?_
        refine zg_iload zi_219_231 rfl ?_
        refine zg_const (v := 1) zi_219_232 (by rfl) ?_
        refine zg_iadd zi_219_233 ?_
        obtain ⟨t67, hw⟩ := hw
        obtain ⟨hb, hw⟩ := hw
        refine zg_iaload (v := .int (zI h65 a0 (a3 + 1 : Int32).toNatClampNeg)) zi_219_234 t67 hb rfl ?_
        refine zg_aload zi_219_235 rfl ?_
        refine zg_iload zi_219_236 rfl ?_
        refine zg_const (v := 2) zi_219_237 (by rfl) ?_
        refine zg_iadd zi_219_238 ?_
        obtain ⟨hb, hw⟩ := hw
        refine zg_iaload (v := .int (zI h65 a0 (a3 + 2 : Int32).toNatClampNeg)) zi_219_239 t67 hb rfl ?_
        refine zg_aload zi_219_240 rfl ?_
        refine zg_iload zi_219_241 rfl ?_
        refine zg_const (v := 3) zi_219_242 (by rfl) ?_
        refine zg_iadd zi_219_243 ?_
        obtain ⟨hb, hw⟩ := hw
        refine zg_iaload (v := .int (zI h65 a0 (a3 + 3 : Int32).toNatClampNeg)) zi_219_244 t67 hb rfl ?_
        refine zg_aload zi_219_245 rfl ?_
        refine zg_iload zi_219_246 rfl ?_
        refine zg_const (v := 4) zi_219_247 (by rfl) ?_
        refine zg_iadd zi_219_248 ?_
        obtain ⟨hb, hw⟩ := hw
        refine zg_iaload (v := .int (zI h65 a0 (a3 + 4 : Int32).toNatClampNeg)) zi_219_249 t67 hb rfl ?_
        refine zg_aload zi_219_250 rfl ?_
        refine zg_iload zi_219_251 rfl ?_
        refine zg_const (v := 5) zi_219_252 (by rfl) ?_
        refine zg_iadd zi_219_253 ?_
        obtain ⟨hb, hw⟩ := hw
        refine zg_iaload (v := .int (zI h65 a0 (a3 + 5 : Int32).toNatClampNeg)) zi_219_254 t67 hb rfl ?_
        refine zg_aload zi_219_255 rfl ?_
        refine zg_iload zi_219_256 rfl ?_
        refine zg_const (v := 6) zi_219_257 (by rfl) ?_
        refine zg_iadd zi_219_258 ?_
        obtain ⟨hb, hw⟩ := hw
        refine zg_iaload (v := .int (zI h65 a0 (a3 + 6 : Int32).toNatClampNeg)) zi_219_259 t67 hb rfl ?_
        refine zg_aload zi_219_260 rfl ?_
        refine zg_iload zi_219_261 rfl ?_
        refine zg_const (v := 7) zi_219_262 (by rfl) ?_
        refine zg_iadd zi_219_263 ?_
        obtain ⟨hb, hw⟩ := hw
        refine zg_iaload (v := .int (zI h65 a0 (a3 + 7 : Int32).toNatClampNeg)) zi_219_264 t67 hb rfl ?_
        obtain ⟨t68, hw⟩ := hw
        refine Gx.call2 (as := [.ref a2, .int (zI h65 a0 (a3 + 1 : Int32).toNatClampNeg), .int (zI h65 a0 (a3 + 2 : Int32).toNatClampNeg), .int (zI h65 a0 (a3 + 3 : Int32).toNatClampNeg), .int (zI h65 a0 (a3 + 4 : Int32).toNatClampNeg), .int (zI h65 a0 (a3 + 5 : Int32).toNatClampNeg), .int (zI h65 a0 (a3 + 6 : Int32).toNatClampNeg), .int (zI h65 a0 (a3 + 7 : Int32).toNatClampNeg)]) (rest := [.int x66]) zq_170 zi_219_265 rfl rfl rfl (Nat.le_of_ble_eq_true rfl) (Nat.le_of_ble_eq_true rfl) (zrv_v t68 rfl rfl) (Nat.le_of_ble_eq_true rfl) ?_
        refine Ct.mono hw ?_
        rintro v h69 ⟨x70, rfl, hw⟩
        show Gx E (d + 1) 219 266 [.ref a0, .ref a1, .ref a2, .int a3] [.int x70, .int x66] h69 Q
        refine zg_icmp_eq zi_219_266 (fun hc => ?_) (fun hc => ?_)
        · have hw := hw.1 hc
          obtain ⟨x71, ex71⟩ : ∃ x : Int32, x = a3 + 8 := ⟨_, rfl⟩
          have hw := hw x71 ex71
          refine zg_iinc (v := x71) (ls1 := [.ref a0, .ref a1, .ref a2, .int x71]) zi_219_952 rfl (by rw [ex71]; rfl) rfl ?_
          refine zg_goto zi_219_953 ?_
          exact ih a0 a1 a2 x71 h69 hw
        · have hw := hw.2 hc
          refine zg_const (v := 0) zi_219_267 (by rfl) ?_
          exact zg_zreturn zi_219_268 (by decide) hw
      have hw := hw.2
      by_cases hv9 : ((zI h a0 a3.toNatClampNeg) &&& 31 : Int32).toInt = 9
      · have hw := hw.1 hv9
        refine zg_switch (t := 269) zi_219_21 (by rw [hv9]; rfl) ?_
        refine zg_aload zi_219_269 rfl ?_
        refine zg_aload zi_219_270 rfl ?_
        refine zg_iload zi_219_271 rfl ?_
        refine zg_const (v := 1) zi_219_272 (by rfl) ?_
        refine zg_iadd zi_219_273 ?_
        obtain ⟨hb, hw⟩ := hw
        refine zg_iaload (v := .int (zI h a0 (a3 + 1 : Int32).toNatClampNeg)) zi_219_274 t9 hb rfl ?_
        refine zg_aload zi_219_275 rfl ?_
        refine zg_iload zi_219_276 rfl ?_
        refine zg_const (v := 2) zi_219_277 (by rfl) ?_
        refine zg_iadd zi_219_278 ?_
        obtain ⟨hb, hw⟩ := hw
        refine zg_iaload (v := .int (zI h a0 (a3 + 2 : Int32).toNatClampNeg)) zi_219_279 t9 hb rfl ?_
        refine zg_aload zi_219_280 rfl ?_
        refine zg_iload zi_219_281 rfl ?_
        refine zg_const (v := 3) zi_219_282 (by rfl) ?_
        refine zg_iadd zi_219_283 ?_
        obtain ⟨hb, hw⟩ := hw
        refine zg_iaload (v := .int (zI h a0 (a3 + 3 : Int32).toNatClampNeg)) zi_219_284 t9 hb rfl ?_
        refine zg_aload zi_219_285 rfl ?_
        refine zg_iload zi_219_286 rfl ?_
        refine zg_const (v := 4) zi_219_287 (by rfl) ?_
        refine zg_iadd zi_219_288 ?_
        obtain ⟨hb, hw⟩ := hw
        refine zg_iaload (v := .int (zI h a0 (a3 + 4 : Int32).toNatClampNeg)) zi_219_289 t9 hb rfl ?_
        obtain ⟨t72, hw⟩ := hw
        refine Gx.call2 (as := [.ref a1, .int (zI h a0 (a3 + 1 : Int32).toNatClampNeg), .int (zI h a0 (a3 + 2 : Int32).toNatClampNeg), .int (zI h a0 (a3 + 3 : Int32).toNatClampNeg), .int (zI h a0 (a3 + 4 : Int32).toNatClampNeg)]) (rest := []) zq_99 zi_219_290 rfl rfl rfl (Nat.le_of_ble_eq_true rfl) (Nat.le_of_ble_eq_true rfl) (zrv_v t72 rfl rfl) (Nat.le_of_ble_eq_true rfl) ?_
        refine Ct.mono hw ?_
        rintro v h73 ⟨x74, rfl, hw⟩
        show Gx E (d + 1) 219 291 [.ref a0, .ref a1, .ref a2, .int a3] [.int x74] h73 Q
        refine zg_aload zi_219_291 rfl ?_
        refine zg_aload zi_219_292 rfl ?_
        refine zg_iload zi_219_293 rfl ?_
        refine zg_const (v := 1) zi_219_294 (by rfl) ?_
        refine zg_iadd zi_219_295 ?_
        obtain ⟨t75, hw⟩ := hw
        obtain ⟨hb, hw⟩ := hw
        refine zg_iaload (v := .int (zI h73 a0 (a3 + 1 : Int32).toNatClampNeg)) zi_219_296 t75 hb rfl ?_
        refine zg_aload zi_219_297 rfl ?_
        refine zg_iload zi_219_298 rfl ?_
        refine zg_const (v := 2) zi_219_299 (by rfl) ?_
        refine zg_iadd zi_219_300 ?_
        obtain ⟨hb, hw⟩ := hw
        refine zg_iaload (v := .int (zI h73 a0 (a3 + 2 : Int32).toNatClampNeg)) zi_219_301 t75 hb rfl ?_
        refine zg_aload zi_219_302 rfl ?_
        refine zg_iload zi_219_303 rfl ?_
        refine zg_const (v := 3) zi_219_304 (by rfl) ?_
        refine zg_iadd zi_219_305 ?_
        obtain ⟨hb, hw⟩ := hw
        refine zg_iaload (v := .int (zI h73 a0 (a3 + 3 : Int32).toNatClampNeg)) zi_219_306 t75 hb rfl ?_
        refine zg_aload zi_219_307 rfl ?_
        refine zg_iload zi_219_308 rfl ?_
        refine zg_const (v := 4) zi_219_309 (by rfl) ?_
        refine zg_iadd zi_219_310 ?_
        obtain ⟨hb, hw⟩ := hw
        refine zg_iaload (v := .int (zI h73 a0 (a3 + 4 : Int32).toNatClampNeg)) zi_219_311 t75 hb rfl ?_
        obtain ⟨t76, hw⟩ := hw
        refine Gx.call2 (as := [.ref a2, .int (zI h73 a0 (a3 + 1 : Int32).toNatClampNeg), .int (zI h73 a0 (a3 + 2 : Int32).toNatClampNeg), .int (zI h73 a0 (a3 + 3 : Int32).toNatClampNeg), .int (zI h73 a0 (a3 + 4 : Int32).toNatClampNeg)]) (rest := [.int x74]) zq_174 zi_219_312 rfl rfl rfl (Nat.le_of_ble_eq_true rfl) (Nat.le_of_ble_eq_true rfl) (zrv_v t76 rfl rfl) (Nat.le_of_ble_eq_true rfl) ?_
        refine Ct.mono hw ?_
        rintro v h77 ⟨x78, rfl, hw⟩
        show Gx E (d + 1) 219 313 [.ref a0, .ref a1, .ref a2, .int a3] [.int x78, .int x74] h77 Q
        refine zg_icmp_eq zi_219_313 (fun hc => ?_) (fun hc => ?_)
        · have hw := hw.1 hc
          obtain ⟨x79, ex79⟩ : ∃ x : Int32, x = a3 + 8 := ⟨_, rfl⟩
          have hw := hw x79 ex79
          refine zg_iinc (v := x79) (ls1 := [.ref a0, .ref a1, .ref a2, .int x79]) zi_219_952 rfl (by rw [ex79]; rfl) rfl ?_
          refine zg_goto zi_219_953 ?_
          exact ih a0 a1 a2 x79 h77 hw
        · have hw := hw.2 hc
          refine zg_const (v := 0) zi_219_314 (by rfl) ?_
          exact zg_zreturn zi_219_315 (by decide) hw
      have hw := hw.2
      by_cases hv10 : ((zI h a0 a3.toNatClampNeg) &&& 31 : Int32).toInt = 10
      · have hw := hw.1 hv10
        refine zg_switch (t := 316) zi_219_21 (by rw [hv10]; rfl) ?_
        refine zg_aload zi_219_316 rfl ?_
        refine zg_aload zi_219_317 rfl ?_
        refine zg_iload zi_219_318 rfl ?_
        refine zg_const (v := 1) zi_219_319 (by rfl) ?_
        refine zg_iadd zi_219_320 ?_
        obtain ⟨hb, hw⟩ := hw
        refine zg_iaload (v := .int (zI h a0 (a3 + 1 : Int32).toNatClampNeg)) zi_219_321 t9 hb rfl ?_
        refine zg_aload zi_219_322 rfl ?_
        refine zg_iload zi_219_323 rfl ?_
        refine zg_const (v := 2) zi_219_324 (by rfl) ?_
        refine zg_iadd zi_219_325 ?_
        obtain ⟨hb, hw⟩ := hw
        refine zg_iaload (v := .int (zI h a0 (a3 + 2 : Int32).toNatClampNeg)) zi_219_326 t9 hb rfl ?_
        refine zg_aload zi_219_327 rfl ?_
        refine zg_iload zi_219_328 rfl ?_
        refine zg_const (v := 3) zi_219_329 (by rfl) ?_
        refine zg_iadd zi_219_330 ?_
        obtain ⟨hb, hw⟩ := hw
        refine zg_iaload (v := .int (zI h a0 (a3 + 3 : Int32).toNatClampNeg)) zi_219_331 t9 hb rfl ?_
        refine zg_aload zi_219_332 rfl ?_
        refine zg_iload zi_219_333 rfl ?_
        refine zg_const (v := 4) zi_219_334 (by rfl) ?_
        refine zg_iadd zi_219_335 ?_
        obtain ⟨hb, hw⟩ := hw
        refine zg_iaload (v := .int (zI h a0 (a3 + 4 : Int32).toNatClampNeg)) zi_219_336 t9 hb rfl ?_
        refine zg_aload zi_219_337 rfl ?_
        refine zg_iload zi_219_338 rfl ?_
        refine zg_const (v := 5) zi_219_339 (by rfl) ?_
        refine zg_iadd zi_219_340 ?_
        obtain ⟨hb, hw⟩ := hw
        refine zg_iaload (v := .int (zI h a0 (a3 + 5 : Int32).toNatClampNeg)) zi_219_341 t9 hb rfl ?_
        obtain ⟨t80, hw⟩ := hw
        refine Gx.call2 (as := [.ref a1, .int (zI h a0 (a3 + 1 : Int32).toNatClampNeg), .int (zI h a0 (a3 + 2 : Int32).toNatClampNeg), .int (zI h a0 (a3 + 3 : Int32).toNatClampNeg), .int (zI h a0 (a3 + 4 : Int32).toNatClampNeg), .int (zI h a0 (a3 + 5 : Int32).toNatClampNeg)]) (rest := []) zq_100 zi_219_342 rfl rfl rfl (Nat.le_of_ble_eq_true rfl) (Nat.le_of_ble_eq_true rfl) (zrv_v t80 rfl rfl) (Nat.le_of_ble_eq_true rfl) ?_
        refine Ct.mono hw ?_
        rintro v h81 ⟨x82, rfl, hw⟩
        show Gx E (d + 1) 219 343 [.ref a0, .ref a1, .ref a2, .int a3] [.int x82] h81 Q
        refine zg_aload zi_219_343 rfl ?_
        refine zg_aload zi_219_344 rfl ?_
        refine zg_iload zi_219_345 rfl ?_
        refine zg_const (v := 1) zi_219_346 (by rfl) ?_
        refine zg_iadd zi_219_347 ?_
        obtain ⟨t83, hw⟩ := hw
        obtain ⟨hb, hw⟩ := hw
        refine zg_iaload (v := .int (zI h81 a0 (a3 + 1 : Int32).toNatClampNeg)) zi_219_348 t83 hb rfl ?_
        refine zg_aload zi_219_349 rfl ?_
        refine zg_iload zi_219_350 rfl ?_
        refine zg_const (v := 2) zi_219_351 (by rfl) ?_
        refine zg_iadd zi_219_352 ?_
        obtain ⟨hb, hw⟩ := hw
        refine zg_iaload (v := .int (zI h81 a0 (a3 + 2 : Int32).toNatClampNeg)) zi_219_353 t83 hb rfl ?_
        refine zg_aload zi_219_354 rfl ?_
        refine zg_iload zi_219_355 rfl ?_
        refine zg_const (v := 3) zi_219_356 (by rfl) ?_
        refine zg_iadd zi_219_357 ?_
        obtain ⟨hb, hw⟩ := hw
        refine zg_iaload (v := .int (zI h81 a0 (a3 + 3 : Int32).toNatClampNeg)) zi_219_358 t83 hb rfl ?_
        refine zg_aload zi_219_359 rfl ?_
        refine zg_iload zi_219_360 rfl ?_
        refine zg_const (v := 4) zi_219_361 (by rfl) ?_
        refine zg_iadd zi_219_362 ?_
        obtain ⟨hb, hw⟩ := hw
        refine zg_iaload (v := .int (zI h81 a0 (a3 + 4 : Int32).toNatClampNeg)) zi_219_363 t83 hb rfl ?_
        refine zg_aload zi_219_364 rfl ?_
        refine zg_iload zi_219_365 rfl ?_
        refine zg_const (v := 5) zi_219_366 (by rfl) ?_
        refine zg_iadd zi_219_367 ?_
        obtain ⟨hb, hw⟩ := hw
        refine zg_iaload (v := .int (zI h81 a0 (a3 + 5 : Int32).toNatClampNeg)) zi_219_368 t83 hb rfl ?_
        obtain ⟨t84, hw⟩ := hw
        refine Gx.call2 (as := [.ref a2, .int (zI h81 a0 (a3 + 1 : Int32).toNatClampNeg), .int (zI h81 a0 (a3 + 2 : Int32).toNatClampNeg), .int (zI h81 a0 (a3 + 3 : Int32).toNatClampNeg), .int (zI h81 a0 (a3 + 4 : Int32).toNatClampNeg), .int (zI h81 a0 (a3 + 5 : Int32).toNatClampNeg)]) (rest := [.int x82]) zq_183 zi_219_369 rfl rfl rfl (Nat.le_of_ble_eq_true rfl) (Nat.le_of_ble_eq_true rfl) (zrv_v t84 rfl rfl) (Nat.le_of_ble_eq_true rfl) ?_
        refine Ct.mono hw ?_
        rintro v h85 ⟨x86, rfl, hw⟩
        show Gx E (d + 1) 219 370 [.ref a0, .ref a1, .ref a2, .int a3] [.int x86, .int x82] h85 Q
        refine zg_icmp_eq zi_219_370 (fun hc => ?_) (fun hc => ?_)
        · have hw := hw.1 hc
          obtain ⟨x87, ex87⟩ : ∃ x : Int32, x = a3 + 8 := ⟨_, rfl⟩
          have hw := hw x87 ex87
          refine zg_iinc (v := x87) (ls1 := [.ref a0, .ref a1, .ref a2, .int x87]) zi_219_952 rfl (by rw [ex87]; rfl) rfl ?_
          refine zg_goto zi_219_953 ?_
          exact ih a0 a1 a2 x87 h85 hw
        · have hw := hw.2 hc
          refine zg_const (v := 0) zi_219_371 (by rfl) ?_
          exact zg_zreturn zi_219_372 (by decide) hw
      have hw := hw.2
      by_cases hv11 : ((zI h a0 a3.toNatClampNeg) &&& 31 : Int32).toInt = 11
      · have hw := hw.1 hv11
        refine zg_switch (t := 373) zi_219_21 (by rw [hv11]; rfl) ?_
        refine zg_aload zi_219_373 rfl ?_
        refine zg_aload zi_219_374 rfl ?_
        refine zg_iload zi_219_375 rfl ?_
        refine zg_const (v := 1) zi_219_376 (by rfl) ?_
        refine zg_iadd zi_219_377 ?_
        obtain ⟨hb, hw⟩ := hw
        refine zg_iaload (v := .int (zI h a0 (a3 + 1 : Int32).toNatClampNeg)) zi_219_378 t9 hb rfl ?_
        refine zg_aload zi_219_379 rfl ?_
        refine zg_iload zi_219_380 rfl ?_
        refine zg_const (v := 2) zi_219_381 (by rfl) ?_
        refine zg_iadd zi_219_382 ?_
        obtain ⟨hb, hw⟩ := hw
        refine zg_iaload (v := .int (zI h a0 (a3 + 2 : Int32).toNatClampNeg)) zi_219_383 t9 hb rfl ?_
        refine zg_aload zi_219_384 rfl ?_
        refine zg_iload zi_219_385 rfl ?_
        refine zg_const (v := 3) zi_219_386 (by rfl) ?_
        refine zg_iadd zi_219_387 ?_
        obtain ⟨hb, hw⟩ := hw
        refine zg_iaload (v := .int (zI h a0 (a3 + 3 : Int32).toNatClampNeg)) zi_219_388 t9 hb rfl ?_
        refine zg_aload zi_219_389 rfl ?_
        refine zg_iload zi_219_390 rfl ?_
        refine zg_const (v := 4) zi_219_391 (by rfl) ?_
        refine zg_iadd zi_219_392 ?_
        obtain ⟨hb, hw⟩ := hw
        refine zg_iaload (v := .int (zI h a0 (a3 + 4 : Int32).toNatClampNeg)) zi_219_393 t9 hb rfl ?_
        refine zg_aload zi_219_394 rfl ?_
        refine zg_iload zi_219_395 rfl ?_
        refine zg_const (v := 5) zi_219_396 (by rfl) ?_
        refine zg_iadd zi_219_397 ?_
        obtain ⟨hb, hw⟩ := hw
        refine zg_iaload (v := .int (zI h a0 (a3 + 5 : Int32).toNatClampNeg)) zi_219_398 t9 hb rfl ?_
        refine zg_aload zi_219_399 rfl ?_
        refine zg_iload zi_219_400 rfl ?_
        refine zg_const (v := 6) zi_219_401 (by rfl) ?_
        refine zg_iadd zi_219_402 ?_
        obtain ⟨hb, hw⟩ := hw
        refine zg_iaload (v := .int (zI h a0 (a3 + 6 : Int32).toNatClampNeg)) zi_219_403 t9 hb rfl ?_
        obtain ⟨t88, hw⟩ := hw
        refine Gx.call2 (as := [.ref a1, .int (zI h a0 (a3 + 1 : Int32).toNatClampNeg), .int (zI h a0 (a3 + 2 : Int32).toNatClampNeg), .int (zI h a0 (a3 + 3 : Int32).toNatClampNeg), .int (zI h a0 (a3 + 4 : Int32).toNatClampNeg), .int (zI h a0 (a3 + 5 : Int32).toNatClampNeg), .int (zI h a0 (a3 + 6 : Int32).toNatClampNeg)]) (rest := []) zq_101 zi_219_404 rfl rfl rfl (Nat.le_of_ble_eq_true rfl) (Nat.le_of_ble_eq_true rfl) (zrv_v t88 rfl rfl) (Nat.le_of_ble_eq_true rfl) ?_
        refine Ct.mono hw ?_
        rintro v h89 ⟨x90, rfl, hw⟩
        show Gx E (d + 1) 219 405 [.ref a0, .ref a1, .ref a2, .int a3] [.long x90] h89 Q
        refine zg_aload zi_219_405 rfl ?_
        refine zg_aload zi_219_406 rfl ?_
        refine zg_iload zi_219_407 rfl ?_
        refine zg_const (v := 1) zi_219_408 (by rfl) ?_
        refine zg_iadd zi_219_409 ?_
        obtain ⟨t91, hw⟩ := hw
        obtain ⟨hb, hw⟩ := hw
        refine zg_iaload (v := .int (zI h89 a0 (a3 + 1 : Int32).toNatClampNeg)) zi_219_410 t91 hb rfl ?_
        refine zg_aload zi_219_411 rfl ?_
        refine zg_iload zi_219_412 rfl ?_
        refine zg_const (v := 2) zi_219_413 (by rfl) ?_
        refine zg_iadd zi_219_414 ?_
        obtain ⟨hb, hw⟩ := hw
        refine zg_iaload (v := .int (zI h89 a0 (a3 + 2 : Int32).toNatClampNeg)) zi_219_415 t91 hb rfl ?_
        refine zg_aload zi_219_416 rfl ?_
        refine zg_iload zi_219_417 rfl ?_
        refine zg_const (v := 3) zi_219_418 (by rfl) ?_
        refine zg_iadd zi_219_419 ?_
        obtain ⟨hb, hw⟩ := hw
        refine zg_iaload (v := .int (zI h89 a0 (a3 + 3 : Int32).toNatClampNeg)) zi_219_420 t91 hb rfl ?_
        refine zg_aload zi_219_421 rfl ?_
        refine zg_iload zi_219_422 rfl ?_
        refine zg_const (v := 4) zi_219_423 (by rfl) ?_
        refine zg_iadd zi_219_424 ?_
        obtain ⟨hb, hw⟩ := hw
        refine zg_iaload (v := .int (zI h89 a0 (a3 + 4 : Int32).toNatClampNeg)) zi_219_425 t91 hb rfl ?_
        refine zg_aload zi_219_426 rfl ?_
        refine zg_iload zi_219_427 rfl ?_
        refine zg_const (v := 5) zi_219_428 (by rfl) ?_
        refine zg_iadd zi_219_429 ?_
        obtain ⟨hb, hw⟩ := hw
        refine zg_iaload (v := .int (zI h89 a0 (a3 + 5 : Int32).toNatClampNeg)) zi_219_430 t91 hb rfl ?_
        refine zg_aload zi_219_431 rfl ?_
        refine zg_iload zi_219_432 rfl ?_
        refine zg_const (v := 6) zi_219_433 (by rfl) ?_
        refine zg_iadd zi_219_434 ?_
        obtain ⟨hb, hw⟩ := hw
        refine zg_iaload (v := .int (zI h89 a0 (a3 + 6 : Int32).toNatClampNeg)) zi_219_435 t91 hb rfl ?_
        obtain ⟨t92, hw⟩ := hw
        refine Gx.call2 (as := [.ref a2, .int (zI h89 a0 (a3 + 1 : Int32).toNatClampNeg), .int (zI h89 a0 (a3 + 2 : Int32).toNatClampNeg), .int (zI h89 a0 (a3 + 3 : Int32).toNatClampNeg), .int (zI h89 a0 (a3 + 4 : Int32).toNatClampNeg), .int (zI h89 a0 (a3 + 5 : Int32).toNatClampNeg), .int (zI h89 a0 (a3 + 6 : Int32).toNatClampNeg)]) (rest := [.long x90]) zq_185 zi_219_436 rfl rfl rfl (Nat.le_of_ble_eq_true rfl) (Nat.le_of_ble_eq_true rfl) (zrv_v t92 rfl rfl) (Nat.le_of_ble_eq_true rfl) ?_
        refine Ct.mono hw ?_
        rintro v h93 ⟨x94, rfl, hw⟩
        show Gx E (d + 1) 219 437 [.ref a0, .ref a1, .ref a2, .int a3] [.long x94, .long x90] h93 Q
        refine zg_lcmp_eq zi_219_437 zi_219_438 (fun hc => ?_) (fun hc => ?_)
        · have hw := hw.1 hc
          obtain ⟨x95, ex95⟩ : ∃ x : Int32, x = a3 + 8 := ⟨_, rfl⟩
          have hw := hw x95 ex95
          refine zg_iinc (v := x95) (ls1 := [.ref a0, .ref a1, .ref a2, .int x95]) zi_219_952 rfl (by rw [ex95]; rfl) rfl ?_
          refine zg_goto zi_219_953 ?_
          exact ih a0 a1 a2 x95 h93 hw
        · have hw := hw.2 hc
          refine zg_const (v := 0) zi_219_439 (by rfl) ?_
          exact zg_zreturn zi_219_440 (by decide) hw
      have hw := hw.2
      by_cases hv12 : ((zI h a0 a3.toNatClampNeg) &&& 31 : Int32).toInt = 12
      · have hw := hw.1 hv12
        refine zg_switch (t := 441) zi_219_21 (by rw [hv12]; rfl) ?_
        refine zg_aload zi_219_441 rfl ?_
        refine zg_aload zi_219_442 rfl ?_
        refine zg_iload zi_219_443 rfl ?_
        refine zg_const (v := 1) zi_219_444 (by rfl) ?_
        refine zg_iadd zi_219_445 ?_
        obtain ⟨hb, hw⟩ := hw
        refine zg_iaload (v := .int (zI h a0 (a3 + 1 : Int32).toNatClampNeg)) zi_219_446 t9 hb rfl ?_
        refine zg_aload zi_219_447 rfl ?_
        refine zg_iload zi_219_448 rfl ?_
        refine zg_const (v := 2) zi_219_449 (by rfl) ?_
        refine zg_iadd zi_219_450 ?_
        obtain ⟨hb, hw⟩ := hw
        refine zg_iaload (v := .int (zI h a0 (a3 + 2 : Int32).toNatClampNeg)) zi_219_451 t9 hb rfl ?_
        refine zg_aload zi_219_452 rfl ?_
        refine zg_iload zi_219_453 rfl ?_
        refine zg_const (v := 3) zi_219_454 (by rfl) ?_
        refine zg_iadd zi_219_455 ?_
        obtain ⟨hb, hw⟩ := hw
        refine zg_iaload (v := .int (zI h a0 (a3 + 3 : Int32).toNatClampNeg)) zi_219_456 t9 hb rfl ?_
        refine zg_aload zi_219_457 rfl ?_
        refine zg_iload zi_219_458 rfl ?_
        refine zg_const (v := 4) zi_219_459 (by rfl) ?_
        refine zg_iadd zi_219_460 ?_
        obtain ⟨hb, hw⟩ := hw
        refine zg_iaload (v := .int (zI h a0 (a3 + 4 : Int32).toNatClampNeg)) zi_219_461 t9 hb rfl ?_
        refine zg_aload zi_219_462 rfl ?_
        refine zg_iload zi_219_463 rfl ?_
        refine zg_const (v := 5) zi_219_464 (by rfl) ?_
        refine zg_iadd zi_219_465 ?_
        obtain ⟨hb, hw⟩ := hw
        refine zg_iaload (v := .int (zI h a0 (a3 + 5 : Int32).toNatClampNeg)) zi_219_466 t9 hb rfl ?_
        refine zg_aload zi_219_467 rfl ?_
        refine zg_iload zi_219_468 rfl ?_
        refine zg_const (v := 6) zi_219_469 (by rfl) ?_
        refine zg_iadd zi_219_470 ?_
        obtain ⟨hb, hw⟩ := hw
        refine zg_iaload (v := .int (zI h a0 (a3 + 6 : Int32).toNatClampNeg)) zi_219_471 t9 hb rfl ?_
        refine zg_aload zi_219_472 rfl ?_
        refine zg_iload zi_219_473 rfl ?_
        refine zg_const (v := 7) zi_219_474 (by rfl) ?_
        refine zg_iadd zi_219_475 ?_
        obtain ⟨hb, hw⟩ := hw
        refine zg_iaload (v := .int (zI h a0 (a3 + 7 : Int32).toNatClampNeg)) zi_219_476 t9 hb rfl ?_
        obtain ⟨t96, hw⟩ := hw
        refine Gx.call2 (as := [.ref a1, .int (zI h a0 (a3 + 1 : Int32).toNatClampNeg), .int (zI h a0 (a3 + 2 : Int32).toNatClampNeg), .int (zI h a0 (a3 + 3 : Int32).toNatClampNeg), .int (zI h a0 (a3 + 4 : Int32).toNatClampNeg), .int (zI h a0 (a3 + 5 : Int32).toNatClampNeg), .int (zI h a0 (a3 + 6 : Int32).toNatClampNeg), .int (zI h a0 (a3 + 7 : Int32).toNatClampNeg)]) (rest := []) zq_102 zi_219_477 rfl rfl rfl (Nat.le_of_ble_eq_true rfl) (Nat.le_of_ble_eq_true rfl) (zrv_v t96 rfl rfl) (Nat.le_of_ble_eq_true rfl) ?_
        refine Ct.mono hw ?_
        rintro v h97 ⟨x98, rfl, hw⟩
        show Gx E (d + 1) 219 478 [.ref a0, .ref a1, .ref a2, .int a3] [.long x98] h97 Q
        refine zg_aload zi_219_478 rfl ?_
        refine zg_aload zi_219_479 rfl ?_
        refine zg_iload zi_219_480 rfl ?_
        refine zg_const (v := 1) zi_219_481 (by rfl) ?_
        refine zg_iadd zi_219_482 ?_
        obtain ⟨t99, hw⟩ := hw
        obtain ⟨hb, hw⟩ := hw
        refine zg_iaload (v := .int (zI h97 a0 (a3 + 1 : Int32).toNatClampNeg)) zi_219_483 t99 hb rfl ?_
        refine zg_aload zi_219_484 rfl ?_
        refine zg_iload zi_219_485 rfl ?_
        refine zg_const (v := 2) zi_219_486 (by rfl) ?_
        refine zg_iadd zi_219_487 ?_
        obtain ⟨hb, hw⟩ := hw
        refine zg_iaload (v := .int (zI h97 a0 (a3 + 2 : Int32).toNatClampNeg)) zi_219_488 t99 hb rfl ?_
        refine zg_aload zi_219_489 rfl ?_
        refine zg_iload zi_219_490 rfl ?_
        refine zg_const (v := 3) zi_219_491 (by rfl) ?_
        refine zg_iadd zi_219_492 ?_
        obtain ⟨hb, hw⟩ := hw
        refine zg_iaload (v := .int (zI h97 a0 (a3 + 3 : Int32).toNatClampNeg)) zi_219_493 t99 hb rfl ?_
        refine zg_aload zi_219_494 rfl ?_
        refine zg_iload zi_219_495 rfl ?_
        refine zg_const (v := 4) zi_219_496 (by rfl) ?_
        refine zg_iadd zi_219_497 ?_
        obtain ⟨hb, hw⟩ := hw
        refine zg_iaload (v := .int (zI h97 a0 (a3 + 4 : Int32).toNatClampNeg)) zi_219_498 t99 hb rfl ?_
        refine zg_aload zi_219_499 rfl ?_
        refine zg_iload zi_219_500 rfl ?_
        refine zg_const (v := 5) zi_219_501 (by rfl) ?_
        refine zg_iadd zi_219_502 ?_
        obtain ⟨hb, hw⟩ := hw
        refine zg_iaload (v := .int (zI h97 a0 (a3 + 5 : Int32).toNatClampNeg)) zi_219_503 t99 hb rfl ?_
        refine zg_aload zi_219_504 rfl ?_
        refine zg_iload zi_219_505 rfl ?_
        refine zg_const (v := 6) zi_219_506 (by rfl) ?_
        refine zg_iadd zi_219_507 ?_
        obtain ⟨hb, hw⟩ := hw
        refine zg_iaload (v := .int (zI h97 a0 (a3 + 6 : Int32).toNatClampNeg)) zi_219_508 t99 hb rfl ?_
        refine zg_aload zi_219_509 rfl ?_
        refine zg_iload zi_219_510 rfl ?_
        refine zg_const (v := 7) zi_219_511 (by rfl) ?_
        refine zg_iadd zi_219_512 ?_
        obtain ⟨hb, hw⟩ := hw
        refine zg_iaload (v := .int (zI h97 a0 (a3 + 7 : Int32).toNatClampNeg)) zi_219_513 t99 hb rfl ?_
        obtain ⟨t100, hw⟩ := hw
        refine Gx.call2 (as := [.ref a2, .int (zI h97 a0 (a3 + 1 : Int32).toNatClampNeg), .int (zI h97 a0 (a3 + 2 : Int32).toNatClampNeg), .int (zI h97 a0 (a3 + 3 : Int32).toNatClampNeg), .int (zI h97 a0 (a3 + 4 : Int32).toNatClampNeg), .int (zI h97 a0 (a3 + 5 : Int32).toNatClampNeg), .int (zI h97 a0 (a3 + 6 : Int32).toNatClampNeg), .int (zI h97 a0 (a3 + 7 : Int32).toNatClampNeg)]) (rest := [.long x98]) zq_186 zi_219_514 rfl rfl rfl (Nat.le_of_ble_eq_true rfl) (Nat.le_of_ble_eq_true rfl) (zrv_v t100 rfl rfl) (Nat.le_of_ble_eq_true rfl) ?_
        refine Ct.mono hw ?_
        rintro v h101 ⟨x102, rfl, hw⟩
        show Gx E (d + 1) 219 515 [.ref a0, .ref a1, .ref a2, .int a3] [.long x102, .long x98] h101 Q
        refine zg_lcmp_eq zi_219_515 zi_219_516 (fun hc => ?_) (fun hc => ?_)
        · have hw := hw.1 hc
          obtain ⟨x103, ex103⟩ : ∃ x : Int32, x = a3 + 8 := ⟨_, rfl⟩
          have hw := hw x103 ex103
          refine zg_iinc (v := x103) (ls1 := [.ref a0, .ref a1, .ref a2, .int x103]) zi_219_952 rfl (by rw [ex103]; rfl) rfl ?_
          refine zg_goto zi_219_953 ?_
          exact ih a0 a1 a2 x103 h101 hw
        · have hw := hw.2 hc
          refine zg_const (v := 0) zi_219_517 (by rfl) ?_
          exact zg_zreturn zi_219_518 (by decide) hw
      have hw := hw.2
      by_cases hv13 : ((zI h a0 a3.toNatClampNeg) &&& 31 : Int32).toInt = 13
      · have hw := hw.1 hv13
        refine zg_switch (t := 519) zi_219_21 (by rw [hv13]; rfl) ?_
        refine zg_aload zi_219_519 rfl ?_
        refine zg_aload zi_219_520 rfl ?_
        refine zg_iload zi_219_521 rfl ?_
        refine zg_const (v := 1) zi_219_522 (by rfl) ?_
        refine zg_iadd zi_219_523 ?_
        obtain ⟨hb, hw⟩ := hw
        refine zg_iaload (v := .int (zI h a0 (a3 + 1 : Int32).toNatClampNeg)) zi_219_524 t9 hb rfl ?_
        refine zg_aload zi_219_525 rfl ?_
        refine zg_iload zi_219_526 rfl ?_
        refine zg_const (v := 2) zi_219_527 (by rfl) ?_
        refine zg_iadd zi_219_528 ?_
        obtain ⟨hb, hw⟩ := hw
        refine zg_iaload (v := .int (zI h a0 (a3 + 2 : Int32).toNatClampNeg)) zi_219_529 t9 hb rfl ?_
        obtain ⟨t104, hw⟩ := hw
        refine Gx.call2 (as := [.ref a1, .int (zI h a0 (a3 + 1 : Int32).toNatClampNeg), .int (zI h a0 (a3 + 2 : Int32).toNatClampNeg)]) (rest := []) zq_103 zi_219_530 rfl rfl rfl (Nat.le_of_ble_eq_true rfl) (Nat.le_of_ble_eq_true rfl) (zrv_v t104 rfl rfl) (Nat.le_of_ble_eq_true rfl) ?_
        refine Ct.mono hw ?_
        rintro v h105 ⟨x106, rfl, hw⟩
        show Gx E (d + 1) 219 531 [.ref a0, .ref a1, .ref a2, .int a3] [.long x106] h105 Q
        refine zg_aload zi_219_531 rfl ?_
        refine zg_aload zi_219_532 rfl ?_
        refine zg_iload zi_219_533 rfl ?_
        refine zg_const (v := 1) zi_219_534 (by rfl) ?_
        refine zg_iadd zi_219_535 ?_
        obtain ⟨t107, hw⟩ := hw
        obtain ⟨hb, hw⟩ := hw
        refine zg_iaload (v := .int (zI h105 a0 (a3 + 1 : Int32).toNatClampNeg)) zi_219_536 t107 hb rfl ?_
        refine zg_aload zi_219_537 rfl ?_
        refine zg_iload zi_219_538 rfl ?_
        refine zg_const (v := 2) zi_219_539 (by rfl) ?_
        refine zg_iadd zi_219_540 ?_
        obtain ⟨hb, hw⟩ := hw
        refine zg_iaload (v := .int (zI h105 a0 (a3 + 2 : Int32).toNatClampNeg)) zi_219_541 t107 hb rfl ?_
        obtain ⟨t108, hw⟩ := hw
        refine Gx.call2 (as := [.ref a2, .int (zI h105 a0 (a3 + 1 : Int32).toNatClampNeg), .int (zI h105 a0 (a3 + 2 : Int32).toNatClampNeg)]) (rest := [.long x106]) zq_191 zi_219_542 rfl rfl rfl (Nat.le_of_ble_eq_true rfl) (Nat.le_of_ble_eq_true rfl) (zrv_v t108 rfl rfl) (Nat.le_of_ble_eq_true rfl) ?_
        refine Ct.mono hw ?_
        rintro v h109 ⟨x110, rfl, hw⟩
        show Gx E (d + 1) 219 543 [.ref a0, .ref a1, .ref a2, .int a3] [.long x110, .long x106] h109 Q
        refine zg_lcmp_eq zi_219_543 zi_219_544 (fun hc => ?_) (fun hc => ?_)
        · have hw := hw.1 hc
          obtain ⟨x111, ex111⟩ : ∃ x : Int32, x = a3 + 8 := ⟨_, rfl⟩
          have hw := hw x111 ex111
          refine zg_iinc (v := x111) (ls1 := [.ref a0, .ref a1, .ref a2, .int x111]) zi_219_952 rfl (by rw [ex111]; rfl) rfl ?_
          refine zg_goto zi_219_953 ?_
          exact ih a0 a1 a2 x111 h109 hw
        · have hw := hw.2 hc
          refine zg_const (v := 0) zi_219_545 (by rfl) ?_
          exact zg_zreturn zi_219_546 (by decide) hw
      have hw := hw.2
      by_cases hv14 : ((zI h a0 a3.toNatClampNeg) &&& 31 : Int32).toInt = 14
      · have hw := hw.1 hv14
        refine zg_switch (t := 547) zi_219_21 (by rw [hv14]; rfl) ?_
        refine zg_aload zi_219_547 rfl ?_
        refine zg_aload zi_219_548 rfl ?_
        refine zg_iload zi_219_549 rfl ?_
        refine zg_const (v := 1) zi_219_550 (by rfl) ?_
        refine zg_iadd zi_219_551 ?_
        obtain ⟨hb, hw⟩ := hw
        refine zg_iaload (v := .int (zI h a0 (a3 + 1 : Int32).toNatClampNeg)) zi_219_552 t9 hb rfl ?_
        obtain ⟨t112, hw⟩ := hw
        refine Gx.call2 (as := [.ref a1, .int (zI h a0 (a3 + 1 : Int32).toNatClampNeg)]) (rest := []) zq_104 zi_219_553 rfl rfl rfl (Nat.le_of_ble_eq_true rfl) (Nat.le_of_ble_eq_true rfl) (zrv_v t112 rfl rfl) (Nat.le_of_ble_eq_true rfl) ?_
        refine Ct.mono hw ?_
        rintro v h113 ⟨x114, rfl, hw⟩
        show Gx E (d + 1) 219 554 [.ref a0, .ref a1, .ref a2, .int a3] [.long x114] h113 Q
        refine zg_aload zi_219_554 rfl ?_
        refine zg_aload zi_219_555 rfl ?_
        refine zg_iload zi_219_556 rfl ?_
        refine zg_const (v := 1) zi_219_557 (by rfl) ?_
        refine zg_iadd zi_219_558 ?_
        obtain ⟨t115, hw⟩ := hw
        obtain ⟨hb, hw⟩ := hw
        refine zg_iaload (v := .int (zI h113 a0 (a3 + 1 : Int32).toNatClampNeg)) zi_219_559 t115 hb rfl ?_
        obtain ⟨t116, hw⟩ := hw
        refine Gx.call2 (as := [.ref a2, .int (zI h113 a0 (a3 + 1 : Int32).toNatClampNeg)]) (rest := [.long x114]) zq_192 zi_219_560 rfl rfl rfl (Nat.le_of_ble_eq_true rfl) (Nat.le_of_ble_eq_true rfl) (zrv_v t116 rfl rfl) (Nat.le_of_ble_eq_true rfl) ?_
        refine Ct.mono hw ?_
        rintro v h117 ⟨x118, rfl, hw⟩
        show Gx E (d + 1) 219 561 [.ref a0, .ref a1, .ref a2, .int a3] [.long x118, .long x114] h117 Q
        refine zg_lcmp_eq zi_219_561 zi_219_562 (fun hc => ?_) (fun hc => ?_)
        · have hw := hw.1 hc
          obtain ⟨x119, ex119⟩ : ∃ x : Int32, x = a3 + 8 := ⟨_, rfl⟩
          have hw := hw x119 ex119
          refine zg_iinc (v := x119) (ls1 := [.ref a0, .ref a1, .ref a2, .int x119]) zi_219_952 rfl (by rw [ex119]; rfl) rfl ?_
          refine zg_goto zi_219_953 ?_
          exact ih a0 a1 a2 x119 h117 hw
        · have hw := hw.2 hc
          refine zg_const (v := 0) zi_219_563 (by rfl) ?_
          exact zg_zreturn zi_219_564 (by decide) hw
      have hw := hw.2
      by_cases hv15 : ((zI h a0 a3.toNatClampNeg) &&& 31 : Int32).toInt = 15
      · have hw := hw.1 hv15
        refine zg_switch (t := 565) zi_219_21 (by rw [hv15]; rfl) ?_
        refine zg_aload zi_219_565 rfl ?_
        refine zg_aload zi_219_566 rfl ?_
        refine zg_iload zi_219_567 rfl ?_
        refine zg_const (v := 1) zi_219_568 (by rfl) ?_
        refine zg_iadd zi_219_569 ?_
        obtain ⟨hb, hw⟩ := hw
        refine zg_iaload (v := .int (zI h a0 (a3 + 1 : Int32).toNatClampNeg)) zi_219_570 t9 hb rfl ?_
        refine zg_aload zi_219_571 rfl ?_
        refine zg_iload zi_219_572 rfl ?_
        refine zg_const (v := 2) zi_219_573 (by rfl) ?_
        refine zg_iadd zi_219_574 ?_
        obtain ⟨hb, hw⟩ := hw
        refine zg_iaload (v := .int (zI h a0 (a3 + 2 : Int32).toNatClampNeg)) zi_219_575 t9 hb rfl ?_
        refine zg_aload zi_219_576 rfl ?_
        refine zg_iload zi_219_577 rfl ?_
        refine zg_const (v := 3) zi_219_578 (by rfl) ?_
        refine zg_iadd zi_219_579 ?_
        obtain ⟨hb, hw⟩ := hw
        refine zg_iaload (v := .int (zI h a0 (a3 + 3 : Int32).toNatClampNeg)) zi_219_580 t9 hb rfl ?_
        obtain ⟨t120, hw⟩ := hw
        refine Gx.call2 (as := [.ref a1, .int (zI h a0 (a3 + 1 : Int32).toNatClampNeg), .int (zI h a0 (a3 + 2 : Int32).toNatClampNeg), .int (zI h a0 (a3 + 3 : Int32).toNatClampNeg)]) (rest := []) zq_105 zi_219_581 rfl rfl rfl (Nat.le_of_ble_eq_true rfl) (Nat.le_of_ble_eq_true rfl) (zrv_v t120 rfl rfl) (Nat.le_of_ble_eq_true rfl) ?_
        refine Ct.mono hw ?_
        rintro v h121 ⟨x122, rfl, hw⟩
        show Gx E (d + 1) 219 582 [.ref a0, .ref a1, .ref a2, .int a3] [.long x122] h121 Q
        refine zg_aload zi_219_582 rfl ?_
        refine zg_aload zi_219_583 rfl ?_
        refine zg_iload zi_219_584 rfl ?_
        refine zg_const (v := 1) zi_219_585 (by rfl) ?_
        refine zg_iadd zi_219_586 ?_
        obtain ⟨t123, hw⟩ := hw
        obtain ⟨hb, hw⟩ := hw
        refine zg_iaload (v := .int (zI h121 a0 (a3 + 1 : Int32).toNatClampNeg)) zi_219_587 t123 hb rfl ?_
        refine zg_aload zi_219_588 rfl ?_
        refine zg_iload zi_219_589 rfl ?_
        refine zg_const (v := 2) zi_219_590 (by rfl) ?_
        refine zg_iadd zi_219_591 ?_
        obtain ⟨hb, hw⟩ := hw
        refine zg_iaload (v := .int (zI h121 a0 (a3 + 2 : Int32).toNatClampNeg)) zi_219_592 t123 hb rfl ?_
        refine zg_aload zi_219_593 rfl ?_
        refine zg_iload zi_219_594 rfl ?_
        refine zg_const (v := 3) zi_219_595 (by rfl) ?_
        refine zg_iadd zi_219_596 ?_
        obtain ⟨hb, hw⟩ := hw
        refine zg_iaload (v := .int (zI h121 a0 (a3 + 3 : Int32).toNatClampNeg)) zi_219_597 t123 hb rfl ?_
        obtain ⟨t124, hw⟩ := hw
        refine Gx.call2 (as := [.ref a2, .int (zI h121 a0 (a3 + 1 : Int32).toNatClampNeg), .int (zI h121 a0 (a3 + 2 : Int32).toNatClampNeg), .int (zI h121 a0 (a3 + 3 : Int32).toNatClampNeg)]) (rest := [.long x122]) zq_196 zi_219_598 rfl rfl rfl (Nat.le_of_ble_eq_true rfl) (Nat.le_of_ble_eq_true rfl) (zrv_v t124 rfl rfl) (Nat.le_of_ble_eq_true rfl) ?_
        refine Ct.mono hw ?_
        rintro v h125 ⟨x126, rfl, hw⟩
        show Gx E (d + 1) 219 599 [.ref a0, .ref a1, .ref a2, .int a3] [.long x126, .long x122] h125 Q
        refine zg_lcmp_eq zi_219_599 zi_219_600 (fun hc => ?_) (fun hc => ?_)
        · have hw := hw.1 hc
          obtain ⟨x127, ex127⟩ : ∃ x : Int32, x = a3 + 8 := ⟨_, rfl⟩
          have hw := hw x127 ex127
          refine zg_iinc (v := x127) (ls1 := [.ref a0, .ref a1, .ref a2, .int x127]) zi_219_952 rfl (by rw [ex127]; rfl) rfl ?_
          refine zg_goto zi_219_953 ?_
          exact ih a0 a1 a2 x127 h125 hw
        · have hw := hw.2 hc
          refine zg_const (v := 0) zi_219_601 (by rfl) ?_
          exact zg_zreturn zi_219_602 (by decide) hw
      have hw := hw.2
      by_cases hv16 : ((zI h a0 a3.toNatClampNeg) &&& 31 : Int32).toInt = 16
      · have hw := hw.1 hv16
        refine zg_switch (t := 603) zi_219_21 (by rw [hv16]; rfl) ?_
        refine zg_aload zi_219_603 rfl ?_
        refine zg_aload zi_219_604 rfl ?_
        refine zg_iload zi_219_605 rfl ?_
        refine zg_const (v := 1) zi_219_606 (by rfl) ?_
        refine zg_iadd zi_219_607 ?_
        obtain ⟨hb, hw⟩ := hw
        refine zg_iaload (v := .int (zI h a0 (a3 + 1 : Int32).toNatClampNeg)) zi_219_608 t9 hb rfl ?_
        refine zg_aload zi_219_609 rfl ?_
        refine zg_iload zi_219_610 rfl ?_
        refine zg_const (v := 2) zi_219_611 (by rfl) ?_
        refine zg_iadd zi_219_612 ?_
        obtain ⟨hb, hw⟩ := hw
        refine zg_iaload (v := .int (zI h a0 (a3 + 2 : Int32).toNatClampNeg)) zi_219_613 t9 hb rfl ?_
        refine zg_aload zi_219_614 rfl ?_
        refine zg_iload zi_219_615 rfl ?_
        refine zg_const (v := 3) zi_219_616 (by rfl) ?_
        refine zg_iadd zi_219_617 ?_
        obtain ⟨hb, hw⟩ := hw
        refine zg_iaload (v := .int (zI h a0 (a3 + 3 : Int32).toNatClampNeg)) zi_219_618 t9 hb rfl ?_
        refine zg_aload zi_219_619 rfl ?_
        refine zg_iload zi_219_620 rfl ?_
        refine zg_const (v := 4) zi_219_621 (by rfl) ?_
        refine zg_iadd zi_219_622 ?_
        obtain ⟨hb, hw⟩ := hw
        refine zg_iaload (v := .int (zI h a0 (a3 + 4 : Int32).toNatClampNeg)) zi_219_623 t9 hb rfl ?_
        refine zg_aload zi_219_624 rfl ?_
        refine zg_iload zi_219_625 rfl ?_
        refine zg_const (v := 5) zi_219_626 (by rfl) ?_
        refine zg_iadd zi_219_627 ?_
        obtain ⟨hb, hw⟩ := hw
        refine zg_iaload (v := .int (zI h a0 (a3 + 5 : Int32).toNatClampNeg)) zi_219_628 t9 hb rfl ?_
        obtain ⟨t128, hw⟩ := hw
        refine Gx.call2 (as := [.ref a1, .int (zI h a0 (a3 + 1 : Int32).toNatClampNeg), .int (zI h a0 (a3 + 2 : Int32).toNatClampNeg), .int (zI h a0 (a3 + 3 : Int32).toNatClampNeg), .int (zI h a0 (a3 + 4 : Int32).toNatClampNeg), .int (zI h a0 (a3 + 5 : Int32).toNatClampNeg)]) (rest := []) zq_106 zi_219_629 rfl rfl rfl (Nat.le_of_ble_eq_true rfl) (Nat.le_of_ble_eq_true rfl) (zrv_v t128 rfl rfl) (Nat.le_of_ble_eq_true rfl) ?_
        refine Ct.mono hw ?_
        rintro v h129 ⟨x130, rfl, hw⟩
        show Gx E (d + 1) 219 630 [.ref a0, .ref a1, .ref a2, .int a3] [.int x130] h129 Q
        refine zg_aload zi_219_630 rfl ?_
        refine zg_aload zi_219_631 rfl ?_
        refine zg_iload zi_219_632 rfl ?_
        refine zg_const (v := 1) zi_219_633 (by rfl) ?_
        refine zg_iadd zi_219_634 ?_
        obtain ⟨t131, hw⟩ := hw
        obtain ⟨hb, hw⟩ := hw
        refine zg_iaload (v := .int (zI h129 a0 (a3 + 1 : Int32).toNatClampNeg)) zi_219_635 t131 hb rfl ?_
        refine zg_aload zi_219_636 rfl ?_
        refine zg_iload zi_219_637 rfl ?_
        refine zg_const (v := 2) zi_219_638 (by rfl) ?_
        refine zg_iadd zi_219_639 ?_
        obtain ⟨hb, hw⟩ := hw
        refine zg_iaload (v := .int (zI h129 a0 (a3 + 2 : Int32).toNatClampNeg)) zi_219_640 t131 hb rfl ?_
        refine zg_aload zi_219_641 rfl ?_
        refine zg_iload zi_219_642 rfl ?_
        refine zg_const (v := 3) zi_219_643 (by rfl) ?_
        refine zg_iadd zi_219_644 ?_
        obtain ⟨hb, hw⟩ := hw
        refine zg_iaload (v := .int (zI h129 a0 (a3 + 3 : Int32).toNatClampNeg)) zi_219_645 t131 hb rfl ?_
        refine zg_aload zi_219_646 rfl ?_
        refine zg_iload zi_219_647 rfl ?_
        refine zg_const (v := 4) zi_219_648 (by rfl) ?_
        refine zg_iadd zi_219_649 ?_
        obtain ⟨hb, hw⟩ := hw
        refine zg_iaload (v := .int (zI h129 a0 (a3 + 4 : Int32).toNatClampNeg)) zi_219_650 t131 hb rfl ?_
        refine zg_aload zi_219_651 rfl ?_
        refine zg_iload zi_219_652 rfl ?_
        refine zg_const (v := 5) zi_219_653 (by rfl) ?_
        refine zg_iadd zi_219_654 ?_
        obtain ⟨hb, hw⟩ := hw
        refine zg_iaload (v := .int (zI h129 a0 (a3 + 5 : Int32).toNatClampNeg)) zi_219_655 t131 hb rfl ?_
        obtain ⟨t132, hw⟩ := hw
        refine Gx.call2 (as := [.ref a2, .int (zI h129 a0 (a3 + 1 : Int32).toNatClampNeg), .int (zI h129 a0 (a3 + 2 : Int32).toNatClampNeg), .int (zI h129 a0 (a3 + 3 : Int32).toNatClampNeg), .int (zI h129 a0 (a3 + 4 : Int32).toNatClampNeg), .int (zI h129 a0 (a3 + 5 : Int32).toNatClampNeg)]) (rest := [.int x130]) zq_197 zi_219_656 rfl rfl rfl (Nat.le_of_ble_eq_true rfl) (Nat.le_of_ble_eq_true rfl) (zrv_v t132 rfl rfl) (Nat.le_of_ble_eq_true rfl) ?_
        refine Ct.mono hw ?_
        rintro v h133 ⟨x134, rfl, hw⟩
        show Gx E (d + 1) 219 657 [.ref a0, .ref a1, .ref a2, .int a3] [.int x134, .int x130] h133 Q
        refine zg_icmp_eq zi_219_657 (fun hc => ?_) (fun hc => ?_)
        · have hw := hw.1 hc
          obtain ⟨x135, ex135⟩ : ∃ x : Int32, x = a3 + 8 := ⟨_, rfl⟩
          have hw := hw x135 ex135
          refine zg_iinc (v := x135) (ls1 := [.ref a0, .ref a1, .ref a2, .int x135]) zi_219_952 rfl (by rw [ex135]; rfl) rfl ?_
          refine zg_goto zi_219_953 ?_
          exact ih a0 a1 a2 x135 h133 hw
        · have hw := hw.2 hc
          refine zg_const (v := 0) zi_219_658 (by rfl) ?_
          exact zg_zreturn zi_219_659 (by decide) hw
      have hw := hw.2
      by_cases hv17 : ((zI h a0 a3.toNatClampNeg) &&& 31 : Int32).toInt = 17
      · have hw := hw.1 hv17
        refine zg_switch (t := 660) zi_219_21 (by rw [hv17]; rfl) ?_
        refine zg_aload zi_219_660 rfl ?_
        refine zg_aload zi_219_661 rfl ?_
        refine zg_iload zi_219_662 rfl ?_
        refine zg_const (v := 1) zi_219_663 (by rfl) ?_
        refine zg_iadd zi_219_664 ?_
        obtain ⟨hb, hw⟩ := hw
        refine zg_iaload (v := .int (zI h a0 (a3 + 1 : Int32).toNatClampNeg)) zi_219_665 t9 hb rfl ?_
        obtain ⟨t136, hw⟩ := hw
        refine Gx.call2 (as := [.ref a1, .int (zI h a0 (a3 + 1 : Int32).toNatClampNeg)]) (rest := []) zq_107 zi_219_666 rfl rfl rfl (Nat.le_of_ble_eq_true rfl) (Nat.le_of_ble_eq_true rfl) (zrv_v t136 rfl rfl) (Nat.le_of_ble_eq_true rfl) ?_
        refine Ct.mono hw ?_
        rintro v h137 ⟨x138, rfl, hw⟩
        show Gx E (d + 1) 219 667 [.ref a0, .ref a1, .ref a2, .int a3] [.long x138] h137 Q
        refine zg_aload zi_219_667 rfl ?_
        refine zg_aload zi_219_668 rfl ?_
        refine zg_iload zi_219_669 rfl ?_
        refine zg_const (v := 1) zi_219_670 (by rfl) ?_
        refine zg_iadd zi_219_671 ?_
        obtain ⟨t139, hw⟩ := hw
        obtain ⟨hb, hw⟩ := hw
        refine zg_iaload (v := .int (zI h137 a0 (a3 + 1 : Int32).toNatClampNeg)) zi_219_672 t139 hb rfl ?_
        obtain ⟨t140, hw⟩ := hw
        refine Gx.call2 (as := [.ref a2, .int (zI h137 a0 (a3 + 1 : Int32).toNatClampNeg)]) (rest := [.long x138]) zq_198 zi_219_673 rfl rfl rfl (Nat.le_of_ble_eq_true rfl) (Nat.le_of_ble_eq_true rfl) (zrv_v t140 rfl rfl) (Nat.le_of_ble_eq_true rfl) ?_
        refine Ct.mono hw ?_
        rintro v h141 ⟨x142, rfl, hw⟩
        show Gx E (d + 1) 219 674 [.ref a0, .ref a1, .ref a2, .int a3] [.long x142, .long x138] h141 Q
        refine zg_lcmp_eq zi_219_674 zi_219_675 (fun hc => ?_) (fun hc => ?_)
        · have hw := hw.1 hc
          obtain ⟨x143, ex143⟩ : ∃ x : Int32, x = a3 + 8 := ⟨_, rfl⟩
          have hw := hw x143 ex143
          refine zg_iinc (v := x143) (ls1 := [.ref a0, .ref a1, .ref a2, .int x143]) zi_219_952 rfl (by rw [ex143]; rfl) rfl ?_
          refine zg_goto zi_219_953 ?_
          exact ih a0 a1 a2 x143 h141 hw
        · have hw := hw.2 hc
          refine zg_const (v := 0) zi_219_676 (by rfl) ?_
          exact zg_zreturn zi_219_677 (by decide) hw
      have hw := hw.2
      by_cases hv18 : ((zI h a0 a3.toNatClampNeg) &&& 31 : Int32).toInt = 18
      · have hw := hw.1 hv18
        refine zg_switch (t := 678) zi_219_21 (by rw [hv18]; rfl) ?_
        refine zg_aload zi_219_678 rfl ?_
        refine zg_aload zi_219_679 rfl ?_
        refine zg_iload zi_219_680 rfl ?_
        refine zg_const (v := 1) zi_219_681 (by rfl) ?_
        refine zg_iadd zi_219_682 ?_
        obtain ⟨hb, hw⟩ := hw
        refine zg_iaload (v := .int (zI h a0 (a3 + 1 : Int32).toNatClampNeg)) zi_219_683 t9 hb rfl ?_
        refine zg_aload zi_219_684 rfl ?_
        refine zg_iload zi_219_685 rfl ?_
        refine zg_const (v := 2) zi_219_686 (by rfl) ?_
        refine zg_iadd zi_219_687 ?_
        obtain ⟨hb, hw⟩ := hw
        refine zg_iaload (v := .int (zI h a0 (a3 + 2 : Int32).toNatClampNeg)) zi_219_688 t9 hb rfl ?_
        obtain ⟨t144, hw⟩ := hw
        refine Gx.call2 (as := [.ref a1, .int (zI h a0 (a3 + 1 : Int32).toNatClampNeg), .int (zI h a0 (a3 + 2 : Int32).toNatClampNeg)]) (rest := []) zq_108 zi_219_689 rfl rfl rfl (Nat.le_of_ble_eq_true rfl) (Nat.le_of_ble_eq_true rfl) (zrv_v t144 rfl rfl) (Nat.le_of_ble_eq_true rfl) ?_
        refine Ct.mono hw ?_
        rintro v h145 ⟨x146, rfl, hw⟩
        show Gx E (d + 1) 219 690 [.ref a0, .ref a1, .ref a2, .int a3] [.int x146] h145 Q
        refine zg_aload zi_219_690 rfl ?_
        refine zg_aload zi_219_691 rfl ?_
        refine zg_iload zi_219_692 rfl ?_
        refine zg_const (v := 1) zi_219_693 (by rfl) ?_
        refine zg_iadd zi_219_694 ?_
        obtain ⟨t147, hw⟩ := hw
        obtain ⟨hb, hw⟩ := hw
        refine zg_iaload (v := .int (zI h145 a0 (a3 + 1 : Int32).toNatClampNeg)) zi_219_695 t147 hb rfl ?_
        refine zg_aload zi_219_696 rfl ?_
        refine zg_iload zi_219_697 rfl ?_
        refine zg_const (v := 2) zi_219_698 (by rfl) ?_
        refine zg_iadd zi_219_699 ?_
        obtain ⟨hb, hw⟩ := hw
        refine zg_iaload (v := .int (zI h145 a0 (a3 + 2 : Int32).toNatClampNeg)) zi_219_700 t147 hb rfl ?_
        obtain ⟨t148, hw⟩ := hw
        refine Gx.call2 (as := [.ref a2, .int (zI h145 a0 (a3 + 1 : Int32).toNatClampNeg), .int (zI h145 a0 (a3 + 2 : Int32).toNatClampNeg)]) (rest := [.int x146]) zq_199 zi_219_701 rfl rfl rfl (Nat.le_of_ble_eq_true rfl) (Nat.le_of_ble_eq_true rfl) (zrv_v t148 rfl rfl) (Nat.le_of_ble_eq_true rfl) ?_
        refine Ct.mono hw ?_
        rintro v h149 ⟨x150, rfl, hw⟩
        show Gx E (d + 1) 219 702 [.ref a0, .ref a1, .ref a2, .int a3] [.int x150, .int x146] h149 Q
        refine zg_icmp_eq zi_219_702 (fun hc => ?_) (fun hc => ?_)
        · have hw := hw.1 hc
          obtain ⟨x151, ex151⟩ : ∃ x : Int32, x = a3 + 8 := ⟨_, rfl⟩
          have hw := hw x151 ex151
          refine zg_iinc (v := x151) (ls1 := [.ref a0, .ref a1, .ref a2, .int x151]) zi_219_952 rfl (by rw [ex151]; rfl) rfl ?_
          refine zg_goto zi_219_953 ?_
          exact ih a0 a1 a2 x151 h149 hw
        · have hw := hw.2 hc
          refine zg_const (v := 0) zi_219_703 (by rfl) ?_
          exact zg_zreturn zi_219_704 (by decide) hw
      have hw := hw.2
      by_cases hv19 : ((zI h a0 a3.toNatClampNeg) &&& 31 : Int32).toInt = 19
      · have hw := hw.1 hv19
        refine zg_switch (t := 705) zi_219_21 (by rw [hv19]; rfl) ?_
        refine zg_aload zi_219_705 rfl ?_
        obtain ⟨t152, hw⟩ := hw
        refine Gx.call2 (as := [.ref a1]) (rest := []) zq_109 zi_219_706 rfl rfl rfl (Nat.le_of_ble_eq_true rfl) (Nat.le_of_ble_eq_true rfl) (zrv_v t152 rfl rfl) (Nat.le_of_ble_eq_true rfl) ?_
        refine Ct.mono hw ?_
        rintro v h153 ⟨x154, rfl, hw⟩
        show Gx E (d + 1) 219 707 [.ref a0, .ref a1, .ref a2, .int a3] [.int x154] h153 Q
        refine zg_aload zi_219_707 rfl ?_
        obtain ⟨t155, hw⟩ := hw
        refine Gx.call2 (as := [.ref a2]) (rest := [.int x154]) zq_200 zi_219_708 rfl rfl rfl (Nat.le_of_ble_eq_true rfl) (Nat.le_of_ble_eq_true rfl) (zrv_v t155 rfl rfl) (Nat.le_of_ble_eq_true rfl) ?_
        refine Ct.mono hw ?_
        rintro v h156 ⟨x157, rfl, hw⟩
        show Gx E (d + 1) 219 709 [.ref a0, .ref a1, .ref a2, .int a3] [.int x157, .int x154] h156 Q
        refine zg_icmp_eq zi_219_709 (fun hc => ?_) (fun hc => ?_)
        · have hw := hw.1 hc
          obtain ⟨x158, ex158⟩ : ∃ x : Int32, x = a3 + 8 := ⟨_, rfl⟩
          have hw := hw x158 ex158
          refine zg_iinc (v := x158) (ls1 := [.ref a0, .ref a1, .ref a2, .int x158]) zi_219_952 rfl (by rw [ex158]; rfl) rfl ?_
          refine zg_goto zi_219_953 ?_
          exact ih a0 a1 a2 x158 h156 hw
        · have hw := hw.2 hc
          refine zg_const (v := 0) zi_219_710 (by rfl) ?_
          exact zg_zreturn zi_219_711 (by decide) hw
      have hw := hw.2
      by_cases hv20 : ((zI h a0 a3.toNatClampNeg) &&& 31 : Int32).toInt = 20
      · have hw := hw.1 hv20
        refine zg_switch (t := 712) zi_219_21 (by rw [hv20]; rfl) ?_
        refine zg_aload zi_219_712 rfl ?_
        refine zg_aload zi_219_713 rfl ?_
        refine zg_iload zi_219_714 rfl ?_
        refine zg_const (v := 1) zi_219_715 (by rfl) ?_
        refine zg_iadd zi_219_716 ?_
        obtain ⟨hb, hw⟩ := hw
        refine zg_iaload (v := .int (zI h a0 (a3 + 1 : Int32).toNatClampNeg)) zi_219_717 t9 hb rfl ?_
        obtain ⟨t159, hw⟩ := hw
        refine Gx.call2 (as := [.ref a1, .int (zI h a0 (a3 + 1 : Int32).toNatClampNeg)]) (rest := []) zq_110 zi_219_718 rfl rfl rfl (Nat.le_of_ble_eq_true rfl) (Nat.le_of_ble_eq_true rfl) (zrv_v t159 rfl rfl) (Nat.le_of_ble_eq_true rfl) ?_
        refine Ct.mono hw ?_
        rintro v h160 ⟨x161, rfl, hw⟩
        show Gx E (d + 1) 219 719 [.ref a0, .ref a1, .ref a2, .int a3] [.int x161] h160 Q
        refine zg_aload zi_219_719 rfl ?_
        refine zg_aload zi_219_720 rfl ?_
        refine zg_iload zi_219_721 rfl ?_
        refine zg_const (v := 1) zi_219_722 (by rfl) ?_
        refine zg_iadd zi_219_723 ?_
        obtain ⟨t162, hw⟩ := hw
        obtain ⟨hb, hw⟩ := hw
        refine zg_iaload (v := .int (zI h160 a0 (a3 + 1 : Int32).toNatClampNeg)) zi_219_724 t162 hb rfl ?_
        obtain ⟨t163, hw⟩ := hw
        refine Gx.call2 (as := [.ref a2, .int (zI h160 a0 (a3 + 1 : Int32).toNatClampNeg)]) (rest := [.int x161]) zq_205 zi_219_725 rfl rfl rfl (Nat.le_of_ble_eq_true rfl) (Nat.le_of_ble_eq_true rfl) (zrv_v t163 rfl rfl) (Nat.le_of_ble_eq_true rfl) ?_
        refine Ct.mono hw ?_
        rintro v h164 ⟨x165, rfl, hw⟩
        show Gx E (d + 1) 219 726 [.ref a0, .ref a1, .ref a2, .int a3] [.int x165, .int x161] h164 Q
        refine zg_icmp_eq zi_219_726 (fun hc => ?_) (fun hc => ?_)
        · have hw := hw.1 hc
          obtain ⟨x166, ex166⟩ : ∃ x : Int32, x = a3 + 8 := ⟨_, rfl⟩
          have hw := hw x166 ex166
          refine zg_iinc (v := x166) (ls1 := [.ref a0, .ref a1, .ref a2, .int x166]) zi_219_952 rfl (by rw [ex166]; rfl) rfl ?_
          refine zg_goto zi_219_953 ?_
          exact ih a0 a1 a2 x166 h164 hw
        · have hw := hw.2 hc
          refine zg_const (v := 0) zi_219_727 (by rfl) ?_
          exact zg_zreturn zi_219_728 (by decide) hw
      have hw := hw.2
      by_cases hv21 : ((zI h a0 a3.toNatClampNeg) &&& 31 : Int32).toInt = 21
      · have hw := hw.1 hv21
        refine zg_switch (t := 729) zi_219_21 (by rw [hv21]; rfl) ?_
        refine zg_aload zi_219_729 rfl ?_
        refine zg_aload zi_219_730 rfl ?_
        refine zg_iload zi_219_731 rfl ?_
        refine zg_const (v := 1) zi_219_732 (by rfl) ?_
        refine zg_iadd zi_219_733 ?_
        obtain ⟨hb, hw⟩ := hw
        refine zg_iaload (v := .int (zI h a0 (a3 + 1 : Int32).toNatClampNeg)) zi_219_734 t9 hb rfl ?_
        refine zg_aload zi_219_735 rfl ?_
        refine zg_iload zi_219_736 rfl ?_
        refine zg_const (v := 2) zi_219_737 (by rfl) ?_
        refine zg_iadd zi_219_738 ?_
        obtain ⟨hb, hw⟩ := hw
        refine zg_iaload (v := .int (zI h a0 (a3 + 2 : Int32).toNatClampNeg)) zi_219_739 t9 hb rfl ?_
        obtain ⟨t167, hw⟩ := hw
        refine Gx.call2 (as := [.ref a1, .int (zI h a0 (a3 + 1 : Int32).toNatClampNeg), .int (zI h a0 (a3 + 2 : Int32).toNatClampNeg)]) (rest := []) zq_111 zi_219_740 rfl rfl rfl (Nat.le_of_ble_eq_true rfl) (Nat.le_of_ble_eq_true rfl) (zrv_v t167 rfl rfl) (Nat.le_of_ble_eq_true rfl) ?_
        refine Ct.mono hw ?_
        rintro v h168 ⟨x169, rfl, hw⟩
        show Gx E (d + 1) 219 741 [.ref a0, .ref a1, .ref a2, .int a3] [.int x169] h168 Q
        refine zg_aload zi_219_741 rfl ?_
        refine zg_aload zi_219_742 rfl ?_
        refine zg_iload zi_219_743 rfl ?_
        refine zg_const (v := 1) zi_219_744 (by rfl) ?_
        refine zg_iadd zi_219_745 ?_
        obtain ⟨t170, hw⟩ := hw
        obtain ⟨hb, hw⟩ := hw
        refine zg_iaload (v := .int (zI h168 a0 (a3 + 1 : Int32).toNatClampNeg)) zi_219_746 t170 hb rfl ?_
        refine zg_aload zi_219_747 rfl ?_
        refine zg_iload zi_219_748 rfl ?_
        refine zg_const (v := 2) zi_219_749 (by rfl) ?_
        refine zg_iadd zi_219_750 ?_
        obtain ⟨hb, hw⟩ := hw
        refine zg_iaload (v := .int (zI h168 a0 (a3 + 2 : Int32).toNatClampNeg)) zi_219_751 t170 hb rfl ?_
        obtain ⟨t171, hw⟩ := hw
        refine Gx.call2 (as := [.ref a2, .int (zI h168 a0 (a3 + 1 : Int32).toNatClampNeg), .int (zI h168 a0 (a3 + 2 : Int32).toNatClampNeg)]) (rest := [.int x169]) zq_206 zi_219_752 rfl rfl rfl (Nat.le_of_ble_eq_true rfl) (Nat.le_of_ble_eq_true rfl) (zrv_v t171 rfl rfl) (Nat.le_of_ble_eq_true rfl) ?_
        refine Ct.mono hw ?_
        rintro v h172 ⟨x173, rfl, hw⟩
        show Gx E (d + 1) 219 753 [.ref a0, .ref a1, .ref a2, .int a3] [.int x173, .int x169] h172 Q
        refine zg_icmp_eq zi_219_753 (fun hc => ?_) (fun hc => ?_)
        · have hw := hw.1 hc
          obtain ⟨x174, ex174⟩ : ∃ x : Int32, x = a3 + 8 := ⟨_, rfl⟩
          have hw := hw x174 ex174
          refine zg_iinc (v := x174) (ls1 := [.ref a0, .ref a1, .ref a2, .int x174]) zi_219_952 rfl (by rw [ex174]; rfl) rfl ?_
          refine zg_goto zi_219_953 ?_
          exact ih a0 a1 a2 x174 h172 hw
        · have hw := hw.2 hc
          refine zg_const (v := 0) zi_219_754 (by rfl) ?_
          exact zg_zreturn zi_219_755 (by decide) hw
      have hw := hw.2
      by_cases hv22 : ((zI h a0 a3.toNatClampNeg) &&& 31 : Int32).toInt = 22
      · have hw := hw.1 hv22
        refine zg_switch (t := 756) zi_219_21 (by rw [hv22]; rfl) ?_
        refine zg_aload zi_219_756 rfl ?_
        refine zg_aload zi_219_757 rfl ?_
        refine zg_iload zi_219_758 rfl ?_
        refine zg_const (v := 1) zi_219_759 (by rfl) ?_
        refine zg_iadd zi_219_760 ?_
        obtain ⟨hb, hw⟩ := hw
        refine zg_iaload (v := .int (zI h a0 (a3 + 1 : Int32).toNatClampNeg)) zi_219_761 t9 hb rfl ?_
        obtain ⟨t175, hw⟩ := hw
        refine Gx.call2 (as := [.ref a1, .int (zI h a0 (a3 + 1 : Int32).toNatClampNeg)]) (rest := []) zq_112 zi_219_762 rfl rfl rfl (Nat.le_of_ble_eq_true rfl) (Nat.le_of_ble_eq_true rfl) (zrv_v t175 rfl rfl) (Nat.le_of_ble_eq_true rfl) ?_
        refine Ct.mono hw ?_
        rintro v h176 ⟨x177, rfl, hw⟩
        show Gx E (d + 1) 219 763 [.ref a0, .ref a1, .ref a2, .int a3] [.int x177] h176 Q
        refine zg_aload zi_219_763 rfl ?_
        refine zg_aload zi_219_764 rfl ?_
        refine zg_iload zi_219_765 rfl ?_
        refine zg_const (v := 1) zi_219_766 (by rfl) ?_
        refine zg_iadd zi_219_767 ?_
        obtain ⟨t178, hw⟩ := hw
        obtain ⟨hb, hw⟩ := hw
        refine zg_iaload (v := .int (zI h176 a0 (a3 + 1 : Int32).toNatClampNeg)) zi_219_768 t178 hb rfl ?_
        obtain ⟨t179, hw⟩ := hw
        refine Gx.call2 (as := [.ref a2, .int (zI h176 a0 (a3 + 1 : Int32).toNatClampNeg)]) (rest := [.int x177]) zq_209 zi_219_769 rfl rfl rfl (Nat.le_of_ble_eq_true rfl) (Nat.le_of_ble_eq_true rfl) (zrv_v t179 rfl rfl) (Nat.le_of_ble_eq_true rfl) ?_
        refine Ct.mono hw ?_
        rintro v h180 ⟨x181, rfl, hw⟩
        show Gx E (d + 1) 219 770 [.ref a0, .ref a1, .ref a2, .int a3] [.int x181, .int x177] h180 Q
        refine zg_icmp_eq zi_219_770 (fun hc => ?_) (fun hc => ?_)
        · have hw := hw.1 hc
          obtain ⟨x182, ex182⟩ : ∃ x : Int32, x = a3 + 8 := ⟨_, rfl⟩
          have hw := hw x182 ex182
          refine zg_iinc (v := x182) (ls1 := [.ref a0, .ref a1, .ref a2, .int x182]) zi_219_952 rfl (by rw [ex182]; rfl) rfl ?_
          refine zg_goto zi_219_953 ?_
          exact ih a0 a1 a2 x182 h180 hw
        · have hw := hw.2 hc
          refine zg_const (v := 0) zi_219_771 (by rfl) ?_
          exact zg_zreturn zi_219_772 (by decide) hw
      have hw := hw.2
      by_cases hv23 : ((zI h a0 a3.toNatClampNeg) &&& 31 : Int32).toInt = 23
      · have hw := hw.1 hv23
        refine zg_switch (t := 773) zi_219_21 (by rw [hv23]; rfl) ?_
        refine zg_aload zi_219_773 rfl ?_
        refine zg_aload zi_219_774 rfl ?_
        refine zg_iload zi_219_775 rfl ?_
        refine zg_const (v := 1) zi_219_776 (by rfl) ?_
        refine zg_iadd zi_219_777 ?_
        obtain ⟨hb, hw⟩ := hw
        refine zg_iaload (v := .int (zI h a0 (a3 + 1 : Int32).toNatClampNeg)) zi_219_778 t9 hb rfl ?_
        obtain ⟨t183, hw⟩ := hw
        refine Gx.call2 (as := [.ref a1, .int (zI h a0 (a3 + 1 : Int32).toNatClampNeg)]) (rest := []) zq_113 zi_219_779 rfl rfl rfl (Nat.le_of_ble_eq_true rfl) (Nat.le_of_ble_eq_true rfl) (zrv_v t183 rfl rfl) (Nat.le_of_ble_eq_true rfl) ?_
        refine Ct.mono hw ?_
        rintro v h184 ⟨x185, rfl, hw⟩
        show Gx E (d + 1) 219 780 [.ref a0, .ref a1, .ref a2, .int a3] [.int x185] h184 Q
        refine zg_aload zi_219_780 rfl ?_
        refine zg_aload zi_219_781 rfl ?_
        refine zg_iload zi_219_782 rfl ?_
        refine zg_const (v := 1) zi_219_783 (by rfl) ?_
        refine zg_iadd zi_219_784 ?_
        obtain ⟨t186, hw⟩ := hw
        obtain ⟨hb, hw⟩ := hw
        refine zg_iaload (v := .int (zI h184 a0 (a3 + 1 : Int32).toNatClampNeg)) zi_219_785 t186 hb rfl ?_
        obtain ⟨t187, hw⟩ := hw
        refine Gx.call2 (as := [.ref a2, .int (zI h184 a0 (a3 + 1 : Int32).toNatClampNeg)]) (rest := [.int x185]) zq_212 zi_219_786 rfl rfl rfl (Nat.le_of_ble_eq_true rfl) (Nat.le_of_ble_eq_true rfl) (zrv_v t187 rfl rfl) (Nat.le_of_ble_eq_true rfl) ?_
        refine Ct.mono hw ?_
        rintro v h188 ⟨x189, rfl, hw⟩
        show Gx E (d + 1) 219 787 [.ref a0, .ref a1, .ref a2, .int a3] [.int x189, .int x185] h188 Q
        refine zg_icmp_eq zi_219_787 (fun hc => ?_) (fun hc => ?_)
        · have hw := hw.1 hc
          obtain ⟨x190, ex190⟩ : ∃ x : Int32, x = a3 + 8 := ⟨_, rfl⟩
          have hw := hw x190 ex190
          refine zg_iinc (v := x190) (ls1 := [.ref a0, .ref a1, .ref a2, .int x190]) zi_219_952 rfl (by rw [ex190]; rfl) rfl ?_
          refine zg_goto zi_219_953 ?_
          exact ih a0 a1 a2 x190 h188 hw
        · have hw := hw.2 hc
          refine zg_const (v := 0) zi_219_788 (by rfl) ?_
          exact zg_zreturn zi_219_789 (by decide) hw
      have hw := hw.2
      by_cases hv24 : ((zI h a0 a3.toNatClampNeg) &&& 31 : Int32).toInt = 24
      · have hw := hw.1 hv24
        refine zg_switch (t := 790) zi_219_21 (by rw [hv24]; rfl) ?_
        refine zg_aload zi_219_790 rfl ?_
        refine zg_aload zi_219_791 rfl ?_
        refine zg_iload zi_219_792 rfl ?_
        refine zg_const (v := 1) zi_219_793 (by rfl) ?_
        refine zg_iadd zi_219_794 ?_
        obtain ⟨hb, hw⟩ := hw
        refine zg_iaload (v := .int (zI h a0 (a3 + 1 : Int32).toNatClampNeg)) zi_219_795 t9 hb rfl ?_
        obtain ⟨t191, hw⟩ := hw
        refine Gx.call2 (as := [.ref a1, .int (zI h a0 (a3 + 1 : Int32).toNatClampNeg)]) (rest := []) zq_114 zi_219_796 rfl rfl rfl (Nat.le_of_ble_eq_true rfl) (Nat.le_of_ble_eq_true rfl) (zrv_v t191 rfl rfl) (Nat.le_of_ble_eq_true rfl) ?_
        refine Ct.mono hw ?_
        rintro v h192 ⟨x193, rfl, hw⟩
        show Gx E (d + 1) 219 797 [.ref a0, .ref a1, .ref a2, .int a3] [.int x193] h192 Q
        refine zg_aload zi_219_797 rfl ?_
        refine zg_aload zi_219_798 rfl ?_
        refine zg_iload zi_219_799 rfl ?_
        refine zg_const (v := 1) zi_219_800 (by rfl) ?_
        refine zg_iadd zi_219_801 ?_
        obtain ⟨t194, hw⟩ := hw
        obtain ⟨hb, hw⟩ := hw
        refine zg_iaload (v := .int (zI h192 a0 (a3 + 1 : Int32).toNatClampNeg)) zi_219_802 t194 hb rfl ?_
        obtain ⟨t195, hw⟩ := hw
        refine Gx.call2 (as := [.ref a2, .int (zI h192 a0 (a3 + 1 : Int32).toNatClampNeg)]) (rest := [.int x193]) zq_213 zi_219_803 rfl rfl rfl (Nat.le_of_ble_eq_true rfl) (Nat.le_of_ble_eq_true rfl) (zrv_v t195 rfl rfl) (Nat.le_of_ble_eq_true rfl) ?_
        refine Ct.mono hw ?_
        rintro v h196 ⟨x197, rfl, hw⟩
        show Gx E (d + 1) 219 804 [.ref a0, .ref a1, .ref a2, .int a3] [.int x197, .int x193] h196 Q
        refine zg_icmp_eq zi_219_804 (fun hc => ?_) (fun hc => ?_)
        · have hw := hw.1 hc
          obtain ⟨x198, ex198⟩ : ∃ x : Int32, x = a3 + 8 := ⟨_, rfl⟩
          have hw := hw x198 ex198
          refine zg_iinc (v := x198) (ls1 := [.ref a0, .ref a1, .ref a2, .int x198]) zi_219_952 rfl (by rw [ex198]; rfl) rfl ?_
          refine zg_goto zi_219_953 ?_
          exact ih a0 a1 a2 x198 h196 hw
        · have hw := hw.2 hc
          refine zg_const (v := 0) zi_219_805 (by rfl) ?_
          exact zg_zreturn zi_219_806 (by decide) hw
      have hw := hw.2
      by_cases hv25 : ((zI h a0 a3.toNatClampNeg) &&& 31 : Int32).toInt = 25
      · have hw := hw.1 hv25
        refine zg_switch (t := 807) zi_219_21 (by rw [hv25]; rfl) ?_
        refine zg_aload zi_219_807 rfl ?_
        refine zg_aload zi_219_808 rfl ?_
        refine zg_iload zi_219_809 rfl ?_
        refine zg_const (v := 1) zi_219_810 (by rfl) ?_
        refine zg_iadd zi_219_811 ?_
        obtain ⟨hb, hw⟩ := hw
        refine zg_iaload (v := .int (zI h a0 (a3 + 1 : Int32).toNatClampNeg)) zi_219_812 t9 hb rfl ?_
        refine zg_aload zi_219_813 rfl ?_
        refine zg_iload zi_219_814 rfl ?_
        refine zg_const (v := 2) zi_219_815 (by rfl) ?_
        refine zg_iadd zi_219_816 ?_
        obtain ⟨hb, hw⟩ := hw
        refine zg_iaload (v := .int (zI h a0 (a3 + 2 : Int32).toNatClampNeg)) zi_219_817 t9 hb rfl ?_
        refine zg_aload zi_219_818 rfl ?_
        refine zg_iload zi_219_819 rfl ?_
        refine zg_const (v := 3) zi_219_820 (by rfl) ?_
        refine zg_iadd zi_219_821 ?_
        obtain ⟨hb, hw⟩ := hw
        refine zg_iaload (v := .int (zI h a0 (a3 + 3 : Int32).toNatClampNeg)) zi_219_822 t9 hb rfl ?_
        obtain ⟨t199, hw⟩ := hw
        refine Gx.call2 (as := [.ref a1, .int (zI h a0 (a3 + 1 : Int32).toNatClampNeg), .int (zI h a0 (a3 + 2 : Int32).toNatClampNeg), .int (zI h a0 (a3 + 3 : Int32).toNatClampNeg)]) (rest := []) zq_115 zi_219_823 rfl rfl rfl (Nat.le_of_ble_eq_true rfl) (Nat.le_of_ble_eq_true rfl) (zrv_v t199 rfl rfl) (Nat.le_of_ble_eq_true rfl) ?_
        refine Ct.mono hw ?_
        rintro v h200 ⟨x201, rfl, hw⟩
        show Gx E (d + 1) 219 824 [.ref a0, .ref a1, .ref a2, .int a3] [.int x201] h200 Q
        refine zg_aload zi_219_824 rfl ?_
        refine zg_aload zi_219_825 rfl ?_
        refine zg_iload zi_219_826 rfl ?_
        refine zg_const (v := 1) zi_219_827 (by rfl) ?_
        refine zg_iadd zi_219_828 ?_
        obtain ⟨t202, hw⟩ := hw
        obtain ⟨hb, hw⟩ := hw
        refine zg_iaload (v := .int (zI h200 a0 (a3 + 1 : Int32).toNatClampNeg)) zi_219_829 t202 hb rfl ?_
        refine zg_aload zi_219_830 rfl ?_
        refine zg_iload zi_219_831 rfl ?_
        refine zg_const (v := 2) zi_219_832 (by rfl) ?_
        refine zg_iadd zi_219_833 ?_
        obtain ⟨hb, hw⟩ := hw
        refine zg_iaload (v := .int (zI h200 a0 (a3 + 2 : Int32).toNatClampNeg)) zi_219_834 t202 hb rfl ?_
        refine zg_aload zi_219_835 rfl ?_
        refine zg_iload zi_219_836 rfl ?_
        refine zg_const (v := 3) zi_219_837 (by rfl) ?_
        refine zg_iadd zi_219_838 ?_
        obtain ⟨hb, hw⟩ := hw
        refine zg_iaload (v := .int (zI h200 a0 (a3 + 3 : Int32).toNatClampNeg)) zi_219_839 t202 hb rfl ?_
        obtain ⟨t203, hw⟩ := hw
        refine Gx.call2 (as := [.ref a2, .int (zI h200 a0 (a3 + 1 : Int32).toNatClampNeg), .int (zI h200 a0 (a3 + 2 : Int32).toNatClampNeg), .int (zI h200 a0 (a3 + 3 : Int32).toNatClampNeg)]) (rest := [.int x201]) zq_214 zi_219_840 rfl rfl rfl (Nat.le_of_ble_eq_true rfl) (Nat.le_of_ble_eq_true rfl) (zrv_v t203 rfl rfl) (Nat.le_of_ble_eq_true rfl) ?_
        refine Ct.mono hw ?_
        rintro v h204 ⟨x205, rfl, hw⟩
        show Gx E (d + 1) 219 841 [.ref a0, .ref a1, .ref a2, .int a3] [.int x205, .int x201] h204 Q
        refine zg_icmp_eq zi_219_841 (fun hc => ?_) (fun hc => ?_)
        · have hw := hw.1 hc
          obtain ⟨x206, ex206⟩ : ∃ x : Int32, x = a3 + 8 := ⟨_, rfl⟩
          have hw := hw x206 ex206
          refine zg_iinc (v := x206) (ls1 := [.ref a0, .ref a1, .ref a2, .int x206]) zi_219_952 rfl (by rw [ex206]; rfl) rfl ?_
          refine zg_goto zi_219_953 ?_
          exact ih a0 a1 a2 x206 h204 hw
        · have hw := hw.2 hc
          refine zg_const (v := 0) zi_219_842 (by rfl) ?_
          exact zg_zreturn zi_219_843 (by decide) hw
      have hw := hw.2
      by_cases hv26 : ((zI h a0 a3.toNatClampNeg) &&& 31 : Int32).toInt = 26
      · have hw := hw.1 hv26
        refine zg_switch (t := 844) zi_219_21 (by rw [hv26]; rfl) ?_
        refine zg_aload zi_219_844 rfl ?_
        refine zg_aload zi_219_845 rfl ?_
        refine zg_iload zi_219_846 rfl ?_
        refine zg_const (v := 1) zi_219_847 (by rfl) ?_
        refine zg_iadd zi_219_848 ?_
        obtain ⟨hb, hw⟩ := hw
        refine zg_iaload (v := .int (zI h a0 (a3 + 1 : Int32).toNatClampNeg)) zi_219_849 t9 hb rfl ?_
        refine zg_aload zi_219_850 rfl ?_
        refine zg_iload zi_219_851 rfl ?_
        refine zg_const (v := 2) zi_219_852 (by rfl) ?_
        refine zg_iadd zi_219_853 ?_
        obtain ⟨hb, hw⟩ := hw
        refine zg_iaload (v := .int (zI h a0 (a3 + 2 : Int32).toNatClampNeg)) zi_219_854 t9 hb rfl ?_
        refine zg_aload zi_219_855 rfl ?_
        refine zg_iload zi_219_856 rfl ?_
        refine zg_const (v := 3) zi_219_857 (by rfl) ?_
        refine zg_iadd zi_219_858 ?_
        obtain ⟨hb, hw⟩ := hw
        refine zg_iaload (v := .int (zI h a0 (a3 + 3 : Int32).toNatClampNeg)) zi_219_859 t9 hb rfl ?_
        obtain ⟨t207, hw⟩ := hw
        refine Gx.call2 (as := [.ref a1, .int (zI h a0 (a3 + 1 : Int32).toNatClampNeg), .int (zI h a0 (a3 + 2 : Int32).toNatClampNeg), .int (zI h a0 (a3 + 3 : Int32).toNatClampNeg)]) (rest := []) zq_116 zi_219_860 rfl rfl rfl (Nat.le_of_ble_eq_true rfl) (Nat.le_of_ble_eq_true rfl) (zrv_v t207 rfl rfl) (Nat.le_of_ble_eq_true rfl) ?_
        refine Ct.mono hw ?_
        rintro v h208 ⟨x209, rfl, hw⟩
        show Gx E (d + 1) 219 861 [.ref a0, .ref a1, .ref a2, .int a3] [.int x209] h208 Q
        refine zg_aload zi_219_861 rfl ?_
        refine zg_aload zi_219_862 rfl ?_
        refine zg_iload zi_219_863 rfl ?_
        refine zg_const (v := 1) zi_219_864 (by rfl) ?_
        refine zg_iadd zi_219_865 ?_
        obtain ⟨t210, hw⟩ := hw
        obtain ⟨hb, hw⟩ := hw
        refine zg_iaload (v := .int (zI h208 a0 (a3 + 1 : Int32).toNatClampNeg)) zi_219_866 t210 hb rfl ?_
        refine zg_aload zi_219_867 rfl ?_
        refine zg_iload zi_219_868 rfl ?_
        refine zg_const (v := 2) zi_219_869 (by rfl) ?_
        refine zg_iadd zi_219_870 ?_
        obtain ⟨hb, hw⟩ := hw
        refine zg_iaload (v := .int (zI h208 a0 (a3 + 2 : Int32).toNatClampNeg)) zi_219_871 t210 hb rfl ?_
        refine zg_aload zi_219_872 rfl ?_
        refine zg_iload zi_219_873 rfl ?_
        refine zg_const (v := 3) zi_219_874 (by rfl) ?_
        refine zg_iadd zi_219_875 ?_
        obtain ⟨hb, hw⟩ := hw
        refine zg_iaload (v := .int (zI h208 a0 (a3 + 3 : Int32).toNatClampNeg)) zi_219_876 t210 hb rfl ?_
        obtain ⟨t211, hw⟩ := hw
        refine Gx.call2 (as := [.ref a2, .int (zI h208 a0 (a3 + 1 : Int32).toNatClampNeg), .int (zI h208 a0 (a3 + 2 : Int32).toNatClampNeg), .int (zI h208 a0 (a3 + 3 : Int32).toNatClampNeg)]) (rest := [.int x209]) zq_215 zi_219_877 rfl rfl rfl (Nat.le_of_ble_eq_true rfl) (Nat.le_of_ble_eq_true rfl) (zrv_v t211 rfl rfl) (Nat.le_of_ble_eq_true rfl) ?_
        refine Ct.mono hw ?_
        rintro v h212 ⟨x213, rfl, hw⟩
        show Gx E (d + 1) 219 878 [.ref a0, .ref a1, .ref a2, .int a3] [.int x213, .int x209] h212 Q
        refine zg_icmp_eq zi_219_878 (fun hc => ?_) (fun hc => ?_)
        · have hw := hw.1 hc
          obtain ⟨x214, ex214⟩ : ∃ x : Int32, x = a3 + 8 := ⟨_, rfl⟩
          have hw := hw x214 ex214
          refine zg_iinc (v := x214) (ls1 := [.ref a0, .ref a1, .ref a2, .int x214]) zi_219_952 rfl (by rw [ex214]; rfl) rfl ?_
          refine zg_goto zi_219_953 ?_
          exact ih a0 a1 a2 x214 h212 hw
        · have hw := hw.2 hc
          refine zg_const (v := 0) zi_219_879 (by rfl) ?_
          exact zg_zreturn zi_219_880 (by decide) hw
      have hw := hw.2
      by_cases hv27 : ((zI h a0 a3.toNatClampNeg) &&& 31 : Int32).toInt = 27
      · have hw := hw.1 hv27
        refine zg_switch (t := 881) zi_219_21 (by rw [hv27]; rfl) ?_
        refine zg_aload zi_219_881 rfl ?_
        refine zg_aload zi_219_882 rfl ?_
        refine zg_iload zi_219_883 rfl ?_
        refine zg_const (v := 1) zi_219_884 (by rfl) ?_
        refine zg_iadd zi_219_885 ?_
        obtain ⟨hb, hw⟩ := hw
        refine zg_iaload (v := .int (zI h a0 (a3 + 1 : Int32).toNatClampNeg)) zi_219_886 t9 hb rfl ?_
        refine zg_aload zi_219_887 rfl ?_
        refine zg_iload zi_219_888 rfl ?_
        refine zg_const (v := 2) zi_219_889 (by rfl) ?_
        refine zg_iadd zi_219_890 ?_
        obtain ⟨hb, hw⟩ := hw
        refine zg_iaload (v := .int (zI h a0 (a3 + 2 : Int32).toNatClampNeg)) zi_219_891 t9 hb rfl ?_
        refine zg_aload zi_219_892 rfl ?_
        refine zg_iload zi_219_893 rfl ?_
        refine zg_const (v := 3) zi_219_894 (by rfl) ?_
        refine zg_iadd zi_219_895 ?_
        obtain ⟨hb, hw⟩ := hw
        refine zg_iaload (v := .int (zI h a0 (a3 + 3 : Int32).toNatClampNeg)) zi_219_896 t9 hb rfl ?_
        refine zg_aload zi_219_897 rfl ?_
        refine zg_iload zi_219_898 rfl ?_
        refine zg_const (v := 4) zi_219_899 (by rfl) ?_
        refine zg_iadd zi_219_900 ?_
        obtain ⟨hb, hw⟩ := hw
        refine zg_iaload (v := .int (zI h a0 (a3 + 4 : Int32).toNatClampNeg)) zi_219_901 t9 hb rfl ?_
        obtain ⟨t215, hw⟩ := hw
        refine Gx.call2 (as := [.ref a1, .int (zI h a0 (a3 + 1 : Int32).toNatClampNeg), .int (zI h a0 (a3 + 2 : Int32).toNatClampNeg), .int (zI h a0 (a3 + 3 : Int32).toNatClampNeg), .int (zI h a0 (a3 + 4 : Int32).toNatClampNeg)]) (rest := []) zq_117 zi_219_902 rfl rfl rfl (Nat.le_of_ble_eq_true rfl) (Nat.le_of_ble_eq_true rfl) (zrv_v t215 rfl rfl) (Nat.le_of_ble_eq_true rfl) ?_
        refine Ct.mono hw ?_
        rintro v h216 ⟨x217, rfl, hw⟩
        show Gx E (d + 1) 219 903 [.ref a0, .ref a1, .ref a2, .int a3] [.int x217] h216 Q
        refine zg_aload zi_219_903 rfl ?_
        refine zg_aload zi_219_904 rfl ?_
        refine zg_iload zi_219_905 rfl ?_
        refine zg_const (v := 1) zi_219_906 (by rfl) ?_
        refine zg_iadd zi_219_907 ?_
        obtain ⟨t218, hw⟩ := hw
        obtain ⟨hb, hw⟩ := hw
        refine zg_iaload (v := .int (zI h216 a0 (a3 + 1 : Int32).toNatClampNeg)) zi_219_908 t218 hb rfl ?_
        refine zg_aload zi_219_909 rfl ?_
        refine zg_iload zi_219_910 rfl ?_
        refine zg_const (v := 2) zi_219_911 (by rfl) ?_
        refine zg_iadd zi_219_912 ?_
        obtain ⟨hb, hw⟩ := hw
        refine zg_iaload (v := .int (zI h216 a0 (a3 + 2 : Int32).toNatClampNeg)) zi_219_913 t218 hb rfl ?_
        refine zg_aload zi_219_914 rfl ?_
        refine zg_iload zi_219_915 rfl ?_
        refine zg_const (v := 3) zi_219_916 (by rfl) ?_
        refine zg_iadd zi_219_917 ?_
        obtain ⟨hb, hw⟩ := hw
        refine zg_iaload (v := .int (zI h216 a0 (a3 + 3 : Int32).toNatClampNeg)) zi_219_918 t218 hb rfl ?_
        refine zg_aload zi_219_919 rfl ?_
        refine zg_iload zi_219_920 rfl ?_
        refine zg_const (v := 4) zi_219_921 (by rfl) ?_
        refine zg_iadd zi_219_922 ?_
        obtain ⟨hb, hw⟩ := hw
        refine zg_iaload (v := .int (zI h216 a0 (a3 + 4 : Int32).toNatClampNeg)) zi_219_923 t218 hb rfl ?_
        obtain ⟨t219, hw⟩ := hw
        refine Gx.call2 (as := [.ref a2, .int (zI h216 a0 (a3 + 1 : Int32).toNatClampNeg), .int (zI h216 a0 (a3 + 2 : Int32).toNatClampNeg), .int (zI h216 a0 (a3 + 3 : Int32).toNatClampNeg), .int (zI h216 a0 (a3 + 4 : Int32).toNatClampNeg)]) (rest := [.int x217]) zq_216 zi_219_924 rfl rfl rfl (Nat.le_of_ble_eq_true rfl) (Nat.le_of_ble_eq_true rfl) (zrv_v t219 rfl rfl) (Nat.le_of_ble_eq_true rfl) ?_
        refine Ct.mono hw ?_
        rintro v h220 ⟨x221, rfl, hw⟩
        show Gx E (d + 1) 219 925 [.ref a0, .ref a1, .ref a2, .int a3] [.int x221, .int x217] h220 Q
        refine zg_icmp_eq zi_219_925 (fun hc => ?_) (fun hc => ?_)
        · have hw := hw.1 hc
          obtain ⟨x222, ex222⟩ : ∃ x : Int32, x = a3 + 8 := ⟨_, rfl⟩
          have hw := hw x222 ex222
          refine zg_iinc (v := x222) (ls1 := [.ref a0, .ref a1, .ref a2, .int x222]) zi_219_952 rfl (by rw [ex222]; rfl) rfl ?_
          refine zg_goto zi_219_953 ?_
          exact ih a0 a1 a2 x222 h220 hw
        · have hw := hw.2 hc
          refine zg_const (v := 0) zi_219_926 (by rfl) ?_
          exact zg_zreturn zi_219_927 (by decide) hw
      have hw := hw.2
      by_cases hv28 : ((zI h a0 a3.toNatClampNeg) &&& 31 : Int32).toInt = 28
      · have hw := hw.1 hv28
        refine zg_switch (t := 928) zi_219_21 (by rw [hv28]; rfl) ?_
        refine zg_aload zi_219_928 rfl ?_
        obtain ⟨t223, hw⟩ := hw
        obtain ⟨hd, hs, hw⟩ := hw
        refine Gx.call2 (as := [.ref a1]) (rest := []) zq_118 zi_219_929 rfl rfl rfl (Nat.le_of_ble_eq_true rfl) (Nat.le_of_ble_eq_true rfl) (zrv_v t223 rfl rfl) (Nat.le_of_ble_eq_true rfl) ?_
        refine cz_118 hd hs ?_
        show Gx E (d + 1) 219 930 [.ref a0, .ref a1, .ref a2, .int a3] [.int (fz_118 E h a1)] h Q
        refine zg_aload zi_219_930 rfl ?_
        obtain ⟨t224, hw⟩ := hw
        obtain ⟨hd, hs, hw⟩ := hw
        refine Gx.call2 (as := [.ref a2]) (rest := [.int (fz_118 E h a1)]) zq_217 zi_219_931 rfl rfl rfl (Nat.le_of_ble_eq_true rfl) (Nat.le_of_ble_eq_true rfl) (zrv_v t224 rfl rfl) (Nat.le_of_ble_eq_true rfl) ?_
        refine cz_217 hd hs ?_
        show Gx E (d + 1) 219 932 [.ref a0, .ref a1, .ref a2, .int a3] [.int (fz_217 E h a2), .int (fz_118 E h a1)] h Q
        refine zg_icmp_eq zi_219_932 (fun hc => ?_) (fun hc => ?_)
        · have hw := hw.1 hc
          obtain ⟨x225, ex225⟩ : ∃ x : Int32, x = a3 + 8 := ⟨_, rfl⟩
          have hw := hw x225 ex225
          refine zg_iinc (v := x225) (ls1 := [.ref a0, .ref a1, .ref a2, .int x225]) zi_219_952 rfl (by rw [ex225]; rfl) rfl ?_
          refine zg_goto zi_219_953 ?_
          exact ih a0 a1 a2 x225 h hw
        · have hw := hw.2 hc
          refine zg_const (v := 0) zi_219_933 (by rfl) ?_
          exact zg_zreturn zi_219_934 (by decide) hw
      have hw := hw.2
      have hv29 : ((zI h a0 a3.toNatClampNeg) &&& 31 : Int32).toInt = 29 := zsl_219_21 _ ho hv0 hv1 hv2 hv3 hv4 hv5 hv6 hv7 hv8 hv9 hv10 hv11 hv12 hv13 hv14 hv15 hv16 hv17 hv18 hv19 hv20 hv21 hv22 hv23 hv24 hv25 hv26 hv27 hv28
      have hw := hw hv29
      refine zg_switch (t := 935) zi_219_21 (by rw [hv29]; rfl) ?_
      refine zg_aload zi_219_935 rfl ?_
      refine zg_aload zi_219_936 rfl ?_
      refine zg_iload zi_219_937 rfl ?_
      refine zg_const (v := 1) zi_219_938 (by rfl) ?_
      refine zg_iadd zi_219_939 ?_
      obtain ⟨hb, hw⟩ := hw
      refine zg_iaload (v := .int (zI h a0 (a3 + 1 : Int32).toNatClampNeg)) zi_219_940 t9 hb rfl ?_
      obtain ⟨t226, hw⟩ := hw
      refine Gx.call2 (as := [.ref a1, .int (zI h a0 (a3 + 1 : Int32).toNatClampNeg)]) (rest := []) zq_119 zi_219_941 rfl rfl rfl (Nat.le_of_ble_eq_true rfl) (Nat.le_of_ble_eq_true rfl) (zrv_v t226 rfl rfl) (Nat.le_of_ble_eq_true rfl) ?_
      refine Ct.mono hw ?_
      rintro v h227 ⟨x228, rfl, hw⟩
      show Gx E (d + 1) 219 942 [.ref a0, .ref a1, .ref a2, .int a3] [.int x228] h227 Q
      refine zg_aload zi_219_942 rfl ?_
      refine zg_aload zi_219_943 rfl ?_
      refine zg_iload zi_219_944 rfl ?_
      refine zg_const (v := 1) zi_219_945 (by rfl) ?_
      refine zg_iadd zi_219_946 ?_
      obtain ⟨t229, hw⟩ := hw
      obtain ⟨hb, hw⟩ := hw
      refine zg_iaload (v := .int (zI h227 a0 (a3 + 1 : Int32).toNatClampNeg)) zi_219_947 t229 hb rfl ?_
      obtain ⟨t230, hw⟩ := hw
      refine Gx.call2 (as := [.ref a2, .int (zI h227 a0 (a3 + 1 : Int32).toNatClampNeg)]) (rest := [.int x228]) zq_218 zi_219_948 rfl rfl rfl (Nat.le_of_ble_eq_true rfl) (Nat.le_of_ble_eq_true rfl) (zrv_v t230 rfl rfl) (Nat.le_of_ble_eq_true rfl) ?_
      refine Ct.mono hw ?_
      rintro v h231 ⟨x232, rfl, hw⟩
      show Gx E (d + 1) 219 949 [.ref a0, .ref a1, .ref a2, .int a3] [.int x232, .int x228] h231 Q
      refine zg_icmp_eq zi_219_949 (fun hc => ?_) (fun hc => ?_)
      · have hw := hw.1 hc
        obtain ⟨x233, ex233⟩ : ∃ x : Int32, x = a3 + 8 := ⟨_, rfl⟩
        have hw := hw x233 ex233
        refine zg_iinc (v := x233) (ls1 := [.ref a0, .ref a1, .ref a2, .int x233]) zi_219_952 rfl (by rw [ex233]; rfl) rfl ?_
        refine zg_goto zi_219_953 ?_
        exact ih a0 a1 a2 x233 h231 hw
      · have hw := hw.2 hc
        refine zg_const (v := 0) zi_219_950 (by rfl) ?_
        exact zg_zreturn zi_219_951 (by decide) hw
set_option maxRecDepth 100000 in
/-- TakeOrPayLaw.law([I)Z -/
def w_219 (E : Nat → Nat) (d : Nat) (a0 : Nat) (h : ZH) (Q : Option Value → ZH → Prop) : Prop := ∀ h1 : ZH, h1 = (znew h 10 (zN 10)) → ∀ r2 : Nat, r2 = (zsz h) → ztag h1 r2 = 10 ∧ Ct E d 89 [.ref r2] h1 (fun v h4 => v = none ∧ ∀ h5 : ZH, h5 = (znew h4 11 (zN 11)) → ∀ r6 : Nat, r6 = (zsz h4) → ztag h5 r6 = 11 ∧ Ct E d 134 [.ref r6] h5 (fun v h8 => v = none ∧ (∃ mm : Nat, wl_219_10 E d Q mm a0 r2 r6 0 h8)))
set_option maxRecDepth 100000 in
set_option maxHeartbeats 16000000 in
theorem ok_219 {E : Nat → Nat} {d : Nat} {a0 : Nat} {h : ZH} {Q : Option Value → ZH → Prop} (hw : w_219 E d a0 h Q) : Ct E (d + 1) 219 [.ref a0] h Q := by
  unfold w_219 at hw
  show Gx E (d + 1) 219 0 [.ref a0, .retAddr 0, .retAddr 0, .retAddr 0] [] h Q
  refine zg_new zi_219_0 (by decide) ?_
  refine zg_nameH fun h1 eh1 => ?_
  have hw := hw h1 eh1
  refine zg_nameA fun r2 er2 => ?_
  have hw := hw r2 er2
  refine zg_dup zi_219_1 rfl ?_
  obtain ⟨t3, hw⟩ := hw
  refine Gx.call2 (as := [.ref r2]) (rest := [.ref r2]) zq_89 zi_219_2 rfl rfl rfl (Nat.le_of_ble_eq_true rfl) (Nat.le_of_ble_eq_true rfl) (zrv_i t3 rfl rfl) (Nat.le_of_ble_eq_true rfl) ?_
  refine Ct.mono hw ?_
  rintro v h4 ⟨rfl, hw⟩
  show Gx E (d + 1) 219 3 [.ref a0, .retAddr 0, .retAddr 0, .retAddr 0] [.ref r2] h4 Q
  refine zg_astore (ls1 := [.ref a0, .ref r2, .retAddr 0, .retAddr 0]) zi_219_3 (Nat.le_of_ble_eq_true rfl) rfl ?_
  refine zg_new zi_219_4 (by decide) ?_
  refine zg_nameH fun h5 eh5 => ?_
  have hw := hw h5 eh5
  refine zg_nameA fun r6 er6 => ?_
  have hw := hw r6 er6
  refine zg_dup zi_219_5 rfl ?_
  obtain ⟨t7, hw⟩ := hw
  refine Gx.call2 (as := [.ref r6]) (rest := [.ref r6]) zq_134 zi_219_6 rfl rfl rfl (Nat.le_of_ble_eq_true rfl) (Nat.le_of_ble_eq_true rfl) (zrv_i t7 rfl rfl) (Nat.le_of_ble_eq_true rfl) ?_
  refine Ct.mono hw ?_
  rintro v h8 ⟨rfl, hw⟩
  show Gx E (d + 1) 219 7 [.ref a0, .ref r2, .retAddr 0, .retAddr 0] [.ref r6] h8 Q
  refine zg_astore (ls1 := [.ref a0, .ref r2, .ref r6, .retAddr 0]) zi_219_7 (Nat.le_of_ble_eq_true rfl) rfl ?_
  refine zg_const (v := 0) zi_219_8 (by rfl) ?_
  refine zg_istore (ls1 := [.ref a0, .ref r2, .ref r6, .int 0]) zi_219_9 (Nat.le_of_ble_eq_true rfl) rfl ?_
  obtain ⟨mm, hw⟩ := hw
  exact okl_219_10 mm a0 r2 r6 0 h8 hw
