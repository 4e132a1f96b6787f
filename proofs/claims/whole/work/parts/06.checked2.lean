/-! checks, on -/
set_option maxRecDepth 100000 in
theorem zk_132 : zchk 132 = true := by decide +kernel
set_option maxRecDepth 100000 in
theorem zw_132 : zMPw 132 (zmp 132) = true := by decide +kernel
set_option maxRecDepth 100000 in
theorem zk_133 : zchk 133 = true := by decide +kernel
set_option maxRecDepth 100000 in
theorem zw_133 : zMPw 133 (zmp 133) = true := by decide +kernel
set_option maxRecDepth 100000 in
theorem zk_135 : zchk 135 = true := by decide +kernel
set_option maxRecDepth 100000 in
theorem zw_135 : zMPw 135 (zmp 135) = true := by decide +kernel
set_option maxRecDepth 100000 in
theorem zk_136 : zchk 136 = true := by decide +kernel
set_option maxRecDepth 100000 in
theorem zw_136 : zMPw 136 (zmp 136) = true := by decide +kernel
set_option maxRecDepth 100000 in
theorem zk_137 : zchk 137 = true := by decide +kernel
set_option maxRecDepth 100000 in
theorem zw_137 : zMPw 137 (zmp 137) = true := by decide +kernel
set_option maxRecDepth 100000 in
theorem zk_138 : zchk 138 = true := by decide +kernel
set_option maxRecDepth 100000 in
theorem zw_138 : zMPw 138 (zmp 138) = true := by decide +kernel
set_option maxRecDepth 100000 in
theorem zk_139 : zchk 139 = true := by decide +kernel
set_option maxRecDepth 100000 in
theorem zw_139 : zMPw 139 (zmp 139) = true := by decide +kernel
set_option maxRecDepth 100000 in
theorem zk_140 : zchk 140 = true := by decide +kernel
set_option maxRecDepth 100000 in
theorem zw_140 : zMPw 140 (zmp 140) = true := by decide +kernel
set_option maxRecDepth 100000 in
theorem zk_141 : zchk 141 = true := by decide +kernel
set_option maxRecDepth 100000 in
theorem zw_141 : zMPw 141 (zmp 141) = true := by decide +kernel
set_option maxRecDepth 100000 in
theorem zk_142 : zchk 142 = true := by decide +kernel
set_option maxRecDepth 100000 in
theorem zw_142 : zMPw 142 (zmp 142) = true := by decide +kernel
set_option maxRecDepth 100000 in
theorem zk_143 : zchk 143 = true := by decide +kernel
set_option maxRecDepth 100000 in
theorem zw_143 : zMPw 143 (zmp 143) = true := by decide +kernel
set_option maxRecDepth 100000 in
theorem zk_144 : zchk 144 = true := by decide +kernel
set_option maxRecDepth 100000 in
theorem zw_144 : zMPw 144 (zmp 144) = true := by decide +kernel
set_option maxRecDepth 100000 in
theorem zk_145 : zchk 145 = true := by decide +kernel
set_option maxRecDepth 100000 in
theorem zw_145 : zMPw 145 (zmp 145) = true := by decide +kernel
set_option maxRecDepth 100000 in
theorem zk_146 : zchk 146 = true := by decide +kernel
set_option maxRecDepth 100000 in
theorem zw_146 : zMPw 146 (zmp 146) = true := by decide +kernel
set_option maxRecDepth 100000 in
theorem zk_147 : zchk 147 = true := by decide +kernel
set_option maxRecDepth 100000 in
theorem zw_147 : zMPw 147 (zmp 147) = true := by decide +kernel
set_option maxRecDepth 100000 in
theorem zk_148 : zchk 148 = true := by decide +kernel
set_option maxRecDepth 100000 in
theorem zw_148 : zMPw 148 (zmp 148) = true := by decide +kernel
set_option maxRecDepth 100000 in
theorem zk_149 : zchk 149 = true := by decide +kernel
set_option maxRecDepth 100000 in
theorem zw_149 : zMPw 149 (zmp 149) = true := by decide +kernel
set_option maxRecDepth 100000 in
theorem zk_150 : zchk 150 = true := by decide +kernel
set_option maxRecDepth 100000 in
theorem zw_150 : zMPw 150 (zmp 150) = true := by decide +kernel
set_option maxRecDepth 100000 in
theorem zk_151 : zchk 151 = true := by decide +kernel
set_option maxRecDepth 100000 in
theorem zw_151 : zMPw 151 (zmp 151) = true := by decide +kernel
set_option maxRecDepth 100000 in
theorem zk_152 : zchk 152 = true := by decide +kernel
set_option maxRecDepth 100000 in
theorem zw_152 : zMPw 152 (zmp 152) = true := by decide +kernel
set_option maxRecDepth 100000 in
theorem zk_153 : zchk 153 = true := by decide +kernel
set_option maxRecDepth 100000 in
theorem zw_153 : zMPw 153 (zmp 153) = true := by decide +kernel
set_option maxRecDepth 100000 in
theorem zk_154 : zchk 154 = true := by decide +kernel
set_option maxRecDepth 100000 in
theorem zw_154 : zMPw 154 (zmp 154) = true := by decide +kernel
set_option maxRecDepth 100000 in
theorem zk_155 : zchk 155 = true := by decide +kernel
set_option maxRecDepth 100000 in
theorem zw_155 : zMPw 155 (zmp 155) = true := by decide +kernel
set_option maxRecDepth 100000 in
theorem zk_156 : zchk 156 = true := by decide +kernel
set_option maxRecDepth 100000 in
theorem zw_156 : zMPw 156 (zmp 156) = true := by decide +kernel
set_option maxRecDepth 100000 in
theorem zk_157 : zchk 157 = true := by decide +kernel
set_option maxRecDepth 100000 in
theorem zw_157 : zMPw 157 (zmp 157) = true := by decide +kernel
set_option maxRecDepth 100000 in
theorem zk_158 : zchk 158 = true := by decide +kernel
set_option maxRecDepth 100000 in
theorem zw_158 : zMPw 158 (zmp 158) = true := by decide +kernel
set_option maxRecDepth 100000 in
theorem zk_159 : zchk 159 = true := by decide +kernel
set_option maxRecDepth 100000 in
theorem zw_159 : zMPw 159 (zmp 159) = true := by decide +kernel
set_option maxRecDepth 100000 in
theorem zk_160 : zchk 160 = true := by decide +kernel
set_option maxRecDepth 100000 in
theorem zw_160 : zMPw 160 (zmp 160) = true := by decide +kernel
set_option maxRecDepth 100000 in
theorem zk_161 : zchk 161 = true := by decide +kernel
set_option maxRecDepth 100000 in
theorem zw_161 : zMPw 161 (zmp 161) = true := by decide +kernel
set_option maxRecDepth 100000 in
theorem zk_162 : zchk 162 = true := by decide +kernel
set_option maxRecDepth 100000 in
theorem zw_162 : zMPw 162 (zmp 162) = true := by decide +kernel
set_option maxRecDepth 100000 in
theorem zk_163 : zchk 163 = true := by decide +kernel
set_option maxRecDepth 100000 in
theorem zw_163 : zMPw 163 (zmp 163) = true := by decide +kernel
set_option maxRecDepth 100000 in
theorem zk_164 : zchk 164 = true := by decide +kernel
set_option maxRecDepth 100000 in
theorem zw_164 : zMPw 164 (zmp 164) = true := by decide +kernel
set_option maxRecDepth 100000 in
theorem zk_165 : zchk 165 = true := by decide +kernel
set_option maxRecDepth 100000 in
theorem zw_165 : zMPw 165 (zmp 165) = true := by decide +kernel
set_option maxRecDepth 100000 in
theorem zk_166 : zchk 166 = true := by decide +kernel
set_option maxRecDepth 100000 in
theorem zw_166 : zMPw 166 (zmp 166) = true := by decide +kernel
set_option maxRecDepth 100000 in
theorem zk_167 : zchk 167 = true := by decide +kernel
set_option maxRecDepth 100000 in
theorem zw_167 : zMPw 167 (zmp 167) = true := by decide +kernel
set_option maxRecDepth 100000 in
theorem zk_168 : zchk 168 = true := by decide +kernel
set_option maxRecDepth 100000 in
theorem zw_168 : zMPw 168 (zmp 168) = true := by decide +kernel
set_option maxRecDepth 100000 in
theorem zk_169 : zchk 169 = true := by decide +kernel
set_option maxRecDepth 100000 in
theorem zw_169 : zMPw 169 (zmp 169) = true := by decide +kernel
set_option maxRecDepth 100000 in
theorem zk_170 : zchk 170 = true := by decide +kernel
set_option maxRecDepth 100000 in
theorem zw_170 : zMPw 170 (zmp 170) = true := by decide +kernel
set_option maxRecDepth 100000 in
theorem zk_171 : zchk 171 = true := by decide +kernel
set_option maxRecDepth 100000 in
theorem zw_171 : zMPw 171 (zmp 171) = true := by decide +kernel
set_option maxRecDepth 100000 in
theorem zk_172 : zchk 172 = true := by decide +kernel
set_option maxRecDepth 100000 in
theorem zw_172 : zMPw 172 (zmp 172) = true := by decide +kernel
set_option maxRecDepth 100000 in
theorem zk_173 : zchk 173 = true := by decide +kernel
set_option maxRecDepth 100000 in
theorem zw_173 : zMPw 173 (zmp 173) = true := by decide +kernel
set_option maxRecDepth 100000 in
theorem zk_174 : zchk 174 = true := by decide +kernel
set_option maxRecDepth 100000 in
theorem zw_174 : zMPw 174 (zmp 174) = true := by decide +kernel
set_option maxRecDepth 100000 in
theorem zk_175 : zchk 175 = true := by decide +kernel
set_option maxRecDepth 100000 in
theorem zw_175 : zMPw 175 (zmp 175) = true := by decide +kernel
set_option maxRecDepth 100000 in
theorem zk_176 : zchk 176 = true := by decide +kernel
set_option maxRecDepth 100000 in
theorem zw_176 : zMPw 176 (zmp 176) = true := by decide +kernel
set_option maxRecDepth 100000 in
theorem zk_177 : zchk 177 = true := by decide +kernel
set_option maxRecDepth 100000 in
theorem zw_177 : zMPw 177 (zmp 177) = true := by decide +kernel
set_option maxRecDepth 100000 in
theorem zk_178 : zchk 178 = true := by decide +kernel
set_option maxRecDepth 100000 in
theorem zw_178 : zMPw 178 (zmp 178) = true := by decide +kernel
set_option maxRecDepth 100000 in
theorem zk_179 : zchk 179 = true := by decide +kernel
set_option maxRecDepth 100000 in
theorem zw_179 : zMPw 179 (zmp 179) = true := by decide +kernel
set_option maxRecDepth 100000 in
theorem zk_180 : zchk 180 = true := by decide +kernel
set_option maxRecDepth 100000 in
theorem zw_180 : zMPw 180 (zmp 180) = true := by decide +kernel
set_option maxRecDepth 100000 in
theorem zk_181 : zchk 181 = true := by decide +kernel
set_option maxRecDepth 100000 in
theorem zw_181 : zMPw 181 (zmp 181) = true := by decide +kernel
set_option maxRecDepth 100000 in
theorem zk_182 : zchk 182 = true := by decide +kernel
set_option maxRecDepth 100000 in
theorem zw_182 : zMPw 182 (zmp 182) = true := by decide +kernel
set_option maxRecDepth 100000 in
theorem zk_183 : zchk 183 = true := by decide +kernel
set_option maxRecDepth 100000 in
theorem zw_183 : zMPw 183 (zmp 183) = true := by decide +kernel
set_option maxRecDepth 100000 in
theorem zk_184 : zchk 184 = true := by decide +kernel
set_option maxRecDepth 100000 in
theorem zw_184 : zMPw 184 (zmp 184) = true := by decide +kernel
set_option maxRecDepth 100000 in
theorem zk_185 : zchk 185 = true := by decide +kernel
set_option maxRecDepth 100000 in
theorem zw_185 : zMPw 185 (zmp 185) = true := by decide +kernel
set_option maxRecDepth 100000 in
theorem zk_186 : zchk 186 = true := by decide +kernel
set_option maxRecDepth 100000 in
theorem zw_186 : zMPw 186 (zmp 186) = true := by decide +kernel
set_option maxRecDepth 100000 in
theorem zk_187 : zchk 187 = true := by decide +kernel
set_option maxRecDepth 100000 in
theorem zw_187 : zMPw 187 (zmp 187) = true := by decide +kernel
set_option maxRecDepth 100000 in
theorem zk_188 : zchk 188 = true := by decide +kernel
set_option maxRecDepth 100000 in
theorem zw_188 : zMPw 188 (zmp 188) = true := by decide +kernel
set_option maxRecDepth 100000 in
theorem zk_189 : zchk 189 = true := by decide +kernel
set_option maxRecDepth 100000 in
theorem zw_189 : zMPw 189 (zmp 189) = true := by decide +kernel
set_option maxRecDepth 100000 in
theorem zk_190 : zchk 190 = true := by decide +kernel
set_option maxRecDepth 100000 in
theorem zw_190 : zMPw 190 (zmp 190) = true := by decide +kernel
set_option maxRecDepth 100000 in
theorem zk_191 : zchk 191 = true := by decide +kernel
set_option maxRecDepth 100000 in
theorem zw_191 : zMPw 191 (zmp 191) = true := by decide +kernel
set_option maxRecDepth 100000 in
theorem zk_192 : zchk 192 = true := by decide +kernel
set_option maxRecDepth 100000 in
theorem zw_192 : zMPw 192 (zmp 192) = true := by decide +kernel
set_option maxRecDepth 100000 in
theorem zk_193 : zchk 193 = true := by decide +kernel
set_option maxRecDepth 100000 in
theorem zw_193 : zMPw 193 (zmp 193) = true := by decide +kernel
set_option maxRecDepth 100000 in
theorem zk_194 : zchk 194 = true := by decide +kernel
set_option maxRecDepth 100000 in
theorem zw_194 : zMPw 194 (zmp 194) = true := by decide +kernel
set_option maxRecDepth 100000 in
theorem zk_195 : zchk 195 = true := by decide +kernel
set_option maxRecDepth 100000 in
theorem zw_195 : zMPw 195 (zmp 195) = true := by decide +kernel
set_option maxRecDepth 100000 in
theorem zk_196 : zchk 196 = true := by decide +kernel
set_option maxRecDepth 100000 in
theorem zw_196 : zMPw 196 (zmp 196) = true := by decide +kernel
set_option maxRecDepth 100000 in
theorem zk_197 : zchk 197 = true := by decide +kernel
set_option maxRecDepth 100000 in
theorem zw_197 : zMPw 197 (zmp 197) = true := by decide +kernel
set_option maxRecDepth 100000 in
theorem zk_198 : zchk 198 = true := by decide +kernel
set_option maxRecDepth 100000 in
theorem zw_198 : zMPw 198 (zmp 198) = true := by decide +kernel
set_option maxRecDepth 100000 in
theorem zk_199 : zchk 199 = true := by decide +kernel
set_option maxRecDepth 100000 in
theorem zw_199 : zMPw 199 (zmp 199) = true := by decide +kernel
set_option maxRecDepth 100000 in
theorem zk_200 : zchk 200 = true := by decide +kernel
set_option maxRecDepth 100000 in
theorem zw_200 : zMPw 200 (zmp 200) = true := by decide +kernel
set_option maxRecDepth 100000 in
theorem zk_201 : zchk 201 = true := by decide +kernel
set_option maxRecDepth 100000 in
theorem zw_201 : zMPw 201 (zmp 201) = true := by decide +kernel
set_option maxRecDepth 100000 in
theorem zk_202 : zchk 202 = true := by decide +kernel
set_option maxRecDepth 100000 in
theorem zw_202 : zMPw 202 (zmp 202) = true := by decide +kernel
set_option maxRecDepth 100000 in
theorem zk_203 : zchk 203 = true := by decide +kernel
set_option maxRecDepth 100000 in
theorem zw_203 : zMPw 203 (zmp 203) = true := by decide +kernel
set_option maxRecDepth 100000 in
theorem zk_204 : zchk 204 = true := by decide +kernel
set_option maxRecDepth 100000 in
theorem zw_204 : zMPw 204 (zmp 204) = true := by decide +kernel
set_option maxRecDepth 100000 in
theorem zk_205 : zchk 205 = true := by decide +kernel
set_option maxRecDepth 100000 in
theorem zw_205 : zMPw 205 (zmp 205) = true := by decide +kernel
set_option maxRecDepth 100000 in
theorem zk_206 : zchk 206 = true := by decide +kernel
set_option maxRecDepth 100000 in
theorem zw_206 : zMPw 206 (zmp 206) = true := by decide +kernel
set_option maxRecDepth 100000 in
theorem zk_207 : zchk 207 = true := by decide +kernel
set_option maxRecDepth 100000 in
theorem zw_207 : zMPw 207 (zmp 207) = true := by decide +kernel
set_option maxRecDepth 100000 in
theorem zk_208 : zchk 208 = true := by decide +kernel
set_option maxRecDepth 100000 in
theorem zw_208 : zMPw 208 (zmp 208) = true := by decide +kernel
set_option maxRecDepth 100000 in
theorem zk_209 : zchk 209 = true := by decide +kernel
set_option maxRecDepth 100000 in
theorem zw_209 : zMPw 209 (zmp 209) = true := by decide +kernel
set_option maxRecDepth 100000 in
theorem zk_210 : zchk 210 = true := by decide +kernel
set_option maxRecDepth 100000 in
theorem zw_210 : zMPw 210 (zmp 210) = true := by decide +kernel
set_option maxRecDepth 100000 in
theorem zk_211 : zchk 211 = true := by decide +kernel
set_option maxRecDepth 100000 in
theorem zw_211 : zMPw 211 (zmp 211) = true := by decide +kernel
set_option maxRecDepth 100000 in
theorem zk_212 : zchk 212 = true := by decide +kernel
set_option maxRecDepth 100000 in
theorem zw_212 : zMPw 212 (zmp 212) = true := by decide +kernel
set_option maxRecDepth 100000 in
theorem zk_213 : zchk 213 = true := by decide +kernel
set_option maxRecDepth 100000 in
theorem zw_213 : zMPw 213 (zmp 213) = true := by decide +kernel
set_option maxRecDepth 100000 in
theorem zk_214 : zchk 214 = true := by decide +kernel
set_option maxRecDepth 100000 in
theorem zw_214 : zMPw 214 (zmp 214) = true := by decide +kernel
set_option maxRecDepth 100000 in
theorem zk_215 : zchk 215 = true := by decide +kernel
set_option maxRecDepth 100000 in
theorem zw_215 : zMPw 215 (zmp 215) = true := by decide +kernel
set_option maxRecDepth 100000 in
theorem zk_216 : zchk 216 = true := by decide +kernel
set_option maxRecDepth 100000 in
theorem zw_216 : zMPw 216 (zmp 216) = true := by decide +kernel
set_option maxRecDepth 100000 in
theorem zk_217 : zchk 217 = true := by decide +kernel
set_option maxRecDepth 100000 in
theorem zw_217 : zMPw 217 (zmp 217) = true := by decide +kernel
set_option maxRecDepth 100000 in
theorem zk_218 : zchk 218 = true := by decide +kernel
set_option maxRecDepth 100000 in
theorem zw_218 : zMPw 218 (zmp 218) = true := by decide +kernel
