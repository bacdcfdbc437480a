/-! every row of code is as it must be: printed by wip/whole/gen/gen_ok.py -/
set_option maxRecDepth 100000 in
theorem okm_156 : okT 156 404 = true := by decide +kernel
set_option maxRecDepth 100000 in
theorem okm_157 : okT 157 19 = true := by decide +kernel
set_option maxRecDepth 100000 in
theorem okm_158 : okT 158 103 = true := by decide +kernel
set_option maxRecDepth 100000 in
theorem okm_159 : okT 159 14 = true := by decide +kernel
set_option maxRecDepth 100000 in
theorem okm_160 : okT 160 32 = true := by decide +kernel
set_option maxRecDepth 100000 in
theorem okm_161 : okT 161 14 = true := by decide +kernel
set_option maxRecDepth 100000 in
theorem okm_162 : okT 162 32 = true := by decide +kernel
set_option maxRecDepth 100000 in
theorem okm_163 : okT 163 14 = true := by decide +kernel
set_option maxRecDepth 100000 in
theorem okm_164 : okT 164 38 = true := by decide +kernel
set_option maxRecDepth 100000 in
theorem okm_165 : okT 165 42 = true := by decide +kernel
set_option maxRecDepth 100000 in
theorem okm_166 : okT 166 105 = true := by decide +kernel
set_option maxRecDepth 100000 in
theorem okm_167 : okT 167 128 = true := by decide +kernel
set_option maxRecDepth 100000 in
theorem okm_168 : okT 168 104 = true := by decide +kernel
set_option maxRecDepth 100000 in
theorem okm_169 : okT 169 44 = true := by decide +kernel
set_option maxRecDepth 100000 in
theorem okm_170 : okT 170 38 = true := by decide +kernel
set_option maxRecDepth 100000 in
theorem okm_171 : okT 171 147 = true := by decide +kernel
set_option maxRecDepth 100000 in
theorem okm_172 : okT 172 122 = true := by decide +kernel
set_option maxRecDepth 100000 in
theorem okm_173 : okT 173 30 = true := by decide +kernel
set_option maxRecDepth 100000 in
theorem okm_174 : okT 174 20 = true := by decide +kernel
set_option maxRecDepth 100000 in
theorem okm_175 : okT 175 39 = true := by decide +kernel
set_option maxRecDepth 100000 in
theorem okm_176 : okT 176 72 = true := by decide +kernel
set_option maxRecDepth 100000 in
theorem okm_177 : okT 177 121 = true := by decide +kernel
set_option maxRecDepth 100000 in
theorem okm_178 : okT 178 42 = true := by decide +kernel
set_option maxRecDepth 100000 in
theorem okm_179 : okT 179 143 = true := by decide +kernel
set_option maxRecDepth 100000 in
theorem okm_180 : okT 180 58 = true := by decide +kernel
set_option maxRecDepth 100000 in
theorem okm_181 : okT 181 145 = true := by decide +kernel
set_option maxRecDepth 100000 in
theorem okm_182 : okT 182 135 = true := by decide +kernel
set_option maxRecDepth 100000 in
theorem okm_183 : okT 183 67 = true := by decide +kernel
set_option maxRecDepth 100000 in
theorem okm_184 : okT 184 138 = true := by decide +kernel
set_option maxRecDepth 100000 in
theorem okm_185 : okT 185 115 = true := by decide +kernel
set_option maxRecDepth 100000 in
theorem okm_186 : okT 186 139 = true := by decide +kernel
set_option maxRecDepth 100000 in
theorem okm_187 : okT 187 92 = true := by decide +kernel
set_option maxRecDepth 100000 in
theorem okm_188 : okT 188 27 = true := by decide +kernel
set_option maxRecDepth 100000 in
theorem okm_189 : okT 189 69 = true := by decide +kernel
set_option maxRecDepth 100000 in
theorem okm_190 : okT 190 56 = true := by decide +kernel
set_option maxRecDepth 100000 in
theorem okm_191 : okT 191 14 = true := by decide +kernel
set_option maxRecDepth 100000 in
theorem okm_192 : okT 192 54 = true := by decide +kernel
set_option maxRecDepth 100000 in
theorem okm_193 : okT 193 42 = true := by decide +kernel
set_option maxRecDepth 100000 in
theorem okm_194 : okT 194 19 = true := by decide +kernel
set_option maxRecDepth 100000 in
theorem okm_195 : okT 195 23 = true := by decide +kernel
set_option maxRecDepth 100000 in
theorem okm_196 : okT 196 13 = true := by decide +kernel
set_option maxRecDepth 100000 in
theorem okm_197 : okT 197 168 = true := by decide +kernel
set_option maxRecDepth 100000 in
theorem okm_198 : okT 198 32 = true := by decide +kernel
set_option maxRecDepth 100000 in
theorem okm_199 : okT 199 282 = true := by decide +kernel
set_option maxRecDepth 100000 in
theorem okm_200 : okT 200 258 = true := by decide +kernel
set_option maxRecDepth 100000 in
theorem okm_201 : okT 201 91 = true := by decide +kernel
set_option maxRecDepth 100000 in
theorem okm_202 : okT 202 134 = true := by decide +kernel
set_option maxRecDepth 100000 in
theorem okm_203 : okT 203 65 = true := by decide +kernel
set_option maxRecDepth 100000 in
theorem okm_204 : okT 204 50 = true := by decide +kernel
set_option maxRecDepth 100000 in
theorem okm_205 : okT 205 20 = true := by decide +kernel
set_option maxRecDepth 100000 in
theorem okm_206 : okT 206 35 = true := by decide +kernel
set_option maxRecDepth 100000 in
theorem okm_207 : okT 207 145 = true := by decide +kernel
set_option maxRecDepth 100000 in
theorem okm_208 : okT 208 135 = true := by decide +kernel
set_option maxRecDepth 100000 in
theorem okm_209 : okT 209 53 = true := by decide +kernel
set_option maxRecDepth 100000 in
theorem okm_210 : okT 210 28 = true := by decide +kernel
set_option maxRecDepth 100000 in
theorem okm_211 : okT 211 131 = true := by decide +kernel
set_option maxRecDepth 100000 in
theorem okm_212 : okT 212 144 = true := by decide +kernel
set_option maxRecDepth 100000 in
theorem okm_213 : okT 213 208 = true := by decide +kernel
set_option maxRecDepth 100000 in
theorem okm_214 : okT 214 194 = true := by decide +kernel
set_option maxRecDepth 100000 in
theorem okm_215 : okT 215 232 = true := by decide +kernel
set_option maxRecDepth 100000 in
theorem okm_216 : okT 216 154 = true := by decide +kernel
set_option maxRecDepth 100000 in
theorem okm_217 : okT 217 64 = true := by decide +kernel
set_option maxRecDepth 100000 in
theorem okm_218 : okT 218 47 = true := by decide +kernel
set_option maxRecDepth 100000 in
theorem okm_219 : okT 219 318 = true := by decide +kernel
set_option maxRecDepth 100000 in
theorem okm_220 : okT 220 85 = true := by decide +kernel
set_option maxRecDepth 100000 in
theorem okm_221 : okT 221 108 = true := by decide +kernel
set_option maxRecDepth 100000 in
theorem okm_222 : okT 222 402 = true := by decide +kernel
set_option maxRecDepth 100000 in
theorem okm_223 : okT 223 114 = true := by decide +kernel
set_option maxRecDepth 100000 in
theorem okm_224 : okT 224 78 = true := by decide +kernel
set_option maxRecDepth 100000 in
theorem okm_225 : okT 225 162 = true := by decide +kernel
set_option maxRecDepth 100000 in
theorem okm_226 : okT 226 64 = true := by decide +kernel
set_option maxRecDepth 100000 in
theorem okm_227 : okT 227 12 = true := by decide +kernel
set_option maxRecDepth 100000 in
theorem okm_228 : okT 228 26 = true := by decide +kernel
set_option maxRecDepth 100000 in
theorem okm_229 : okT 229 90 = true := by decide +kernel
set_option maxRecDepth 100000 in
theorem okm_230 : okT 230 134 = true := by decide +kernel
