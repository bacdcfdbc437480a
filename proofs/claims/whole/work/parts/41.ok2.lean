/-! every row of code is as it must be: printed by wip/whole/gen/gen_ok.py -/
set_option maxRecDepth 100000 in
theorem okm_156 : okT 156 404 = true := by decide +kernel
set_option maxRecDepth 100000 in
theorem okm_157 : okT 157 19 = true := by decide +kernel
set_option maxRecDepth 100000 in
theorem okm_158 : okT 158 103 = true := by decide +kernel
set_option maxRecDepth 100000 in
theorem okm_159 : okT 159 14 = true := by decide +kernel
set_option maxRecDepth 100000 in
theorem okm_160 : okT 160 32 = true := by decide +kernel
set_option maxRecDepth 100000 in
theorem okm_161 : okT 161 14 = true := by decide +kernel
set_option maxRecDepth 100000 in
theorem okm_162 : okT 162 32 = true := by decide +kernel
set_option maxRecDepth 100000 in
theorem okm_163 : okT 163 14 = true := by decide +kernel
set_option maxRecDepth 100000 in
theorem okm_164 : okT 164 38 = true := by decide +kernel
set_option maxRecDepth 100000 in
theorem okm_165 : okT 165 42 = true := by decide +kernel
set_option maxRecDepth 100000 in
theorem okm_166 : okT 166 105 = true := by decide +kernel
set_option maxRecDepth 100000 in
theorem okm_167 : okT 167 128 = true := by decide +kernel
set_option maxRecDepth 100000 in
theorem okm_168 : okT 168 104 = true := by decide +kernel
set_option maxRecDepth 100000 in
theorem okm_169 : okT 169 44 = true := by decide +kernel
set_option maxRecDepth 100000 in
theorem okm_170 : okT 170 38 = true := by decide +kernel
set_option maxRecDepth 100000 in
theorem okm_171 : okT 171 147 = true := by decide +kernel
set_option maxRecDepth 100000 in
theorem okm_172 : okT 172 122 = true := by decide +kernel
set_option maxRecDepth 100000 in
theorem okm_173 : okT 173 30 = true := by decide +kernel
set_option maxRecDepth 100000 in
theorem okm_174 : okT 174 20 = true := by decide +kernel
set_option maxRecDepth 100000 in
theorem okm_175 : okT 175 39 = true := by decide +kernel
set_option maxRecDepth 100000 in
theorem okm_176 : okT 176 72 = true := by decide +kernel
set_option maxRecDepth 100000 in
theorem okm_177 : okT 177 121 = true := by decide +kernel
set_option maxRecDepth 100000 in
theorem okm_178 : okT 178 42 = true := by decide +kernel
set_option maxRecDepth 100000 in
theorem okm_179 : okT 179 143 = true := by decide +kernel
set_option maxRecDepth 100000 in
theorem okm_180 : okT 180 58 = true := by decide +kernel
set_option maxRecDepth 100000 in
theorem okm_181 : okT 181 145 = true := by decide +kernel
set_option maxRecDepth 100000 in
theorem okm_182 : okT 182 135 = true := by decide +kernel
set_option maxRecDepth 100000 in
theorem okm_183 : okT 183 67 = true := by decide +kernel
set_option maxRecDepth 100000 in
theorem okm_184 : okT 184 138 = true := by decide +kernel
set_option maxRecDepth 100000 in
theorem okm_185 : okT 185 115 = true := by decide +kernel
set_option maxRecDepth 100000 in
theorem okm_186 : okT 186 139 = true := by decide +kernel
set_option maxRecDepth 100000 in
theorem okm_187 : okT 187 92 = true := by decide +kernel
set_option maxRecDepth 100000 in
theorem okm_188 : okT 188 27 = true := by decide +kernel
set_option maxRecDepth 100000 in
theorem okm_189 : okT 189 69 = true := by decide +kernel
set_option maxRecDepth 100000 in
theorem okm_190 : okT 190 56 = true := by decide +kernel
set_option maxRecDepth 100000 in
theorem okm_191 : okT 191 14 = true := by decide +kernel
set_option maxRecDepth 100000 in
theorem okm_192 : okT 192 54 = true := by decide +kernel
set_option maxRecDepth 100000 in
theorem okm_193 : okT 193 42 = true := by decide +kernel
set_option maxRecDepth 100000 in
theorem okm_194 : okT 194 19 = true := by decide +kernel
set_option maxRecDepth 100000 in
theorem okm_195 : okT 195 23 = true := by decide +kernel
set_option maxRecDepth 100000 in
theorem okm_196 : okT 196 13 = true := by decide +kernel
set_option maxRecDepth 100000 in
theorem okm_197 : okT 197 168 = true := by decide +kernel
set_option maxRecDepth 100000 in
theorem okm_198 : okT 198 32 = true := by decide +kernel
set_option maxRecDepth 100000 in
theorem okm_199 : okT 199 282 = true := by decide +kernel
set_option maxRecDepth 100000 in
theorem okm_200 : okT 200 258 = true := by decide +kernel
set_option maxRecDepth 100000 in
theorem okm_201 : okT 201 91 = true := by decide +kernel
set_option maxRecDepth 100000 in
theorem okm_202 : okT 202 134 = true := by decide +kernel
set_option maxRecDepth 100000 in
theorem okm_203 : okT 203 65 = true := by decide +kernel
set_option maxRecDepth 100000 in
theorem okm_204 : okT 204 50 = true := by decide +kernel
set_option maxRecDepth 100000 in
theorem okm_205 : okT 205 20 = true := by decide +kernel
set_option maxRecDepth 100000 in
theorem okm_206 : okT 206 35 = true := by decide +kernel
set_option maxRecDepth 100000 in
theorem okm_207 : okT 207 145 = true := by decide +kernel
set_option maxRecDepth 100000 in
theorem okm_208 : okT 208 135 = true := by decide +kernel
set_option maxRecDepth 100000 in
theorem okm_209 : okT 209 53 = true := by decide +kernel
set_option maxRecDepth 100000 in
theorem okm_210 : okT 210 28 = true := by decide +kernel
set_option maxRecDepth 100000 in
theorem okm_211 : okT 211 131 = true := by decide +kernel
set_option maxRecDepth 100000 in
theorem okm_212 : okT 212 144 = true := by decide +kernel
set_option maxRecDepth 100000 in
theorem okm_213 : okT 213 208 = true := by decide +kernel
set_option maxRecDepth 100000 in
theorem okm_214 : okT 214 194 = true := by decide +kernel
set_option maxRecDepth 100000 in
theorem okm_215 : okT 215 232 = true := by decide +kernel
set_option maxRecDepth 100000 in
theorem okm_216 : okT 216 154 = true := by decide +kernel
set_option maxRecDepth 100000 in
theorem okm_217 : okT 217 64 = true := by decide +kernel
set_option maxRecDepth 100000 in
theorem okm_218 : okT 218 47 = true := by decide +kernel
set_option maxRecDepth 100000 in
theorem okm_219 : okT 219 318 = true := by decide +kernel
set_option maxRecDepth 100000 in
theorem okm_220 : okT 220 85 = true := by decide +kernel
set_option maxRecDepth 100000 in
theorem okm_221 : okT 221 108 = true := by decide +kernel
set_option maxRecDepth 100000 in
theorem okm_222 : okT 222 402 = true := by decide +kernel
set_option maxRecDepth 100000 in
theorem okm_223 : okT 223 114 = true := by decide +kernel
set_option maxRecDepth 100000 in
theorem okm_224 : okT 224 78 = true := by decide +kernel
set_option maxRecDepth 100000 in
theorem okm_225 : okT 225 162 = true := by decide +kernel
set_option maxRecDepth 100000 in
theorem okm_226 : okT 226 64 = true := by decide +kernel
set_option maxRecDepth 100000 in
theorem okm_227 : okT 227 12 = true := by decide +kernel
set_option maxRecDepth 100000 in
theorem okm_228 : okT 228 26 = true := by decide +kernel
set_option maxRecDepth 100000 in
theorem okm_229 : okT 229 90 = true := by decide +kernel
set_option maxRecDepth 100000 in
theorem okm_230 : okT 230 134 = true := by decide +kernel
set_option maxRecDepth 100000 in
theorem okr_0 : okR 231 0 60 = true := by decide +kernel
set_option maxRecDepth 100000 in
theorem okr_60 : okR 231 60 60 = true := by decide +kernel
set_option maxRecDepth 100000 in
theorem okr_120 : okR 231 120 60 = true := by decide +kernel
set_option maxRecDepth 100000 in
theorem okr_180 : okR 231 180 60 = true := by decide +kernel
set_option maxRecDepth 100000 in
theorem okr_240 : okR 231 240 60 = true := by decide +kernel
set_option maxRecDepth 100000 in
theorem okr_300 : okR 231 300 60 = true := by decide +kernel
set_option maxRecDepth 100000 in
theorem okr_360 : okR 231 360 60 = true := by decide +kernel
set_option maxRecDepth 100000 in
theorem okr_420 : okR 231 420 60 = true := by decide +kernel
set_option maxRecDepth 100000 in
theorem okr_480 : okR 231 480 60 = true := by decide +kernel
set_option maxRecDepth 100000 in
theorem okr_540 : okR 231 540 60 = true := by decide +kernel
set_option maxRecDepth 100000 in
theorem okr_600 : okR 231 600 60 = true := by decide +kernel
set_option maxRecDepth 100000 in
theorem okr_660 : okR 231 660 60 = true := by decide +kernel
set_option maxRecDepth 100000 in
theorem okr_720 : okR 231 720 60 = true := by decide +kernel
set_option maxRecDepth 100000 in
theorem okr_780 : okR 231 780 60 = true := by decide +kernel
set_option maxRecDepth 100000 in
theorem okr_840 : okR 231 840 60 = true := by decide +kernel
set_option maxRecDepth 100000 in
theorem okr_900 : okR 231 900 60 = true := by decide +kernel
set_option maxRecDepth 100000 in
theorem okr_960 : okR 231 960 60 = true := by decide +kernel
set_option maxRecDepth 100000 in
theorem okr_1020 : okR 231 1020 60 = true := by decide +kernel
set_option maxRecDepth 100000 in
theorem okr_1080 : okR 231 1080 60 = true := by decide +kernel
set_option maxRecDepth 100000 in
theorem okr_1140 : okR 231 1140 60 = true := by decide +kernel
set_option maxRecDepth 100000 in
theorem okr_1200 : okR 231 1200 60 = true := by decide +kernel
set_option maxRecDepth 100000 in
theorem okr_1260 : okR 231 1260 60 = true := by decide +kernel
set_option maxRecDepth 100000 in
theorem okr_1320 : okR 231 1320 60 = true := by decide +kernel
set_option maxRecDepth 100000 in
theorem okr_1380 : okR 231 1380 60 = true := by decide +kernel
set_option maxRecDepth 100000 in
theorem okr_1440 : okR 231 1440 60 = true := by decide +kernel
set_option maxRecDepth 100000 in
theorem okr_1500 : okR 231 1500 60 = true := by decide +kernel
set_option maxRecDepth 100000 in
theorem okr_1560 : okR 231 1560 60 = true := by decide +kernel
set_option maxRecDepth 100000 in
theorem okr_1620 : okR 231 1620 60 = true := by decide +kernel
set_option maxRecDepth 100000 in
theorem okr_1680 : okR 231 1680 60 = true := by decide +kernel
theorem okm_231 : okT 231 1725 = true := okr_cut (n := 1740) (by decide) (okr_cat (okr_cat (okr_cat (okr_cat (okr_cat (okr_cat (okr_cat (okr_cat (okr_cat (okr_cat (okr_cat (okr_cat (okr_cat (okr_cat (okr_cat (okr_cat (okr_cat (okr_cat (okr_cat (okr_cat (okr_cat (okr_cat (okr_cat (okr_cat (okr_cat (okr_cat (okr_cat (okr_cat (okr_cat okr_nil okr_0) okr_60) okr_120) okr_180) okr_240) okr_300) okr_360) okr_420) okr_480) okr_540) okr_600) okr_660) okr_720) okr_780) okr_840) okr_900) okr_960) okr_1020) okr_1080) okr_1140) okr_1200) okr_1260) okr_1320) okr_1380) okr_1440) okr_1500) okr_1560) okr_1620) okr_1680)
theorem okp_0 : ∀ pc e, PP 0 pc = some e → OkE 0 pc e := ok_of okm_0 (fun _ h => bif_none h _)
theorem okp_1 : ∀ pc e, PP 1 pc = some e → OkE 1 pc e := ok_of okm_1 (fun _ h => bif_none h _)
theorem okp_2 : ∀ pc e, PP 2 pc = some e → OkE 2 pc e := ok_of okm_2 (fun _ h => bif_none h _)
theorem okp_3 : ∀ pc e, PP 3 pc = some e → OkE 3 pc e := ok_of okm_3 (fun _ h => bif_none h _)
theorem okp_4 : ∀ pc e, PP 4 pc = some e → OkE 4 pc e := ok_of okm_4 (fun _ h => bif_none h _)
theorem okp_5 : ∀ pc e, PP 5 pc = some e → OkE 5 pc e := ok_of okm_5 (fun _ h => bif_none h _)
theorem okp_6 : ∀ pc e, PP 6 pc = some e → OkE 6 pc e := ok_of okm_6 (fun _ h => bif_none h _)
theorem okp_7 : ∀ pc e, PP 7 pc = some e → OkE 7 pc e := ok_of okm_7 (fun _ h => bif_none h _)
theorem okp_8 : ∀ pc e, PP 8 pc = some e → OkE 8 pc e := ok_of okm_8 (fun _ h => bif_none h _)
theorem okp_9 : ∀ pc e, PP 9 pc = some e → OkE 9 pc e := ok_of okm_9 (fun _ h => bif_none h _)
theorem okp_10 : ∀ pc e, PP 10 pc = some e → OkE 10 pc e := ok_of okm_10 (fun _ h => bif_none h _)
theorem okp_11 : ∀ pc e, PP 11 pc = some e → OkE 11 pc e := ok_of okm_11 (fun _ h => bif_none h _)
theorem okp_12 : ∀ pc e, PP 12 pc = some e → OkE 12 pc e := ok_of okm_12 (fun _ h => bif_none h _)
theorem okp_13 : ∀ pc e, PP 13 pc = some e → OkE 13 pc e := ok_of okm_13 (fun _ h => bif_none h _)
theorem okp_14 : ∀ pc e, PP 14 pc = some e → OkE 14 pc e := ok_of okm_14 (fun _ h => bif_none h _)
theorem okp_15 : ∀ pc e, PP 15 pc = some e → OkE 15 pc e := ok_of okm_15 (fun _ h => bif_none h _)
theorem okp_16 : ∀ pc e, PP 16 pc = some e → OkE 16 pc e := ok_of okm_16 (fun _ h => bif_none h _)
theorem okp_17 : ∀ pc e, PP 17 pc = some e → OkE 17 pc e := ok_of okm_17 (fun _ h => bif_none h _)
theorem okp_18 : ∀ pc e, PP 18 pc = some e → OkE 18 pc e := ok_of okm_18 (fun _ h => bif_none h _)
theorem okp_19 : ∀ pc e, PP 19 pc = some e → OkE 19 pc e := ok_of okm_19 (fun _ h => bif_none h _)
theorem okp_20 : ∀ pc e, PP 20 pc = some e → OkE 20 pc e := ok_of okm_20 (fun _ h => bif_none h _)
theorem okp_21 : ∀ pc e, PP 21 pc = some e → OkE 21 pc e := ok_of okm_21 (fun _ h => bif_none h _)
theorem okp_22 : ∀ pc e, PP 22 pc = some e → OkE 22 pc e := ok_of okm_22 (fun _ h => bif_none h _)
theorem okp_23 : ∀ pc e, PP 23 pc = some e → OkE 23 pc e := ok_of okm_23 (fun _ h => bif_none h _)
theorem okp_24 : ∀ pc e, PP 24 pc = some e → OkE 24 pc e := ok_of okm_24 (fun _ h => bif_none h _)
theorem okp_25 : ∀ pc e, PP 25 pc = some e → OkE 25 pc e := ok_of okm_25 (fun _ h => bif_none h _)
theorem okp_26 : ∀ pc e, PP 26 pc = some e → OkE 26 pc e := ok_of okm_26 (fun _ h => bif_none h _)
theorem okp_27 : ∀ pc e, PP 27 pc = some e → OkE 27 pc e := ok_of okm_27 (fun _ h => bif_none h _)
theorem okp_28 : ∀ pc e, PP 28 pc = some e → OkE 28 pc e := ok_of okm_28 (fun _ h => bif_none h _)
theorem okp_29 : ∀ pc e, PP 29 pc = some e → OkE 29 pc e := ok_of okm_29 (fun _ h => bif_none h _)
theorem okp_30 : ∀ pc e, PP 30 pc = some e → OkE 30 pc e := ok_of okm_30 (fun _ h => bif_none h _)
theorem okp_31 : ∀ pc e, PP 31 pc = some e → OkE 31 pc e := ok_of okm_31 (fun _ h => bif_none h _)
theorem okp_32 : ∀ pc e, PP 32 pc = some e → OkE 32 pc e := ok_of okm_32 (fun _ h => bif_none h _)
theorem okp_33 : ∀ pc e, PP 33 pc = some e → OkE 33 pc e := ok_of okm_33 (fun _ h => bif_none h _)
theorem okp_34 : ∀ pc e, PP 34 pc = some e → OkE 34 pc e := ok_of okm_34 (fun _ h => bif_none h _)
theorem okp_35 : ∀ pc e, PP 35 pc = some e → OkE 35 pc e := ok_of okm_35 (fun _ h => bif_none h _)
theorem okp_36 : ∀ pc e, PP 36 pc = some e → OkE 36 pc e := ok_of okm_36 (fun _ h => bif_none h _)
theorem okp_37 : ∀ pc e, PP 37 pc = some e → OkE 37 pc e := ok_of okm_37 (fun _ h => bif_none h _)
theorem okp_38 : ∀ pc e, PP 38 pc = some e → OkE 38 pc e := ok_of okm_38 (fun _ h => bif_none h _)
theorem okp_39 : ∀ pc e, PP 39 pc = some e → OkE 39 pc e := ok_of okm_39 (fun _ h => bif_none h _)
theorem okp_40 : ∀ pc e, PP 40 pc = some e → OkE 40 pc e := ok_of okm_40 (fun _ h => bif_none h _)
theorem okp_41 : ∀ pc e, PP 41 pc = some e → OkE 41 pc e := ok_of okm_41 (fun _ h => bif_none h _)
theorem okp_42 : ∀ pc e, PP 42 pc = some e → OkE 42 pc e := ok_of okm_42 (fun _ h => bif_none h _)
theorem okp_43 : ∀ pc e, PP 43 pc = some e → OkE 43 pc e := ok_of okm_43 (fun _ h => bif_none h _)
theorem okp_44 : ∀ pc e, PP 44 pc = some e → OkE 44 pc e := ok_of okm_44 (fun _ h => bif_none h _)
theorem okp_45 : ∀ pc e, PP 45 pc = some e → OkE 45 pc e := ok_of okm_45 (fun _ h => bif_none h _)
theorem okp_46 : ∀ pc e, PP 46 pc = some e → OkE 46 pc e := ok_of okm_46 (fun _ h => bif_none h _)
theorem okp_47 : ∀ pc e, PP 47 pc = some e → OkE 47 pc e := ok_of okm_47 (fun _ h => bif_none h _)
theorem okp_48 : ∀ pc e, PP 48 pc = some e → OkE 48 pc e := ok_of okm_48 (fun _ h => bif_none h _)
theorem okp_49 : ∀ pc e, PP 49 pc = some e → OkE 49 pc e := ok_of okm_49 (fun _ h => bif_none h _)
theorem okp_50 : ∀ pc e, PP 50 pc = some e → OkE 50 pc e := ok_of okm_50 (fun _ h => bif_none h _)
theorem okp_51 : ∀ pc e, PP 51 pc = some e → OkE 51 pc e := ok_of okm_51 (fun _ h => bif_none h _)
theorem okp_52 : ∀ pc e, PP 52 pc = some e → OkE 52 pc e := ok_of okm_52 (fun _ h => bif_none h _)
theorem okp_53 : ∀ pc e, PP 53 pc = some e → OkE 53 pc e := ok_of okm_53 (fun _ h => bif_none h _)
theorem okp_54 : ∀ pc e, PP 54 pc = some e → OkE 54 pc e := ok_of okm_54 (fun _ h => bif_none h _)
theorem okp_55 : ∀ pc e, PP 55 pc = some e → OkE 55 pc e := ok_of okm_55 (fun _ h => bif_none h _)
theorem okp_56 : ∀ pc e, PP 56 pc = some e → OkE 56 pc e := ok_of okm_56 (fun _ h => bif_none h _)
theorem okp_57 : ∀ pc e, PP 57 pc = some e → OkE 57 pc e := ok_of okm_57 (fun _ h => bif_none h _)
theorem okp_58 : ∀ pc e, PP 58 pc = some e → OkE 58 pc e := ok_of okm_58 (fun _ h => bif_none h _)
theorem okp_59 : ∀ pc e, PP 59 pc = some e → OkE 59 pc e := ok_of okm_59 (fun _ h => bif_none h _)
theorem okp_60 : ∀ pc e, PP 60 pc = some e → OkE 60 pc e := ok_of okm_60 (fun _ h => bif_none h _)
theorem okp_61 : ∀ pc e, PP 61 pc = some e → OkE 61 pc e := ok_of okm_61 (fun _ h => bif_none h _)
theorem okp_62 : ∀ pc e, PP 62 pc = some e → OkE 62 pc e := ok_of okm_62 (fun _ h => bif_none h _)
theorem okp_63 : ∀ pc e, PP 63 pc = some e → OkE 63 pc e := ok_of okm_63 (fun _ h => bif_none h _)
theorem okp_64 : ∀ pc e, PP 64 pc = some e → OkE 64 pc e := ok_of okm_64 (fun _ h => bif_none h _)
theorem okp_65 : ∀ pc e, PP 65 pc = some e → OkE 65 pc e := ok_of okm_65 (fun _ h => bif_none h _)
theorem okp_66 : ∀ pc e, PP 66 pc = some e → OkE 66 pc e := ok_of okm_66 (fun _ h => bif_none h _)
theorem okp_67 : ∀ pc e, PP 67 pc = some e → OkE 67 pc e := ok_of okm_67 (fun _ h => bif_none h _)
theorem okp_68 : ∀ pc e, PP 68 pc = some e → OkE 68 pc e := ok_of okm_68 (fun _ h => bif_none h _)
theorem okp_69 : ∀ pc e, PP 69 pc = some e → OkE 69 pc e := ok_of okm_69 (fun _ h => bif_none h _)
theorem okp_70 : ∀ pc e, PP 70 pc = some e → OkE 70 pc e := ok_of okm_70 (fun _ h => bif_none h _)
theorem okp_71 : ∀ pc e, PP 71 pc = some e → OkE 71 pc e := ok_of okm_71 (fun _ h => bif_none h _)
theorem okp_72 : ∀ pc e, PP 72 pc = some e → OkE 72 pc e := ok_of okm_72 (fun _ h => bif_none h _)
theorem okp_73 : ∀ pc e, PP 73 pc = some e → OkE 73 pc e := ok_of okm_73 (fun _ h => bif_none h _)
theorem okp_74 : ∀ pc e, PP 74 pc = some e → OkE 74 pc e := ok_of okm_74 (fun _ h => bif_none h _)
theorem okp_75 : ∀ pc e, PP 75 pc = some e → OkE 75 pc e := ok_of okm_75 (fun _ h => bif_none h _)
theorem okp_76 : ∀ pc e, PP 76 pc = some e → OkE 76 pc e := ok_of okm_76 (fun _ h => bif_none h _)
theorem okp_77 : ∀ pc e, PP 77 pc = some e → OkE 77 pc e := ok_of okm_77 (fun _ h => bif_none h _)
theorem okp_78 : ∀ pc e, PP 78 pc = some e → OkE 78 pc e := ok_of okm_78 (fun _ h => bif_none h _)
theorem okp_79 : ∀ pc e, PP 79 pc = some e → OkE 79 pc e := ok_of okm_79 (fun _ h => bif_none h _)
theorem okp_80 : ∀ pc e, PP 80 pc = some e → OkE 80 pc e := ok_of okm_80 (fun _ h => bif_none h _)
theorem okp_81 : ∀ pc e, PP 81 pc = some e → OkE 81 pc e := ok_of okm_81 (fun _ h => bif_none h _)
theorem okp_82 : ∀ pc e, PP 82 pc = some e → OkE 82 pc e := ok_of okm_82 (fun _ h => bif_none h _)
theorem okp_83 : ∀ pc e, PP 83 pc = some e → OkE 83 pc e := ok_of okm_83 (fun _ h => bif_none h _)
theorem okp_84 : ∀ pc e, PP 84 pc = some e → OkE 84 pc e := ok_of okm_84 (fun _ h => bif_none h _)
theorem okp_85 : ∀ pc e, PP 85 pc = some e → OkE 85 pc e := ok_of okm_85 (fun _ h => bif_none h _)
theorem okp_86 : ∀ pc e, PP 86 pc = some e → OkE 86 pc e := ok_of okm_86 (fun _ h => bif_none h _)
theorem okp_87 : ∀ pc e, PP 87 pc = some e → OkE 87 pc e := ok_of okm_87 (fun _ h => bif_none h _)
theorem okp_88 : ∀ pc e, PP 88 pc = some e → OkE 88 pc e := ok_of okm_88 (fun _ h => bif_none h _)
theorem okp_89 : ∀ pc e, PP 89 pc = some e → OkE 89 pc e := ok_of okm_89 (fun _ h => bif_none h _)
theorem okp_90 : ∀ pc e, PP 90 pc = some e → OkE 90 pc e := ok_of okm_90 (fun _ h => bif_none h _)
theorem okp_91 : ∀ pc e, PP 91 pc = some e → OkE 91 pc e := ok_of okm_91 (fun _ h => bif_none h _)
theorem okp_92 : ∀ pc e, PP 92 pc = some e → OkE 92 pc e := ok_of okm_92 (fun _ h => bif_none h _)
theorem okp_93 : ∀ pc e, PP 93 pc = some e → OkE 93 pc e := ok_of okm_93 (fun _ h => bif_none h _)
theorem okp_94 : ∀ pc e, PP 94 pc = some e → OkE 94 pc e := ok_of okm_94 (fun _ h => bif_none h _)
theorem okp_95 : ∀ pc e, PP 95 pc = some e → OkE 95 pc e := ok_of okm_95 (fun _ h => bif_none h _)
theorem okp_96 : ∀ pc e, PP 96 pc = some e → OkE 96 pc e := ok_of okm_96 (fun _ h => bif_none h _)
theorem okp_97 : ∀ pc e, PP 97 pc = some e → OkE 97 pc e := ok_of okm_97 (fun _ h => bif_none h _)
theorem okp_98 : ∀ pc e, PP 98 pc = some e → OkE 98 pc e := ok_of okm_98 (fun _ h => bif_none h _)
theorem okp_99 : ∀ pc e, PP 99 pc = some e → OkE 99 pc e := ok_of okm_99 (fun _ h => bif_none h _)
theorem okp_100 : ∀ pc e, PP 100 pc = some e → OkE 100 pc e := ok_of okm_100 (fun _ h => bif_none h _)
theorem okp_101 : ∀ pc e, PP 101 pc = some e → OkE 101 pc e := ok_of okm_101 (fun _ h => bif_none h _)
theorem okp_102 : ∀ pc e, PP 102 pc = some e → OkE 102 pc e := ok_of okm_102 (fun _ h => bif_none h _)
theorem okp_103 : ∀ pc e, PP 103 pc = some e → OkE 103 pc e := ok_of okm_103 (fun _ h => bif_none h _)
theorem okp_104 : ∀ pc e, PP 104 pc = some e → OkE 104 pc e := ok_of okm_104 (fun _ h => bif_none h _)
theorem okp_105 : ∀ pc e, PP 105 pc = some e → OkE 105 pc e := ok_of okm_105 (fun _ h => bif_none h _)
theorem okp_106 : ∀ pc e, PP 106 pc = some e → OkE 106 pc e := ok_of okm_106 (fun _ h => bif_none h _)
theorem okp_107 : ∀ pc e, PP 107 pc = some e → OkE 107 pc e := ok_of okm_107 (fun _ h => bif_none h _)
theorem okp_108 : ∀ pc e, PP 108 pc = some e → OkE 108 pc e := ok_of okm_108 (fun _ h => bif_none h _)
theorem okp_109 : ∀ pc e, PP 109 pc = some e → OkE 109 pc e := ok_of okm_109 (fun _ h => bif_none h _)
theorem okp_110 : ∀ pc e, PP 110 pc = some e → OkE 110 pc e := ok_of okm_110 (fun _ h => bif_none h _)
theorem okp_111 : ∀ pc e, PP 111 pc = some e → OkE 111 pc e := ok_of okm_111 (fun _ h => bif_none h _)
theorem okp_112 : ∀ pc e, PP 112 pc = some e → OkE 112 pc e := ok_of okm_112 (fun _ h => bif_none h _)
theorem okp_113 : ∀ pc e, PP 113 pc = some e → OkE 113 pc e := ok_of okm_113 (fun _ h => bif_none h _)
theorem okp_114 : ∀ pc e, PP 114 pc = some e → OkE 114 pc e := ok_of okm_114 (fun _ h => bif_none h _)
theorem okp_115 : ∀ pc e, PP 115 pc = some e → OkE 115 pc e := ok_of okm_115 (fun _ h => bif_none h _)
theorem okp_116 : ∀ pc e, PP 116 pc = some e → OkE 116 pc e := ok_of okm_116 (fun _ h => bif_none h _)
theorem okp_117 : ∀ pc e, PP 117 pc = some e → OkE 117 pc e := ok_of okm_117 (fun _ h => bif_none h _)
theorem okp_118 : ∀ pc e, PP 118 pc = some e → OkE 118 pc e := ok_of okm_118 (fun _ h => bif_none h _)
theorem okp_119 : ∀ pc e, PP 119 pc = some e → OkE 119 pc e := ok_of okm_119 (fun _ h => bif_none h _)
theorem okp_120 : ∀ pc e, PP 120 pc = some e → OkE 120 pc e := ok_of okm_120 (fun _ h => bif_none h _)
theorem okp_121 : ∀ pc e, PP 121 pc = some e → OkE 121 pc e := ok_of okm_121 (fun _ h => bif_none h _)
theorem okp_122 : ∀ pc e, PP 122 pc = some e → OkE 122 pc e := ok_of okm_122 (fun _ h => bif_none h _)
theorem okp_123 : ∀ pc e, PP 123 pc = some e → OkE 123 pc e := ok_of okm_123 (fun _ h => bif_none h _)
theorem okp_124 : ∀ pc e, PP 124 pc = some e → OkE 124 pc e := ok_of okm_124 (fun _ h => bif_none h _)
theorem okp_125 : ∀ pc e, PP 125 pc = some e → OkE 125 pc e := ok_of okm_125 (fun _ h => bif_none h _)
theorem okp_126 : ∀ pc e, PP 126 pc = some e → OkE 126 pc e := ok_of okm_126 (fun _ h => bif_none h _)
theorem okp_127 : ∀ pc e, PP 127 pc = some e → OkE 127 pc e := ok_of okm_127 (fun _ h => bif_none h _)
theorem okp_128 : ∀ pc e, PP 128 pc = some e → OkE 128 pc e := ok_of okm_128 (fun _ h => bif_none h _)
theorem okp_129 : ∀ pc e, PP 129 pc = some e → OkE 129 pc e := ok_of okm_129 (fun _ h => bif_none h _)
theorem okp_130 : ∀ pc e, PP 130 pc = some e → OkE 130 pc e := ok_of okm_130 (fun _ h => bif_none h _)
theorem okp_131 : ∀ pc e, PP 131 pc = some e → OkE 131 pc e := ok_of okm_131 (fun _ h => bif_none h _)
theorem okp_132 : ∀ pc e, PP 132 pc = some e → OkE 132 pc e := ok_of okm_132 (fun _ h => bif_none h _)
theorem okp_133 : ∀ pc e, PP 133 pc = some e → OkE 133 pc e := ok_of okm_133 (fun _ h => bif_none h _)
theorem okp_134 : ∀ pc e, PP 134 pc = some e → OkE 134 pc e := ok_of okm_134 (fun _ h => bif_none h _)
theorem okp_135 : ∀ pc e, PP 135 pc = some e → OkE 135 pc e := ok_of okm_135 (fun _ h => bif_none h _)
theorem okp_136 : ∀ pc e, PP 136 pc = some e → OkE 136 pc e := ok_of okm_136 (fun _ h => bif_none h _)
theorem okp_137 : ∀ pc e, PP 137 pc = some e → OkE 137 pc e := ok_of okm_137 (fun _ h => bif_none h _)
theorem okp_138 : ∀ pc e, PP 138 pc = some e → OkE 138 pc e := ok_of okm_138 (fun _ h => bif_none h _)
theorem okp_139 : ∀ pc e, PP 139 pc = some e → OkE 139 pc e := ok_of okm_139 (fun _ h => bif_none h _)
theorem okp_140 : ∀ pc e, PP 140 pc = some e → OkE 140 pc e := ok_of okm_140 (fun _ h => bif_none h _)
theorem okp_141 : ∀ pc e, PP 141 pc = some e → OkE 141 pc e := ok_of okm_141 (fun _ h => bif_none h _)
theorem okp_142 : ∀ pc e, PP 142 pc = some e → OkE 142 pc e := ok_of okm_142 (fun _ h => bif_none h _)
theorem okp_143 : ∀ pc e, PP 143 pc = some e → OkE 143 pc e := ok_of okm_143 (fun _ h => bif_none h _)
theorem okp_144 : ∀ pc e, PP 144 pc = some e → OkE 144 pc e := ok_of okm_144 (fun _ h => bif_none h _)
theorem okp_145 : ∀ pc e, PP 145 pc = some e → OkE 145 pc e := ok_of okm_145 (fun _ h => bif_none h _)
theorem okp_146 : ∀ pc e, PP 146 pc = some e → OkE 146 pc e := ok_of okm_146 (fun _ h => bif_none h _)
theorem okp_147 : ∀ pc e, PP 147 pc = some e → OkE 147 pc e := ok_of okm_147 (fun _ h => bif_none h _)
theorem okp_148 : ∀ pc e, PP 148 pc = some e → OkE 148 pc e := ok_of okm_148 (fun _ h => bif_none h _)
theorem okp_149 : ∀ pc e, PP 149 pc = some e → OkE 149 pc e := ok_of okm_149 (fun _ h => bif_none h _)
theorem okp_150 : ∀ pc e, PP 150 pc = some e → OkE 150 pc e := ok_of okm_150 (fun _ h => bif_none h _)
theorem okp_151 : ∀ pc e, PP 151 pc = some e → OkE 151 pc e := ok_of okm_151 (fun _ h => bif_none h _)
theorem okp_152 : ∀ pc e, PP 152 pc = some e → OkE 152 pc e := ok_of okm_152 (fun _ h => bif_none h _)
theorem okp_153 : ∀ pc e, PP 153 pc = some e → OkE 153 pc e := ok_of okm_153 (fun _ h => bif_none h _)
theorem okp_154 : ∀ pc e, PP 154 pc = some e → OkE 154 pc e := ok_of okm_154 (fun _ h => bif_none h _)
theorem okp_155 : ∀ pc e, PP 155 pc = some e → OkE 155 pc e := ok_of okm_155 (fun _ h => bif_none h _)
theorem okp_156 : ∀ pc e, PP 156 pc = some e → OkE 156 pc e := ok_of okm_156 (fun _ h => bif_none h _)
theorem okp_157 : ∀ pc e, PP 157 pc = some e → OkE 157 pc e := ok_of okm_157 (fun _ h => bif_none h _)
theorem okp_158 : ∀ pc e, PP 158 pc = some e → OkE 158 pc e := ok_of okm_158 (fun _ h => bif_none h _)
theorem okp_159 : ∀ pc e, PP 159 pc = some e → OkE 159 pc e := ok_of okm_159 (fun _ h => bif_none h _)
theorem okp_160 : ∀ pc e, PP 160 pc = some e → OkE 160 pc e := ok_of okm_160 (fun _ h => bif_none h _)
theorem okp_161 : ∀ pc e, PP 161 pc = some e → OkE 161 pc e := ok_of okm_161 (fun _ h => bif_none h _)
theorem okp_162 : ∀ pc e, PP 162 pc = some e → OkE 162 pc e := ok_of okm_162 (fun _ h => bif_none h _)
theorem okp_163 : ∀ pc e, PP 163 pc = some e → OkE 163 pc e := ok_of okm_163 (fun _ h => bif_none h _)
theorem okp_164 : ∀ pc e, PP 164 pc = some e → OkE 164 pc e := ok_of okm_164 (fun _ h => bif_none h _)
theorem okp_165 : ∀ pc e, PP 165 pc = some e → OkE 165 pc e := ok_of okm_165 (fun _ h => bif_none h _)
theorem okp_166 : ∀ pc e, PP 166 pc = some e → OkE 166 pc e := ok_of okm_166 (fun _ h => bif_none h _)
theorem okp_167 : ∀ pc e, PP 167 pc = some e → OkE 167 pc e := ok_of okm_167 (fun _ h => bif_none h _)
theorem okp_168 : ∀ pc e, PP 168 pc = some e → OkE 168 pc e := ok_of okm_168 (fun _ h => bif_none h _)
theorem okp_169 : ∀ pc e, PP 169 pc = some e → OkE 169 pc e := ok_of okm_169 (fun _ h => bif_none h _)
theorem okp_170 : ∀ pc e, PP 170 pc = some e → OkE 170 pc e := ok_of okm_170 (fun _ h => bif_none h _)
theorem okp_171 : ∀ pc e, PP 171 pc = some e → OkE 171 pc e := ok_of okm_171 (fun _ h => bif_none h _)
theorem okp_172 : ∀ pc e, PP 172 pc = some e → OkE 172 pc e := ok_of okm_172 (fun _ h => bif_none h _)
theorem okp_173 : ∀ pc e, PP 173 pc = some e → OkE 173 pc e := ok_of okm_173 (fun _ h => bif_none h _)
theorem okp_174 : ∀ pc e, PP 174 pc = some e → OkE 174 pc e := ok_of okm_174 (fun _ h => bif_none h _)
theorem okp_175 : ∀ pc e, PP 175 pc = some e → OkE 175 pc e := ok_of okm_175 (fun _ h => bif_none h _)
theorem okp_176 : ∀ pc e, PP 176 pc = some e → OkE 176 pc e := ok_of okm_176 (fun _ h => bif_none h _)
theorem okp_177 : ∀ pc e, PP 177 pc = some e → OkE 177 pc e := ok_of okm_177 (fun _ h => bif_none h _)
theorem okp_178 : ∀ pc e, PP 178 pc = some e → OkE 178 pc e := ok_of okm_178 (fun _ h => bif_none h _)
theorem okp_179 : ∀ pc e, PP 179 pc = some e → OkE 179 pc e := ok_of okm_179 (fun _ h => bif_none h _)
theorem okp_180 : ∀ pc e, PP 180 pc = some e → OkE 180 pc e := ok_of okm_180 (fun _ h => bif_none h _)
theorem okp_181 : ∀ pc e, PP 181 pc = some e → OkE 181 pc e := ok_of okm_181 (fun _ h => bif_none h _)
theorem okp_182 : ∀ pc e, PP 182 pc = some e → OkE 182 pc e := ok_of okm_182 (fun _ h => bif_none h _)
theorem okp_183 : ∀ pc e, PP 183 pc = some e → OkE 183 pc e := ok_of okm_183 (fun _ h => bif_none h _)
theorem okp_184 : ∀ pc e, PP 184 pc = some e → OkE 184 pc e := ok_of okm_184 (fun _ h => bif_none h _)
theorem okp_185 : ∀ pc e, PP 185 pc = some e → OkE 185 pc e := ok_of okm_185 (fun _ h => bif_none h _)
theorem okp_186 : ∀ pc e, PP 186 pc = some e → OkE 186 pc e := ok_of okm_186 (fun _ h => bif_none h _)
theorem okp_187 : ∀ pc e, PP 187 pc = some e → OkE 187 pc e := ok_of okm_187 (fun _ h => bif_none h _)
theorem okp_188 : ∀ pc e, PP 188 pc = some e → OkE 188 pc e := ok_of okm_188 (fun _ h => bif_none h _)
theorem okp_189 : ∀ pc e, PP 189 pc = some e → OkE 189 pc e := ok_of okm_189 (fun _ h => bif_none h _)
theorem okp_190 : ∀ pc e, PP 190 pc = some e → OkE 190 pc e := ok_of okm_190 (fun _ h => bif_none h _)
theorem okp_191 : ∀ pc e, PP 191 pc = some e → OkE 191 pc e := ok_of okm_191 (fun _ h => bif_none h _)
theorem okp_192 : ∀ pc e, PP 192 pc = some e → OkE 192 pc e := ok_of okm_192 (fun _ h => bif_none h _)
theorem okp_193 : ∀ pc e, PP 193 pc = some e → OkE 193 pc e := ok_of okm_193 (fun _ h => bif_none h _)
theorem okp_194 : ∀ pc e, PP 194 pc = some e → OkE 194 pc e := ok_of okm_194 (fun _ h => bif_none h _)
theorem okp_195 : ∀ pc e, PP 195 pc = some e → OkE 195 pc e := ok_of okm_195 (fun _ h => bif_none h _)
theorem okp_196 : ∀ pc e, PP 196 pc = some e → OkE 196 pc e := ok_of okm_196 (fun _ h => bif_none h _)
theorem okp_197 : ∀ pc e, PP 197 pc = some e → OkE 197 pc e := ok_of okm_197 (fun _ h => bif_none h _)
theorem okp_198 : ∀ pc e, PP 198 pc = some e → OkE 198 pc e := ok_of okm_198 (fun _ h => bif_none h _)
theorem okp_199 : ∀ pc e, PP 199 pc = some e → OkE 199 pc e := ok_of okm_199 (fun _ h => bif_none h _)
theorem okp_200 : ∀ pc e, PP 200 pc = some e → OkE 200 pc e := ok_of okm_200 (fun _ h => bif_none h _)
theorem okp_201 : ∀ pc e, PP 201 pc = some e → OkE 201 pc e := ok_of okm_201 (fun _ h => bif_none h _)
theorem okp_202 : ∀ pc e, PP 202 pc = some e → OkE 202 pc e := ok_of okm_202 (fun _ h => bif_none h _)
theorem okp_203 : ∀ pc e, PP 203 pc = some e → OkE 203 pc e := ok_of okm_203 (fun _ h => bif_none h _)
theorem okp_204 : ∀ pc e, PP 204 pc = some e → OkE 204 pc e := ok_of okm_204 (fun _ h => bif_none h _)
theorem okp_205 : ∀ pc e, PP 205 pc = some e → OkE 205 pc e := ok_of okm_205 (fun _ h => bif_none h _)
theorem okp_206 : ∀ pc e, PP 206 pc = some e → OkE 206 pc e := ok_of okm_206 (fun _ h => bif_none h _)
theorem okp_207 : ∀ pc e, PP 207 pc = some e → OkE 207 pc e := ok_of okm_207 (fun _ h => bif_none h _)
theorem okp_208 : ∀ pc e, PP 208 pc = some e → OkE 208 pc e := ok_of okm_208 (fun _ h => bif_none h _)
theorem okp_209 : ∀ pc e, PP 209 pc = some e → OkE 209 pc e := ok_of okm_209 (fun _ h => bif_none h _)
theorem okp_210 : ∀ pc e, PP 210 pc = some e → OkE 210 pc e := ok_of okm_210 (fun _ h => bif_none h _)
theorem okp_211 : ∀ pc e, PP 211 pc = some e → OkE 211 pc e := ok_of okm_211 (fun _ h => bif_none h _)
theorem okp_212 : ∀ pc e, PP 212 pc = some e → OkE 212 pc e := ok_of okm_212 (fun _ h => bif_none h _)
theorem okp_213 : ∀ pc e, PP 213 pc = some e → OkE 213 pc e := ok_of okm_213 (fun _ h => bif_none h _)
theorem okp_214 : ∀ pc e, PP 214 pc = some e → OkE 214 pc e := ok_of okm_214 (fun _ h => bif_none h _)
theorem okp_215 : ∀ pc e, PP 215 pc = some e → OkE 215 pc e := ok_of okm_215 (fun _ h => bif_none h _)
theorem okp_216 : ∀ pc e, PP 216 pc = some e → OkE 216 pc e := ok_of okm_216 (fun _ h => bif_none h _)
theorem okp_217 : ∀ pc e, PP 217 pc = some e → OkE 217 pc e := ok_of okm_217 (fun _ h => bif_none h _)
theorem okp_218 : ∀ pc e, PP 218 pc = some e → OkE 218 pc e := ok_of okm_218 (fun _ h => bif_none h _)
theorem okp_219 : ∀ pc e, PP 219 pc = some e → OkE 219 pc e := ok_of okm_219 (fun _ h => bif_none h _)
theorem okp_220 : ∀ pc e, PP 220 pc = some e → OkE 220 pc e := ok_of okm_220 (fun _ h => bif_none h _)
theorem okp_221 : ∀ pc e, PP 221 pc = some e → OkE 221 pc e := ok_of okm_221 (fun _ h => bif_none h _)
theorem okp_222 : ∀ pc e, PP 222 pc = some e → OkE 222 pc e := ok_of okm_222 (fun _ h => bif_none h _)
theorem okp_223 : ∀ pc e, PP 223 pc = some e → OkE 223 pc e := ok_of okm_223 (fun _ h => bif_none h _)
theorem okp_224 : ∀ pc e, PP 224 pc = some e → OkE 224 pc e := ok_of okm_224 (fun _ h => bif_none h _)
theorem okp_225 : ∀ pc e, PP 225 pc = some e → OkE 225 pc e := ok_of okm_225 (fun _ h => bif_none h _)
theorem okp_226 : ∀ pc e, PP 226 pc = some e → OkE 226 pc e := ok_of okm_226 (fun _ h => bif_none h _)
theorem okp_227 : ∀ pc e, PP 227 pc = some e → OkE 227 pc e := ok_of okm_227 (fun _ h => bif_none h _)
theorem okp_228 : ∀ pc e, PP 228 pc = some e → OkE 228 pc e := ok_of okm_228 (fun _ h => bif_none h _)
theorem okp_229 : ∀ pc e, PP 229 pc = some e → OkE 229 pc e := ok_of okm_229 (fun _ h => bif_none h _)
theorem okp_230 : ∀ pc e, PP 230 pc = some e → OkE 230 pc e := ok_of okm_230 (fun _ h => bif_none h _)
theorem okp_231 : ∀ pc e, PP 231 pc = some e → OkE 231 pc e := ok_of okm_231 (fun _ h => bif_none h _)
theorem oka_0 : ∀ z, z < 0 → ∀ pc e, PP z pc = some e → OkE z pc e := fun z h => absurd h (Nat.not_lt_zero z)
theorem oka_1 : ∀ z, z < 1 → ∀ pc e, PP z pc = some e → OkE z pc e := lt_s oka_0 okp_0
theorem oka_2 : ∀ z, z < 2 → ∀ pc e, PP z pc = some e → OkE z pc e := lt_s oka_1 okp_1
theorem oka_3 : ∀ z, z < 3 → ∀ pc e, PP z pc = some e → OkE z pc e := lt_s oka_2 okp_2
theorem oka_4 : ∀ z, z < 4 → ∀ pc e, PP z pc = some e → OkE z pc e := lt_s oka_3 okp_3
theorem oka_5 : ∀ z, z < 5 → ∀ pc e, PP z pc = some e → OkE z pc e := lt_s oka_4 okp_4
theorem oka_6 : ∀ z, z < 6 → ∀ pc e, PP z pc = some e → OkE z pc e := lt_s oka_5 okp_5
theorem oka_7 : ∀ z, z < 7 → ∀ pc e, PP z pc = some e → OkE z pc e := lt_s oka_6 okp_6
theorem oka_8 : ∀ z, z < 8 → ∀ pc e, PP z pc = some e → OkE z pc e := lt_s oka_7 okp_7
theorem oka_9 : ∀ z, z < 9 → ∀ pc e, PP z pc = some e → OkE z pc e := lt_s oka_8 okp_8
theorem oka_10 : ∀ z, z < 10 → ∀ pc e, PP z pc = some e → OkE z pc e := lt_s oka_9 okp_9
theorem oka_11 : ∀ z, z < 11 → ∀ pc e, PP z pc = some e → OkE z pc e := lt_s oka_10 okp_10
theorem oka_12 : ∀ z, z < 12 → ∀ pc e, PP z pc = some e → OkE z pc e := lt_s oka_11 okp_11
theorem oka_13 : ∀ z, z < 13 → ∀ pc e, PP z pc = some e → OkE z pc e := lt_s oka_12 okp_12
theorem oka_14 : ∀ z, z < 14 → ∀ pc e, PP z pc = some e → OkE z pc e := lt_s oka_13 okp_13
theorem oka_15 : ∀ z, z < 15 → ∀ pc e, PP z pc = some e → OkE z pc e := lt_s oka_14 okp_14
theorem oka_16 : ∀ z, z < 16 → ∀ pc e, PP z pc = some e → OkE z pc e := lt_s oka_15 okp_15
theorem oka_17 : ∀ z, z < 17 → ∀ pc e, PP z pc = some e → OkE z pc e := lt_s oka_16 okp_16
theorem oka_18 : ∀ z, z < 18 → ∀ pc e, PP z pc = some e → OkE z pc e := lt_s oka_17 okp_17
theorem oka_19 : ∀ z, z < 19 → ∀ pc e, PP z pc = some e → OkE z pc e := lt_s oka_18 okp_18
theorem oka_20 : ∀ z, z < 20 → ∀ pc e, PP z pc = some e → OkE z pc e := lt_s oka_19 okp_19
theorem oka_21 : ∀ z, z < 21 → ∀ pc e, PP z pc = some e → OkE z pc e := lt_s oka_20 okp_20
theorem oka_22 : ∀ z, z < 22 → ∀ pc e, PP z pc = some e → OkE z pc e := lt_s oka_21 okp_21
theorem oka_23 : ∀ z, z < 23 → ∀ pc e, PP z pc = some e → OkE z pc e := lt_s oka_22 okp_22
theorem oka_24 : ∀ z, z < 24 → ∀ pc e, PP z pc = some e → OkE z pc e := lt_s oka_23 okp_23
theorem oka_25 : ∀ z, z < 25 → ∀ pc e, PP z pc = some e → OkE z pc e := lt_s oka_24 okp_24
theorem oka_26 : ∀ z, z < 26 → ∀ pc e, PP z pc = some e → OkE z pc e := lt_s oka_25 okp_25
theorem oka_27 : ∀ z, z < 27 → ∀ pc e, PP z pc = some e → OkE z pc e := lt_s oka_26 okp_26
theorem oka_28 : ∀ z, z < 28 → ∀ pc e, PP z pc = some e → OkE z pc e := lt_s oka_27 okp_27
theorem oka_29 : ∀ z, z < 29 → ∀ pc e, PP z pc = some e → OkE z pc e := lt_s oka_28 okp_28
theorem oka_30 : ∀ z, z < 30 → ∀ pc e, PP z pc = some e → OkE z pc e := lt_s oka_29 okp_29
theorem oka_31 : ∀ z, z < 31 → ∀ pc e, PP z pc = some e → OkE z pc e := lt_s oka_30 okp_30
theorem oka_32 : ∀ z, z < 32 → ∀ pc e, PP z pc = some e → OkE z pc e := lt_s oka_31 okp_31
theorem oka_33 : ∀ z, z < 33 → ∀ pc e, PP z pc = some e → OkE z pc e := lt_s oka_32 okp_32
theorem oka_34 : ∀ z, z < 34 → ∀ pc e, PP z pc = some e → OkE z pc e := lt_s oka_33 okp_33
theorem oka_35 : ∀ z, z < 35 → ∀ pc e, PP z pc = some e → OkE z pc e := lt_s oka_34 okp_34
theorem oka_36 : ∀ z, z < 36 → ∀ pc e, PP z pc = some e → OkE z pc e := lt_s oka_35 okp_35
theorem oka_37 : ∀ z, z < 37 → ∀ pc e, PP z pc = some e → OkE z pc e := lt_s oka_36 okp_36
theorem oka_38 : ∀ z, z < 38 → ∀ pc e, PP z pc = some e → OkE z pc e := lt_s oka_37 okp_37
theorem oka_39 : ∀ z, z < 39 → ∀ pc e, PP z pc = some e → OkE z pc e := lt_s oka_38 okp_38
theorem oka_40 : ∀ z, z < 40 → ∀ pc e, PP z pc = some e → OkE z pc e := lt_s oka_39 okp_39
theorem oka_41 : ∀ z, z < 41 → ∀ pc e, PP z pc = some e → OkE z pc e := lt_s oka_40 okp_40
theorem oka_42 : ∀ z, z < 42 → ∀ pc e, PP z pc = some e → OkE z pc e := lt_s oka_41 okp_41
theorem oka_43 : ∀ z, z < 43 → ∀ pc e, PP z pc = some e → OkE z pc e := lt_s oka_42 okp_42
theorem oka_44 : ∀ z, z < 44 → ∀ pc e, PP z pc = some e → OkE z pc e := lt_s oka_43 okp_43
theorem oka_45 : ∀ z, z < 45 → ∀ pc e, PP z pc = some e → OkE z pc e := lt_s oka_44 okp_44
theorem oka_46 : ∀ z, z < 46 → ∀ pc e, PP z pc = some e → OkE z pc e := lt_s oka_45 okp_45
theorem oka_47 : ∀ z, z < 47 → ∀ pc e, PP z pc = some e → OkE z pc e := lt_s oka_46 okp_46
theorem oka_48 : ∀ z, z < 48 → ∀ pc e, PP z pc = some e → OkE z pc e := lt_s oka_47 okp_47
theorem oka_49 : ∀ z, z < 49 → ∀ pc e, PP z pc = some e → OkE z pc e := lt_s oka_48 okp_48
theorem oka_50 : ∀ z, z < 50 → ∀ pc e, PP z pc = some e → OkE z pc e := lt_s oka_49 okp_49
theorem oka_51 : ∀ z, z < 51 → ∀ pc e, PP z pc = some e → OkE z pc e := lt_s oka_50 okp_50
theorem oka_52 : ∀ z, z < 52 → ∀ pc e, PP z pc = some e → OkE z pc e := lt_s oka_51 okp_51
theorem oka_53 : ∀ z, z < 53 → ∀ pc e, PP z pc = some e → OkE z pc e := lt_s oka_52 okp_52
theorem oka_54 : ∀ z, z < 54 → ∀ pc e, PP z pc = some e → OkE z pc e := lt_s oka_53 okp_53
theorem oka_55 : ∀ z, z < 55 → ∀ pc e, PP z pc = some e → OkE z pc e := lt_s oka_54 okp_54
theorem oka_56 : ∀ z, z < 56 → ∀ pc e, PP z pc = some e → OkE z pc e := lt_s oka_55 okp_55
theorem oka_57 : ∀ z, z < 57 → ∀ pc e, PP z pc = some e → OkE z pc e := lt_s oka_56 okp_56
theorem oka_58 : ∀ z, z < 58 → ∀ pc e, PP z pc = some e → OkE z pc e := lt_s oka_57 okp_57
theorem oka_59 : ∀ z, z < 59 → ∀ pc e, PP z pc = some e → OkE z pc e := lt_s oka_58 okp_58
theorem oka_60 : ∀ z, z < 60 → ∀ pc e, PP z pc = some e → OkE z pc e := lt_s oka_59 okp_59
theorem oka_61 : ∀ z, z < 61 → ∀ pc e, PP z pc = some e → OkE z pc e := lt_s oka_60 okp_60
theorem oka_62 : ∀ z, z < 62 → ∀ pc e, PP z pc = some e → OkE z pc e := lt_s oka_61 okp_61
theorem oka_63 : ∀ z, z < 63 → ∀ pc e, PP z pc = some e → OkE z pc e := lt_s oka_62 okp_62
theorem oka_64 : ∀ z, z < 64 → ∀ pc e, PP z pc = some e → OkE z pc e := lt_s oka_63 okp_63
theorem oka_65 : ∀ z, z < 65 → ∀ pc e, PP z pc = some e → OkE z pc e := lt_s oka_64 okp_64
theorem oka_66 : ∀ z, z < 66 → ∀ pc e, PP z pc = some e → OkE z pc e := lt_s oka_65 okp_65
theorem oka_67 : ∀ z, z < 67 → ∀ pc e, PP z pc = some e → OkE z pc e := lt_s oka_66 okp_66
theorem oka_68 : ∀ z, z < 68 → ∀ pc e, PP z pc = some e → OkE z pc e := lt_s oka_67 okp_67
theorem oka_69 : ∀ z, z < 69 → ∀ pc e, PP z pc = some e → OkE z pc e := lt_s oka_68 okp_68
theorem oka_70 : ∀ z, z < 70 → ∀ pc e, PP z pc = some e → OkE z pc e := lt_s oka_69 okp_69
theorem oka_71 : ∀ z, z < 71 → ∀ pc e, PP z pc = some e → OkE z pc e := lt_s oka_70 okp_70
theorem oka_72 : ∀ z, z < 72 → ∀ pc e, PP z pc = some e → OkE z pc e := lt_s oka_71 okp_71
theorem oka_73 : ∀ z, z < 73 → ∀ pc e, PP z pc = some e → OkE z pc e := lt_s oka_72 okp_72
theorem oka_74 : ∀ z, z < 74 → ∀ pc e, PP z pc = some e → OkE z pc e := lt_s oka_73 okp_73
theorem oka_75 : ∀ z, z < 75 → ∀ pc e, PP z pc = some e → OkE z pc e := lt_s oka_74 okp_74
theorem oka_76 : ∀ z, z < 76 → ∀ pc e, PP z pc = some e → OkE z pc e := lt_s oka_75 okp_75
theorem oka_77 : ∀ z, z < 77 → ∀ pc e, PP z pc = some e → OkE z pc e := lt_s oka_76 okp_76
theorem oka_78 : ∀ z, z < 78 → ∀ pc e, PP z pc = some e → OkE z pc e := lt_s oka_77 okp_77
theorem oka_79 : ∀ z, z < 79 → ∀ pc e, PP z pc = some e → OkE z pc e := lt_s oka_78 okp_78
theorem oka_80 : ∀ z, z < 80 → ∀ pc e, PP z pc = some e → OkE z pc e := lt_s oka_79 okp_79
theorem oka_81 : ∀ z, z < 81 → ∀ pc e, PP z pc = some e → OkE z pc e := lt_s oka_80 okp_80
theorem oka_82 : ∀ z, z < 82 → ∀ pc e, PP z pc = some e → OkE z pc e := lt_s oka_81 okp_81
theorem oka_83 : ∀ z, z < 83 → ∀ pc e, PP z pc = some e → OkE z pc e := lt_s oka_82 okp_82
theorem oka_84 : ∀ z, z < 84 → ∀ pc e, PP z pc = some e → OkE z pc e := lt_s oka_83 okp_83
theorem oka_85 : ∀ z, z < 85 → ∀ pc e, PP z pc = some e → OkE z pc e := lt_s oka_84 okp_84
theorem oka_86 : ∀ z, z < 86 → ∀ pc e, PP z pc = some e → OkE z pc e := lt_s oka_85 okp_85
theorem oka_87 : ∀ z, z < 87 → ∀ pc e, PP z pc = some e → OkE z pc e := lt_s oka_86 okp_86
theorem oka_88 : ∀ z, z < 88 → ∀ pc e, PP z pc = some e → OkE z pc e := lt_s oka_87 okp_87
theorem oka_89 : ∀ z, z < 89 → ∀ pc e, PP z pc = some e → OkE z pc e := lt_s oka_88 okp_88
theorem oka_90 : ∀ z, z < 90 → ∀ pc e, PP z pc = some e → OkE z pc e := lt_s oka_89 okp_89
theorem oka_91 : ∀ z, z < 91 → ∀ pc e, PP z pc = some e → OkE z pc e := lt_s oka_90 okp_90
theorem oka_92 : ∀ z, z < 92 → ∀ pc e, PP z pc = some e → OkE z pc e := lt_s oka_91 okp_91
theorem oka_93 : ∀ z, z < 93 → ∀ pc e, PP z pc = some e → OkE z pc e := lt_s oka_92 okp_92
theorem oka_94 : ∀ z, z < 94 → ∀ pc e, PP z pc = some e → OkE z pc e := lt_s oka_93 okp_93
theorem oka_95 : ∀ z, z < 95 → ∀ pc e, PP z pc = some e → OkE z pc e := lt_s oka_94 okp_94
theorem oka_96 : ∀ z, z < 96 → ∀ pc e, PP z pc = some e → OkE z pc e := lt_s oka_95 okp_95
theorem oka_97 : ∀ z, z < 97 → ∀ pc e, PP z pc = some e → OkE z pc e := lt_s oka_96 okp_96
theorem oka_98 : ∀ z, z < 98 → ∀ pc e, PP z pc = some e → OkE z pc e := lt_s oka_97 okp_97
theorem oka_99 : ∀ z, z < 99 → ∀ pc e, PP z pc = some e → OkE z pc e := lt_s oka_98 okp_98
theorem oka_100 : ∀ z, z < 100 → ∀ pc e, PP z pc = some e → OkE z pc e := lt_s oka_99 okp_99
theorem oka_101 : ∀ z, z < 101 → ∀ pc e, PP z pc = some e → OkE z pc e := lt_s oka_100 okp_100
theorem oka_102 : ∀ z, z < 102 → ∀ pc e, PP z pc = some e → OkE z pc e := lt_s oka_101 okp_101
theorem oka_103 : ∀ z, z < 103 → ∀ pc e, PP z pc = some e → OkE z pc e := lt_s oka_102 okp_102
theorem oka_104 : ∀ z, z < 104 → ∀ pc e, PP z pc = some e → OkE z pc e := lt_s oka_103 okp_103
theorem oka_105 : ∀ z, z < 105 → ∀ pc e, PP z pc = some e → OkE z pc e := lt_s oka_104 okp_104
theorem oka_106 : ∀ z, z < 106 → ∀ pc e, PP z pc = some e → OkE z pc e := lt_s oka_105 okp_105
theorem oka_107 : ∀ z, z < 107 → ∀ pc e, PP z pc = some e → OkE z pc e := lt_s oka_106 okp_106
theorem oka_108 : ∀ z, z < 108 → ∀ pc e, PP z pc = some e → OkE z pc e := lt_s oka_107 okp_107
theorem oka_109 : ∀ z, z < 109 → ∀ pc e, PP z pc = some e → OkE z pc e := lt_s oka_108 okp_108
theorem oka_110 : ∀ z, z < 110 → ∀ pc e, PP z pc = some e → OkE z pc e := lt_s oka_109 okp_109
theorem oka_111 : ∀ z, z < 111 → ∀ pc e, PP z pc = some e → OkE z pc e := lt_s oka_110 okp_110
theorem oka_112 : ∀ z, z < 112 → ∀ pc e, PP z pc = some e → OkE z pc e := lt_s oka_111 okp_111
theorem oka_113 : ∀ z, z < 113 → ∀ pc e, PP z pc = some e → OkE z pc e := lt_s oka_112 okp_112
theorem oka_114 : ∀ z, z < 114 → ∀ pc e, PP z pc = some e → OkE z pc e := lt_s oka_113 okp_113
theorem oka_115 : ∀ z, z < 115 → ∀ pc e, PP z pc = some e → OkE z pc e := lt_s oka_114 okp_114
theorem oka_116 : ∀ z, z < 116 → ∀ pc e, PP z pc = some e → OkE z pc e := lt_s oka_115 okp_115
theorem oka_117 : ∀ z, z < 117 → ∀ pc e, PP z pc = some e → OkE z pc e := lt_s oka_116 okp_116
theorem oka_118 : ∀ z, z < 118 → ∀ pc e, PP z pc = some e → OkE z pc e := lt_s oka_117 okp_117
theorem oka_119 : ∀ z, z < 119 → ∀ pc e, PP z pc = some e → OkE z pc e := lt_s oka_118 okp_118
theorem oka_120 : ∀ z, z < 120 → ∀ pc e, PP z pc = some e → OkE z pc e := lt_s oka_119 okp_119
theorem oka_121 : ∀ z, z < 121 → ∀ pc e, PP z pc = some e → OkE z pc e := lt_s oka_120 okp_120
theorem oka_122 : ∀ z, z < 122 → ∀ pc e, PP z pc = some e → OkE z pc e := lt_s oka_121 okp_121
theorem oka_123 : ∀ z, z < 123 → ∀ pc e, PP z pc = some e → OkE z pc e := lt_s oka_122 okp_122
theorem oka_124 : ∀ z, z < 124 → ∀ pc e, PP z pc = some e → OkE z pc e := lt_s oka_123 okp_123
theorem oka_125 : ∀ z, z < 125 → ∀ pc e, PP z pc = some e → OkE z pc e := lt_s oka_124 okp_124
theorem oka_126 : ∀ z, z < 126 → ∀ pc e, PP z pc = some e → OkE z pc e := lt_s oka_125 okp_125
theorem oka_127 : ∀ z, z < 127 → ∀ pc e, PP z pc = some e → OkE z pc e := lt_s oka_126 okp_126
theorem oka_128 : ∀ z, z < 128 → ∀ pc e, PP z pc = some e → OkE z pc e := lt_s oka_127 okp_127
theorem oka_129 : ∀ z, z < 129 → ∀ pc e, PP z pc = some e → OkE z pc e := lt_s oka_128 okp_128
theorem oka_130 : ∀ z, z < 130 → ∀ pc e, PP z pc = some e → OkE z pc e := lt_s oka_129 okp_129
theorem oka_131 : ∀ z, z < 131 → ∀ pc e, PP z pc = some e → OkE z pc e := lt_s oka_130 okp_130
theorem oka_132 : ∀ z, z < 132 → ∀ pc e, PP z pc = some e → OkE z pc e := lt_s oka_131 okp_131
theorem oka_133 : ∀ z, z < 133 → ∀ pc e, PP z pc = some e → OkE z pc e := lt_s oka_132 okp_132
theorem oka_134 : ∀ z, z < 134 → ∀ pc e, PP z pc = some e → OkE z pc e := lt_s oka_133 okp_133
theorem oka_135 : ∀ z, z < 135 → ∀ pc e, PP z pc = some e → OkE z pc e := lt_s oka_134 okp_134
theorem oka_136 : ∀ z, z < 136 → ∀ pc e, PP z pc = some e → OkE z pc e := lt_s oka_135 okp_135
theorem oka_137 : ∀ z, z < 137 → ∀ pc e, PP z pc = some e → OkE z pc e := lt_s oka_136 okp_136
theorem oka_138 : ∀ z, z < 138 → ∀ pc e, PP z pc = some e → OkE z pc e := lt_s oka_137 okp_137
theorem oka_139 : ∀ z, z < 139 → ∀ pc e, PP z pc = some e → OkE z pc e := lt_s oka_138 okp_138
theorem oka_140 : ∀ z, z < 140 → ∀ pc e, PP z pc = some e → OkE z pc e := lt_s oka_139 okp_139
theorem oka_141 : ∀ z, z < 141 → ∀ pc e, PP z pc = some e → OkE z pc e := lt_s oka_140 okp_140
theorem oka_142 : ∀ z, z < 142 → ∀ pc e, PP z pc = some e → OkE z pc e := lt_s oka_141 okp_141
theorem oka_143 : ∀ z, z < 143 → ∀ pc e, PP z pc = some e → OkE z pc e := lt_s oka_142 okp_142
theorem oka_144 : ∀ z, z < 144 → ∀ pc e, PP z pc = some e → OkE z pc e := lt_s oka_143 okp_143
theorem oka_145 : ∀ z, z < 145 → ∀ pc e, PP z pc = some e → OkE z pc e := lt_s oka_144 okp_144
theorem oka_146 : ∀ z, z < 146 → ∀ pc e, PP z pc = some e → OkE z pc e := lt_s oka_145 okp_145
theorem oka_147 : ∀ z, z < 147 → ∀ pc e, PP z pc = some e → OkE z pc e := lt_s oka_146 okp_146
theorem oka_148 : ∀ z, z < 148 → ∀ pc e, PP z pc = some e → OkE z pc e := lt_s oka_147 okp_147
theorem oka_149 : ∀ z, z < 149 → ∀ pc e, PP z pc = some e → OkE z pc e := lt_s oka_148 okp_148
theorem oka_150 : ∀ z, z < 150 → ∀ pc e, PP z pc = some e → OkE z pc e := lt_s oka_149 okp_149
theorem oka_151 : ∀ z, z < 151 → ∀ pc e, PP z pc = some e → OkE z pc e := lt_s oka_150 okp_150
theorem oka_152 : ∀ z, z < 152 → ∀ pc e, PP z pc = some e → OkE z pc e := lt_s oka_151 okp_151
theorem oka_153 : ∀ z, z < 153 → ∀ pc e, PP z pc = some e → OkE z pc e := lt_s oka_152 okp_152
theorem oka_154 : ∀ z, z < 154 → ∀ pc e, PP z pc = some e → OkE z pc e := lt_s oka_153 okp_153
theorem oka_155 : ∀ z, z < 155 → ∀ pc e, PP z pc = some e → OkE z pc e := lt_s oka_154 okp_154
theorem oka_156 : ∀ z, z < 156 → ∀ pc e, PP z pc = some e → OkE z pc e := lt_s oka_155 okp_155
theorem oka_157 : ∀ z, z < 157 → ∀ pc e, PP z pc = some e → OkE z pc e := lt_s oka_156 okp_156
theorem oka_158 : ∀ z, z < 158 → ∀ pc e, PP z pc = some e → OkE z pc e := lt_s oka_157 okp_157
theorem oka_159 : ∀ z, z < 159 → ∀ pc e, PP z pc = some e → OkE z pc e := lt_s oka_158 okp_158
theorem oka_160 : ∀ z, z < 160 → ∀ pc e, PP z pc = some e → OkE z pc e := lt_s oka_159 okp_159
theorem oka_161 : ∀ z, z < 161 → ∀ pc e, PP z pc = some e → OkE z pc e := lt_s oka_160 okp_160
theorem oka_162 : ∀ z, z < 162 → ∀ pc e, PP z pc = some e → OkE z pc e := lt_s oka_161 okp_161
theorem oka_163 : ∀ z, z < 163 → ∀ pc e, PP z pc = some e → OkE z pc e := lt_s oka_162 okp_162
theorem oka_164 : ∀ z, z < 164 → ∀ pc e, PP z pc = some e → OkE z pc e := lt_s oka_163 okp_163
theorem oka_165 : ∀ z, z < 165 → ∀ pc e, PP z pc = some e → OkE z pc e := lt_s oka_164 okp_164
theorem oka_166 : ∀ z, z < 166 → ∀ pc e, PP z pc = some e → OkE z pc e := lt_s oka_165 okp_165
theorem oka_167 : ∀ z, z < 167 → ∀ pc e, PP z pc = some e → OkE z pc e := lt_s oka_166 okp_166
theorem oka_168 : ∀ z, z < 168 → ∀ pc e, PP z pc = some e → OkE z pc e := lt_s oka_167 okp_167
theorem oka_169 : ∀ z, z < 169 → ∀ pc e, PP z pc = some e → OkE z pc e := lt_s oka_168 okp_168
theorem oka_170 : ∀ z, z < 170 → ∀ pc e, PP z pc = some e → OkE z pc e := lt_s oka_169 okp_169
theorem oka_171 : ∀ z, z < 171 → ∀ pc e, PP z pc = some e → OkE z pc e := lt_s oka_170 okp_170
theorem oka_172 : ∀ z, z < 172 → ∀ pc e, PP z pc = some e → OkE z pc e := lt_s oka_171 okp_171
theorem oka_173 : ∀ z, z < 173 → ∀ pc e, PP z pc = some e → OkE z pc e := lt_s oka_172 okp_172
theorem oka_174 : ∀ z, z < 174 → ∀ pc e, PP z pc = some e → OkE z pc e := lt_s oka_173 okp_173
theorem oka_175 : ∀ z, z < 175 → ∀ pc e, PP z pc = some e → OkE z pc e := lt_s oka_174 okp_174
theorem oka_176 : ∀ z, z < 176 → ∀ pc e, PP z pc = some e → OkE z pc e := lt_s oka_175 okp_175
theorem oka_177 : ∀ z, z < 177 → ∀ pc e, PP z pc = some e → OkE z pc e := lt_s oka_176 okp_176
theorem oka_178 : ∀ z, z < 178 → ∀ pc e, PP z pc = some e → OkE z pc e := lt_s oka_177 okp_177
theorem oka_179 : ∀ z, z < 179 → ∀ pc e, PP z pc = some e → OkE z pc e := lt_s oka_178 okp_178
theorem oka_180 : ∀ z, z < 180 → ∀ pc e, PP z pc = some e → OkE z pc e := lt_s oka_179 okp_179
theorem oka_181 : ∀ z, z < 181 → ∀ pc e, PP z pc = some e → OkE z pc e := lt_s oka_180 okp_180
theorem oka_182 : ∀ z, z < 182 → ∀ pc e, PP z pc = some e → OkE z pc e := lt_s oka_181 okp_181
theorem oka_183 : ∀ z, z < 183 → ∀ pc e, PP z pc = some e → OkE z pc e := lt_s oka_182 okp_182
theorem oka_184 : ∀ z, z < 184 → ∀ pc e, PP z pc = some e → OkE z pc e := lt_s oka_183 okp_183
theorem oka_185 : ∀ z, z < 185 → ∀ pc e, PP z pc = some e → OkE z pc e := lt_s oka_184 okp_184
theorem oka_186 : ∀ z, z < 186 → ∀ pc e, PP z pc = some e → OkE z pc e := lt_s oka_185 okp_185
theorem oka_187 : ∀ z, z < 187 → ∀ pc e, PP z pc = some e → OkE z pc e := lt_s oka_186 okp_186
theorem oka_188 : ∀ z, z < 188 → ∀ pc e, PP z pc = some e → OkE z pc e := lt_s oka_187 okp_187
theorem oka_189 : ∀ z, z < 189 → ∀ pc e, PP z pc = some e → OkE z pc e := lt_s oka_188 okp_188
theorem oka_190 : ∀ z, z < 190 → ∀ pc e, PP z pc = some e → OkE z pc e := lt_s oka_189 okp_189
theorem oka_191 : ∀ z, z < 191 → ∀ pc e, PP z pc = some e → OkE z pc e := lt_s oka_190 okp_190
theorem oka_192 : ∀ z, z < 192 → ∀ pc e, PP z pc = some e → OkE z pc e := lt_s oka_191 okp_191
theorem oka_193 : ∀ z, z < 193 → ∀ pc e, PP z pc = some e → OkE z pc e := lt_s oka_192 okp_192
theorem oka_194 : ∀ z, z < 194 → ∀ pc e, PP z pc = some e → OkE z pc e := lt_s oka_193 okp_193
theorem oka_195 : ∀ z, z < 195 → ∀ pc e, PP z pc = some e → OkE z pc e := lt_s oka_194 okp_194
theorem oka_196 : ∀ z, z < 196 → ∀ pc e, PP z pc = some e → OkE z pc e := lt_s oka_195 okp_195
theorem oka_197 : ∀ z, z < 197 → ∀ pc e, PP z pc = some e → OkE z pc e := lt_s oka_196 okp_196
theorem oka_198 : ∀ z, z < 198 → ∀ pc e, PP z pc = some e → OkE z pc e := lt_s oka_197 okp_197
theorem oka_199 : ∀ z, z < 199 → ∀ pc e, PP z pc = some e → OkE z pc e := lt_s oka_198 okp_198
theorem oka_200 : ∀ z, z < 200 → ∀ pc e, PP z pc = some e → OkE z pc e := lt_s oka_199 okp_199
theorem oka_201 : ∀ z, z < 201 → ∀ pc e, PP z pc = some e → OkE z pc e := lt_s oka_200 okp_200
theorem oka_202 : ∀ z, z < 202 → ∀ pc e, PP z pc = some e → OkE z pc e := lt_s oka_201 okp_201
theorem oka_203 : ∀ z, z < 203 → ∀ pc e, PP z pc = some e → OkE z pc e := lt_s oka_202 okp_202
theorem oka_204 : ∀ z, z < 204 → ∀ pc e, PP z pc = some e → OkE z pc e := lt_s oka_203 okp_203
theorem oka_205 : ∀ z, z < 205 → ∀ pc e, PP z pc = some e → OkE z pc e := lt_s oka_204 okp_204
theorem oka_206 : ∀ z, z < 206 → ∀ pc e, PP z pc = some e → OkE z pc e := lt_s oka_205 okp_205
theorem oka_207 : ∀ z, z < 207 → ∀ pc e, PP z pc = some e → OkE z pc e := lt_s oka_206 okp_206
theorem oka_208 : ∀ z, z < 208 → ∀ pc e, PP z pc = some e → OkE z pc e := lt_s oka_207 okp_207
theorem oka_209 : ∀ z, z < 209 → ∀ pc e, PP z pc = some e → OkE z pc e := lt_s oka_208 okp_208
theorem oka_210 : ∀ z, z < 210 → ∀ pc e, PP z pc = some e → OkE z pc e := lt_s oka_209 okp_209
theorem oka_211 : ∀ z, z < 211 → ∀ pc e, PP z pc = some e → OkE z pc e := lt_s oka_210 okp_210
theorem oka_212 : ∀ z, z < 212 → ∀ pc e, PP z pc = some e → OkE z pc e := lt_s oka_211 okp_211
theorem oka_213 : ∀ z, z < 213 → ∀ pc e, PP z pc = some e → OkE z pc e := lt_s oka_212 okp_212
theorem oka_214 : ∀ z, z < 214 → ∀ pc e, PP z pc = some e → OkE z pc e := lt_s oka_213 okp_213
theorem oka_215 : ∀ z, z < 215 → ∀ pc e, PP z pc = some e → OkE z pc e := lt_s oka_214 okp_214
theorem oka_216 : ∀ z, z < 216 → ∀ pc e, PP z pc = some e → OkE z pc e := lt_s oka_215 okp_215
theorem oka_217 : ∀ z, z < 217 → ∀ pc e, PP z pc = some e → OkE z pc e := lt_s oka_216 okp_216
theorem oka_218 : ∀ z, z < 218 → ∀ pc e, PP z pc = some e → OkE z pc e := lt_s oka_217 okp_217
theorem oka_219 : ∀ z, z < 219 → ∀ pc e, PP z pc = some e → OkE z pc e := lt_s oka_218 okp_218
theorem oka_220 : ∀ z, z < 220 → ∀ pc e, PP z pc = some e → OkE z pc e := lt_s oka_219 okp_219
theorem oka_221 : ∀ z, z < 221 → ∀ pc e, PP z pc = some e → OkE z pc e := lt_s oka_220 okp_220
theorem oka_222 : ∀ z, z < 222 → ∀ pc e, PP z pc = some e → OkE z pc e := lt_s oka_221 okp_221
theorem oka_223 : ∀ z, z < 223 → ∀ pc e, PP z pc = some e → OkE z pc e := lt_s oka_222 okp_222
theorem oka_224 : ∀ z, z < 224 → ∀ pc e, PP z pc = some e → OkE z pc e := lt_s oka_223 okp_223
theorem oka_225 : ∀ z, z < 225 → ∀ pc e, PP z pc = some e → OkE z pc e := lt_s oka_224 okp_224
theorem oka_226 : ∀ z, z < 226 → ∀ pc e, PP z pc = some e → OkE z pc e := lt_s oka_225 okp_225
theorem oka_227 : ∀ z, z < 227 → ∀ pc e, PP z pc = some e → OkE z pc e := lt_s oka_226 okp_226
theorem oka_228 : ∀ z, z < 228 → ∀ pc e, PP z pc = some e → OkE z pc e := lt_s oka_227 okp_227
theorem oka_229 : ∀ z, z < 229 → ∀ pc e, PP z pc = some e → OkE z pc e := lt_s oka_228 okp_228
theorem oka_230 : ∀ z, z < 230 → ∀ pc e, PP z pc = some e → OkE z pc e := lt_s oka_229 okp_229
theorem oka_231 : ∀ z, z < 231 → ∀ pc e, PP z pc = some e → OkE z pc e := lt_s oka_230 okp_230
theorem oka_232 : ∀ z, z < 232 → ∀ pc e, PP z pc = some e → OkE z pc e := lt_s oka_231 okp_231
/-- the whole program -/
theorem PP_ok : ∀ z pc e, PP z pc = some e → OkE z pc e := by
  intro z pc e h
  by_cases hz : z < 232
  · exact oka_232 z hz pc e h
  · have : PP z = fun _ => none := by
      unfold PP
      rw [Nat.ble_eq_true_of_le (by omega)]
      rfl
    rw [this] at h
    cases h
