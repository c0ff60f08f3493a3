/-! CalledRiverModel constructor -/
theorem dX12_init_0 : decode cX12_init 0 = .ok (.aload_n 0, 1) := by decide +kernel
theorem dX12_init_1 : decode cX12_init 1 = .ok (.invokespecial 1, 3) := by decide +kernel
theorem dX12_init_4 : decode cX12_init 4 = .ok (.aload_n 0, 1) := by decide +kernel
theorem dX12_init_5 : decode cX12_init 5 = .ok (.sipush 1600, 3) := by decide +kernel
theorem dX12_init_8 : decode cX12_init 8 = .ok (.newarray .int, 2) := by decide +kernel
theorem dX12_init_10 : decode cX12_init 10 = .ok (.putfield 7, 3) := by decide +kernel
theorem dX12_init_13 : decode cX12_init 13 = .ok (.aload_n 0, 1) := by decide +kernel
theorem dX12_init_14 : decode cX12_init 14 = .ok (.iconst (-1), 1) := by decide +kernel
theorem dX12_init_15 : decode cX12_init 15 = .ok (.putfield 13, 3) := by decide +kernel
theorem dX12_init_18 : decode cX12_init 18 = .ok (.aload_n 0, 1) := by decide +kernel
theorem dX12_init_19 : decode cX12_init 19 = .ok (.bipush 6, 2) := by decide +kernel
theorem dX12_init_21 : decode cX12_init 21 = .ok (.newarray .int, 2) := by decide +kernel
theorem dX12_init_23 : decode cX12_init 23 = .ok (.putfield 17, 3) := by decide +kernel
theorem dX12_init_26 : decode cX12_init 26 = .ok (.aload_n 0, 1) := by decide +kernel
theorem dX12_init_27 : decode cX12_init 27 = .ok (.iconst 5, 1) := by decide +kernel
theorem dX12_init_28 : decode cX12_init 28 = .ok (.newarray .char, 2) := by decide +kernel
theorem dX12_init_30 : decode cX12_init 30 = .ok (.dup, 1) := by decide +kernel
theorem dX12_init_31 : decode cX12_init 31 = .ok (.iconst 0, 1) := by decide +kernel
theorem dX12_init_32 : decode cX12_init 32 = .ok (.bipush 112, 2) := by decide +kernel
theorem dX12_init_34 : decode cX12_init 34 = .ok (.castore, 1) := by decide +kernel
theorem dX12_init_35 : decode cX12_init 35 = .ok (.dup, 1) := by decide +kernel
theorem dX12_init_36 : decode cX12_init 36 = .ok (.iconst 1, 1) := by decide +kernel
theorem dX12_init_37 : decode cX12_init 37 = .ok (.bipush 108, 2) := by decide +kernel
theorem dX12_init_39 : decode cX12_init 39 = .ok (.castore, 1) := by decide +kernel
theorem dX12_init_40 : decode cX12_init 40 = .ok (.dup, 1) := by decide +kernel
theorem dX12_init_41 : decode cX12_init 41 = .ok (.iconst 2, 1) := by decide +kernel
theorem dX12_init_42 : decode cX12_init 42 = .ok (.bipush 97, 2) := by decide +kernel
theorem dX12_init_44 : decode cX12_init 44 = .ok (.castore, 1) := by decide +kernel
theorem dX12_init_45 : decode cX12_init 45 = .ok (.dup, 1) := by decide +kernel
theorem dX12_init_46 : decode cX12_init 46 = .ok (.iconst 3, 1) := by decide +kernel
theorem dX12_init_47 : decode cX12_init 47 = .ok (.bipush 105, 2) := by decide +kernel
theorem dX12_init_49 : decode cX12_init 49 = .ok (.castore, 1) := by decide +kernel
theorem dX12_init_50 : decode cX12_init 50 = .ok (.dup, 1) := by decide +kernel
theorem dX12_init_51 : decode cX12_init 51 = .ok (.iconst 4, 1) := by decide +kernel
theorem dX12_init_52 : decode cX12_init 52 = .ok (.bipush 110, 2) := by decide +kernel
theorem dX12_init_54 : decode cX12_init 54 = .ok (.castore, 1) := by decide +kernel
theorem dX12_init_55 : decode cX12_init 55 = .ok (.putfield 20, 3) := by decide +kernel
theorem dX12_init_58 : decode cX12_init 58 = .ok (.aload_n 0, 1) := by decide +kernel
theorem dX12_init_59 : decode cX12_init 59 = .ok (.iconst 2, 1) := by decide +kernel
theorem dX12_init_60 : decode cX12_init 60 = .ok (.newarray .char, 2) := by decide +kernel
theorem dX12_init_62 : decode cX12_init 62 = .ok (.dup, 1) := by decide +kernel
theorem dX12_init_63 : decode cX12_init 63 = .ok (.iconst 0, 1) := by decide +kernel
theorem dX12_init_64 : decode cX12_init 64 = .ok (.bipush 98, 2) := by decide +kernel
theorem dX12_init_66 : decode cX12_init 66 = .ok (.castore, 1) := by decide +kernel
theorem dX12_init_67 : decode cX12_init 67 = .ok (.dup, 1) := by decide +kernel
theorem dX12_init_68 : decode cX12_init 68 = .ok (.iconst 1, 1) := by decide +kernel
theorem dX12_init_69 : decode cX12_init 69 = .ok (.bipush 121, 2) := by decide +kernel
theorem dX12_init_71 : decode cX12_init 71 = .ok (.castore, 1) := by decide +kernel
theorem dX12_init_72 : decode cX12_init 72 = .ok (.putfield 24, 3) := by decide +kernel
theorem dX12_init_75 : decode cX12_init 75 = .ok (.aload_n 0, 1) := by decide +kernel
theorem dX12_init_76 : decode cX12_init 76 = .ok (.iconst 4, 1) := by decide +kernel
theorem dX12_init_77 : decode cX12_init 77 = .ok (.newarray .char, 2) := by decide +kernel
theorem dX12_init_79 : decode cX12_init 79 = .ok (.dup, 1) := by decide +kernel
theorem dX12_init_80 : decode cX12_init 80 = .ok (.iconst 0, 1) := by decide +kernel
theorem dX12_init_81 : decode cX12_init 81 = .ok (.bipush 104, 2) := by decide +kernel
theorem dX12_init_83 : decode cX12_init 83 = .ok (.castore, 1) := by decide +kernel
theorem dX12_init_84 : decode cX12_init 84 = .ok (.dup, 1) := by decide +kernel
theorem dX12_init_85 : decode cX12_init 85 = .ok (.iconst 1, 1) := by decide +kernel
theorem dX12_init_86 : decode cX12_init 86 = .ok (.bipush 105, 2) := by decide +kernel
theorem dX12_init_88 : decode cX12_init 88 = .ok (.castore, 1) := by decide +kernel
theorem dX12_init_89 : decode cX12_init 89 = .ok (.dup, 1) := by decide +kernel
theorem dX12_init_90 : decode cX12_init 90 = .ok (.iconst 2, 1) := by decide +kernel
theorem dX12_init_91 : decode cX12_init 91 = .ok (.bipush 103, 2) := by decide +kernel
theorem dX12_init_93 : decode cX12_init 93 = .ok (.castore, 1) := by decide +kernel
theorem dX12_init_94 : decode cX12_init 94 = .ok (.dup, 1) := by decide +kernel
theorem dX12_init_95 : decode cX12_init 95 = .ok (.iconst 3, 1) := by decide +kernel
theorem dX12_init_96 : decode cX12_init 96 = .ok (.bipush 104, 2) := by decide +kernel
theorem dX12_init_98 : decode cX12_init 98 = .ok (.castore, 1) := by decide +kernel
theorem dX12_init_99 : decode cX12_init 99 = .ok (.putfield 27, 3) := by decide +kernel
theorem dX12_init_102 : decode cX12_init 102 = .ok (.aload_n 0, 1) := by decide +kernel
theorem dX12_init_103 : decode cX12_init 103 = .ok (.iconst 5, 1) := by decide +kernel
theorem dX12_init_104 : decode cX12_init 104 = .ok (.newarray .char, 2) := by decide +kernel
theorem dX12_init_106 : decode cX12_init 106 = .ok (.dup, 1) := by decide +kernel
theorem dX12_init_107 : decode cX12_init 107 = .ok (.iconst 0, 1) := by decide +kernel
theorem dX12_init_108 : decode cX12_init 108 = .ok (.bipush 115, 2) := by decide +kernel
theorem dX12_init_110 : decode cX12_init 110 = .ok (.castore, 1) := by decide +kernel
theorem dX12_init_111 : decode cX12_init 111 = .ok (.dup, 1) := by decide +kernel
theorem dX12_init_112 : decode cX12_init 112 = .ok (.iconst 1, 1) := by decide +kernel
theorem dX12_init_113 : decode cX12_init 113 = .ok (.bipush 116, 2) := by decide +kernel
theorem dX12_init_115 : decode cX12_init 115 = .ok (.castore, 1) := by decide +kernel
theorem dX12_init_116 : decode cX12_init 116 = .ok (.dup, 1) := by decide +kernel
theorem dX12_init_117 : decode cX12_init 117 = .ok (.iconst 2, 1) := by decide +kernel
theorem dX12_init_118 : decode cX12_init 118 = .ok (.bipush 111, 2) := by decide +kernel
theorem dX12_init_120 : decode cX12_init 120 = .ok (.castore, 1) := by decide +kernel
theorem dX12_init_121 : decode cX12_init 121 = .ok (.dup, 1) := by decide +kernel
theorem dX12_init_122 : decode cX12_init 122 = .ok (.iconst 3, 1) := by decide +kernel
theorem dX12_init_123 : decode cX12_init 123 = .ok (.bipush 110, 2) := by decide +kernel
theorem dX12_init_125 : decode cX12_init 125 = .ok (.castore, 1) := by decide +kernel
theorem dX12_init_126 : decode cX12_init 126 = .ok (.dup, 1) := by decide +kernel
theorem dX12_init_127 : decode cX12_init 127 = .ok (.iconst 4, 1) := by decide +kernel
theorem dX12_init_128 : decode cX12_init 128 = .ok (.bipush 101, 2) := by decide +kernel
theorem dX12_init_130 : decode cX12_init 130 = .ok (.castore, 1) := by decide +kernel
theorem dX12_init_131 : decode cX12_init 131 = .ok (.putfield 30, 3) := by decide +kernel
theorem dX12_init_134 : decode cX12_init 134 = .ok (.aload_n 0, 1) := by decide +kernel
theorem dX12_init_135 : decode cX12_init 135 = .ok (.bipush 6, 2) := by decide +kernel
theorem dX12_init_137 : decode cX12_init 137 = .ok (.newarray .char, 2) := by decide +kernel
theorem dX12_init_139 : decode cX12_init 139 = .ok (.dup, 1) := by decide +kernel
theorem dX12_init_140 : decode cX12_init 140 = .ok (.iconst 0, 1) := by decide +kernel
theorem dX12_init_141 : decode cX12_init 141 = .ok (.bipush 115, 2) := by decide +kernel
theorem dX12_init_143 : decode cX12_init 143 = .ok (.castore, 1) := by decide +kernel
theorem dX12_init_144 : decode cX12_init 144 = .ok (.dup, 1) := by decide +kernel
theorem dX12_init_145 : decode cX12_init 145 = .ok (.iconst 1, 1) := by decide +kernel
theorem dX12_init_146 : decode cX12_init 146 = .ok (.bipush 111, 2) := by decide +kernel
theorem dX12_init_148 : decode cX12_init 148 = .ok (.castore, 1) := by decide +kernel
theorem dX12_init_149 : decode cX12_init 149 = .ok (.dup, 1) := by decide +kernel
theorem dX12_init_150 : decode cX12_init 150 = .ok (.iconst 2, 1) := by decide +kernel
theorem dX12_init_151 : decode cX12_init 151 = .ok (.bipush 117, 2) := by decide +kernel
theorem dX12_init_153 : decode cX12_init 153 = .ok (.castore, 1) := by decide +kernel
theorem dX12_init_154 : decode cX12_init 154 = .ok (.dup, 1) := by decide +kernel
theorem dX12_init_155 : decode cX12_init 155 = .ok (.iconst 3, 1) := by decide +kernel
theorem dX12_init_156 : decode cX12_init 156 = .ok (.bipush 114, 2) := by decide +kernel
theorem dX12_init_158 : decode cX12_init 158 = .ok (.castore, 1) := by decide +kernel
theorem dX12_init_159 : decode cX12_init 159 = .ok (.dup, 1) := by decide +kernel
theorem dX12_init_160 : decode cX12_init 160 = .ok (.iconst 4, 1) := by decide +kernel
theorem dX12_init_161 : decode cX12_init 161 = .ok (.bipush 99, 2) := by decide +kernel
theorem dX12_init_163 : decode cX12_init 163 = .ok (.castore, 1) := by decide +kernel
theorem dX12_init_164 : decode cX12_init 164 = .ok (.dup, 1) := by decide +kernel
theorem dX12_init_165 : decode cX12_init 165 = .ok (.iconst 5, 1) := by decide +kernel
theorem dX12_init_166 : decode cX12_init 166 = .ok (.bipush 101, 2) := by decide +kernel
theorem dX12_init_168 : decode cX12_init 168 = .ok (.castore, 1) := by decide +kernel
theorem dX12_init_169 : decode cX12_init 169 = .ok (.putfield 33, 3) := by decide +kernel
theorem dX12_init_172 : decode cX12_init 172 = .ok (.aload_n 0, 1) := by decide +kernel
theorem dX12_init_173 : decode cX12_init 173 = .ok (.iconst 4, 1) := by decide +kernel
theorem dX12_init_174 : decode cX12_init 174 = .ok (.newarray .char, 2) := by decide +kernel
theorem dX12_init_176 : decode cX12_init 176 = .ok (.dup, 1) := by decide +kernel
theorem dX12_init_177 : decode cX12_init 177 = .ok (.iconst 0, 1) := by decide +kernel
theorem dX12_init_178 : decode cX12_init 178 = .ok (.bipush 102, 2) := by decide +kernel
theorem dX12_init_180 : decode cX12_init 180 = .ok (.castore, 1) := by decide +kernel
theorem dX12_init_181 : decode cX12_init 181 = .ok (.dup, 1) := by decide +kernel
theorem dX12_init_182 : decode cX12_init 182 = .ok (.iconst 1, 1) := by decide +kernel
theorem dX12_init_183 : decode cX12_init 183 = .ok (.bipush 97, 2) := by decide +kernel
theorem dX12_init_185 : decode cX12_init 185 = .ok (.castore, 1) := by decide +kernel
theorem dX12_init_186 : decode cX12_init 186 = .ok (.dup, 1) := by decide +kernel
theorem dX12_init_187 : decode cX12_init 187 = .ok (.iconst 2, 1) := by decide +kernel
theorem dX12_init_188 : decode cX12_init 188 = .ok (.bipush 114, 2) := by decide +kernel
theorem dX12_init_190 : decode cX12_init 190 = .ok (.castore, 1) := by decide +kernel
theorem dX12_init_191 : decode cX12_init 191 = .ok (.dup, 1) := by decide +kernel
theorem dX12_init_192 : decode cX12_init 192 = .ok (.iconst 3, 1) := by decide +kernel
theorem dX12_init_193 : decode cX12_init 193 = .ok (.bipush 109, 2) := by decide +kernel
theorem dX12_init_195 : decode cX12_init 195 = .ok (.castore, 1) := by decide +kernel
theorem dX12_init_196 : decode cX12_init 196 = .ok (.putfield 36, 3) := by decide +kernel
theorem dX12_init_199 : decode cX12_init 199 = .ok (.aload_n 0, 1) := by decide +kernel
theorem dX12_init_200 : decode cX12_init 200 = .ok (.iconst 2, 1) := by decide +kernel
theorem dX12_init_201 : decode cX12_init 201 = .ok (.newarray .char, 2) := by decide +kernel
theorem dX12_init_203 : decode cX12_init 203 = .ok (.dup, 1) := by decide +kernel
theorem dX12_init_204 : decode cX12_init 204 = .ok (.iconst 0, 1) := by decide +kernel
theorem dX12_init_205 : decode cX12_init 205 = .ok (.bipush 97, 2) := by decide +kernel
theorem dX12_init_207 : decode cX12_init 207 = .ok (.castore, 1) := by decide +kernel
theorem dX12_init_208 : decode cX12_init 208 = .ok (.dup, 1) := by decide +kernel
theorem dX12_init_209 : decode cX12_init 209 = .ok (.iconst 1, 1) := by decide +kernel
theorem dX12_init_210 : decode cX12_init 210 = .ok (.bipush 116, 2) := by decide +kernel
theorem dX12_init_212 : decode cX12_init 212 = .ok (.castore, 1) := by decide +kernel
theorem dX12_init_213 : decode cX12_init 213 = .ok (.putfield 39, 3) := by decide +kernel
theorem dX12_init_216 : decode cX12_init 216 = .ok (.aload_n 0, 1) := by decide +kernel
theorem dX12_init_217 : decode cX12_init 217 = .ok (.iconst 3, 1) := by decide +kernel
theorem dX12_init_218 : decode cX12_init 218 = .ok (.newarray .char, 2) := by decide +kernel
theorem dX12_init_220 : decode cX12_init 220 = .ok (.dup, 1) := by decide +kernel
theorem dX12_init_221 : decode cX12_init 221 = .ok (.iconst 0, 1) := by decide +kernel
theorem dX12_init_222 : decode cX12_init 222 = .ok (.bipush 100, 2) := by decide +kernel
theorem dX12_init_224 : decode cX12_init 224 = .ok (.castore, 1) := by decide +kernel
theorem dX12_init_225 : decode cX12_init 225 = .ok (.dup, 1) := by decide +kernel
theorem dX12_init_226 : decode cX12_init 226 = .ok (.iconst 1, 1) := by decide +kernel
theorem dX12_init_227 : decode cX12_init 227 = .ok (.bipush 97, 2) := by decide +kernel
theorem dX12_init_229 : decode cX12_init 229 = .ok (.castore, 1) := by decide +kernel
theorem dX12_init_230 : decode cX12_init 230 = .ok (.dup, 1) := by decide +kernel
theorem dX12_init_231 : decode cX12_init 231 = .ok (.iconst 2, 1) := by decide +kernel
theorem dX12_init_232 : decode cX12_init 232 = .ok (.bipush 121, 2) := by decide +kernel
theorem dX12_init_234 : decode cX12_init 234 = .ok (.castore, 1) := by decide +kernel
theorem dX12_init_235 : decode cX12_init 235 = .ok (.putfield 42, 3) := by decide +kernel
theorem dX12_init_238 : decode cX12_init 238 = .ok (.aload_n 0, 1) := by decide +kernel
theorem dX12_init_239 : decode cX12_init 239 = .ok (.iconst 3, 1) := by decide +kernel
theorem dX12_init_240 : decode cX12_init 240 = .ok (.newarray .char, 2) := by decide +kernel
theorem dX12_init_242 : decode cX12_init 242 = .ok (.dup, 1) := by decide +kernel
theorem dX12_init_243 : decode cX12_init 243 = .ok (.iconst 0, 1) := by decide +kernel
theorem dX12_init_244 : decode cX12_init 244 = .ok (.bipush 112, 2) := by decide +kernel
theorem dX12_init_246 : decode cX12_init 246 = .ok (.castore, 1) := by decide +kernel
theorem dX12_init_247 : decode cX12_init 247 = .ok (.dup, 1) := by decide +kernel
theorem dX12_init_248 : decode cX12_init 248 = .ok (.iconst 1, 1) := by decide +kernel
theorem dX12_init_249 : decode cX12_init 249 = .ok (.bipush 105, 2) := by decide +kernel
theorem dX12_init_251 : decode cX12_init 251 = .ok (.castore, 1) := by decide +kernel
theorem dX12_init_252 : decode cX12_init 252 = .ok (.dup, 1) := by decide +kernel
theorem dX12_init_253 : decode cX12_init 253 = .ok (.iconst 2, 1) := by decide +kernel
theorem dX12_init_254 : decode cX12_init 254 = .ok (.bipush 101, 2) := by decide +kernel
theorem dX12_init_256 : decode cX12_init 256 = .ok (.castore, 1) := by decide +kernel
theorem dX12_init_257 : decode cX12_init 257 = .ok (.putfield 45, 3) := by decide +kernel
theorem dX12_init_260 : decode cX12_init 260 = .ok (.aload_n 0, 1) := by decide +kernel
theorem dX12_init_261 : decode cX12_init 261 = .ok (.bipush 6, 2) := by decide +kernel
theorem dX12_init_263 : decode cX12_init 263 = .ok (.newarray .char, 2) := by decide +kernel
theorem dX12_init_265 : decode cX12_init 265 = .ok (.dup, 1) := by decide +kernel
theorem dX12_init_266 : decode cX12_init 266 = .ok (.iconst 0, 1) := by decide +kernel
theorem dX12_init_267 : decode cX12_init 267 = .ok (.bipush 99, 2) := by decide +kernel
theorem dX12_init_269 : decode cX12_init 269 = .ok (.castore, 1) := by decide +kernel
theorem dX12_init_270 : decode cX12_init 270 = .ok (.dup, 1) := by decide +kernel
theorem dX12_init_271 : decode cX12_init 271 = .ok (.iconst 1, 1) := by decide +kernel
theorem dX12_init_272 : decode cX12_init 272 = .ok (.bipush 97, 2) := by decide +kernel
theorem dX12_init_274 : decode cX12_init 274 = .ok (.castore, 1) := by decide +kernel
theorem dX12_init_275 : decode cX12_init 275 = .ok (.dup, 1) := by decide +kernel
theorem dX12_init_276 : decode cX12_init 276 = .ok (.iconst 2, 1) := by decide +kernel
theorem dX12_init_277 : decode cX12_init 277 = .ok (.bipush 108, 2) := by decide +kernel
theorem dX12_init_279 : decode cX12_init 279 = .ok (.castore, 1) := by decide +kernel
theorem dX12_init_280 : decode cX12_init 280 = .ok (.dup, 1) := by decide +kernel
theorem dX12_init_281 : decode cX12_init 281 = .ok (.iconst 3, 1) := by decide +kernel
theorem dX12_init_282 : decode cX12_init 282 = .ok (.bipush 108, 2) := by decide +kernel
theorem dX12_init_284 : decode cX12_init 284 = .ok (.castore, 1) := by decide +kernel
theorem dX12_init_285 : decode cX12_init 285 = .ok (.dup, 1) := by decide +kernel
theorem dX12_init_286 : decode cX12_init 286 = .ok (.iconst 4, 1) := by decide +kernel
theorem dX12_init_287 : decode cX12_init 287 = .ok (.bipush 101, 2) := by decide +kernel
theorem dX12_init_289 : decode cX12_init 289 = .ok (.castore, 1) := by decide +kernel
theorem dX12_init_290 : decode cX12_init 290 = .ok (.dup, 1) := by decide +kernel
theorem dX12_init_291 : decode cX12_init 291 = .ok (.iconst 5, 1) := by decide +kernel
theorem dX12_init_292 : decode cX12_init 292 = .ok (.bipush 114, 2) := by decide +kernel
theorem dX12_init_294 : decode cX12_init 294 = .ok (.castore, 1) := by decide +kernel
theorem dX12_init_295 : decode cX12_init 295 = .ok (.putfield 48, 3) := by decide +kernel
theorem dX12_init_298 : decode cX12_init 298 = .ok (.aload_n 0, 1) := by decide +kernel
theorem dX12_init_299 : decode cX12_init 299 = .ok (.iconst 4, 1) := by decide +kernel
theorem dX12_init_300 : decode cX12_init 300 = .ok (.newarray .char, 2) := by decide +kernel
theorem dX12_init_302 : decode cX12_init 302 = .ok (.dup, 1) := by decide +kernel
theorem dX12_init_303 : decode cX12_init 303 = .ok (.iconst 0, 1) := by decide +kernel
theorem dX12_init_304 : decode cX12_init 304 = .ok (.bipush 98, 2) := by decide +kernel
theorem dX12_init_306 : decode cX12_init 306 = .ok (.castore, 1) := by decide +kernel
theorem dX12_init_307 : decode cX12_init 307 = .ok (.dup, 1) := by decide +kernel
theorem dX12_init_308 : decode cX12_init 308 = .ok (.iconst 1, 1) := by decide +kernel
theorem dX12_init_309 : decode cX12_init 309 = .ok (.bipush 111, 2) := by decide +kernel
theorem dX12_init_311 : decode cX12_init 311 = .ok (.castore, 1) := by decide +kernel
theorem dX12_init_312 : decode cX12_init 312 = .ok (.dup, 1) := by decide +kernel
theorem dX12_init_313 : decode cX12_init 313 = .ok (.iconst 2, 1) := by decide +kernel
theorem dX12_init_314 : decode cX12_init 314 = .ok (.bipush 108, 2) := by decide +kernel
theorem dX12_init_316 : decode cX12_init 316 = .ok (.castore, 1) := by decide +kernel
theorem dX12_init_317 : decode cX12_init 317 = .ok (.dup, 1) := by decide +kernel
theorem dX12_init_318 : decode cX12_init 318 = .ok (.iconst 3, 1) := by decide +kernel
theorem dX12_init_319 : decode cX12_init 319 = .ok (.bipush 100, 2) := by decide +kernel
theorem dX12_init_321 : decode cX12_init 321 = .ok (.castore, 1) := by decide +kernel
theorem dX12_init_322 : decode cX12_init 322 = .ok (.putfield 51, 3) := by decide +kernel
theorem dX12_init_325 : decode cX12_init 325 = .ok (.aload_n 0, 1) := by decide +kernel
theorem dX12_init_326 : decode cX12_init 326 = .ok (.iconst 4, 1) := by decide +kernel
theorem dX12_init_327 : decode cX12_init 327 = .ok (.newarray .char, 2) := by decide +kernel
theorem dX12_init_329 : decode cX12_init 329 = .ok (.dup, 1) := by decide +kernel
theorem dX12_init_330 : decode cX12_init 330 = .ok (.iconst 0, 1) := by decide +kernel
theorem dX12_init_331 : decode cX12_init 331 = .ok (.bipush 107, 2) := by decide +kernel
theorem dX12_init_333 : decode cX12_init 333 = .ok (.castore, 1) := by decide +kernel
theorem dX12_init_334 : decode cX12_init 334 = .ok (.dup, 1) := by decide +kernel
theorem dX12_init_335 : decode cX12_init 335 = .ok (.iconst 1, 1) := by decide +kernel
theorem dX12_init_336 : decode cX12_init 336 = .ok (.bipush 105, 2) := by decide +kernel
theorem dX12_init_338 : decode cX12_init 338 = .ok (.castore, 1) := by decide +kernel
theorem dX12_init_339 : decode cX12_init 339 = .ok (.dup, 1) := by decide +kernel
theorem dX12_init_340 : decode cX12_init 340 = .ok (.iconst 2, 1) := by decide +kernel
theorem dX12_init_341 : decode cX12_init 341 = .ok (.bipush 110, 2) := by decide +kernel
theorem dX12_init_343 : decode cX12_init 343 = .ok (.castore, 1) := by decide +kernel
theorem dX12_init_344 : decode cX12_init 344 = .ok (.dup, 1) := by decide +kernel
theorem dX12_init_345 : decode cX12_init 345 = .ok (.iconst 3, 1) := by decide +kernel
theorem dX12_init_346 : decode cX12_init 346 = .ok (.bipush 100, 2) := by decide +kernel
theorem dX12_init_348 : decode cX12_init 348 = .ok (.castore, 1) := by decide +kernel
theorem dX12_init_349 : decode cX12_init 349 = .ok (.putfield 54, 3) := by decide +kernel
theorem dX12_init_352 : decode cX12_init 352 = .ok (.aload_n 0, 1) := by decide +kernel
theorem dX12_init_353 : decode cX12_init 353 = .ok (.iconst 4, 1) := by decide +kernel
theorem dX12_init_354 : decode cX12_init 354 = .ok (.newarray .char, 2) := by decide +kernel
theorem dX12_init_356 : decode cX12_init 356 = .ok (.dup, 1) := by decide +kernel
theorem dX12_init_357 : decode cX12_init 357 = .ok (.iconst 0, 1) := by decide +kernel
theorem dX12_init_358 : decode cX12_init 358 = .ok (.bipush 103, 2) := by decide +kernel
theorem dX12_init_360 : decode cX12_init 360 = .ok (.castore, 1) := by decide +kernel
theorem dX12_init_361 : decode cX12_init 361 = .ok (.dup, 1) := by decide +kernel
theorem dX12_init_362 : decode cX12_init 362 = .ok (.iconst 1, 1) := by decide +kernel
theorem dX12_init_363 : decode cX12_init 363 = .ok (.bipush 111, 2) := by decide +kernel
theorem dX12_init_365 : decode cX12_init 365 = .ok (.castore, 1) := by decide +kernel
theorem dX12_init_366 : decode cX12_init 366 = .ok (.dup, 1) := by decide +kernel
theorem dX12_init_367 : decode cX12_init 367 = .ok (.iconst 2, 1) := by decide +kernel
theorem dX12_init_368 : decode cX12_init 368 = .ok (.bipush 101, 2) := by decide +kernel
theorem dX12_init_370 : decode cX12_init 370 = .ok (.castore, 1) := by decide +kernel
theorem dX12_init_371 : decode cX12_init 371 = .ok (.dup, 1) := by decide +kernel
theorem dX12_init_372 : decode cX12_init 372 = .ok (.iconst 3, 1) := by decide +kernel
theorem dX12_init_373 : decode cX12_init 373 = .ok (.bipush 115, 2) := by decide +kernel
theorem dX12_init_375 : decode cX12_init 375 = .ok (.castore, 1) := by decide +kernel
theorem dX12_init_376 : decode cX12_init 376 = .ok (.putfield 57, 3) := by decide +kernel
theorem dX12_init_379 : decode cX12_init 379 = .ok (.aload_n 0, 1) := by decide +kernel
theorem dX12_init_380 : decode cX12_init 380 = .ok (.iconst 5, 1) := by decide +kernel
theorem dX12_init_381 : decode cX12_init 381 = .ok (.newarray .char, 2) := by decide +kernel
theorem dX12_init_383 : decode cX12_init 383 = .ok (.dup, 1) := by decide +kernel
theorem dX12_init_384 : decode cX12_init 384 = .ok (.iconst 0, 1) := by decide +kernel
theorem dX12_init_385 : decode cX12_init 385 = .ok (.bipush 98, 2) := by decide +kernel
theorem dX12_init_387 : decode cX12_init 387 = .ok (.castore, 1) := by decide +kernel
theorem dX12_init_388 : decode cX12_init 388 = .ok (.dup, 1) := by decide +kernel
theorem dX12_init_389 : decode cX12_init 389 = .ok (.iconst 1, 1) := by decide +kernel
theorem dX12_init_390 : decode cX12_init 390 = .ok (.bipush 97, 2) := by decide +kernel
theorem dX12_init_392 : decode cX12_init 392 = .ok (.castore, 1) := by decide +kernel
theorem dX12_init_393 : decode cX12_init 393 = .ok (.dup, 1) := by decide +kernel
theorem dX12_init_394 : decode cX12_init 394 = .ok (.iconst 2, 1) := by decide +kernel
theorem dX12_init_395 : decode cX12_init 395 = .ok (.bipush 107, 2) := by decide +kernel
theorem dX12_init_397 : decode cX12_init 397 = .ok (.castore, 1) := by decide +kernel
theorem dX12_init_398 : decode cX12_init 398 = .ok (.dup, 1) := by decide +kernel
theorem dX12_init_399 : decode cX12_init 399 = .ok (.iconst 3, 1) := by decide +kernel
theorem dX12_init_400 : decode cX12_init 400 = .ok (.bipush 101, 2) := by decide +kernel
theorem dX12_init_402 : decode cX12_init 402 = .ok (.castore, 1) := by decide +kernel
theorem dX12_init_403 : decode cX12_init 403 = .ok (.dup, 1) := by decide +kernel
theorem dX12_init_404 : decode cX12_init 404 = .ok (.iconst 4, 1) := by decide +kernel
theorem dX12_init_405 : decode cX12_init 405 = .ok (.bipush 115, 2) := by decide +kernel
theorem dX12_init_407 : decode cX12_init 407 = .ok (.castore, 1) := by decide +kernel
theorem dX12_init_408 : decode cX12_init 408 = .ok (.putfield 60, 3) := by decide +kernel
theorem dX12_init_411 : decode cX12_init 411 = .ok (.aload_n 0, 1) := by decide +kernel
theorem dX12_init_412 : decode cX12_init 412 = .ok (.iconst 4, 1) := by decide +kernel
theorem dX12_init_413 : decode cX12_init 413 = .ok (.newarray .char, 2) := by decide +kernel
theorem dX12_init_415 : decode cX12_init 415 = .ok (.dup, 1) := by decide +kernel
theorem dX12_init_416 : decode cX12_init 416 = .ok (.iconst 0, 1) := by decide +kernel
theorem dX12_init_417 : decode cX12_init 417 = .ok (.bipush 121, 2) := by decide +kernel
theorem dX12_init_419 : decode cX12_init 419 = .ok (.castore, 1) := by decide +kernel
theorem dX12_init_420 : decode cX12_init 420 = .ok (.dup, 1) := by decide +kernel
theorem dX12_init_421 : decode cX12_init 421 = .ok (.iconst 1, 1) := by decide +kernel
theorem dX12_init_422 : decode cX12_init 422 = .ok (.bipush 101, 2) := by decide +kernel
theorem dX12_init_424 : decode cX12_init 424 = .ok (.castore, 1) := by decide +kernel
theorem dX12_init_425 : decode cX12_init 425 = .ok (.dup, 1) := by decide +kernel
theorem dX12_init_426 : decode cX12_init 426 = .ok (.iconst 2, 1) := by decide +kernel
theorem dX12_init_427 : decode cX12_init 427 = .ok (.bipush 97, 2) := by decide +kernel
theorem dX12_init_429 : decode cX12_init 429 = .ok (.castore, 1) := by decide +kernel
theorem dX12_init_430 : decode cX12_init 430 = .ok (.dup, 1) := by decide +kernel
theorem dX12_init_431 : decode cX12_init 431 = .ok (.iconst 3, 1) := by decide +kernel
theorem dX12_init_432 : decode cX12_init 432 = .ok (.bipush 114, 2) := by decide +kernel
theorem dX12_init_434 : decode cX12_init 434 = .ok (.castore, 1) := by decide +kernel
theorem dX12_init_435 : decode cX12_init 435 = .ok (.putfield 63, 3) := by decide +kernel
theorem dX12_init_438 : decode cX12_init 438 = .ok (.aload_n 0, 1) := by decide +kernel
theorem dX12_init_439 : decode cX12_init 439 = .ok (.iconst 4, 1) := by decide +kernel
theorem dX12_init_440 : decode cX12_init 440 = .ok (.newarray .char, 2) := by decide +kernel
theorem dX12_init_442 : decode cX12_init 442 = .ok (.dup, 1) := by decide +kernel
theorem dX12_init_443 : decode cX12_init 443 = .ok (.iconst 0, 1) := by decide +kernel
theorem dX12_init_444 : decode cX12_init 444 = .ok (.bipush 98, 2) := by decide +kernel
theorem dX12_init_446 : decode cX12_init 446 = .ok (.castore, 1) := by decide +kernel
theorem dX12_init_447 : decode cX12_init 447 = .ok (.dup, 1) := by decide +kernel
theorem dX12_init_448 : decode cX12_init 448 = .ok (.iconst 1, 1) := by decide +kernel
theorem dX12_init_449 : decode cX12_init 449 = .ok (.bipush 101, 2) := by decide +kernel
theorem dX12_init_451 : decode cX12_init 451 = .ok (.castore, 1) := by decide +kernel
theorem dX12_init_452 : decode cX12_init 452 = .ok (.dup, 1) := by decide +kernel
theorem dX12_init_453 : decode cX12_init 453 = .ok (.iconst 2, 1) := by decide +kernel
theorem dX12_init_454 : decode cX12_init 454 = .ok (.bipush 101, 2) := by decide +kernel
theorem dX12_init_456 : decode cX12_init 456 = .ok (.castore, 1) := by decide +kernel
theorem dX12_init_457 : decode cX12_init 457 = .ok (.dup, 1) := by decide +kernel
theorem dX12_init_458 : decode cX12_init 458 = .ok (.iconst 3, 1) := by decide +kernel
theorem dX12_init_459 : decode cX12_init 459 = .ok (.bipush 110, 2) := by decide +kernel
theorem dX12_init_461 : decode cX12_init 461 = .ok (.castore, 1) := by decide +kernel
theorem dX12_init_462 : decode cX12_init 462 = .ok (.putfield 66, 3) := by decide +kernel
theorem dX12_init_465 : decode cX12_init 465 = .ok (.aload_n 0, 1) := by decide +kernel
theorem dX12_init_466 : decode cX12_init 466 = .ok (.bipush 6, 2) := by decide +kernel
theorem dX12_init_468 : decode cX12_init 468 = .ok (.newarray .char, 2) := by decide +kernel
theorem dX12_init_470 : decode cX12_init 470 = .ok (.dup, 1) := by decide +kernel
theorem dX12_init_471 : decode cX12_init 471 = .ok (.iconst 0, 1) := by decide +kernel
theorem dX12_init_472 : decode cX12_init 472 = .ok (.bipush 104, 2) := by decide +kernel
theorem dX12_init_474 : decode cX12_init 474 = .ok (.castore, 1) := by decide +kernel
theorem dX12_init_475 : decode cX12_init 475 = .ok (.dup, 1) := by decide +kernel
theorem dX12_init_476 : decode cX12_init 476 = .ok (.iconst 1, 1) := by decide +kernel
theorem dX12_init_477 : decode cX12_init 477 = .ok (.bipush 101, 2) := by decide +kernel
theorem dX12_init_479 : decode cX12_init 479 = .ok (.castore, 1) := by decide +kernel
theorem dX12_init_480 : decode cX12_init 480 = .ok (.dup, 1) := by decide +kernel
theorem dX12_init_481 : decode cX12_init 481 = .ok (.iconst 2, 1) := by decide +kernel
theorem dX12_init_482 : decode cX12_init 482 = .ok (.bipush 105, 2) := by decide +kernel
theorem dX12_init_484 : decode cX12_init 484 = .ok (.castore, 1) := by decide +kernel
theorem dX12_init_485 : decode cX12_init 485 = .ok (.dup, 1) := by decide +kernel
theorem dX12_init_486 : decode cX12_init 486 = .ok (.iconst 3, 1) := by decide +kernel
theorem dX12_init_487 : decode cX12_init 487 = .ok (.bipush 103, 2) := by decide +kernel
theorem dX12_init_489 : decode cX12_init 489 = .ok (.castore, 1) := by decide +kernel
theorem dX12_init_490 : decode cX12_init 490 = .ok (.dup, 1) := by decide +kernel
theorem dX12_init_491 : decode cX12_init 491 = .ok (.iconst 4, 1) := by decide +kernel
theorem dX12_init_492 : decode cX12_init 492 = .ok (.bipush 104, 2) := by decide +kernel
theorem dX12_init_494 : decode cX12_init 494 = .ok (.castore, 1) := by decide +kernel
theorem dX12_init_495 : decode cX12_init 495 = .ok (.dup, 1) := by decide +kernel
theorem dX12_init_496 : decode cX12_init 496 = .ok (.iconst 5, 1) := by decide +kernel
theorem dX12_init_497 : decode cX12_init 497 = .ok (.bipush 116, 2) := by decide +kernel
theorem dX12_init_499 : decode cX12_init 499 = .ok (.castore, 1) := by decide +kernel
theorem dX12_init_500 : decode cX12_init 500 = .ok (.putfield 69, 3) := by decide +kernel
theorem dX12_init_503 : decode cX12_init 503 = .ok (.aload_n 0, 1) := by decide +kernel
theorem dX12_init_504 : decode cX12_init 504 = .ok (.iconst 4, 1) := by decide +kernel
theorem dX12_init_505 : decode cX12_init 505 = .ok (.newarray .char, 2) := by decide +kernel
theorem dX12_init_507 : decode cX12_init 507 = .ok (.dup, 1) := by decide +kernel
theorem dX12_init_508 : decode cX12_init 508 = .ok (.iconst 0, 1) := by decide +kernel
theorem dX12_init_509 : decode cX12_init 509 = .ok (.bipush 100, 2) := by decide +kernel
theorem dX12_init_511 : decode cX12_init 511 = .ok (.castore, 1) := by decide +kernel
theorem dX12_init_512 : decode cX12_init 512 = .ok (.dup, 1) := by decide +kernel
theorem dX12_init_513 : decode cX12_init 513 = .ok (.iconst 1, 1) := by decide +kernel
theorem dX12_init_514 : decode cX12_init 514 = .ok (.bipush 111, 2) := by decide +kernel
theorem dX12_init_516 : decode cX12_init 516 = .ok (.castore, 1) := by decide +kernel
theorem dX12_init_517 : decode cX12_init 517 = .ok (.dup, 1) := by decide +kernel
theorem dX12_init_518 : decode cX12_init 518 = .ok (.iconst 2, 1) := by decide +kernel
theorem dX12_init_519 : decode cX12_init 519 = .ok (.bipush 119, 2) := by decide +kernel
theorem dX12_init_521 : decode cX12_init 521 = .ok (.castore, 1) := by decide +kernel
theorem dX12_init_522 : decode cX12_init 522 = .ok (.dup, 1) := by decide +kernel
theorem dX12_init_523 : decode cX12_init 523 = .ok (.iconst 3, 1) := by decide +kernel
theorem dX12_init_524 : decode cX12_init 524 = .ok (.bipush 110, 2) := by decide +kernel
theorem dX12_init_526 : decode cX12_init 526 = .ok (.castore, 1) := by decide +kernel
theorem dX12_init_527 : decode cX12_init 527 = .ok (.putfield 72, 3) := by decide +kernel
theorem dX12_init_530 : decode cX12_init 530 = .ok (.aload_n 0, 1) := by decide +kernel
theorem dX12_init_531 : decode cX12_init 531 = .ok (.iconst 4, 1) := by decide +kernel
theorem dX12_init_532 : decode cX12_init 532 = .ok (.newarray .char, 2) := by decide +kernel
theorem dX12_init_534 : decode cX12_init 534 = .ok (.dup, 1) := by decide +kernel
theorem dX12_init_535 : decode cX12_init 535 = .ok (.iconst 0, 1) := by decide +kernel
theorem dX12_init_536 : decode cX12_init 536 = .ok (.bipush 115, 2) := by decide +kernel
theorem dX12_init_538 : decode cX12_init 538 = .ok (.castore, 1) := by decide +kernel
theorem dX12_init_539 : decode cX12_init 539 = .ok (.dup, 1) := by decide +kernel
theorem dX12_init_540 : decode cX12_init 540 = .ok (.iconst 1, 1) := by decide +kernel
theorem dX12_init_541 : decode cX12_init 541 = .ok (.bipush 116, 2) := by decide +kernel
theorem dX12_init_543 : decode cX12_init 543 = .ok (.castore, 1) := by decide +kernel
theorem dX12_init_544 : decode cX12_init 544 = .ok (.dup, 1) := by decide +kernel
theorem dX12_init_545 : decode cX12_init 545 = .ok (.iconst 2, 1) := by decide +kernel
theorem dX12_init_546 : decode cX12_init 546 = .ok (.bipush 101, 2) := by decide +kernel
theorem dX12_init_548 : decode cX12_init 548 = .ok (.castore, 1) := by decide +kernel
theorem dX12_init_549 : decode cX12_init 549 = .ok (.dup, 1) := by decide +kernel
theorem dX12_init_550 : decode cX12_init 550 = .ok (.iconst 3, 1) := by decide +kernel
theorem dX12_init_551 : decode cX12_init 551 = .ok (.bipush 112, 2) := by decide +kernel
theorem dX12_init_553 : decode cX12_init 553 = .ok (.castore, 1) := by decide +kernel
theorem dX12_init_554 : decode cX12_init 554 = .ok (.putfield 75, 3) := by decide +kernel
theorem dX12_init_557 : decode cX12_init 557 = .ok (.aload_n 0, 1) := by decide +kernel
theorem dX12_init_558 : decode cX12_init 558 = .ok (.iconst 3, 1) := by decide +kernel
theorem dX12_init_559 : decode cX12_init 559 = .ok (.newarray .char, 2) := by decide +kernel
theorem dX12_init_561 : decode cX12_init 561 = .ok (.dup, 1) := by decide +kernel
theorem dX12_init_562 : decode cX12_init 562 = .ok (.iconst 0, 1) := by decide +kernel
theorem dX12_init_563 : decode cX12_init 563 = .ok (.bipush 119, 2) := by decide +kernel
theorem dX12_init_565 : decode cX12_init 565 = .ok (.castore, 1) := by decide +kernel
theorem dX12_init_566 : decode cX12_init 566 = .ok (.dup, 1) := by decide +kernel
theorem dX12_init_567 : decode cX12_init 567 = .ok (.iconst 1, 1) := by decide +kernel
theorem dX12_init_568 : decode cX12_init 568 = .ok (.bipush 101, 2) := by decide +kernel
theorem dX12_init_570 : decode cX12_init 570 = .ok (.castore, 1) := by decide +kernel
theorem dX12_init_571 : decode cX12_init 571 = .ok (.dup, 1) := by decide +kernel
theorem dX12_init_572 : decode cX12_init 572 = .ok (.iconst 2, 1) := by decide +kernel
theorem dX12_init_573 : decode cX12_init 573 = .ok (.bipush 116, 2) := by decide +kernel
theorem dX12_init_575 : decode cX12_init 575 = .ok (.castore, 1) := by decide +kernel
theorem dX12_init_576 : decode cX12_init 576 = .ok (.putfield 78, 3) := by decide +kernel
theorem dX12_init_579 : decode cX12_init 579 = .ok (.aload_n 0, 1) := by decide +kernel
theorem dX12_init_580 : decode cX12_init 580 = .ok (.bipush 6, 2) := by decide +kernel
theorem dX12_init_582 : decode cX12_init 582 = .ok (.newarray .char, 2) := by decide +kernel
theorem dX12_init_584 : decode cX12_init 584 = .ok (.dup, 1) := by decide +kernel
theorem dX12_init_585 : decode cX12_init 585 = .ok (.iconst 0, 1) := by decide +kernel
theorem dX12_init_586 : decode cX12_init 586 = .ok (.bipush 110, 2) := by decide +kernel
theorem dX12_init_588 : decode cX12_init 588 = .ok (.castore, 1) := by decide +kernel
theorem dX12_init_589 : decode cX12_init 589 = .ok (.dup, 1) := by decide +kernel
theorem dX12_init_590 : decode cX12_init 590 = .ok (.iconst 1, 1) := by decide +kernel
theorem dX12_init_591 : decode cX12_init 591 = .ok (.bipush 117, 2) := by decide +kernel
theorem dX12_init_593 : decode cX12_init 593 = .ok (.castore, 1) := by decide +kernel
theorem dX12_init_594 : decode cX12_init 594 = .ok (.dup, 1) := by decide +kernel
theorem dX12_init_595 : decode cX12_init 595 = .ok (.iconst 2, 1) := by decide +kernel
theorem dX12_init_596 : decode cX12_init 596 = .ok (.bipush 109, 2) := by decide +kernel
theorem dX12_init_598 : decode cX12_init 598 = .ok (.castore, 1) := by decide +kernel
theorem dX12_init_599 : decode cX12_init 599 = .ok (.dup, 1) := by decide +kernel
theorem dX12_init_600 : decode cX12_init 600 = .ok (.iconst 3, 1) := by decide +kernel
theorem dX12_init_601 : decode cX12_init 601 = .ok (.bipush 98, 2) := by decide +kernel
theorem dX12_init_603 : decode cX12_init 603 = .ok (.castore, 1) := by decide +kernel
theorem dX12_init_604 : decode cX12_init 604 = .ok (.dup, 1) := by decide +kernel
theorem dX12_init_605 : decode cX12_init 605 = .ok (.iconst 4, 1) := by decide +kernel
theorem dX12_init_606 : decode cX12_init 606 = .ok (.bipush 101, 2) := by decide +kernel
theorem dX12_init_608 : decode cX12_init 608 = .ok (.castore, 1) := by decide +kernel
theorem dX12_init_609 : decode cX12_init 609 = .ok (.dup, 1) := by decide +kernel
theorem dX12_init_610 : decode cX12_init 610 = .ok (.iconst 5, 1) := by decide +kernel
theorem dX12_init_611 : decode cX12_init 611 = .ok (.bipush 114, 2) := by decide +kernel
theorem dX12_init_613 : decode cX12_init 613 = .ok (.castore, 1) := by decide +kernel
theorem dX12_init_614 : decode cX12_init 614 = .ok (.putfield 81, 3) := by decide +kernel
theorem dX12_init_617 : decode cX12_init 617 = .ok (.aload_n 0, 1) := by decide +kernel
theorem dX12_init_618 : decode cX12_init 618 = .ok (.bipush 6, 2) := by decide +kernel
theorem dX12_init_620 : decode cX12_init 620 = .ok (.newarray .char, 2) := by decide +kernel
theorem dX12_init_622 : decode cX12_init 622 = .ok (.dup, 1) := by decide +kernel
theorem dX12_init_623 : decode cX12_init 623 = .ok (.iconst 0, 1) := by decide +kernel
theorem dX12_init_624 : decode cX12_init 624 = .ok (.bipush 99, 2) := by decide +kernel
theorem dX12_init_626 : decode cX12_init 626 = .ok (.castore, 1) := by decide +kernel
theorem dX12_init_627 : decode cX12_init 627 = .ok (.dup, 1) := by decide +kernel
theorem dX12_init_628 : decode cX12_init 628 = .ok (.iconst 1, 1) := by decide +kernel
theorem dX12_init_629 : decode cX12_init 629 = .ok (.bipush 111, 2) := by decide +kernel
theorem dX12_init_631 : decode cX12_init 631 = .ok (.castore, 1) := by decide +kernel
theorem dX12_init_632 : decode cX12_init 632 = .ok (.dup, 1) := by decide +kernel
theorem dX12_init_633 : decode cX12_init 633 = .ok (.iconst 2, 1) := by decide +kernel
theorem dX12_init_634 : decode cX12_init 634 = .ok (.bipush 108, 2) := by decide +kernel
theorem dX12_init_636 : decode cX12_init 636 = .ok (.castore, 1) := by decide +kernel
theorem dX12_init_637 : decode cX12_init 637 = .ok (.dup, 1) := by decide +kernel
theorem dX12_init_638 : decode cX12_init 638 = .ok (.iconst 3, 1) := by decide +kernel
theorem dX12_init_639 : decode cX12_init 639 = .ok (.bipush 117, 2) := by decide +kernel
theorem dX12_init_641 : decode cX12_init 641 = .ok (.castore, 1) := by decide +kernel
theorem dX12_init_642 : decode cX12_init 642 = .ok (.dup, 1) := by decide +kernel
theorem dX12_init_643 : decode cX12_init 643 = .ok (.iconst 4, 1) := by decide +kernel
theorem dX12_init_644 : decode cX12_init 644 = .ok (.bipush 109, 2) := by decide +kernel
theorem dX12_init_646 : decode cX12_init 646 = .ok (.castore, 1) := by decide +kernel
theorem dX12_init_647 : decode cX12_init 647 = .ok (.dup, 1) := by decide +kernel
theorem dX12_init_648 : decode cX12_init 648 = .ok (.iconst 5, 1) := by decide +kernel
theorem dX12_init_649 : decode cX12_init 649 = .ok (.bipush 110, 2) := by decide +kernel
theorem dX12_init_651 : decode cX12_init 651 = .ok (.castore, 1) := by decide +kernel
theorem dX12_init_652 : decode cX12_init 652 = .ok (.putfield 84, 3) := by decide +kernel
theorem dX12_init_655 : decode cX12_init 655 = .ok (.aload_n 0, 1) := by decide +kernel
theorem dX12_init_656 : decode cX12_init 656 = .ok (.iconst 3, 1) := by decide +kernel
theorem dX12_init_657 : decode cX12_init 657 = .ok (.newarray .char, 2) := by decide +kernel
theorem dX12_init_659 : decode cX12_init 659 = .ok (.dup, 1) := by decide +kernel
theorem dX12_init_660 : decode cX12_init 660 = .ok (.iconst 0, 1) := by decide +kernel
theorem dX12_init_661 : decode cX12_init 661 = .ok (.bipush 114, 2) := by decide +kernel
theorem dX12_init_663 : decode cX12_init 663 = .ok (.castore, 1) := by decide +kernel
theorem dX12_init_664 : decode cX12_init 664 = .ok (.dup, 1) := by decide +kernel
theorem dX12_init_665 : decode cX12_init 665 = .ok (.iconst 1, 1) := by decide +kernel
theorem dX12_init_666 : decode cX12_init 666 = .ok (.bipush 111, 2) := by decide +kernel
theorem dX12_init_668 : decode cX12_init 668 = .ok (.castore, 1) := by decide +kernel
theorem dX12_init_669 : decode cX12_init 669 = .ok (.dup, 1) := by decide +kernel
theorem dX12_init_670 : decode cX12_init 670 = .ok (.iconst 2, 1) := by decide +kernel
theorem dX12_init_671 : decode cX12_init 671 = .ok (.bipush 119, 2) := by decide +kernel
theorem dX12_init_673 : decode cX12_init 673 = .ok (.castore, 1) := by decide +kernel
theorem dX12_init_674 : decode cX12_init 674 = .ok (.putfield 87, 3) := by decide +kernel
theorem dX12_init_677 : decode cX12_init 677 = .ok (.aload_n 0, 1) := by decide +kernel
theorem dX12_init_678 : decode cX12_init 678 = .ok (.iconst 5, 1) := by decide +kernel
theorem dX12_init_679 : decode cX12_init 679 = .ok (.newarray .char, 2) := by decide +kernel
theorem dX12_init_681 : decode cX12_init 681 = .ok (.dup, 1) := by decide +kernel
theorem dX12_init_682 : decode cX12_init 682 = .ok (.iconst 0, 1) := by decide +kernel
theorem dX12_init_683 : decode cX12_init 683 = .ok (.bipush 102, 2) := by decide +kernel
theorem dX12_init_685 : decode cX12_init 685 = .ok (.castore, 1) := by decide +kernel
theorem dX12_init_686 : decode cX12_init 686 = .ok (.dup, 1) := by decide +kernel
theorem dX12_init_687 : decode cX12_init 687 = .ok (.iconst 1, 1) := by decide +kernel
theorem dX12_init_688 : decode cX12_init 688 = .ok (.bipush 105, 2) := by decide +kernel
theorem dX12_init_690 : decode cX12_init 690 = .ok (.castore, 1) := by decide +kernel
theorem dX12_init_691 : decode cX12_init 691 = .ok (.dup, 1) := by decide +kernel
theorem dX12_init_692 : decode cX12_init 692 = .ok (.iconst 2, 1) := by decide +kernel
theorem dX12_init_693 : decode cX12_init 693 = .ok (.bipush 114, 2) := by decide +kernel
theorem dX12_init_695 : decode cX12_init 695 = .ok (.castore, 1) := by decide +kernel
theorem dX12_init_696 : decode cX12_init 696 = .ok (.dup, 1) := by decide +kernel
theorem dX12_init_697 : decode cX12_init 697 = .ok (.iconst 3, 1) := by decide +kernel
theorem dX12_init_698 : decode cX12_init 698 = .ok (.bipush 115, 2) := by decide +kernel
theorem dX12_init_700 : decode cX12_init 700 = .ok (.castore, 1) := by decide +kernel
theorem dX12_init_701 : decode cX12_init 701 = .ok (.dup, 1) := by decide +kernel
theorem dX12_init_702 : decode cX12_init 702 = .ok (.iconst 4, 1) := by decide +kernel
theorem dX12_init_703 : decode cX12_init 703 = .ok (.bipush 116, 2) := by decide +kernel
theorem dX12_init_705 : decode cX12_init 705 = .ok (.castore, 1) := by decide +kernel
theorem dX12_init_706 : decode cX12_init 706 = .ok (.putfield 90, 3) := by decide +kernel
theorem dX12_init_709 : decode cX12_init 709 = .ok (.aload_n 0, 1) := by decide +kernel
theorem dX12_init_710 : decode cX12_init 710 = .ok (.iconst 2, 1) := by decide +kernel
theorem dX12_init_711 : decode cX12_init 711 = .ok (.newarray .char, 2) := by decide +kernel
theorem dX12_init_713 : decode cX12_init 713 = .ok (.dup, 1) := by decide +kernel
theorem dX12_init_714 : decode cX12_init 714 = .ok (.iconst 0, 1) := by decide +kernel
theorem dX12_init_715 : decode cX12_init 715 = .ok (.bipush 111, 2) := by decide +kernel
theorem dX12_init_717 : decode cX12_init 717 = .ok (.castore, 1) := by decide +kernel
theorem dX12_init_718 : decode cX12_init 718 = .ok (.dup, 1) := by decide +kernel
theorem dX12_init_719 : decode cX12_init 719 = .ok (.iconst 1, 1) := by decide +kernel
theorem dX12_init_720 : decode cX12_init 720 = .ok (.bipush 114, 2) := by decide +kernel
theorem dX12_init_722 : decode cX12_init 722 = .ok (.castore, 1) := by decide +kernel
theorem dX12_init_723 : decode cX12_init 723 = .ok (.putfield 93, 3) := by decide +kernel
theorem dX12_init_726 : decode cX12_init 726 = .ok (.aload_n 0, 1) := by decide +kernel
theorem dX12_init_727 : decode cX12_init 727 = .ok (.iconst 3, 1) := by decide +kernel
theorem dX12_init_728 : decode cX12_init 728 = .ok (.newarray .char, 2) := by decide +kernel
theorem dX12_init_730 : decode cX12_init 730 = .ok (.dup, 1) := by decide +kernel
theorem dX12_init_731 : decode cX12_init 731 = .ok (.iconst 0, 1) := by decide +kernel
theorem dX12_init_732 : decode cX12_init 732 = .ok (.bipush 97, 2) := by decide +kernel
theorem dX12_init_734 : decode cX12_init 734 = .ok (.castore, 1) := by decide +kernel
theorem dX12_init_735 : decode cX12_init 735 = .ok (.dup, 1) := by decide +kernel
theorem dX12_init_736 : decode cX12_init 736 = .ok (.iconst 1, 1) := by decide +kernel
theorem dX12_init_737 : decode cX12_init 737 = .ok (.bipush 110, 2) := by decide +kernel
theorem dX12_init_739 : decode cX12_init 739 = .ok (.castore, 1) := by decide +kernel
theorem dX12_init_740 : decode cX12_init 740 = .ok (.dup, 1) := by decide +kernel
theorem dX12_init_741 : decode cX12_init 741 = .ok (.iconst 2, 1) := by decide +kernel
theorem dX12_init_742 : decode cX12_init 742 = .ok (.bipush 100, 2) := by decide +kernel
theorem dX12_init_744 : decode cX12_init 744 = .ok (.castore, 1) := by decide +kernel
theorem dX12_init_745 : decode cX12_init 745 = .ok (.putfield 96, 3) := by decide +kernel
theorem dX12_init_748 : decode cX12_init 748 = .ok (.aload_n 0, 1) := by decide +kernel
theorem dX12_init_749 : decode cX12_init 749 = .ok (.iconst 3, 1) := by decide +kernel
theorem dX12_init_750 : decode cX12_init 750 = .ok (.newarray .char, 2) := by decide +kernel
theorem dX12_init_752 : decode cX12_init 752 = .ok (.dup, 1) := by decide +kernel
theorem dX12_init_753 : decode cX12_init 753 = .ok (.iconst 0, 1) := by decide +kernel
theorem dX12_init_754 : decode cX12_init 754 = .ok (.bipush 110, 2) := by decide +kernel
theorem dX12_init_756 : decode cX12_init 756 = .ok (.castore, 1) := by decide +kernel
theorem dX12_init_757 : decode cX12_init 757 = .ok (.dup, 1) := by decide +kernel
theorem dX12_init_758 : decode cX12_init 758 = .ok (.iconst 1, 1) := by decide +kernel
theorem dX12_init_759 : decode cX12_init 759 = .ok (.bipush 111, 2) := by decide +kernel
theorem dX12_init_761 : decode cX12_init 761 = .ok (.castore, 1) := by decide +kernel
theorem dX12_init_762 : decode cX12_init 762 = .ok (.dup, 1) := by decide +kernel
theorem dX12_init_763 : decode cX12_init 763 = .ok (.iconst 2, 1) := by decide +kernel
theorem dX12_init_764 : decode cX12_init 764 = .ok (.bipush 116, 2) := by decide +kernel
theorem dX12_init_766 : decode cX12_init 766 = .ok (.castore, 1) := by decide +kernel
theorem dX12_init_767 : decode cX12_init 767 = .ok (.putfield 99, 3) := by decide +kernel
theorem dX12_init_770 : decode cX12_init 770 = .ok (.aload_n 0, 1) := by decide +kernel
theorem dX12_init_771 : decode cX12_init 771 = .ok (.iconst 3, 1) := by decide +kernel
theorem dX12_init_772 : decode cX12_init 772 = .ok (.newarray .char, 2) := by decide +kernel
theorem dX12_init_774 : decode cX12_init 774 = .ok (.dup, 1) := by decide +kernel
theorem dX12_init_775 : decode cX12_init 775 = .ok (.iconst 0, 1) := by decide +kernel
theorem dX12_init_776 : decode cX12_init 776 = .ok (.bipush 97, 2) := by decide +kernel
theorem dX12_init_778 : decode cX12_init 778 = .ok (.castore, 1) := by decide +kernel
theorem dX12_init_779 : decode cX12_init 779 = .ok (.dup, 1) := by decide +kernel
theorem dX12_init_780 : decode cX12_init 780 = .ok (.iconst 1, 1) := by decide +kernel
theorem dX12_init_781 : decode cX12_init 781 = .ok (.bipush 108, 2) := by decide +kernel
theorem dX12_init_783 : decode cX12_init 783 = .ok (.castore, 1) := by decide +kernel
theorem dX12_init_784 : decode cX12_init 784 = .ok (.dup, 1) := by decide +kernel
theorem dX12_init_785 : decode cX12_init 785 = .ok (.iconst 2, 1) := by decide +kernel
theorem dX12_init_786 : decode cX12_init 786 = .ok (.bipush 108, 2) := by decide +kernel
theorem dX12_init_788 : decode cX12_init 788 = .ok (.castore, 1) := by decide +kernel
theorem dX12_init_789 : decode cX12_init 789 = .ok (.putfield 102, 3) := by decide +kernel
theorem dX12_init_792 : decode cX12_init 792 = .ok (.aload_n 0, 1) := by decide +kernel
theorem dX12_init_793 : decode cX12_init 793 = .ok (.iconst 3, 1) := by decide +kernel
theorem dX12_init_794 : decode cX12_init 794 = .ok (.newarray .char, 2) := by decide +kernel
theorem dX12_init_796 : decode cX12_init 796 = .ok (.dup, 1) := by decide +kernel
theorem dX12_init_797 : decode cX12_init 797 = .ok (.iconst 0, 1) := by decide +kernel
theorem dX12_init_798 : decode cX12_init 798 = .ok (.bipush 109, 2) := by decide +kernel
theorem dX12_init_800 : decode cX12_init 800 = .ok (.castore, 1) := by decide +kernel
theorem dX12_init_801 : decode cX12_init 801 = .ok (.dup, 1) := by decide +kernel
theorem dX12_init_802 : decode cX12_init 802 = .ok (.iconst 1, 1) := by decide +kernel
theorem dX12_init_803 : decode cX12_init 803 = .ok (.bipush 105, 2) := by decide +kernel
theorem dX12_init_805 : decode cX12_init 805 = .ok (.castore, 1) := by decide +kernel
theorem dX12_init_806 : decode cX12_init 806 = .ok (.dup, 1) := by decide +kernel
theorem dX12_init_807 : decode cX12_init 807 = .ok (.iconst 2, 1) := by decide +kernel
theorem dX12_init_808 : decode cX12_init 808 = .ok (.bipush 110, 2) := by decide +kernel
theorem dX12_init_810 : decode cX12_init 810 = .ok (.castore, 1) := by decide +kernel
theorem dX12_init_811 : decode cX12_init 811 = .ok (.putfield 105, 3) := by decide +kernel
theorem dX12_init_814 : decode cX12_init 814 = .ok (.aload_n 0, 1) := by decide +kernel
theorem dX12_init_815 : decode cX12_init 815 = .ok (.iconst 3, 1) := by decide +kernel
theorem dX12_init_816 : decode cX12_init 816 = .ok (.newarray .char, 2) := by decide +kernel
theorem dX12_init_818 : decode cX12_init 818 = .ok (.dup, 1) := by decide +kernel
theorem dX12_init_819 : decode cX12_init 819 = .ok (.iconst 0, 1) := by decide +kernel
theorem dX12_init_820 : decode cX12_init 820 = .ok (.bipush 109, 2) := by decide +kernel
theorem dX12_init_822 : decode cX12_init 822 = .ok (.castore, 1) := by decide +kernel
theorem dX12_init_823 : decode cX12_init 823 = .ok (.dup, 1) := by decide +kernel
theorem dX12_init_824 : decode cX12_init 824 = .ok (.iconst 1, 1) := by decide +kernel
theorem dX12_init_825 : decode cX12_init 825 = .ok (.bipush 97, 2) := by decide +kernel
theorem dX12_init_827 : decode cX12_init 827 = .ok (.castore, 1) := by decide +kernel
theorem dX12_init_828 : decode cX12_init 828 = .ok (.dup, 1) := by decide +kernel
theorem dX12_init_829 : decode cX12_init 829 = .ok (.iconst 2, 1) := by decide +kernel
theorem dX12_init_830 : decode cX12_init 830 = .ok (.bipush 120, 2) := by decide +kernel
theorem dX12_init_832 : decode cX12_init 832 = .ok (.castore, 1) := by decide +kernel
theorem dX12_init_833 : decode cX12_init 833 = .ok (.putfield 108, 3) := by decide +kernel
theorem dX12_init_836 : decode cX12_init 836 = .ok (.aload_n 0, 1) := by decide +kernel
theorem dX12_init_837 : decode cX12_init 837 = .ok (.iconst 4, 1) := by decide +kernel
theorem dX12_init_838 : decode cX12_init 838 = .ok (.newarray .int, 2) := by decide +kernel
theorem dX12_init_840 : decode cX12_init 840 = .ok (.putfield 111, 3) := by decide +kernel
theorem dX12_init_843 : decode cX12_init 843 = .ok (.aload_n 0, 1) := by decide +kernel
theorem dX12_init_844 : decode cX12_init 844 = .ok (.iconst 4, 1) := by decide +kernel
theorem dX12_init_845 : decode cX12_init 845 = .ok (.newarray .int, 2) := by decide +kernel
theorem dX12_init_847 : decode cX12_init 847 = .ok (.putfield 114, 3) := by decide +kernel
theorem dX12_init_850 : decode cX12_init 850 = .ok (.aload_n 0, 1) := by decide +kernel
theorem dX12_init_851 : decode cX12_init 851 = .ok (.bipush 32, 2) := by decide +kernel
theorem dX12_init_853 : decode cX12_init 853 = .ok (.newarray .long, 2) := by decide +kernel
theorem dX12_init_855 : decode cX12_init 855 = .ok (.putfield 117, 3) := by decide +kernel
theorem dX12_init_858 : decode cX12_init 858 = .ok (.aload_n 0, 1) := by decide +kernel
theorem dX12_init_859 : decode cX12_init 859 = .ok (.bipush 36, 2) := by decide +kernel
theorem dX12_init_861 : decode cX12_init 861 = .ok (.newarray .int, 2) := by decide +kernel
theorem dX12_init_863 : decode cX12_init 863 = .ok (.putfield 121, 3) := by decide +kernel
theorem dX12_init_866 : decode cX12_init 866 = .ok (.aload_n 0, 1) := by decide +kernel
theorem dX12_init_867 : decode cX12_init 867 = .ok (.bipush 20, 2) := by decide +kernel
theorem dX12_init_869 : decode cX12_init 869 = .ok (.newarray .int, 2) := by decide +kernel
theorem dX12_init_871 : decode cX12_init 871 = .ok (.putfield 124, 3) := by decide +kernel
theorem dX12_init_874 : decode cX12_init 874 = .ok (.aload_n 0, 1) := by decide +kernel
theorem dX12_init_875 : decode cX12_init 875 = .ok (.bipush 36, 2) := by decide +kernel
theorem dX12_init_877 : decode cX12_init 877 = .ok (.newarray .int, 2) := by decide +kernel
theorem dX12_init_879 : decode cX12_init 879 = .ok (.putfield 127, 3) := by decide +kernel
theorem dX12_init_882 : decode cX12_init 882 = .ok (.aload_n 0, 1) := by decide +kernel
theorem dX12_init_883 : decode cX12_init 883 = .ok (.bipush 36, 2) := by decide +kernel
theorem dX12_init_885 : decode cX12_init 885 = .ok (.newarray .boolean, 2) := by decide +kernel
theorem dX12_init_887 : decode cX12_init 887 = .ok (.putfield 130, 3) := by decide +kernel
theorem dX12_init_890 : decode cX12_init 890 = .ok (.aload_n 0, 1) := by decide +kernel
theorem dX12_init_891 : decode cX12_init 891 = .ok (.iconst 4, 1) := by decide +kernel
theorem dX12_init_892 : decode cX12_init 892 = .ok (.newarray .int, 2) := by decide +kernel
theorem dX12_init_894 : decode cX12_init 894 = .ok (.dup, 1) := by decide +kernel
theorem dX12_init_895 : decode cX12_init 895 = .ok (.iconst 0, 1) := by decide +kernel
theorem dX12_init_896 : decode cX12_init 896 = .ok (.iconst (-1), 1) := by decide +kernel
theorem dX12_init_897 : decode cX12_init 897 = .ok (.iastore, 1) := by decide +kernel
theorem dX12_init_898 : decode cX12_init 898 = .ok (.dup, 1) := by decide +kernel
theorem dX12_init_899 : decode cX12_init 899 = .ok (.iconst 1, 1) := by decide +kernel
theorem dX12_init_900 : decode cX12_init 900 = .ok (.iconst (-1), 1) := by decide +kernel
theorem dX12_init_901 : decode cX12_init 901 = .ok (.iastore, 1) := by decide +kernel
theorem dX12_init_902 : decode cX12_init 902 = .ok (.dup, 1) := by decide +kernel
theorem dX12_init_903 : decode cX12_init 903 = .ok (.iconst 2, 1) := by decide +kernel
theorem dX12_init_904 : decode cX12_init 904 = .ok (.iconst (-1), 1) := by decide +kernel
theorem dX12_init_905 : decode cX12_init 905 = .ok (.iastore, 1) := by decide +kernel
theorem dX12_init_906 : decode cX12_init 906 = .ok (.dup, 1) := by decide +kernel
theorem dX12_init_907 : decode cX12_init 907 = .ok (.iconst 3, 1) := by decide +kernel
theorem dX12_init_908 : decode cX12_init 908 = .ok (.iconst (-1), 1) := by decide +kernel
theorem dX12_init_909 : decode cX12_init 909 = .ok (.iastore, 1) := by decide +kernel
theorem dX12_init_910 : decode cX12_init 910 = .ok (.putfield 134, 3) := by decide +kernel
theorem dX12_init_913 : decode cX12_init 913 = .ok (.aload_n 0, 1) := by decide +kernel
theorem dX12_init_914 : decode cX12_init 914 = .ok (.iconst 4, 1) := by decide +kernel
theorem dX12_init_915 : decode cX12_init 915 = .ok (.newarray .int, 2) := by decide +kernel
theorem dX12_init_917 : decode cX12_init 917 = .ok (.putfield 137, 3) := by decide +kernel
theorem dX12_init_920 : decode cX12_init 920 = .ok (.aload_n 0, 1) := by decide +kernel
theorem dX12_init_921 : decode cX12_init 921 = .ok (.sipush 3200, 3) := by decide +kernel
theorem dX12_init_924 : decode cX12_init 924 = .ok (.newarray .int, 2) := by decide +kernel
theorem dX12_init_926 : decode cX12_init 926 = .ok (.putfield 140, 3) := by decide +kernel
theorem dX12_init_929 : decode cX12_init 929 = .ok (.aload_n 0, 1) := by decide +kernel
theorem dX12_init_930 : decode cX12_init 930 = .ok (.sipush 236, 3) := by decide +kernel
theorem dX12_init_933 : decode cX12_init 933 = .ok (.newarray .int, 2) := by decide +kernel
theorem dX12_init_935 : decode cX12_init 935 = .ok (.putfield 143, 3) := by decide +kernel
theorem dX12_init_938 : decode cX12_init 938 = .ok (.aload_n 0, 1) := by decide +kernel
theorem dX12_init_939 : decode cX12_init 939 = .ok (.bipush 36, 2) := by decide +kernel
theorem dX12_init_941 : decode cX12_init 941 = .ok (.newarray .int, 2) := by decide +kernel
theorem dX12_init_943 : decode cX12_init 943 = .ok (.putfield 146, 3) := by decide +kernel
theorem dX12_init_946 : decode cX12_init 946 = .ok (.aload_n 0, 1) := by decide +kernel
theorem dX12_init_947 : decode cX12_init 947 = .ok (.bipush 36, 2) := by decide +kernel
theorem dX12_init_949 : decode cX12_init 949 = .ok (.newarray .int, 2) := by decide +kernel
theorem dX12_init_951 : decode cX12_init 951 = .ok (.putfield 149, 3) := by decide +kernel
theorem dX12_init_954 : decode cX12_init 954 = .ok (.aload_n 0, 1) := by decide +kernel
theorem dX12_init_955 : decode cX12_init 955 = .ok (.bipush 30, 2) := by decide +kernel
theorem dX12_init_957 : decode cX12_init 957 = .ok (.newarray .int, 2) := by decide +kernel
theorem dX12_init_959 : decode cX12_init 959 = .ok (.putfield 152, 3) := by decide +kernel
theorem dX12_init_962 : decode cX12_init 962 = .ok (.aload_n 0, 1) := by decide +kernel
theorem dX12_init_963 : decode cX12_init 963 = .ok (.sipush 2304, 3) := by decide +kernel
theorem dX12_init_966 : decode cX12_init 966 = .ok (.newarray .boolean, 2) := by decide +kernel
theorem dX12_init_968 : decode cX12_init 968 = .ok (.putfield 155, 3) := by decide +kernel
theorem dX12_init_971 : decode cX12_init 971 = .ok (.aload_n 0, 1) := by decide +kernel
theorem dX12_init_972 : decode cX12_init 972 = .ok (.sipush 2304, 3) := by decide +kernel
theorem dX12_init_975 : decode cX12_init 975 = .ok (.newarray .boolean, 2) := by decide +kernel
theorem dX12_init_977 : decode cX12_init 977 = .ok (.putfield 158, 3) := by decide +kernel
theorem dX12_init_980 : decode cX12_init 980 = .ok (.aload_n 0, 1) := by decide +kernel
theorem dX12_init_981 : decode cX12_init 981 = .ok (.bipush 64, 2) := by decide +kernel
theorem dX12_init_983 : decode cX12_init 983 = .ok (.newarray .boolean, 2) := by decide +kernel
theorem dX12_init_985 : decode cX12_init 985 = .ok (.putfield 161, 3) := by decide +kernel
theorem dX12_init_988 : decode cX12_init 988 = .ok (.aload_n 0, 1) := by decide +kernel
theorem dX12_init_989 : decode cX12_init 989 = .ok (.sipush 384, 3) := by decide +kernel
theorem dX12_init_992 : decode cX12_init 992 = .ok (.newarray .int, 2) := by decide +kernel
theorem dX12_init_994 : decode cX12_init 994 = .ok (.putfield 164, 3) := by decide +kernel
theorem dX12_init_997 : decode cX12_init 997 = .ok (.aload_n 0, 1) := by decide +kernel
theorem dX12_init_998 : decode cX12_init 998 = .ok (.bipush 6, 2) := by decide +kernel
theorem dX12_init_1000 : decode cX12_init 1000 = .ok (.newarray .int, 2) := by decide +kernel
theorem dX12_init_1002 : decode cX12_init 1002 = .ok (.putfield 167, 3) := by decide +kernel
theorem dX12_init_1005 : decode cX12_init 1005 = .ok (.aload_n 0, 1) := by decide +kernel
theorem dX12_init_1006 : decode cX12_init 1006 = .ok (.bipush 36, 2) := by decide +kernel
theorem dX12_init_1008 : decode cX12_init 1008 = .ok (.newarray .int, 2) := by decide +kernel
theorem dX12_init_1010 : decode cX12_init 1010 = .ok (.putfield 170, 3) := by decide +kernel
theorem dX12_init_1013 : decode cX12_init 1013 = .ok (.aload_n 0, 1) := by decide +kernel
theorem dX12_init_1014 : decode cX12_init 1014 = .ok (.bipush 36, 2) := by decide +kernel
theorem dX12_init_1016 : decode cX12_init 1016 = .ok (.newarray .int, 2) := by decide +kernel
theorem dX12_init_1018 : decode cX12_init 1018 = .ok (.putfield 173, 3) := by decide +kernel
theorem dX12_init_1021 : decode cX12_init 1021 = .ok (.aload_n 0, 1) := by decide +kernel
theorem dX12_init_1022 : decode cX12_init 1022 = .ok (.bipush 32, 2) := by decide +kernel
theorem dX12_init_1024 : decode cX12_init 1024 = .ok (.newarray .int, 2) := by decide +kernel
theorem dX12_init_1026 : decode cX12_init 1026 = .ok (.putfield 176, 3) := by decide +kernel
theorem dX12_init_1029 : decode cX12_init 1029 = .ok (.aload_n 0, 1) := by decide +kernel
theorem dX12_init_1030 : decode cX12_init 1030 = .ok (.sipush 205, 3) := by decide +kernel
theorem dX12_init_1033 : decode cX12_init 1033 = .ok (.newarray .int, 2) := by decide +kernel
theorem dX12_init_1035 : decode cX12_init 1035 = .ok (.putfield 179, 3) := by decide +kernel
theorem dX12_init_1038 : decode cX12_init 1038 = .ok (.aload_n 0, 1) := by decide +kernel
theorem dX12_init_1039 : decode cX12_init 1039 = .ok (.sipush 4720, 3) := by decide +kernel
theorem dX12_init_1042 : decode cX12_init 1042 = .ok (.newarray .int, 2) := by decide +kernel
theorem dX12_init_1044 : decode cX12_init 1044 = .ok (.putfield 182, 3) := by decide +kernel
theorem dX12_init_1047 : decode cX12_init 1047 = .ok (.aload_n 0, 1) := by decide +kernel
theorem dX12_init_1048 : decode cX12_init 1048 = .ok (.lconst 1, 1) := by decide +kernel
theorem dX12_init_1049 : decode cX12_init 1049 = .ok (.putfield 185, 3) := by decide +kernel
theorem dX12_init_1052 : decode cX12_init 1052 = .ok (.aload_n 0, 1) := by decide +kernel
theorem dX12_init_1053 : decode cX12_init 1053 = .ok (.iconst 5, 1) := by decide +kernel
theorem dX12_init_1054 : decode cX12_init 1054 = .ok (.newarray .char, 2) := by decide +kernel
theorem dX12_init_1056 : decode cX12_init 1056 = .ok (.dup, 1) := by decide +kernel
theorem dX12_init_1057 : decode cX12_init 1057 = .ok (.iconst 0, 1) := by decide +kernel
theorem dX12_init_1058 : decode cX12_init 1058 = .ok (.bipush 102, 2) := by decide +kernel
theorem dX12_init_1060 : decode cX12_init 1060 = .ok (.castore, 1) := by decide +kernel
theorem dX12_init_1061 : decode cX12_init 1061 = .ok (.dup, 1) := by decide +kernel
theorem dX12_init_1062 : decode cX12_init 1062 = .ok (.iconst 1, 1) := by decide +kernel
theorem dX12_init_1063 : decode cX12_init 1063 = .ok (.bipush 105, 2) := by decide +kernel
theorem dX12_init_1065 : decode cX12_init 1065 = .ok (.castore, 1) := by decide +kernel
theorem dX12_init_1066 : decode cX12_init 1066 = .ok (.dup, 1) := by decide +kernel
theorem dX12_init_1067 : decode cX12_init 1067 = .ok (.iconst 2, 1) := by decide +kernel
theorem dX12_init_1068 : decode cX12_init 1068 = .ok (.bipush 114, 2) := by decide +kernel
theorem dX12_init_1070 : decode cX12_init 1070 = .ok (.castore, 1) := by decide +kernel
theorem dX12_init_1071 : decode cX12_init 1071 = .ok (.dup, 1) := by decide +kernel
theorem dX12_init_1072 : decode cX12_init 1072 = .ok (.iconst 3, 1) := by decide +kernel
theorem dX12_init_1073 : decode cX12_init 1073 = .ok (.bipush 115, 2) := by decide +kernel
theorem dX12_init_1075 : decode cX12_init 1075 = .ok (.castore, 1) := by decide +kernel
theorem dX12_init_1076 : decode cX12_init 1076 = .ok (.dup, 1) := by decide +kernel
theorem dX12_init_1077 : decode cX12_init 1077 = .ok (.iconst 4, 1) := by decide +kernel
theorem dX12_init_1078 : decode cX12_init 1078 = .ok (.bipush 116, 2) := by decide +kernel
theorem dX12_init_1080 : decode cX12_init 1080 = .ok (.castore, 1) := by decide +kernel
theorem dX12_init_1081 : decode cX12_init 1081 = .ok (.putfield 189, 3) := by decide +kernel
theorem dX12_init_1084 : decode cX12_init 1084 = .ok (.aload_n 0, 1) := by decide +kernel
theorem dX12_init_1085 : decode cX12_init 1085 = .ok (.iconst 4, 1) := by decide +kernel
theorem dX12_init_1086 : decode cX12_init 1086 = .ok (.newarray .char, 2) := by decide +kernel
theorem dX12_init_1088 : decode cX12_init 1088 = .ok (.dup, 1) := by decide +kernel
theorem dX12_init_1089 : decode cX12_init 1089 = .ok (.iconst 0, 1) := by decide +kernel
theorem dX12_init_1090 : decode cX12_init 1090 = .ok (.bipush 108, 2) := by decide +kernel
theorem dX12_init_1092 : decode cX12_init 1092 = .ok (.castore, 1) := by decide +kernel
theorem dX12_init_1093 : decode cX12_init 1093 = .ok (.dup, 1) := by decide +kernel
theorem dX12_init_1094 : decode cX12_init 1094 = .ok (.iconst 1, 1) := by decide +kernel
theorem dX12_init_1095 : decode cX12_init 1095 = .ok (.bipush 97, 2) := by decide +kernel
theorem dX12_init_1097 : decode cX12_init 1097 = .ok (.castore, 1) := by decide +kernel
theorem dX12_init_1098 : decode cX12_init 1098 = .ok (.dup, 1) := by decide +kernel
theorem dX12_init_1099 : decode cX12_init 1099 = .ok (.iconst 2, 1) := by decide +kernel
theorem dX12_init_1100 : decode cX12_init 1100 = .ok (.bipush 115, 2) := by decide +kernel
theorem dX12_init_1102 : decode cX12_init 1102 = .ok (.castore, 1) := by decide +kernel
theorem dX12_init_1103 : decode cX12_init 1103 = .ok (.dup, 1) := by decide +kernel
theorem dX12_init_1104 : decode cX12_init 1104 = .ok (.iconst 3, 1) := by decide +kernel
theorem dX12_init_1105 : decode cX12_init 1105 = .ok (.bipush 116, 2) := by decide +kernel
theorem dX12_init_1107 : decode cX12_init 1107 = .ok (.castore, 1) := by decide +kernel
theorem dX12_init_1108 : decode cX12_init 1108 = .ok (.putfield 192, 3) := by decide +kernel
theorem dX12_init_1111 : decode cX12_init 1111 = .ok (.aload_n 0, 1) := by decide +kernel
theorem dX12_init_1112 : decode cX12_init 1112 = .ok (.iconst 5, 1) := by decide +kernel
theorem dX12_init_1113 : decode cX12_init 1113 = .ok (.newarray .char, 2) := by decide +kernel
theorem dX12_init_1115 : decode cX12_init 1115 = .ok (.dup, 1) := by decide +kernel
theorem dX12_init_1116 : decode cX12_init 1116 = .ok (.iconst 0, 1) := by decide +kernel
theorem dX12_init_1117 : decode cX12_init 1117 = .ok (.bipush 111, 2) := by decide +kernel
theorem dX12_init_1119 : decode cX12_init 1119 = .ok (.castore, 1) := by decide +kernel
theorem dX12_init_1120 : decode cX12_init 1120 = .ok (.dup, 1) := by decide +kernel
theorem dX12_init_1121 : decode cX12_init 1121 = .ok (.iconst 1, 1) := by decide +kernel
theorem dX12_init_1122 : decode cX12_init 1122 = .ok (.bipush 102, 2) := by decide +kernel
theorem dX12_init_1124 : decode cX12_init 1124 = .ok (.castore, 1) := by decide +kernel
theorem dX12_init_1125 : decode cX12_init 1125 = .ok (.dup, 1) := by decide +kernel
theorem dX12_init_1126 : decode cX12_init 1126 = .ok (.iconst 2, 1) := by decide +kernel
theorem dX12_init_1127 : decode cX12_init 1127 = .ok (.bipush 116, 2) := by decide +kernel
theorem dX12_init_1129 : decode cX12_init 1129 = .ok (.castore, 1) := by decide +kernel
theorem dX12_init_1130 : decode cX12_init 1130 = .ok (.dup, 1) := by decide +kernel
theorem dX12_init_1131 : decode cX12_init 1131 = .ok (.iconst 3, 1) := by decide +kernel
theorem dX12_init_1132 : decode cX12_init 1132 = .ok (.bipush 101, 2) := by decide +kernel
theorem dX12_init_1134 : decode cX12_init 1134 = .ok (.castore, 1) := by decide +kernel
theorem dX12_init_1135 : decode cX12_init 1135 = .ok (.dup, 1) := by decide +kernel
theorem dX12_init_1136 : decode cX12_init 1136 = .ok (.iconst 4, 1) := by decide +kernel
theorem dX12_init_1137 : decode cX12_init 1137 = .ok (.bipush 110, 2) := by decide +kernel
theorem dX12_init_1139 : decode cX12_init 1139 = .ok (.castore, 1) := by decide +kernel
theorem dX12_init_1140 : decode cX12_init 1140 = .ok (.putfield 195, 3) := by decide +kernel
theorem dX12_init_1143 : decode cX12_init 1143 = .ok (.aload_n 0, 1) := by decide +kernel
theorem dX12_init_1144 : decode cX12_init 1144 = .ok (.iconst 5, 1) := by decide +kernel
theorem dX12_init_1145 : decode cX12_init 1145 = .ok (.newarray .char, 2) := by decide +kernel
theorem dX12_init_1147 : decode cX12_init 1147 = .ok (.dup, 1) := by decide +kernel
theorem dX12_init_1148 : decode cX12_init 1148 = .ok (.iconst 0, 1) := by decide +kernel
theorem dX12_init_1149 : decode cX12_init 1149 = .ok (.bipush 116, 2) := by decide +kernel
theorem dX12_init_1151 : decode cX12_init 1151 = .ok (.castore, 1) := by decide +kernel
theorem dX12_init_1152 : decode cX12_init 1152 = .ok (.dup, 1) := by decide +kernel
theorem dX12_init_1153 : decode cX12_init 1153 = .ok (.iconst 1, 1) := by decide +kernel
theorem dX12_init_1154 : decode cX12_init 1154 = .ok (.bipush 111, 2) := by decide +kernel
theorem dX12_init_1156 : decode cX12_init 1156 = .ok (.castore, 1) := by decide +kernel
theorem dX12_init_1157 : decode cX12_init 1157 = .ok (.dup, 1) := by decide +kernel
theorem dX12_init_1158 : decode cX12_init 1158 = .ok (.iconst 2, 1) := by decide +kernel
theorem dX12_init_1159 : decode cX12_init 1159 = .ok (.bipush 116, 2) := by decide +kernel
theorem dX12_init_1161 : decode cX12_init 1161 = .ok (.castore, 1) := by decide +kernel
theorem dX12_init_1162 : decode cX12_init 1162 = .ok (.dup, 1) := by decide +kernel
theorem dX12_init_1163 : decode cX12_init 1163 = .ok (.iconst 3, 1) := by decide +kernel
theorem dX12_init_1164 : decode cX12_init 1164 = .ok (.bipush 97, 2) := by decide +kernel
theorem dX12_init_1166 : decode cX12_init 1166 = .ok (.castore, 1) := by decide +kernel
theorem dX12_init_1167 : decode cX12_init 1167 = .ok (.dup, 1) := by decide +kernel
theorem dX12_init_1168 : decode cX12_init 1168 = .ok (.iconst 4, 1) := by decide +kernel
theorem dX12_init_1169 : decode cX12_init 1169 = .ok (.bipush 108, 2) := by decide +kernel
theorem dX12_init_1171 : decode cX12_init 1171 = .ok (.castore, 1) := by decide +kernel
theorem dX12_init_1172 : decode cX12_init 1172 = .ok (.putfield 198, 3) := by decide +kernel
theorem dX12_init_1175 : decode cX12_init 1175 = .ok (.aload_n 0, 1) := by decide +kernel
theorem dX12_init_1176 : decode cX12_init 1176 = .ok (.iconst 4, 1) := by decide +kernel
theorem dX12_init_1177 : decode cX12_init 1177 = .ok (.newarray .char, 2) := by decide +kernel
theorem dX12_init_1179 : decode cX12_init 1179 = .ok (.dup, 1) := by decide +kernel
theorem dX12_init_1180 : decode cX12_init 1180 = .ok (.iconst 0, 1) := by decide +kernel
theorem dX12_init_1181 : decode cX12_init 1181 = .ok (.bipush 109, 2) := by decide +kernel
theorem dX12_init_1183 : decode cX12_init 1183 = .ok (.castore, 1) := by decide +kernel
theorem dX12_init_1184 : decode cX12_init 1184 = .ok (.dup, 1) := by decide +kernel
theorem dX12_init_1185 : decode cX12_init 1185 = .ok (.iconst 1, 1) := by decide +kernel
theorem dX12_init_1186 : decode cX12_init 1186 = .ok (.bipush 111, 2) := by decide +kernel
theorem dX12_init_1188 : decode cX12_init 1188 = .ok (.castore, 1) := by decide +kernel
theorem dX12_init_1189 : decode cX12_init 1189 = .ok (.dup, 1) := by decide +kernel
theorem dX12_init_1190 : decode cX12_init 1190 = .ok (.iconst 2, 1) := by decide +kernel
theorem dX12_init_1191 : decode cX12_init 1191 = .ok (.bipush 115, 2) := by decide +kernel
theorem dX12_init_1193 : decode cX12_init 1193 = .ok (.castore, 1) := by decide +kernel
theorem dX12_init_1194 : decode cX12_init 1194 = .ok (.dup, 1) := by decide +kernel
theorem dX12_init_1195 : decode cX12_init 1195 = .ok (.iconst 3, 1) := by decide +kernel
theorem dX12_init_1196 : decode cX12_init 1196 = .ok (.bipush 116, 2) := by decide +kernel
theorem dX12_init_1198 : decode cX12_init 1198 = .ok (.castore, 1) := by decide +kernel
theorem dX12_init_1199 : decode cX12_init 1199 = .ok (.putfield 201, 3) := by decide +kernel
theorem dX12_init_1202 : decode cX12_init 1202 = .ok (.aload_n 0, 1) := by decide +kernel
theorem dX12_init_1203 : decode cX12_init 1203 = .ok (.iconst 5, 1) := by decide +kernel
theorem dX12_init_1204 : decode cX12_init 1204 = .ok (.newarray .char, 2) := by decide +kernel
theorem dX12_init_1206 : decode cX12_init 1206 = .ok (.dup, 1) := by decide +kernel
theorem dX12_init_1207 : decode cX12_init 1207 = .ok (.iconst 0, 1) := by decide +kernel
theorem dX12_init_1208 : decode cX12_init 1208 = .ok (.bipush 108, 2) := by decide +kernel
theorem dX12_init_1210 : decode cX12_init 1210 = .ok (.castore, 1) := by decide +kernel
theorem dX12_init_1211 : decode cX12_init 1211 = .ok (.dup, 1) := by decide +kernel
theorem dX12_init_1212 : decode cX12_init 1212 = .ok (.iconst 1, 1) := by decide +kernel
theorem dX12_init_1213 : decode cX12_init 1213 = .ok (.bipush 101, 2) := by decide +kernel
theorem dX12_init_1215 : decode cX12_init 1215 = .ok (.castore, 1) := by decide +kernel
theorem dX12_init_1216 : decode cX12_init 1216 = .ok (.dup, 1) := by decide +kernel
theorem dX12_init_1217 : decode cX12_init 1217 = .ok (.iconst 2, 1) := by decide +kernel
theorem dX12_init_1218 : decode cX12_init 1218 = .ok (.bipush 97, 2) := by decide +kernel
theorem dX12_init_1220 : decode cX12_init 1220 = .ok (.castore, 1) := by decide +kernel
theorem dX12_init_1221 : decode cX12_init 1221 = .ok (.dup, 1) := by decide +kernel
theorem dX12_init_1222 : decode cX12_init 1222 = .ok (.iconst 3, 1) := by decide +kernel
theorem dX12_init_1223 : decode cX12_init 1223 = .ok (.bipush 115, 2) := by decide +kernel
theorem dX12_init_1225 : decode cX12_init 1225 = .ok (.castore, 1) := by decide +kernel
theorem dX12_init_1226 : decode cX12_init 1226 = .ok (.dup, 1) := by decide +kernel
theorem dX12_init_1227 : decode cX12_init 1227 = .ok (.iconst 4, 1) := by decide +kernel
theorem dX12_init_1228 : decode cX12_init 1228 = .ok (.bipush 116, 2) := by decide +kernel
theorem dX12_init_1230 : decode cX12_init 1230 = .ok (.castore, 1) := by decide +kernel
theorem dX12_init_1231 : decode cX12_init 1231 = .ok (.putfield 204, 3) := by decide +kernel
theorem dX12_init_1234 : decode cX12_init 1234 = .ok (.aload_n 0, 1) := by decide +kernel
theorem dX12_init_1235 : decode cX12_init 1235 = .ok (.iconst 3, 1) := by decide +kernel
theorem dX12_init_1236 : decode cX12_init 1236 = .ok (.newarray .char, 2) := by decide +kernel
theorem dX12_init_1238 : decode cX12_init 1238 = .ok (.dup, 1) := by decide +kernel
theorem dX12_init_1239 : decode cX12_init 1239 = .ok (.iconst 0, 1) := by decide +kernel
theorem dX12_init_1240 : decode cX12_init 1240 = .ok (.bipush 110, 2) := by decide +kernel
theorem dX12_init_1242 : decode cX12_init 1242 = .ok (.castore, 1) := by decide +kernel
theorem dX12_init_1243 : decode cX12_init 1243 = .ok (.dup, 1) := by decide +kernel
theorem dX12_init_1244 : decode cX12_init 1244 = .ok (.iconst 1, 1) := by decide +kernel
theorem dX12_init_1245 : decode cX12_init 1245 = .ok (.bipush 111, 2) := by decide +kernel
theorem dX12_init_1247 : decode cX12_init 1247 = .ok (.castore, 1) := by decide +kernel
theorem dX12_init_1248 : decode cX12_init 1248 = .ok (.dup, 1) := by decide +kernel
theorem dX12_init_1249 : decode cX12_init 1249 = .ok (.iconst 2, 1) := by decide +kernel
theorem dX12_init_1250 : decode cX12_init 1250 = .ok (.bipush 116, 2) := by decide +kernel
theorem dX12_init_1252 : decode cX12_init 1252 = .ok (.castore, 1) := by decide +kernel
theorem dX12_init_1253 : decode cX12_init 1253 = .ok (.putfield 207, 3) := by decide +kernel
theorem dX12_init_1256 : decode cX12_init 1256 = .ok (.aload_n 0, 1) := by decide +kernel
theorem dX12_init_1257 : decode cX12_init 1257 = .ok (.iconst 3, 1) := by decide +kernel
theorem dX12_init_1258 : decode cX12_init 1258 = .ok (.newarray .char, 2) := by decide +kernel
theorem dX12_init_1260 : decode cX12_init 1260 = .ok (.dup, 1) := by decide +kernel
theorem dX12_init_1261 : decode cX12_init 1261 = .ok (.iconst 0, 1) := by decide +kernel
theorem dX12_init_1262 : decode cX12_init 1262 = .ok (.bipush 97, 2) := by decide +kernel
theorem dX12_init_1264 : decode cX12_init 1264 = .ok (.castore, 1) := by decide +kernel
theorem dX12_init_1265 : decode cX12_init 1265 = .ok (.dup, 1) := by decide +kernel
theorem dX12_init_1266 : decode cX12_init 1266 = .ok (.iconst 1, 1) := by decide +kernel
theorem dX12_init_1267 : decode cX12_init 1267 = .ok (.bipush 110, 2) := by decide +kernel
theorem dX12_init_1269 : decode cX12_init 1269 = .ok (.castore, 1) := by decide +kernel
theorem dX12_init_1270 : decode cX12_init 1270 = .ok (.dup, 1) := by decide +kernel
theorem dX12_init_1271 : decode cX12_init 1271 = .ok (.iconst 2, 1) := by decide +kernel
theorem dX12_init_1272 : decode cX12_init 1272 = .ok (.bipush 100, 2) := by decide +kernel
theorem dX12_init_1274 : decode cX12_init 1274 = .ok (.castore, 1) := by decide +kernel
theorem dX12_init_1275 : decode cX12_init 1275 = .ok (.putfield 210, 3) := by decide +kernel
theorem dX12_init_1278 : decode cX12_init 1278 = .ok (.aload_n 0, 1) := by decide +kernel
theorem dX12_init_1279 : decode cX12_init 1279 = .ok (.iconst 2, 1) := by decide +kernel
theorem dX12_init_1280 : decode cX12_init 1280 = .ok (.newarray .char, 2) := by decide +kernel
theorem dX12_init_1282 : decode cX12_init 1282 = .ok (.dup, 1) := by decide +kernel
theorem dX12_init_1283 : decode cX12_init 1283 = .ok (.iconst 0, 1) := by decide +kernel
theorem dX12_init_1284 : decode cX12_init 1284 = .ok (.bipush 111, 2) := by decide +kernel
theorem dX12_init_1286 : decode cX12_init 1286 = .ok (.castore, 1) := by decide +kernel
theorem dX12_init_1287 : decode cX12_init 1287 = .ok (.dup, 1) := by decide +kernel
theorem dX12_init_1288 : decode cX12_init 1288 = .ok (.iconst 1, 1) := by decide +kernel
theorem dX12_init_1289 : decode cX12_init 1289 = .ok (.bipush 114, 2) := by decide +kernel
theorem dX12_init_1291 : decode cX12_init 1291 = .ok (.castore, 1) := by decide +kernel
theorem dX12_init_1292 : decode cX12_init 1292 = .ok (.putfield 213, 3) := by decide +kernel
theorem dX12_init_1295 : decode cX12_init 1295 = .ok (.aload_n 0, 1) := by decide +kernel
theorem dX12_init_1296 : decode cX12_init 1296 = .ok (.iconst 3, 1) := by decide +kernel
theorem dX12_init_1297 : decode cX12_init 1297 = .ok (.newarray .char, 2) := by decide +kernel
theorem dX12_init_1299 : decode cX12_init 1299 = .ok (.dup, 1) := by decide +kernel
theorem dX12_init_1300 : decode cX12_init 1300 = .ok (.iconst 0, 1) := by decide +kernel
theorem dX12_init_1301 : decode cX12_init 1301 = .ok (.bipush 97, 2) := by decide +kernel
theorem dX12_init_1303 : decode cX12_init 1303 = .ok (.castore, 1) := by decide +kernel
theorem dX12_init_1304 : decode cX12_init 1304 = .ok (.dup, 1) := by decide +kernel
theorem dX12_init_1305 : decode cX12_init 1305 = .ok (.iconst 1, 1) := by decide +kernel
theorem dX12_init_1306 : decode cX12_init 1306 = .ok (.bipush 108, 2) := by decide +kernel
theorem dX12_init_1308 : decode cX12_init 1308 = .ok (.castore, 1) := by decide +kernel
theorem dX12_init_1309 : decode cX12_init 1309 = .ok (.dup, 1) := by decide +kernel
theorem dX12_init_1310 : decode cX12_init 1310 = .ok (.iconst 2, 1) := by decide +kernel
theorem dX12_init_1311 : decode cX12_init 1311 = .ok (.bipush 108, 2) := by decide +kernel
theorem dX12_init_1313 : decode cX12_init 1313 = .ok (.castore, 1) := by decide +kernel
theorem dX12_init_1314 : decode cX12_init 1314 = .ok (.putfield 216, 3) := by decide +kernel
theorem dX12_init_1317 : decode cX12_init 1317 = .ok (.aload_n 0, 1) := by decide +kernel
theorem dX12_init_1318 : decode cX12_init 1318 = .ok (.iconst 3, 1) := by decide +kernel
theorem dX12_init_1319 : decode cX12_init 1319 = .ok (.newarray .char, 2) := by decide +kernel
theorem dX12_init_1321 : decode cX12_init 1321 = .ok (.dup, 1) := by decide +kernel
theorem dX12_init_1322 : decode cX12_init 1322 = .ok (.iconst 0, 1) := by decide +kernel
theorem dX12_init_1323 : decode cX12_init 1323 = .ok (.bipush 109, 2) := by decide +kernel
theorem dX12_init_1325 : decode cX12_init 1325 = .ok (.castore, 1) := by decide +kernel
theorem dX12_init_1326 : decode cX12_init 1326 = .ok (.dup, 1) := by decide +kernel
theorem dX12_init_1327 : decode cX12_init 1327 = .ok (.iconst 1, 1) := by decide +kernel
theorem dX12_init_1328 : decode cX12_init 1328 = .ok (.bipush 105, 2) := by decide +kernel
theorem dX12_init_1330 : decode cX12_init 1330 = .ok (.castore, 1) := by decide +kernel
theorem dX12_init_1331 : decode cX12_init 1331 = .ok (.dup, 1) := by decide +kernel
theorem dX12_init_1332 : decode cX12_init 1332 = .ok (.iconst 2, 1) := by decide +kernel
theorem dX12_init_1333 : decode cX12_init 1333 = .ok (.bipush 110, 2) := by decide +kernel
theorem dX12_init_1335 : decode cX12_init 1335 = .ok (.castore, 1) := by decide +kernel
theorem dX12_init_1336 : decode cX12_init 1336 = .ok (.putfield 219, 3) := by decide +kernel
theorem dX12_init_1339 : decode cX12_init 1339 = .ok (.aload_n 0, 1) := by decide +kernel
theorem dX12_init_1340 : decode cX12_init 1340 = .ok (.iconst 3, 1) := by decide +kernel
theorem dX12_init_1341 : decode cX12_init 1341 = .ok (.newarray .char, 2) := by decide +kernel
theorem dX12_init_1343 : decode cX12_init 1343 = .ok (.dup, 1) := by decide +kernel
theorem dX12_init_1344 : decode cX12_init 1344 = .ok (.iconst 0, 1) := by decide +kernel
theorem dX12_init_1345 : decode cX12_init 1345 = .ok (.bipush 109, 2) := by decide +kernel
theorem dX12_init_1347 : decode cX12_init 1347 = .ok (.castore, 1) := by decide +kernel
theorem dX12_init_1348 : decode cX12_init 1348 = .ok (.dup, 1) := by decide +kernel
theorem dX12_init_1349 : decode cX12_init 1349 = .ok (.iconst 1, 1) := by decide +kernel
theorem dX12_init_1350 : decode cX12_init 1350 = .ok (.bipush 97, 2) := by decide +kernel
theorem dX12_init_1352 : decode cX12_init 1352 = .ok (.castore, 1) := by decide +kernel
theorem dX12_init_1353 : decode cX12_init 1353 = .ok (.dup, 1) := by decide +kernel
theorem dX12_init_1354 : decode cX12_init 1354 = .ok (.iconst 2, 1) := by decide +kernel
theorem dX12_init_1355 : decode cX12_init 1355 = .ok (.bipush 120, 2) := by decide +kernel
theorem dX12_init_1357 : decode cX12_init 1357 = .ok (.castore, 1) := by decide +kernel
theorem dX12_init_1358 : decode cX12_init 1358 = .ok (.putfield 222, 3) := by decide +kernel
theorem dX12_init_1361 : decode cX12_init 1361 = .ok (.aload_n 0, 1) := by decide +kernel
theorem dX12_init_1362 : decode cX12_init 1362 = .ok (.iconst 4, 1) := by decide +kernel
theorem dX12_init_1363 : decode cX12_init 1363 = .ok (.newarray .char, 2) := by decide +kernel
theorem dX12_init_1365 : decode cX12_init 1365 = .ok (.dup, 1) := by decide +kernel
theorem dX12_init_1366 : decode cX12_init 1366 = .ok (.iconst 0, 1) := by decide +kernel
theorem dX12_init_1367 : decode cX12_init 1367 = .ok (.bipush 121, 2) := by decide +kernel
theorem dX12_init_1369 : decode cX12_init 1369 = .ok (.castore, 1) := by decide +kernel
theorem dX12_init_1370 : decode cX12_init 1370 = .ok (.dup, 1) := by decide +kernel
theorem dX12_init_1371 : decode cX12_init 1371 = .ok (.iconst 1, 1) := by decide +kernel
theorem dX12_init_1372 : decode cX12_init 1372 = .ok (.bipush 101, 2) := by decide +kernel
theorem dX12_init_1374 : decode cX12_init 1374 = .ok (.castore, 1) := by decide +kernel
theorem dX12_init_1375 : decode cX12_init 1375 = .ok (.dup, 1) := by decide +kernel
theorem dX12_init_1376 : decode cX12_init 1376 = .ok (.iconst 2, 1) := by decide +kernel
theorem dX12_init_1377 : decode cX12_init 1377 = .ok (.bipush 97, 2) := by decide +kernel
theorem dX12_init_1379 : decode cX12_init 1379 = .ok (.castore, 1) := by decide +kernel
theorem dX12_init_1380 : decode cX12_init 1380 = .ok (.dup, 1) := by decide +kernel
theorem dX12_init_1381 : decode cX12_init 1381 = .ok (.iconst 3, 1) := by decide +kernel
theorem dX12_init_1382 : decode cX12_init 1382 = .ok (.bipush 114, 2) := by decide +kernel
theorem dX12_init_1384 : decode cX12_init 1384 = .ok (.castore, 1) := by decide +kernel
theorem dX12_init_1385 : decode cX12_init 1385 = .ok (.putfield 225, 3) := by decide +kernel
theorem dX12_init_1388 : decode cX12_init 1388 = .ok (.aload_n 0, 1) := by decide +kernel
theorem dX12_init_1389 : decode cX12_init 1389 = .ok (.iconst 3, 1) := by decide +kernel
theorem dX12_init_1390 : decode cX12_init 1390 = .ok (.newarray .char, 2) := by decide +kernel
theorem dX12_init_1392 : decode cX12_init 1392 = .ok (.dup, 1) := by decide +kernel
theorem dX12_init_1393 : decode cX12_init 1393 = .ok (.iconst 0, 1) := by decide +kernel
theorem dX12_init_1394 : decode cX12_init 1394 = .ok (.bipush 112, 2) := by decide +kernel
theorem dX12_init_1396 : decode cX12_init 1396 = .ok (.castore, 1) := by decide +kernel
theorem dX12_init_1397 : decode cX12_init 1397 = .ok (.dup, 1) := by decide +kernel
theorem dX12_init_1398 : decode cX12_init 1398 = .ok (.iconst 1, 1) := by decide +kernel
theorem dX12_init_1399 : decode cX12_init 1399 = .ok (.bipush 105, 2) := by decide +kernel
theorem dX12_init_1401 : decode cX12_init 1401 = .ok (.castore, 1) := by decide +kernel
theorem dX12_init_1402 : decode cX12_init 1402 = .ok (.dup, 1) := by decide +kernel
theorem dX12_init_1403 : decode cX12_init 1403 = .ok (.iconst 2, 1) := by decide +kernel
theorem dX12_init_1404 : decode cX12_init 1404 = .ok (.bipush 101, 2) := by decide +kernel
theorem dX12_init_1406 : decode cX12_init 1406 = .ok (.castore, 1) := by decide +kernel
theorem dX12_init_1407 : decode cX12_init 1407 = .ok (.putfield 228, 3) := by decide +kernel
theorem dX12_init_1410 : decode cX12_init 1410 = .ok (.aload_n 0, 1) := by decide +kernel
theorem dX12_init_1411 : decode cX12_init 1411 = .ok (.iconst 4, 1) := by decide +kernel
theorem dX12_init_1412 : decode cX12_init 1412 = .ok (.newarray .char, 2) := by decide +kernel
theorem dX12_init_1414 : decode cX12_init 1414 = .ok (.dup, 1) := by decide +kernel
theorem dX12_init_1415 : decode cX12_init 1415 = .ok (.iconst 0, 1) := by decide +kernel
theorem dX12_init_1416 : decode cX12_init 1416 = .ok (.bipush 98, 2) := by decide +kernel
theorem dX12_init_1418 : decode cX12_init 1418 = .ok (.castore, 1) := by decide +kernel
theorem dX12_init_1419 : decode cX12_init 1419 = .ok (.dup, 1) := by decide +kernel
theorem dX12_init_1420 : decode cX12_init 1420 = .ok (.iconst 1, 1) := by decide +kernel
theorem dX12_init_1421 : decode cX12_init 1421 = .ok (.bipush 101, 2) := by decide +kernel
theorem dX12_init_1423 : decode cX12_init 1423 = .ok (.castore, 1) := by decide +kernel
theorem dX12_init_1424 : decode cX12_init 1424 = .ok (.dup, 1) := by decide +kernel
theorem dX12_init_1425 : decode cX12_init 1425 = .ok (.iconst 2, 1) := by decide +kernel
theorem dX12_init_1426 : decode cX12_init 1426 = .ok (.bipush 101, 2) := by decide +kernel
theorem dX12_init_1428 : decode cX12_init 1428 = .ok (.castore, 1) := by decide +kernel
theorem dX12_init_1429 : decode cX12_init 1429 = .ok (.dup, 1) := by decide +kernel
theorem dX12_init_1430 : decode cX12_init 1430 = .ok (.iconst 3, 1) := by decide +kernel
theorem dX12_init_1431 : decode cX12_init 1431 = .ok (.bipush 110, 2) := by decide +kernel
theorem dX12_init_1433 : decode cX12_init 1433 = .ok (.castore, 1) := by decide +kernel
theorem dX12_init_1434 : decode cX12_init 1434 = .ok (.putfield 231, 3) := by decide +kernel
theorem dX12_init_1437 : decode cX12_init 1437 = .ok (.aload_n 0, 1) := by decide +kernel
theorem dX12_init_1438 : decode cX12_init 1438 = .ok (.iconst 4, 1) := by decide +kernel
theorem dX12_init_1439 : decode cX12_init 1439 = .ok (.newarray .char, 2) := by decide +kernel
theorem dX12_init_1441 : decode cX12_init 1441 = .ok (.dup, 1) := by decide +kernel
theorem dX12_init_1442 : decode cX12_init 1442 = .ok (.iconst 0, 1) := by decide +kernel
theorem dX12_init_1443 : decode cX12_init 1443 = .ok (.bipush 98, 2) := by decide +kernel
theorem dX12_init_1445 : decode cX12_init 1445 = .ok (.castore, 1) := by decide +kernel
theorem dX12_init_1446 : decode cX12_init 1446 = .ok (.dup, 1) := by decide +kernel
theorem dX12_init_1447 : decode cX12_init 1447 = .ok (.iconst 1, 1) := by decide +kernel
theorem dX12_init_1448 : decode cX12_init 1448 = .ok (.bipush 111, 2) := by decide +kernel
theorem dX12_init_1450 : decode cX12_init 1450 = .ok (.castore, 1) := by decide +kernel
theorem dX12_init_1451 : decode cX12_init 1451 = .ok (.dup, 1) := by decide +kernel
theorem dX12_init_1452 : decode cX12_init 1452 = .ok (.iconst 2, 1) := by decide +kernel
theorem dX12_init_1453 : decode cX12_init 1453 = .ok (.bipush 108, 2) := by decide +kernel
theorem dX12_init_1455 : decode cX12_init 1455 = .ok (.castore, 1) := by decide +kernel
theorem dX12_init_1456 : decode cX12_init 1456 = .ok (.dup, 1) := by decide +kernel
theorem dX12_init_1457 : decode cX12_init 1457 = .ok (.iconst 3, 1) := by decide +kernel
theorem dX12_init_1458 : decode cX12_init 1458 = .ok (.bipush 100, 2) := by decide +kernel
theorem dX12_init_1460 : decode cX12_init 1460 = .ok (.castore, 1) := by decide +kernel
theorem dX12_init_1461 : decode cX12_init 1461 = .ok (.putfield 234, 3) := by decide +kernel
theorem dX12_init_1464 : decode cX12_init 1464 = .ok (.aload_n 0, 1) := by decide +kernel
theorem dX12_init_1465 : decode cX12_init 1465 = .ok (.iconst 4, 1) := by decide +kernel
theorem dX12_init_1466 : decode cX12_init 1466 = .ok (.newarray .char, 2) := by decide +kernel
theorem dX12_init_1468 : decode cX12_init 1468 = .ok (.dup, 1) := by decide +kernel
theorem dX12_init_1469 : decode cX12_init 1469 = .ok (.iconst 0, 1) := by decide +kernel
theorem dX12_init_1470 : decode cX12_init 1470 = .ok (.bipush 107, 2) := by decide +kernel
theorem dX12_init_1472 : decode cX12_init 1472 = .ok (.castore, 1) := by decide +kernel
theorem dX12_init_1473 : decode cX12_init 1473 = .ok (.dup, 1) := by decide +kernel
theorem dX12_init_1474 : decode cX12_init 1474 = .ok (.iconst 1, 1) := by decide +kernel
theorem dX12_init_1475 : decode cX12_init 1475 = .ok (.bipush 105, 2) := by decide +kernel
theorem dX12_init_1477 : decode cX12_init 1477 = .ok (.castore, 1) := by decide +kernel
theorem dX12_init_1478 : decode cX12_init 1478 = .ok (.dup, 1) := by decide +kernel
theorem dX12_init_1479 : decode cX12_init 1479 = .ok (.iconst 2, 1) := by decide +kernel
theorem dX12_init_1480 : decode cX12_init 1480 = .ok (.bipush 110, 2) := by decide +kernel
theorem dX12_init_1482 : decode cX12_init 1482 = .ok (.castore, 1) := by decide +kernel
theorem dX12_init_1483 : decode cX12_init 1483 = .ok (.dup, 1) := by decide +kernel
theorem dX12_init_1484 : decode cX12_init 1484 = .ok (.iconst 3, 1) := by decide +kernel
theorem dX12_init_1485 : decode cX12_init 1485 = .ok (.bipush 100, 2) := by decide +kernel
theorem dX12_init_1487 : decode cX12_init 1487 = .ok (.castore, 1) := by decide +kernel
theorem dX12_init_1488 : decode cX12_init 1488 = .ok (.putfield 237, 3) := by decide +kernel
theorem dX12_init_1491 : decode cX12_init 1491 = .ok (.aload_n 0, 1) := by decide +kernel
theorem dX12_init_1492 : decode cX12_init 1492 = .ok (.bipush 6, 2) := by decide +kernel
theorem dX12_init_1494 : decode cX12_init 1494 = .ok (.newarray .char, 2) := by decide +kernel
theorem dX12_init_1496 : decode cX12_init 1496 = .ok (.dup, 1) := by decide +kernel
theorem dX12_init_1497 : decode cX12_init 1497 = .ok (.iconst 0, 1) := by decide +kernel
theorem dX12_init_1498 : decode cX12_init 1498 = .ok (.bipush 104, 2) := by decide +kernel
theorem dX12_init_1500 : decode cX12_init 1500 = .ok (.castore, 1) := by decide +kernel
theorem dX12_init_1501 : decode cX12_init 1501 = .ok (.dup, 1) := by decide +kernel
theorem dX12_init_1502 : decode cX12_init 1502 = .ok (.iconst 1, 1) := by decide +kernel
theorem dX12_init_1503 : decode cX12_init 1503 = .ok (.bipush 101, 2) := by decide +kernel
theorem dX12_init_1505 : decode cX12_init 1505 = .ok (.castore, 1) := by decide +kernel
theorem dX12_init_1506 : decode cX12_init 1506 = .ok (.dup, 1) := by decide +kernel
theorem dX12_init_1507 : decode cX12_init 1507 = .ok (.iconst 2, 1) := by decide +kernel
theorem dX12_init_1508 : decode cX12_init 1508 = .ok (.bipush 105, 2) := by decide +kernel
theorem dX12_init_1510 : decode cX12_init 1510 = .ok (.castore, 1) := by decide +kernel
theorem dX12_init_1511 : decode cX12_init 1511 = .ok (.dup, 1) := by decide +kernel
theorem dX12_init_1512 : decode cX12_init 1512 = .ok (.iconst 3, 1) := by decide +kernel
theorem dX12_init_1513 : decode cX12_init 1513 = .ok (.bipush 103, 2) := by decide +kernel
theorem dX12_init_1515 : decode cX12_init 1515 = .ok (.castore, 1) := by decide +kernel
theorem dX12_init_1516 : decode cX12_init 1516 = .ok (.dup, 1) := by decide +kernel
theorem dX12_init_1517 : decode cX12_init 1517 = .ok (.iconst 4, 1) := by decide +kernel
theorem dX12_init_1518 : decode cX12_init 1518 = .ok (.bipush 104, 2) := by decide +kernel
theorem dX12_init_1520 : decode cX12_init 1520 = .ok (.castore, 1) := by decide +kernel
theorem dX12_init_1521 : decode cX12_init 1521 = .ok (.dup, 1) := by decide +kernel
theorem dX12_init_1522 : decode cX12_init 1522 = .ok (.iconst 5, 1) := by decide +kernel
theorem dX12_init_1523 : decode cX12_init 1523 = .ok (.bipush 116, 2) := by decide +kernel
theorem dX12_init_1525 : decode cX12_init 1525 = .ok (.castore, 1) := by decide +kernel
theorem dX12_init_1526 : decode cX12_init 1526 = .ok (.putfield 240, 3) := by decide +kernel
theorem dX12_init_1529 : decode cX12_init 1529 = .ok (.aload_n 0, 1) := by decide +kernel
theorem dX12_init_1530 : decode cX12_init 1530 = .ok (.iconst 4, 1) := by decide +kernel
theorem dX12_init_1531 : decode cX12_init 1531 = .ok (.newarray .char, 2) := by decide +kernel
theorem dX12_init_1533 : decode cX12_init 1533 = .ok (.dup, 1) := by decide +kernel
theorem dX12_init_1534 : decode cX12_init 1534 = .ok (.iconst 0, 1) := by decide +kernel
theorem dX12_init_1535 : decode cX12_init 1535 = .ok (.bipush 100, 2) := by decide +kernel
theorem dX12_init_1537 : decode cX12_init 1537 = .ok (.castore, 1) := by decide +kernel
theorem dX12_init_1538 : decode cX12_init 1538 = .ok (.dup, 1) := by decide +kernel
theorem dX12_init_1539 : decode cX12_init 1539 = .ok (.iconst 1, 1) := by decide +kernel
theorem dX12_init_1540 : decode cX12_init 1540 = .ok (.bipush 111, 2) := by decide +kernel
theorem dX12_init_1542 : decode cX12_init 1542 = .ok (.castore, 1) := by decide +kernel
theorem dX12_init_1543 : decode cX12_init 1543 = .ok (.dup, 1) := by decide +kernel
theorem dX12_init_1544 : decode cX12_init 1544 = .ok (.iconst 2, 1) := by decide +kernel
theorem dX12_init_1545 : decode cX12_init 1545 = .ok (.bipush 119, 2) := by decide +kernel
theorem dX12_init_1547 : decode cX12_init 1547 = .ok (.castore, 1) := by decide +kernel
theorem dX12_init_1548 : decode cX12_init 1548 = .ok (.dup, 1) := by decide +kernel
theorem dX12_init_1549 : decode cX12_init 1549 = .ok (.iconst 3, 1) := by decide +kernel
theorem dX12_init_1550 : decode cX12_init 1550 = .ok (.bipush 110, 2) := by decide +kernel
theorem dX12_init_1552 : decode cX12_init 1552 = .ok (.castore, 1) := by decide +kernel
theorem dX12_init_1553 : decode cX12_init 1553 = .ok (.putfield 243, 3) := by decide +kernel
theorem dX12_init_1556 : decode cX12_init 1556 = .ok (.aload_n 0, 1) := by decide +kernel
theorem dX12_init_1557 : decode cX12_init 1557 = .ok (.iconst 4, 1) := by decide +kernel
theorem dX12_init_1558 : decode cX12_init 1558 = .ok (.newarray .char, 2) := by decide +kernel
theorem dX12_init_1560 : decode cX12_init 1560 = .ok (.dup, 1) := by decide +kernel
theorem dX12_init_1561 : decode cX12_init 1561 = .ok (.iconst 0, 1) := by decide +kernel
theorem dX12_init_1562 : decode cX12_init 1562 = .ok (.bipush 115, 2) := by decide +kernel
theorem dX12_init_1564 : decode cX12_init 1564 = .ok (.castore, 1) := by decide +kernel
theorem dX12_init_1565 : decode cX12_init 1565 = .ok (.dup, 1) := by decide +kernel
theorem dX12_init_1566 : decode cX12_init 1566 = .ok (.iconst 1, 1) := by decide +kernel
theorem dX12_init_1567 : decode cX12_init 1567 = .ok (.bipush 116, 2) := by decide +kernel
theorem dX12_init_1569 : decode cX12_init 1569 = .ok (.castore, 1) := by decide +kernel
theorem dX12_init_1570 : decode cX12_init 1570 = .ok (.dup, 1) := by decide +kernel
theorem dX12_init_1571 : decode cX12_init 1571 = .ok (.iconst 2, 1) := by decide +kernel
theorem dX12_init_1572 : decode cX12_init 1572 = .ok (.bipush 101, 2) := by decide +kernel
theorem dX12_init_1574 : decode cX12_init 1574 = .ok (.castore, 1) := by decide +kernel
theorem dX12_init_1575 : decode cX12_init 1575 = .ok (.dup, 1) := by decide +kernel
theorem dX12_init_1576 : decode cX12_init 1576 = .ok (.iconst 3, 1) := by decide +kernel
theorem dX12_init_1577 : decode cX12_init 1577 = .ok (.bipush 112, 2) := by decide +kernel
theorem dX12_init_1579 : decode cX12_init 1579 = .ok (.castore, 1) := by decide +kernel
theorem dX12_init_1580 : decode cX12_init 1580 = .ok (.putfield 246, 3) := by decide +kernel
theorem dX12_init_1583 : decode cX12_init 1583 = .ok (.aload_n 0, 1) := by decide +kernel
theorem dX12_init_1584 : decode cX12_init 1584 = .ok (.iconst 3, 1) := by decide +kernel
theorem dX12_init_1585 : decode cX12_init 1585 = .ok (.newarray .char, 2) := by decide +kernel
theorem dX12_init_1587 : decode cX12_init 1587 = .ok (.dup, 1) := by decide +kernel
theorem dX12_init_1588 : decode cX12_init 1588 = .ok (.iconst 0, 1) := by decide +kernel
theorem dX12_init_1589 : decode cX12_init 1589 = .ok (.bipush 119, 2) := by decide +kernel
theorem dX12_init_1591 : decode cX12_init 1591 = .ok (.castore, 1) := by decide +kernel
theorem dX12_init_1592 : decode cX12_init 1592 = .ok (.dup, 1) := by decide +kernel
theorem dX12_init_1593 : decode cX12_init 1593 = .ok (.iconst 1, 1) := by decide +kernel
theorem dX12_init_1594 : decode cX12_init 1594 = .ok (.bipush 101, 2) := by decide +kernel
theorem dX12_init_1596 : decode cX12_init 1596 = .ok (.castore, 1) := by decide +kernel
theorem dX12_init_1597 : decode cX12_init 1597 = .ok (.dup, 1) := by decide +kernel
theorem dX12_init_1598 : decode cX12_init 1598 = .ok (.iconst 2, 1) := by decide +kernel
theorem dX12_init_1599 : decode cX12_init 1599 = .ok (.bipush 116, 2) := by decide +kernel
theorem dX12_init_1601 : decode cX12_init 1601 = .ok (.castore, 1) := by decide +kernel
theorem dX12_init_1602 : decode cX12_init 1602 = .ok (.putfield 249, 3) := by decide +kernel
theorem dX12_init_1605 : decode cX12_init 1605 = .ok (.aload_n 0, 1) := by decide +kernel
theorem dX12_init_1606 : decode cX12_init 1606 = .ok (.bipush 6, 2) := by decide +kernel
theorem dX12_init_1608 : decode cX12_init 1608 = .ok (.newarray .char, 2) := by decide +kernel
theorem dX12_init_1610 : decode cX12_init 1610 = .ok (.dup, 1) := by decide +kernel
theorem dX12_init_1611 : decode cX12_init 1611 = .ok (.iconst 0, 1) := by decide +kernel
theorem dX12_init_1612 : decode cX12_init 1612 = .ok (.bipush 110, 2) := by decide +kernel
theorem dX12_init_1614 : decode cX12_init 1614 = .ok (.castore, 1) := by decide +kernel
theorem dX12_init_1615 : decode cX12_init 1615 = .ok (.dup, 1) := by decide +kernel
theorem dX12_init_1616 : decode cX12_init 1616 = .ok (.iconst 1, 1) := by decide +kernel
theorem dX12_init_1617 : decode cX12_init 1617 = .ok (.bipush 117, 2) := by decide +kernel
theorem dX12_init_1619 : decode cX12_init 1619 = .ok (.castore, 1) := by decide +kernel
theorem dX12_init_1620 : decode cX12_init 1620 = .ok (.dup, 1) := by decide +kernel
theorem dX12_init_1621 : decode cX12_init 1621 = .ok (.iconst 2, 1) := by decide +kernel
theorem dX12_init_1622 : decode cX12_init 1622 = .ok (.bipush 109, 2) := by decide +kernel
theorem dX12_init_1624 : decode cX12_init 1624 = .ok (.castore, 1) := by decide +kernel
theorem dX12_init_1625 : decode cX12_init 1625 = .ok (.dup, 1) := by decide +kernel
theorem dX12_init_1626 : decode cX12_init 1626 = .ok (.iconst 3, 1) := by decide +kernel
theorem dX12_init_1627 : decode cX12_init 1627 = .ok (.bipush 98, 2) := by decide +kernel
theorem dX12_init_1629 : decode cX12_init 1629 = .ok (.castore, 1) := by decide +kernel
theorem dX12_init_1630 : decode cX12_init 1630 = .ok (.dup, 1) := by decide +kernel
theorem dX12_init_1631 : decode cX12_init 1631 = .ok (.iconst 4, 1) := by decide +kernel
theorem dX12_init_1632 : decode cX12_init 1632 = .ok (.bipush 101, 2) := by decide +kernel
theorem dX12_init_1634 : decode cX12_init 1634 = .ok (.castore, 1) := by decide +kernel
theorem dX12_init_1635 : decode cX12_init 1635 = .ok (.dup, 1) := by decide +kernel
theorem dX12_init_1636 : decode cX12_init 1636 = .ok (.iconst 5, 1) := by decide +kernel
theorem dX12_init_1637 : decode cX12_init 1637 = .ok (.bipush 114, 2) := by decide +kernel
theorem dX12_init_1639 : decode cX12_init 1639 = .ok (.castore, 1) := by decide +kernel
theorem dX12_init_1640 : decode cX12_init 1640 = .ok (.putfield 252, 3) := by decide +kernel
theorem dX12_init_1643 : decode cX12_init 1643 = .ok (.aload_n 0, 1) := by decide +kernel
theorem dX12_init_1644 : decode cX12_init 1644 = .ok (.bipush 6, 2) := by decide +kernel
theorem dX12_init_1646 : decode cX12_init 1646 = .ok (.newarray .char, 2) := by decide +kernel
theorem dX12_init_1648 : decode cX12_init 1648 = .ok (.dup, 1) := by decide +kernel
theorem dX12_init_1649 : decode cX12_init 1649 = .ok (.iconst 0, 1) := by decide +kernel
theorem dX12_init_1650 : decode cX12_init 1650 = .ok (.bipush 99, 2) := by decide +kernel
theorem dX12_init_1652 : decode cX12_init 1652 = .ok (.castore, 1) := by decide +kernel
theorem dX12_init_1653 : decode cX12_init 1653 = .ok (.dup, 1) := by decide +kernel
theorem dX12_init_1654 : decode cX12_init 1654 = .ok (.iconst 1, 1) := by decide +kernel
theorem dX12_init_1655 : decode cX12_init 1655 = .ok (.bipush 111, 2) := by decide +kernel
theorem dX12_init_1657 : decode cX12_init 1657 = .ok (.castore, 1) := by decide +kernel
theorem dX12_init_1658 : decode cX12_init 1658 = .ok (.dup, 1) := by decide +kernel
theorem dX12_init_1659 : decode cX12_init 1659 = .ok (.iconst 2, 1) := by decide +kernel
theorem dX12_init_1660 : decode cX12_init 1660 = .ok (.bipush 108, 2) := by decide +kernel
theorem dX12_init_1662 : decode cX12_init 1662 = .ok (.castore, 1) := by decide +kernel
theorem dX12_init_1663 : decode cX12_init 1663 = .ok (.dup, 1) := by decide +kernel
theorem dX12_init_1664 : decode cX12_init 1664 = .ok (.iconst 3, 1) := by decide +kernel
theorem dX12_init_1665 : decode cX12_init 1665 = .ok (.bipush 117, 2) := by decide +kernel
theorem dX12_init_1667 : decode cX12_init 1667 = .ok (.castore, 1) := by decide +kernel
theorem dX12_init_1668 : decode cX12_init 1668 = .ok (.dup, 1) := by decide +kernel
theorem dX12_init_1669 : decode cX12_init 1669 = .ok (.iconst 4, 1) := by decide +kernel
theorem dX12_init_1670 : decode cX12_init 1670 = .ok (.bipush 109, 2) := by decide +kernel
theorem dX12_init_1672 : decode cX12_init 1672 = .ok (.castore, 1) := by decide +kernel
theorem dX12_init_1673 : decode cX12_init 1673 = .ok (.dup, 1) := by decide +kernel
theorem dX12_init_1674 : decode cX12_init 1674 = .ok (.iconst 5, 1) := by decide +kernel
theorem dX12_init_1675 : decode cX12_init 1675 = .ok (.bipush 110, 2) := by decide +kernel
theorem dX12_init_1677 : decode cX12_init 1677 = .ok (.castore, 1) := by decide +kernel
theorem dX12_init_1678 : decode cX12_init 1678 = .ok (.putfield 255, 3) := by decide +kernel
theorem dX12_init_1681 : decode cX12_init 1681 = .ok (.aload_n 0, 1) := by decide +kernel
theorem dX12_init_1682 : decode cX12_init 1682 = .ok (.iconst 3, 1) := by decide +kernel
theorem dX12_init_1683 : decode cX12_init 1683 = .ok (.newarray .char, 2) := by decide +kernel
theorem dX12_init_1685 : decode cX12_init 1685 = .ok (.dup, 1) := by decide +kernel
theorem dX12_init_1686 : decode cX12_init 1686 = .ok (.iconst 0, 1) := by decide +kernel
theorem dX12_init_1687 : decode cX12_init 1687 = .ok (.bipush 114, 2) := by decide +kernel
theorem dX12_init_1689 : decode cX12_init 1689 = .ok (.castore, 1) := by decide +kernel
theorem dX12_init_1690 : decode cX12_init 1690 = .ok (.dup, 1) := by decide +kernel
theorem dX12_init_1691 : decode cX12_init 1691 = .ok (.iconst 1, 1) := by decide +kernel
theorem dX12_init_1692 : decode cX12_init 1692 = .ok (.bipush 111, 2) := by decide +kernel
theorem dX12_init_1694 : decode cX12_init 1694 = .ok (.castore, 1) := by decide +kernel
theorem dX12_init_1695 : decode cX12_init 1695 = .ok (.dup, 1) := by decide +kernel
theorem dX12_init_1696 : decode cX12_init 1696 = .ok (.iconst 2, 1) := by decide +kernel
theorem dX12_init_1697 : decode cX12_init 1697 = .ok (.bipush 119, 2) := by decide +kernel
theorem dX12_init_1699 : decode cX12_init 1699 = .ok (.castore, 1) := by decide +kernel
theorem dX12_init_1700 : decode cX12_init 1700 = .ok (.putfield 258, 3) := by decide +kernel
theorem dX12_init_1703 : decode cX12_init 1703 = .ok (.aload_n 0, 1) := by decide +kernel
theorem dX12_init_1704 : decode cX12_init 1704 = .ok (.iconst 3, 1) := by decide +kernel
theorem dX12_init_1705 : decode cX12_init 1705 = .ok (.newarray .char, 2) := by decide +kernel
theorem dX12_init_1707 : decode cX12_init 1707 = .ok (.dup, 1) := by decide +kernel
theorem dX12_init_1708 : decode cX12_init 1708 = .ok (.iconst 0, 1) := by decide +kernel
theorem dX12_init_1709 : decode cX12_init 1709 = .ok (.bipush 100, 2) := by decide +kernel
theorem dX12_init_1711 : decode cX12_init 1711 = .ok (.castore, 1) := by decide +kernel
theorem dX12_init_1712 : decode cX12_init 1712 = .ok (.dup, 1) := by decide +kernel
theorem dX12_init_1713 : decode cX12_init 1713 = .ok (.iconst 1, 1) := by decide +kernel
theorem dX12_init_1714 : decode cX12_init 1714 = .ok (.bipush 97, 2) := by decide +kernel
theorem dX12_init_1716 : decode cX12_init 1716 = .ok (.castore, 1) := by decide +kernel
theorem dX12_init_1717 : decode cX12_init 1717 = .ok (.dup, 1) := by decide +kernel
theorem dX12_init_1718 : decode cX12_init 1718 = .ok (.iconst 2, 1) := by decide +kernel
theorem dX12_init_1719 : decode cX12_init 1719 = .ok (.bipush 121, 2) := by decide +kernel
theorem dX12_init_1721 : decode cX12_init 1721 = .ok (.castore, 1) := by decide +kernel
theorem dX12_init_1722 : decode cX12_init 1722 = .ok (.putfield 261, 3) := by decide +kernel
theorem dX12_init_1725 : decode cX12_init 1725 = .ok (.aload_n 0, 1) := by decide +kernel
theorem dX12_init_1726 : decode cX12_init 1726 = .ok (.iconst 3, 1) := by decide +kernel
theorem dX12_init_1727 : decode cX12_init 1727 = .ok (.newarray .char, 2) := by decide +kernel
theorem dX12_init_1729 : decode cX12_init 1729 = .ok (.dup, 1) := by decide +kernel
theorem dX12_init_1730 : decode cX12_init 1730 = .ok (.iconst 0, 1) := by decide +kernel
theorem dX12_init_1731 : decode cX12_init 1731 = .ok (.bipush 119, 2) := by decide +kernel
theorem dX12_init_1733 : decode cX12_init 1733 = .ok (.castore, 1) := by decide +kernel
theorem dX12_init_1734 : decode cX12_init 1734 = .ok (.dup, 1) := by decide +kernel
theorem dX12_init_1735 : decode cX12_init 1735 = .ok (.iconst 1, 1) := by decide +kernel
theorem dX12_init_1736 : decode cX12_init 1736 = .ok (.bipush 101, 2) := by decide +kernel
theorem dX12_init_1738 : decode cX12_init 1738 = .ok (.castore, 1) := by decide +kernel
theorem dX12_init_1739 : decode cX12_init 1739 = .ok (.dup, 1) := by decide +kernel
theorem dX12_init_1740 : decode cX12_init 1740 = .ok (.iconst 2, 1) := by decide +kernel
theorem dX12_init_1741 : decode cX12_init 1741 = .ok (.bipush 116, 2) := by decide +kernel
theorem dX12_init_1743 : decode cX12_init 1743 = .ok (.castore, 1) := by decide +kernel
theorem dX12_init_1744 : decode cX12_init 1744 = .ok (.putfield 264, 3) := by decide +kernel
theorem dX12_init_1747 : decode cX12_init 1747 = .ok (.aload_n 0, 1) := by decide +kernel
theorem dX12_init_1748 : decode cX12_init 1748 = .ok (.iconst 4, 1) := by decide +kernel
theorem dX12_init_1749 : decode cX12_init 1749 = .ok (.newarray .char, 2) := by decide +kernel
theorem dX12_init_1751 : decode cX12_init 1751 = .ok (.dup, 1) := by decide +kernel
theorem dX12_init_1752 : decode cX12_init 1752 = .ok (.iconst 0, 1) := by decide +kernel
theorem dX12_init_1753 : decode cX12_init 1753 = .ok (.bipush 115, 2) := by decide +kernel
theorem dX12_init_1755 : decode cX12_init 1755 = .ok (.castore, 1) := by decide +kernel
theorem dX12_init_1756 : decode cX12_init 1756 = .ok (.dup, 1) := by decide +kernel
theorem dX12_init_1757 : decode cX12_init 1757 = .ok (.iconst 1, 1) := by decide +kernel
theorem dX12_init_1758 : decode cX12_init 1758 = .ok (.bipush 116, 2) := by decide +kernel
theorem dX12_init_1760 : decode cX12_init 1760 = .ok (.castore, 1) := by decide +kernel
theorem dX12_init_1761 : decode cX12_init 1761 = .ok (.dup, 1) := by decide +kernel
theorem dX12_init_1762 : decode cX12_init 1762 = .ok (.iconst 2, 1) := by decide +kernel
theorem dX12_init_1763 : decode cX12_init 1763 = .ok (.bipush 101, 2) := by decide +kernel
theorem dX12_init_1765 : decode cX12_init 1765 = .ok (.castore, 1) := by decide +kernel
theorem dX12_init_1766 : decode cX12_init 1766 = .ok (.dup, 1) := by decide +kernel
theorem dX12_init_1767 : decode cX12_init 1767 = .ok (.iconst 3, 1) := by decide +kernel
theorem dX12_init_1768 : decode cX12_init 1768 = .ok (.bipush 112, 2) := by decide +kernel
theorem dX12_init_1770 : decode cX12_init 1770 = .ok (.castore, 1) := by decide +kernel
theorem dX12_init_1771 : decode cX12_init 1771 = .ok (.putfield 267, 3) := by decide +kernel
theorem dX12_init_1774 : decode cX12_init 1774 = .ok (.aload_n 0, 1) := by decide +kernel
theorem dX12_init_1775 : decode cX12_init 1775 = .ok (.sipush 1700, 3) := by decide +kernel
theorem dX12_init_1778 : decode cX12_init 1778 = .ok (.newarray .int, 2) := by decide +kernel
theorem dX12_init_1780 : decode cX12_init 1780 = .ok (.putfield 270, 3) := by decide +kernel
theorem dX12_init_1783 : decode cX12_init 1783 = .ok (.aload_n 0, 1) := by decide +kernel
theorem dX12_init_1784 : decode cX12_init 1784 = .ok (.sipush 1700, 3) := by decide +kernel
theorem dX12_init_1787 : decode cX12_init 1787 = .ok (.newarray .int, 2) := by decide +kernel
theorem dX12_init_1789 : decode cX12_init 1789 = .ok (.putfield 273, 3) := by decide +kernel
theorem dX12_init_1792 : decode cX12_init 1792 = .ok (.aload_n 0, 1) := by decide +kernel
theorem dX12_init_1793 : decode cX12_init 1793 = .ok (.sipush 1700, 3) := by decide +kernel
theorem dX12_init_1796 : decode cX12_init 1796 = .ok (.newarray .long, 2) := by decide +kernel
theorem dX12_init_1798 : decode cX12_init 1798 = .ok (.putfield 276, 3) := by decide +kernel
theorem dX12_init_1801 : decode cX12_init 1801 = .ok (.aload_n 0, 1) := by decide +kernel
theorem dX12_init_1802 : decode cX12_init 1802 = .ok (.bipush 117, 2) := by decide +kernel
theorem dX12_init_1804 : decode cX12_init 1804 = .ok (.newarray .int, 2) := by decide +kernel
theorem dX12_init_1806 : decode cX12_init 1806 = .ok (.putfield 279, 3) := by decide +kernel
theorem dX12_init_1809 : decode cX12_init 1809 = .ok (.return_, 1) := by decide +kernel
set_option maxHeartbeats 4000000 in
set_option maxRecDepth 100000 in
def wp_X12_init (sh : Shp) (v0 : Nat) (Q : Shp → Mem → Prop) (m : Mem) : Prop :=
  bnd (sh ++ [(100, 1600)]) (fun sh1 => bnd (nw m sh.length) (fun m2 => Ob sh1 v0 12 ∧ bnd (sR m2 v0 0 (some sh.length)) (fun m5 => Ob sh1 v0 12 ∧ bnd (sI m5 v0 8 (-1 : Int32)) (fun m7 => bnd (sh1 ++ [(100, 6)]) (fun sh8 => bnd (nw m7 sh1.length) (fun m9 => Ob sh8 v0 12 ∧ bnd (sR m9 v0 9 (some sh1.length)) (fun m12 => bnd (sh8 ++ [(101, 5)]) (fun sh13 => bnd (nw m12 sh8.length) (fun m14 => Ix sh13 (sh8.length) 101 (0 : Int32) ∧ bnd (sI m14 (sh8.length) (0 : Int32).toNatClampNeg (vp_nar .char (112 : Int32))) (fun m16 => Ix sh13 (sh8.length) 101 (1 : Int32) ∧ bnd (sI m16 (sh8.length) (1 : Int32).toNatClampNeg (vp_nar .char (108 : Int32))) (fun m18 => Ix sh13 (sh8.length) 101 (2 : Int32) ∧ bnd (sI m18 (sh8.length) (2 : Int32).toNatClampNeg (vp_nar .char (97 : Int32))) (fun m20 => Ix sh13 (sh8.length) 101 (3 : Int32) ∧ bnd (sI m20 (sh8.length) (3 : Int32).toNatClampNeg (vp_nar .char (105 : Int32))) (fun m22 => Ix sh13 (sh8.length) 101 (4 : Int32) ∧ bnd (sI m22 (sh8.length) (4 : Int32).toNatClampNeg (vp_nar .char (110 : Int32))) (fun m24 => Ob sh13 v0 12 ∧ bnd (sR m24 v0 11 (some sh8.length)) (fun m27 => bnd (sh13 ++ [(101, 2)]) (fun sh28 => bnd (nw m27 sh13.length) (fun m29 => Ix sh28 (sh13.length) 101 (0 : Int32) ∧ bnd (sI m29 (sh13.length) (0 : Int32).toNatClampNeg (vp_nar .char (98 : Int32))) (fun m31 => Ix sh28 (sh13.length) 101 (1 : Int32) ∧ bnd (sI m31 (sh13.length) (1 : Int32).toNatClampNeg (vp_nar .char (121 : Int32))) (fun m33 => Ob sh28 v0 12 ∧ bnd (sR m33 v0 12 (some sh13.length)) (fun m36 => bnd (sh28 ++ [(101, 4)]) (fun sh37 => bnd (nw m36 sh28.length) (fun m38 => Ix sh37 (sh28.length) 101 (0 : Int32) ∧ bnd (sI m38 (sh28.length) (0 : Int32).toNatClampNeg (vp_nar .char (104 : Int32))) (fun m40 => Ix sh37 (sh28.length) 101 (1 : Int32) ∧ bnd (sI m40 (sh28.length) (1 : Int32).toNatClampNeg (vp_nar .char (105 : Int32))) (fun m42 => Ix sh37 (sh28.length) 101 (2 : Int32) ∧ bnd (sI m42 (sh28.length) (2 : Int32).toNatClampNeg (vp_nar .char (103 : Int32))) (fun m44 => Ix sh37 (sh28.length) 101 (3 : Int32) ∧ bnd (sI m44 (sh28.length) (3 : Int32).toNatClampNeg (vp_nar .char (104 : Int32))) (fun m46 => Ob sh37 v0 12 ∧ bnd (sR m46 v0 13 (some sh28.length)) (fun m49 => bnd (sh37 ++ [(101, 5)]) (fun sh50 => bnd (nw m49 sh37.length) (fun m51 => Ix sh50 (sh37.length) 101 (0 : Int32) ∧ bnd (sI m51 (sh37.length) (0 : Int32).toNatClampNeg (vp_nar .char (115 : Int32))) (fun m53 => Ix sh50 (sh37.length) 101 (1 : Int32) ∧ bnd (sI m53 (sh37.length) (1 : Int32).toNatClampNeg (vp_nar .char (116 : Int32))) (fun m55 => Ix sh50 (sh37.length) 101 (2 : Int32) ∧ bnd (sI m55 (sh37.length) (2 : Int32).toNatClampNeg (vp_nar .char (111 : Int32))) (fun m57 => Ix sh50 (sh37.length) 101 (3 : Int32) ∧ bnd (sI m57 (sh37.length) (3 : Int32).toNatClampNeg (vp_nar .char (110 : Int32))) (fun m59 => Ix sh50 (sh37.length) 101 (4 : Int32) ∧ bnd (sI m59 (sh37.length) (4 : Int32).toNatClampNeg (vp_nar .char (101 : Int32))) (fun m61 => Ob sh50 v0 12 ∧ bnd (sR m61 v0 14 (some sh37.length)) (fun m64 => bnd (sh50 ++ [(101, 6)]) (fun sh65 => bnd (nw m64 sh50.length) (fun m66 => Ix sh65 (sh50.length) 101 (0 : Int32) ∧ bnd (sI m66 (sh50.length) (0 : Int32).toNatClampNeg (vp_nar .char (115 : Int32))) (fun m68 => Ix sh65 (sh50.length) 101 (1 : Int32) ∧ bnd (sI m68 (sh50.length) (1 : Int32).toNatClampNeg (vp_nar .char (111 : Int32))) (fun m70 => Ix sh65 (sh50.length) 101 (2 : Int32) ∧ bnd (sI m70 (sh50.length) (2 : Int32).toNatClampNeg (vp_nar .char (117 : Int32))) (fun m72 => Ix sh65 (sh50.length) 101 (3 : Int32) ∧ bnd (sI m72 (sh50.length) (3 : Int32).toNatClampNeg (vp_nar .char (114 : Int32))) (fun m74 => Ix sh65 (sh50.length) 101 (4 : Int32) ∧ bnd (sI m74 (sh50.length) (4 : Int32).toNatClampNeg (vp_nar .char (99 : Int32))) (fun m76 => Ix sh65 (sh50.length) 101 (5 : Int32) ∧ bnd (sI m76 (sh50.length) (5 : Int32).toNatClampNeg (vp_nar .char (101 : Int32))) (fun m78 => Ob sh65 v0 12 ∧ bnd (sR m78 v0 15 (some sh50.length)) (fun m81 => bnd (sh65 ++ [(101, 4)]) (fun sh82 => bnd (nw m81 sh65.length) (fun m83 => Ix sh82 (sh65.length) 101 (0 : Int32) ∧ bnd (sI m83 (sh65.length) (0 : Int32).toNatClampNeg (vp_nar .char (102 : Int32))) (fun m85 => Ix sh82 (sh65.length) 101 (1 : Int32) ∧ bnd (sI m85 (sh65.length) (1 : Int32).toNatClampNeg (vp_nar .char (97 : Int32))) (fun m87 => Ix sh82 (sh65.length) 101 (2 : Int32) ∧ bnd (sI m87 (sh65.length) (2 : Int32).toNatClampNeg (vp_nar .char (114 : Int32))) (fun m89 => Ix sh82 (sh65.length) 101 (3 : Int32) ∧ bnd (sI m89 (sh65.length) (3 : Int32).toNatClampNeg (vp_nar .char (109 : Int32))) (fun m91 => Ob sh82 v0 12 ∧ bnd (sR m91 v0 16 (some sh65.length)) (fun m94 => bnd (sh82 ++ [(101, 2)]) (fun sh95 => bnd (nw m94 sh82.length) (fun m96 => Ix sh95 (sh82.length) 101 (0 : Int32) ∧ bnd (sI m96 (sh82.length) (0 : Int32).toNatClampNeg (vp_nar .char (97 : Int32))) (fun m98 => Ix sh95 (sh82.length) 101 (1 : Int32) ∧ bnd (sI m98 (sh82.length) (1 : Int32).toNatClampNeg (vp_nar .char (116 : Int32))) (fun m100 => Ob sh95 v0 12 ∧ bnd (sR m100 v0 17 (some sh82.length)) (fun m103 => bnd (sh95 ++ [(101, 3)]) (fun sh104 => bnd (nw m103 sh95.length) (fun m105 => Ix sh104 (sh95.length) 101 (0 : Int32) ∧ bnd (sI m105 (sh95.length) (0 : Int32).toNatClampNeg (vp_nar .char (100 : Int32))) (fun m107 => Ix sh104 (sh95.length) 101 (1 : Int32) ∧ bnd (sI m107 (sh95.length) (1 : Int32).toNatClampNeg (vp_nar .char (97 : Int32))) (fun m109 => Ix sh104 (sh95.length) 101 (2 : Int32) ∧ bnd (sI m109 (sh95.length) (2 : Int32).toNatClampNeg (vp_nar .char (121 : Int32))) (fun m111 => Ob sh104 v0 12 ∧ bnd (sR m111 v0 18 (some sh95.length)) (fun m114 => bnd (sh104 ++ [(101, 3)]) (fun sh115 => bnd (nw m114 sh104.length) (fun m116 => Ix sh115 (sh104.length) 101 (0 : Int32) ∧ bnd (sI m116 (sh104.length) (0 : Int32).toNatClampNeg (vp_nar .char (112 : Int32))) (fun m118 => Ix sh115 (sh104.length) 101 (1 : Int32) ∧ bnd (sI m118 (sh104.length) (1 : Int32).toNatClampNeg (vp_nar .char (105 : Int32))) (fun m120 => Ix sh115 (sh104.length) 101 (2 : Int32) ∧ bnd (sI m120 (sh104.length) (2 : Int32).toNatClampNeg (vp_nar .char (101 : Int32))) (fun m122 => Ob sh115 v0 12 ∧ bnd (sR m122 v0 19 (some sh104.length)) (fun m125 => bnd (sh115 ++ [(101, 6)]) (fun sh126 => bnd (nw m125 sh115.length) (fun m127 => Ix sh126 (sh115.length) 101 (0 : Int32) ∧ bnd (sI m127 (sh115.length) (0 : Int32).toNatClampNeg (vp_nar .char (99 : Int32))) (fun m129 => Ix sh126 (sh115.length) 101 (1 : Int32) ∧ bnd (sI m129 (sh115.length) (1 : Int32).toNatClampNeg (vp_nar .char (97 : Int32))) (fun m131 => Ix sh126 (sh115.length) 101 (2 : Int32) ∧ bnd (sI m131 (sh115.length) (2 : Int32).toNatClampNeg (vp_nar .char (108 : Int32))) (fun m133 => Ix sh126 (sh115.length) 101 (3 : Int32) ∧ bnd (sI m133 (sh115.length) (3 : Int32).toNatClampNeg (vp_nar .char (108 : Int32))) (fun m135 => Ix sh126 (sh115.length) 101 (4 : Int32) ∧ bnd (sI m135 (sh115.length) (4 : Int32).toNatClampNeg (vp_nar .char (101 : Int32))) (fun m137 => Ix sh126 (sh115.length) 101 (5 : Int32) ∧ bnd (sI m137 (sh115.length) (5 : Int32).toNatClampNeg (vp_nar .char (114 : Int32))) (fun m139 => Ob sh126 v0 12 ∧ bnd (sR m139 v0 20 (some sh115.length)) (fun m142 => bnd (sh126 ++ [(101, 4)]) (fun sh143 => bnd (nw m142 sh126.length) (fun m144 => Ix sh143 (sh126.length) 101 (0 : Int32) ∧ bnd (sI m144 (sh126.length) (0 : Int32).toNatClampNeg (vp_nar .char (98 : Int32))) (fun m146 => Ix sh143 (sh126.length) 101 (1 : Int32) ∧ bnd (sI m146 (sh126.length) (1 : Int32).toNatClampNeg (vp_nar .char (111 : Int32))) (fun m148 => Ix sh143 (sh126.length) 101 (2 : Int32) ∧ bnd (sI m148 (sh126.length) (2 : Int32).toNatClampNeg (vp_nar .char (108 : Int32))) (fun m150 => Ix sh143 (sh126.length) 101 (3 : Int32) ∧ bnd (sI m150 (sh126.length) (3 : Int32).toNatClampNeg (vp_nar .char (100 : Int32))) (fun m152 => Ob sh143 v0 12 ∧ bnd (sR m152 v0 21 (some sh126.length)) (fun m155 => bnd (sh143 ++ [(101, 4)]) (fun sh156 => bnd (nw m155 sh143.length) (fun m157 => Ix sh156 (sh143.length) 101 (0 : Int32) ∧ bnd (sI m157 (sh143.length) (0 : Int32).toNatClampNeg (vp_nar .char (107 : Int32))) (fun m159 => Ix sh156 (sh143.length) 101 (1 : Int32) ∧ bnd (sI m159 (sh143.length) (1 : Int32).toNatClampNeg (vp_nar .char (105 : Int32))) (fun m161 => Ix sh156 (sh143.length) 101 (2 : Int32) ∧ bnd (sI m161 (sh143.length) (2 : Int32).toNatClampNeg (vp_nar .char (110 : Int32))) (fun m163 => Ix sh156 (sh143.length) 101 (3 : Int32) ∧ bnd (sI m163 (sh143.length) (3 : Int32).toNatClampNeg (vp_nar .char (100 : Int32))) (fun m165 => Ob sh156 v0 12 ∧ bnd (sR m165 v0 22 (some sh143.length)) (fun m168 => bnd (sh156 ++ [(101, 4)]) (fun sh169 => bnd (nw m168 sh156.length) (fun m170 => Ix sh169 (sh156.length) 101 (0 : Int32) ∧ bnd (sI m170 (sh156.length) (0 : Int32).toNatClampNeg (vp_nar .char (103 : Int32))) (fun m172 => Ix sh169 (sh156.length) 101 (1 : Int32) ∧ bnd (sI m172 (sh156.length) (1 : Int32).toNatClampNeg (vp_nar .char (111 : Int32))) (fun m174 => Ix sh169 (sh156.length) 101 (2 : Int32) ∧ bnd (sI m174 (sh156.length) (2 : Int32).toNatClampNeg (vp_nar .char (101 : Int32))) (fun m176 => Ix sh169 (sh156.length) 101 (3 : Int32) ∧ bnd (sI m176 (sh156.length) (3 : Int32).toNatClampNeg (vp_nar .char (115 : Int32))) (fun m178 => Ob sh169 v0 12 ∧ bnd (sR m178 v0 23 (some sh156.length)) (fun m181 => bnd (sh169 ++ [(101, 5)]) (fun sh182 => bnd (nw m181 sh169.length) (fun m183 => Ix sh182 (sh169.length) 101 (0 : Int32) ∧ bnd (sI m183 (sh169.length) (0 : Int32).toNatClampNeg (vp_nar .char (98 : Int32))) (fun m185 => Ix sh182 (sh169.length) 101 (1 : Int32) ∧ bnd (sI m185 (sh169.length) (1 : Int32).toNatClampNeg (vp_nar .char (97 : Int32))) (fun m187 => Ix sh182 (sh169.length) 101 (2 : Int32) ∧ bnd (sI m187 (sh169.length) (2 : Int32).toNatClampNeg (vp_nar .char (107 : Int32))) (fun m189 => Ix sh182 (sh169.length) 101 (3 : Int32) ∧ bnd (sI m189 (sh169.length) (3 : Int32).toNatClampNeg (vp_nar .char (101 : Int32))) (fun m191 => Ix sh182 (sh169.length) 101 (4 : Int32) ∧ bnd (sI m191 (sh169.length) (4 : Int32).toNatClampNeg (vp_nar .char (115 : Int32))) (fun m193 => Ob sh182 v0 12 ∧ bnd (sR m193 v0 24 (some sh169.length)) (fun m196 => bnd (sh182 ++ [(101, 4)]) (fun sh197 => bnd (nw m196 sh182.length) (fun m198 => Ix sh197 (sh182.length) 101 (0 : Int32) ∧ bnd (sI m198 (sh182.length) (0 : Int32).toNatClampNeg (vp_nar .char (121 : Int32))) (fun m200 => Ix sh197 (sh182.length) 101 (1 : Int32) ∧ bnd (sI m200 (sh182.length) (1 : Int32).toNatClampNeg (vp_nar .char (101 : Int32))) (fun m202 => Ix sh197 (sh182.length) 101 (2 : Int32) ∧ bnd (sI m202 (sh182.length) (2 : Int32).toNatClampNeg (vp_nar .char (97 : Int32))) (fun m204 => Ix sh197 (sh182.length) 101 (3 : Int32) ∧ bnd (sI m204 (sh182.length) (3 : Int32).toNatClampNeg (vp_nar .char (114 : Int32))) (fun m206 => Ob sh197 v0 12 ∧ bnd (sR m206 v0 25 (some sh182.length)) (fun m209 => bnd (sh197 ++ [(101, 4)]) (fun sh210 => bnd (nw m209 sh197.length) (fun m211 => Ix sh210 (sh197.length) 101 (0 : Int32) ∧ bnd (sI m211 (sh197.length) (0 : Int32).toNatClampNeg (vp_nar .char (98 : Int32))) (fun m213 => Ix sh210 (sh197.length) 101 (1 : Int32) ∧ bnd (sI m213 (sh197.length) (1 : Int32).toNatClampNeg (vp_nar .char (101 : Int32))) (fun m215 => Ix sh210 (sh197.length) 101 (2 : Int32) ∧ bnd (sI m215 (sh197.length) (2 : Int32).toNatClampNeg (vp_nar .char (101 : Int32))) (fun m217 => Ix sh210 (sh197.length) 101 (3 : Int32) ∧ bnd (sI m217 (sh197.length) (3 : Int32).toNatClampNeg (vp_nar .char (110 : Int32))) (fun m219 => Ob sh210 v0 12 ∧ bnd (sR m219 v0 26 (some sh197.length)) (fun m222 => bnd (sh210 ++ [(101, 6)]) (fun sh223 => bnd (nw m222 sh210.length) (fun m224 => Ix sh223 (sh210.length) 101 (0 : Int32) ∧ bnd (sI m224 (sh210.length) (0 : Int32).toNatClampNeg (vp_nar .char (104 : Int32))) (fun m226 => Ix sh223 (sh210.length) 101 (1 : Int32) ∧ bnd (sI m226 (sh210.length) (1 : Int32).toNatClampNeg (vp_nar .char (101 : Int32))) (fun m228 => Ix sh223 (sh210.length) 101 (2 : Int32) ∧ bnd (sI m228 (sh210.length) (2 : Int32).toNatClampNeg (vp_nar .char (105 : Int32))) (fun m230 => Ix sh223 (sh210.length) 101 (3 : Int32) ∧ bnd (sI m230 (sh210.length) (3 : Int32).toNatClampNeg (vp_nar .char (103 : Int32))) (fun m232 => Ix sh223 (sh210.length) 101 (4 : Int32) ∧ bnd (sI m232 (sh210.length) (4 : Int32).toNatClampNeg (vp_nar .char (104 : Int32))) (fun m234 => Ix sh223 (sh210.length) 101 (5 : Int32) ∧ bnd (sI m234 (sh210.length) (5 : Int32).toNatClampNeg (vp_nar .char (116 : Int32))) (fun m236 => Ob sh223 v0 12 ∧ bnd (sR m236 v0 27 (some sh210.length)) (fun m239 => bnd (sh223 ++ [(101, 4)]) (fun sh240 => bnd (nw m239 sh223.length) (fun m241 => Ix sh240 (sh223.length) 101 (0 : Int32) ∧ bnd (sI m241 (sh223.length) (0 : Int32).toNatClampNeg (vp_nar .char (100 : Int32))) (fun m243 => Ix sh240 (sh223.length) 101 (1 : Int32) ∧ bnd (sI m243 (sh223.length) (1 : Int32).toNatClampNeg (vp_nar .char (111 : Int32))) (fun m245 => Ix sh240 (sh223.length) 101 (2 : Int32) ∧ bnd (sI m245 (sh223.length) (2 : Int32).toNatClampNeg (vp_nar .char (119 : Int32))) (fun m247 => Ix sh240 (sh223.length) 101 (3 : Int32) ∧ bnd (sI m247 (sh223.length) (3 : Int32).toNatClampNeg (vp_nar .char (110 : Int32))) (fun m249 => Ob sh240 v0 12 ∧ bnd (sR m249 v0 28 (some sh223.length)) (fun m252 => bnd (sh240 ++ [(101, 4)]) (fun sh253 => bnd (nw m252 sh240.length) (fun m254 => Ix sh253 (sh240.length) 101 (0 : Int32) ∧ bnd (sI m254 (sh240.length) (0 : Int32).toNatClampNeg (vp_nar .char (115 : Int32))) (fun m256 => Ix sh253 (sh240.length) 101 (1 : Int32) ∧ bnd (sI m256 (sh240.length) (1 : Int32).toNatClampNeg (vp_nar .char (116 : Int32))) (fun m258 => Ix sh253 (sh240.length) 101 (2 : Int32) ∧ bnd (sI m258 (sh240.length) (2 : Int32).toNatClampNeg (vp_nar .char (101 : Int32))) (fun m260 => Ix sh253 (sh240.length) 101 (3 : Int32) ∧ bnd (sI m260 (sh240.length) (3 : Int32).toNatClampNeg (vp_nar .char (112 : Int32))) (fun m262 => Ob sh253 v0 12 ∧ bnd (sR m262 v0 29 (some sh240.length)) (fun m265 => bnd (sh253 ++ [(101, 3)]) (fun sh266 => bnd (nw m265 sh253.length) (fun m267 => Ix sh266 (sh253.length) 101 (0 : Int32) ∧ bnd (sI m267 (sh253.length) (0 : Int32).toNatClampNeg (vp_nar .char (119 : Int32))) (fun m269 => Ix sh266 (sh253.length) 101 (1 : Int32) ∧ bnd (sI m269 (sh253.length) (1 : Int32).toNatClampNeg (vp_nar .char (101 : Int32))) (fun m271 => Ix sh266 (sh253.length) 101 (2 : Int32) ∧ bnd (sI m271 (sh253.length) (2 : Int32).toNatClampNeg (vp_nar .char (116 : Int32))) (fun m273 => Ob sh266 v0 12 ∧ bnd (sR m273 v0 30 (some sh253.length)) (fun m276 => bnd (sh266 ++ [(101, 6)]) (fun sh277 => bnd (nw m276 sh266.length) (fun m278 => Ix sh277 (sh266.length) 101 (0 : Int32) ∧ bnd (sI m278 (sh266.length) (0 : Int32).toNatClampNeg (vp_nar .char (110 : Int32))) (fun m280 => Ix sh277 (sh266.length) 101 (1 : Int32) ∧ bnd (sI m280 (sh266.length) (1 : Int32).toNatClampNeg (vp_nar .char (117 : Int32))) (fun m282 => Ix sh277 (sh266.length) 101 (2 : Int32) ∧ bnd (sI m282 (sh266.length) (2 : Int32).toNatClampNeg (vp_nar .char (109 : Int32))) (fun m284 => Ix sh277 (sh266.length) 101 (3 : Int32) ∧ bnd (sI m284 (sh266.length) (3 : Int32).toNatClampNeg (vp_nar .char (98 : Int32))) (fun m286 => Ix sh277 (sh266.length) 101 (4 : Int32) ∧ bnd (sI m286 (sh266.length) (4 : Int32).toNatClampNeg (vp_nar .char (101 : Int32))) (fun m288 => Ix sh277 (sh266.length) 101 (5 : Int32) ∧ bnd (sI m288 (sh266.length) (5 : Int32).toNatClampNeg (vp_nar .char (114 : Int32))) (fun m290 => Ob sh277 v0 12 ∧ bnd (sR m290 v0 31 (some sh266.length)) (fun m293 => bnd (sh277 ++ [(101, 6)]) (fun sh294 => bnd (nw m293 sh277.length) (fun m295 => Ix sh294 (sh277.length) 101 (0 : Int32) ∧ bnd (sI m295 (sh277.length) (0 : Int32).toNatClampNeg (vp_nar .char (99 : Int32))) (fun m297 => Ix sh294 (sh277.length) 101 (1 : Int32) ∧ bnd (sI m297 (sh277.length) (1 : Int32).toNatClampNeg (vp_nar .char (111 : Int32))) (fun m299 => Ix sh294 (sh277.length) 101 (2 : Int32) ∧ bnd (sI m299 (sh277.length) (2 : Int32).toNatClampNeg (vp_nar .char (108 : Int32))) (fun m301 => Ix sh294 (sh277.length) 101 (3 : Int32) ∧ bnd (sI m301 (sh277.length) (3 : Int32).toNatClampNeg (vp_nar .char (117 : Int32))) (fun m303 => Ix sh294 (sh277.length) 101 (4 : Int32) ∧ bnd (sI m303 (sh277.length) (4 : Int32).toNatClampNeg (vp_nar .char (109 : Int32))) (fun m305 => Ix sh294 (sh277.length) 101 (5 : Int32) ∧ bnd (sI m305 (sh277.length) (5 : Int32).toNatClampNeg (vp_nar .char (110 : Int32))) (fun m307 => Ob sh294 v0 12 ∧ bnd (sR m307 v0 32 (some sh277.length)) (fun m310 => bnd (sh294 ++ [(101, 3)]) (fun sh311 => bnd (nw m310 sh294.length) (fun m312 => Ix sh311 (sh294.length) 101 (0 : Int32) ∧ bnd (sI m312 (sh294.length) (0 : Int32).toNatClampNeg (vp_nar .char (114 : Int32))) (fun m314 => Ix sh311 (sh294.length) 101 (1 : Int32) ∧ bnd (sI m314 (sh294.length) (1 : Int32).toNatClampNeg (vp_nar .char (111 : Int32))) (fun m316 => Ix sh311 (sh294.length) 101 (2 : Int32) ∧ bnd (sI m316 (sh294.length) (2 : Int32).toNatClampNeg (vp_nar .char (119 : Int32))) (fun m318 => Ob sh311 v0 12 ∧ bnd (sR m318 v0 33 (some sh294.length)) (fun m321 => bnd (sh311 ++ [(101, 5)]) (fun sh322 => bnd (nw m321 sh311.length) (fun m323 => Ix sh322 (sh311.length) 101 (0 : Int32) ∧ bnd (sI m323 (sh311.length) (0 : Int32).toNatClampNeg (vp_nar .char (102 : Int32))) (fun m325 => Ix sh322 (sh311.length) 101 (1 : Int32) ∧ bnd (sI m325 (sh311.length) (1 : Int32).toNatClampNeg (vp_nar .char (105 : Int32))) (fun m327 => Ix sh322 (sh311.length) 101 (2 : Int32) ∧ bnd (sI m327 (sh311.length) (2 : Int32).toNatClampNeg (vp_nar .char (114 : Int32))) (fun m329 => Ix sh322 (sh311.length) 101 (3 : Int32) ∧ bnd (sI m329 (sh311.length) (3 : Int32).toNatClampNeg (vp_nar .char (115 : Int32))) (fun m331 => Ix sh322 (sh311.length) 101 (4 : Int32) ∧ bnd (sI m331 (sh311.length) (4 : Int32).toNatClampNeg (vp_nar .char (116 : Int32))) (fun m333 => Ob sh322 v0 12 ∧ bnd (sR m333 v0 34 (some sh311.length)) (fun m336 => bnd (sh322 ++ [(101, 2)]) (fun sh337 => bnd (nw m336 sh322.length) (fun m338 => Ix sh337 (sh322.length) 101 (0 : Int32) ∧ bnd (sI m338 (sh322.length) (0 : Int32).toNatClampNeg (vp_nar .char (111 : Int32))) (fun m340 => Ix sh337 (sh322.length) 101 (1 : Int32) ∧ bnd (sI m340 (sh322.length) (1 : Int32).toNatClampNeg (vp_nar .char (114 : Int32))) (fun m342 => Ob sh337 v0 12 ∧ bnd (sR m342 v0 35 (some sh322.length)) (fun m345 => bnd (sh337 ++ [(101, 3)]) (fun sh346 => bnd (nw m345 sh337.length) (fun m347 => Ix sh346 (sh337.length) 101 (0 : Int32) ∧ bnd (sI m347 (sh337.length) (0 : Int32).toNatClampNeg (vp_nar .char (97 : Int32))) (fun m349 => Ix sh346 (sh337.length) 101 (1 : Int32) ∧ bnd (sI m349 (sh337.length) (1 : Int32).toNatClampNeg (vp_nar .char (110 : Int32))) (fun m351 => Ix sh346 (sh337.length) 101 (2 : Int32) ∧ bnd (sI m351 (sh337.length) (2 : Int32).toNatClampNeg (vp_nar .char (100 : Int32))) (fun m353 => Ob sh346 v0 12 ∧ bnd (sR m353 v0 36 (some sh337.length)) (fun m356 => bnd (sh346 ++ [(101, 3)]) (fun sh357 => bnd (nw m356 sh346.length) (fun m358 => Ix sh357 (sh346.length) 101 (0 : Int32) ∧ bnd (sI m358 (sh346.length) (0 : Int32).toNatClampNeg (vp_nar .char (110 : Int32))) (fun m360 => Ix sh357 (sh346.length) 101 (1 : Int32) ∧ bnd (sI m360 (sh346.length) (1 : Int32).toNatClampNeg (vp_nar .char (111 : Int32))) (fun m362 => Ix sh357 (sh346.length) 101 (2 : Int32) ∧ bnd (sI m362 (sh346.length) (2 : Int32).toNatClampNeg (vp_nar .char (116 : Int32))) (fun m364 => Ob sh357 v0 12 ∧ bnd (sR m364 v0 37 (some sh346.length)) (fun m367 => bnd (sh357 ++ [(101, 3)]) (fun sh368 => bnd (nw m367 sh357.length) (fun m369 => Ix sh368 (sh357.length) 101 (0 : Int32) ∧ bnd (sI m369 (sh357.length) (0 : Int32).toNatClampNeg (vp_nar .char (97 : Int32))) (fun m371 => Ix sh368 (sh357.length) 101 (1 : Int32) ∧ bnd (sI m371 (sh357.length) (1 : Int32).toNatClampNeg (vp_nar .char (108 : Int32))) (fun m373 => Ix sh368 (sh357.length) 101 (2 : Int32) ∧ bnd (sI m373 (sh357.length) (2 : Int32).toNatClampNeg (vp_nar .char (108 : Int32))) (fun m375 => Ob sh368 v0 12 ∧ bnd (sR m375 v0 38 (some sh357.length)) (fun m378 => bnd (sh368 ++ [(101, 3)]) (fun sh379 => bnd (nw m378 sh368.length) (fun m380 => Ix sh379 (sh368.length) 101 (0 : Int32) ∧ bnd (sI m380 (sh368.length) (0 : Int32).toNatClampNeg (vp_nar .char (109 : Int32))) (fun m382 => Ix sh379 (sh368.length) 101 (1 : Int32) ∧ bnd (sI m382 (sh368.length) (1 : Int32).toNatClampNeg (vp_nar .char (105 : Int32))) (fun m384 => Ix sh379 (sh368.length) 101 (2 : Int32) ∧ bnd (sI m384 (sh368.length) (2 : Int32).toNatClampNeg (vp_nar .char (110 : Int32))) (fun m386 => Ob sh379 v0 12 ∧ bnd (sR m386 v0 39 (some sh368.length)) (fun m389 => bnd (sh379 ++ [(101, 3)]) (fun sh390 => bnd (nw m389 sh379.length) (fun m391 => Ix sh390 (sh379.length) 101 (0 : Int32) ∧ bnd (sI m391 (sh379.length) (0 : Int32).toNatClampNeg (vp_nar .char (109 : Int32))) (fun m393 => Ix sh390 (sh379.length) 101 (1 : Int32) ∧ bnd (sI m393 (sh379.length) (1 : Int32).toNatClampNeg (vp_nar .char (97 : Int32))) (fun m395 => Ix sh390 (sh379.length) 101 (2 : Int32) ∧ bnd (sI m395 (sh379.length) (2 : Int32).toNatClampNeg (vp_nar .char (120 : Int32))) (fun m397 => Ob sh390 v0 12 ∧ bnd (sR m397 v0 40 (some sh379.length)) (fun m400 => bnd (sh390 ++ [(100, 4)]) (fun sh401 => bnd (nw m400 sh390.length) (fun m402 => Ob sh401 v0 12 ∧ bnd (sR m402 v0 42 (some sh390.length)) (fun m405 => bnd (sh401 ++ [(100, 4)]) (fun sh406 => bnd (nw m405 sh401.length) (fun m407 => Ob sh406 v0 12 ∧ bnd (sR m407 v0 45 (some sh401.length)) (fun m410 => bnd (sh406 ++ [(103, 32)]) (fun sh411 => bnd (nw m410 sh406.length) (fun m412 => Ob sh411 v0 12 ∧ bnd (sR m412 v0 46 (some sh406.length)) (fun m415 => bnd (sh411 ++ [(100, 36)]) (fun sh416 => bnd (nw m415 sh411.length) (fun m417 => Ob sh416 v0 12 ∧ bnd (sR m417 v0 47 (some sh411.length)) (fun m420 => bnd (sh416 ++ [(100, 20)]) (fun sh421 => bnd (nw m420 sh416.length) (fun m422 => Ob sh421 v0 12 ∧ bnd (sR m422 v0 48 (some sh416.length)) (fun m425 => bnd (sh421 ++ [(100, 36)]) (fun sh426 => bnd (nw m425 sh421.length) (fun m427 => Ob sh426 v0 12 ∧ bnd (sR m427 v0 49 (some sh421.length)) (fun m430 => bnd (sh426 ++ [(102, 36)]) (fun sh431 => bnd (nw m430 sh426.length) (fun m432 => Ob sh431 v0 12 ∧ bnd (sR m432 v0 50 (some sh426.length)) (fun m435 => bnd (sh431 ++ [(100, 4)]) (fun sh436 => bnd (nw m435 sh431.length) (fun m437 => Ix sh436 (sh431.length) 100 (0 : Int32) ∧ bnd (sI m437 (sh431.length) (0 : Int32).toNatClampNeg (-1 : Int32)) (fun m439 => Ix sh436 (sh431.length) 100 (1 : Int32) ∧ bnd (sI m439 (sh431.length) (1 : Int32).toNatClampNeg (-1 : Int32)) (fun m441 => Ix sh436 (sh431.length) 100 (2 : Int32) ∧ bnd (sI m441 (sh431.length) (2 : Int32).toNatClampNeg (-1 : Int32)) (fun m443 => Ix sh436 (sh431.length) 100 (3 : Int32) ∧ bnd (sI m443 (sh431.length) (3 : Int32).toNatClampNeg (-1 : Int32)) (fun m445 => Ob sh436 v0 12 ∧ bnd (sR m445 v0 51 (some sh431.length)) (fun m448 => bnd (sh436 ++ [(100, 4)]) (fun sh449 => bnd (nw m448 sh436.length) (fun m450 => Ob sh449 v0 12 ∧ bnd (sR m450 v0 52 (some sh436.length)) (fun m453 => bnd (sh449 ++ [(100, 3200)]) (fun sh454 => bnd (nw m453 sh449.length) (fun m455 => Ob sh454 v0 12 ∧ bnd (sR m455 v0 53 (some sh449.length)) (fun m458 => bnd (sh454 ++ [(100, 236)]) (fun sh459 => bnd (nw m458 sh454.length) (fun m460 => Ob sh459 v0 12 ∧ bnd (sR m460 v0 58 (some sh454.length)) (fun m463 => bnd (sh459 ++ [(100, 36)]) (fun sh464 => bnd (nw m463 sh459.length) (fun m465 => Ob sh464 v0 12 ∧ bnd (sR m465 v0 63 (some sh459.length)) (fun m468 => bnd (sh464 ++ [(100, 36)]) (fun sh469 => bnd (nw m468 sh464.length) (fun m470 => Ob sh469 v0 12 ∧ bnd (sR m470 v0 65 (some sh464.length)) (fun m473 => bnd (sh469 ++ [(100, 30)]) (fun sh474 => bnd (nw m473 sh469.length) (fun m475 => Ob sh474 v0 12 ∧ bnd (sR m475 v0 66 (some sh469.length)) (fun m478 => bnd (sh474 ++ [(102, 2304)]) (fun sh479 => bnd (nw m478 sh474.length) (fun m480 => Ob sh479 v0 12 ∧ bnd (sR m480 v0 67 (some sh474.length)) (fun m483 => bnd (sh479 ++ [(102, 2304)]) (fun sh484 => bnd (nw m483 sh479.length) (fun m485 => Ob sh484 v0 12 ∧ bnd (sR m485 v0 68 (some sh479.length)) (fun m488 => bnd (sh484 ++ [(102, 64)]) (fun sh489 => bnd (nw m488 sh484.length) (fun m490 => Ob sh489 v0 12 ∧ bnd (sR m490 v0 69 (some sh484.length)) (fun m493 => bnd (sh489 ++ [(100, 384)]) (fun sh494 => bnd (nw m493 sh489.length) (fun m495 => Ob sh494 v0 12 ∧ bnd (sR m495 v0 70 (some sh489.length)) (fun m498 => bnd (sh494 ++ [(100, 6)]) (fun sh499 => bnd (nw m498 sh494.length) (fun m500 => Ob sh499 v0 12 ∧ bnd (sR m500 v0 71 (some sh494.length)) (fun m503 => bnd (sh499 ++ [(100, 36)]) (fun sh504 => bnd (nw m503 sh499.length) (fun m505 => Ob sh504 v0 12 ∧ bnd (sR m505 v0 72 (some sh499.length)) (fun m508 => bnd (sh504 ++ [(100, 36)]) (fun sh509 => bnd (nw m508 sh504.length) (fun m510 => Ob sh509 v0 12 ∧ bnd (sR m510 v0 73 (some sh504.length)) (fun m513 => bnd (sh509 ++ [(100, 32)]) (fun sh514 => bnd (nw m513 sh509.length) (fun m515 => Ob sh514 v0 12 ∧ bnd (sR m515 v0 75 (some sh509.length)) (fun m518 => bnd (sh514 ++ [(100, 205)]) (fun sh519 => bnd (nw m518 sh514.length) (fun m520 => Ob sh519 v0 12 ∧ bnd (sR m520 v0 76 (some sh514.length)) (fun m523 => bnd (sh519 ++ [(100, 4720)]) (fun sh524 => bnd (nw m523 sh519.length) (fun m525 => Ob sh524 v0 12 ∧ bnd (sR m525 v0 77 (some sh519.length)) (fun m528 => Ob sh524 v0 12 ∧ bnd (sL m528 v0 80 (1 : Int64)) (fun m530 => bnd (sh524 ++ [(101, 5)]) (fun sh531 => bnd (nw m530 sh524.length) (fun m532 => Ix sh531 (sh524.length) 101 (0 : Int32) ∧ bnd (sI m532 (sh524.length) (0 : Int32).toNatClampNeg (vp_nar .char (102 : Int32))) (fun m534 => Ix sh531 (sh524.length) 101 (1 : Int32) ∧ bnd (sI m534 (sh524.length) (1 : Int32).toNatClampNeg (vp_nar .char (105 : Int32))) (fun m536 => Ix sh531 (sh524.length) 101 (2 : Int32) ∧ bnd (sI m536 (sh524.length) (2 : Int32).toNatClampNeg (vp_nar .char (114 : Int32))) (fun m538 => Ix sh531 (sh524.length) 101 (3 : Int32) ∧ bnd (sI m538 (sh524.length) (3 : Int32).toNatClampNeg (vp_nar .char (115 : Int32))) (fun m540 => Ix sh531 (sh524.length) 101 (4 : Int32) ∧ bnd (sI m540 (sh524.length) (4 : Int32).toNatClampNeg (vp_nar .char (116 : Int32))) (fun m542 => Ob sh531 v0 12 ∧ bnd (sR m542 v0 81 (some sh524.length)) (fun m545 => bnd (sh531 ++ [(101, 4)]) (fun sh546 => bnd (nw m545 sh531.length) (fun m547 => Ix sh546 (sh531.length) 101 (0 : Int32) ∧ bnd (sI m547 (sh531.length) (0 : Int32).toNatClampNeg (vp_nar .char (108 : Int32))) (fun m549 => Ix sh546 (sh531.length) 101 (1 : Int32) ∧ bnd (sI m549 (sh531.length) (1 : Int32).toNatClampNeg (vp_nar .char (97 : Int32))) (fun m551 => Ix sh546 (sh531.length) 101 (2 : Int32) ∧ bnd (sI m551 (sh531.length) (2 : Int32).toNatClampNeg (vp_nar .char (115 : Int32))) (fun m553 => Ix sh546 (sh531.length) 101 (3 : Int32) ∧ bnd (sI m553 (sh531.length) (3 : Int32).toNatClampNeg (vp_nar .char (116 : Int32))) (fun m555 => Ob sh546 v0 12 ∧ bnd (sR m555 v0 82 (some sh531.length)) (fun m558 => bnd (sh546 ++ [(101, 5)]) (fun sh559 => bnd (nw m558 sh546.length) (fun m560 => Ix sh559 (sh546.length) 101 (0 : Int32) ∧ bnd (sI m560 (sh546.length) (0 : Int32).toNatClampNeg (vp_nar .char (111 : Int32))) (fun m562 => Ix sh559 (sh546.length) 101 (1 : Int32) ∧ bnd (sI m562 (sh546.length) (1 : Int32).toNatClampNeg (vp_nar .char (102 : Int32))) (fun m564 => Ix sh559 (sh546.length) 101 (2 : Int32) ∧ bnd (sI m564 (sh546.length) (2 : Int32).toNatClampNeg (vp_nar .char (116 : Int32))) (fun m566 => Ix sh559 (sh546.length) 101 (3 : Int32) ∧ bnd (sI m566 (sh546.length) (3 : Int32).toNatClampNeg (vp_nar .char (101 : Int32))) (fun m568 => Ix sh559 (sh546.length) 101 (4 : Int32) ∧ bnd (sI m568 (sh546.length) (4 : Int32).toNatClampNeg (vp_nar .char (110 : Int32))) (fun m570 => Ob sh559 v0 12 ∧ bnd (sR m570 v0 83 (some sh546.length)) (fun m573 => bnd (sh559 ++ [(101, 5)]) (fun sh574 => bnd (nw m573 sh559.length) (fun m575 => Ix sh574 (sh559.length) 101 (0 : Int32) ∧ bnd (sI m575 (sh559.length) (0 : Int32).toNatClampNeg (vp_nar .char (116 : Int32))) (fun m577 => Ix sh574 (sh559.length) 101 (1 : Int32) ∧ bnd (sI m577 (sh559.length) (1 : Int32).toNatClampNeg (vp_nar .char (111 : Int32))) (fun m579 => Ix sh574 (sh559.length) 101 (2 : Int32) ∧ bnd (sI m579 (sh559.length) (2 : Int32).toNatClampNeg (vp_nar .char (116 : Int32))) (fun m581 => Ix sh574 (sh559.length) 101 (3 : Int32) ∧ bnd (sI m581 (sh559.length) (3 : Int32).toNatClampNeg (vp_nar .char (97 : Int32))) (fun m583 => Ix sh574 (sh559.length) 101 (4 : Int32) ∧ bnd (sI m583 (sh559.length) (4 : Int32).toNatClampNeg (vp_nar .char (108 : Int32))) (fun m585 => Ob sh574 v0 12 ∧ bnd (sR m585 v0 84 (some sh559.length)) (fun m588 => bnd (sh574 ++ [(101, 4)]) (fun sh589 => bnd (nw m588 sh574.length) (fun m590 => Ix sh589 (sh574.length) 101 (0 : Int32) ∧ bnd (sI m590 (sh574.length) (0 : Int32).toNatClampNeg (vp_nar .char (109 : Int32))) (fun m592 => Ix sh589 (sh574.length) 101 (1 : Int32) ∧ bnd (sI m592 (sh574.length) (1 : Int32).toNatClampNeg (vp_nar .char (111 : Int32))) (fun m594 => Ix sh589 (sh574.length) 101 (2 : Int32) ∧ bnd (sI m594 (sh574.length) (2 : Int32).toNatClampNeg (vp_nar .char (115 : Int32))) (fun m596 => Ix sh589 (sh574.length) 101 (3 : Int32) ∧ bnd (sI m596 (sh574.length) (3 : Int32).toNatClampNeg (vp_nar .char (116 : Int32))) (fun m598 => Ob sh589 v0 12 ∧ bnd (sR m598 v0 85 (some sh574.length)) (fun m601 => bnd (sh589 ++ [(101, 5)]) (fun sh602 => bnd (nw m601 sh589.length) (fun m603 => Ix sh602 (sh589.length) 101 (0 : Int32) ∧ bnd (sI m603 (sh589.length) (0 : Int32).toNatClampNeg (vp_nar .char (108 : Int32))) (fun m605 => Ix sh602 (sh589.length) 101 (1 : Int32) ∧ bnd (sI m605 (sh589.length) (1 : Int32).toNatClampNeg (vp_nar .char (101 : Int32))) (fun m607 => Ix sh602 (sh589.length) 101 (2 : Int32) ∧ bnd (sI m607 (sh589.length) (2 : Int32).toNatClampNeg (vp_nar .char (97 : Int32))) (fun m609 => Ix sh602 (sh589.length) 101 (3 : Int32) ∧ bnd (sI m609 (sh589.length) (3 : Int32).toNatClampNeg (vp_nar .char (115 : Int32))) (fun m611 => Ix sh602 (sh589.length) 101 (4 : Int32) ∧ bnd (sI m611 (sh589.length) (4 : Int32).toNatClampNeg (vp_nar .char (116 : Int32))) (fun m613 => Ob sh602 v0 12 ∧ bnd (sR m613 v0 86 (some sh589.length)) (fun m616 => bnd (sh602 ++ [(101, 3)]) (fun sh617 => bnd (nw m616 sh602.length) (fun m618 => Ix sh617 (sh602.length) 101 (0 : Int32) ∧ bnd (sI m618 (sh602.length) (0 : Int32).toNatClampNeg (vp_nar .char (110 : Int32))) (fun m620 => Ix sh617 (sh602.length) 101 (1 : Int32) ∧ bnd (sI m620 (sh602.length) (1 : Int32).toNatClampNeg (vp_nar .char (111 : Int32))) (fun m622 => Ix sh617 (sh602.length) 101 (2 : Int32) ∧ bnd (sI m622 (sh602.length) (2 : Int32).toNatClampNeg (vp_nar .char (116 : Int32))) (fun m624 => Ob sh617 v0 12 ∧ bnd (sR m624 v0 87 (some sh602.length)) (fun m627 => bnd (sh617 ++ [(101, 3)]) (fun sh628 => bnd (nw m627 sh617.length) (fun m629 => Ix sh628 (sh617.length) 101 (0 : Int32) ∧ bnd (sI m629 (sh617.length) (0 : Int32).toNatClampNeg (vp_nar .char (97 : Int32))) (fun m631 => Ix sh628 (sh617.length) 101 (1 : Int32) ∧ bnd (sI m631 (sh617.length) (1 : Int32).toNatClampNeg (vp_nar .char (110 : Int32))) (fun m633 => Ix sh628 (sh617.length) 101 (2 : Int32) ∧ bnd (sI m633 (sh617.length) (2 : Int32).toNatClampNeg (vp_nar .char (100 : Int32))) (fun m635 => Ob sh628 v0 12 ∧ bnd (sR m635 v0 88 (some sh617.length)) (fun m638 => bnd (sh628 ++ [(101, 2)]) (fun sh639 => bnd (nw m638 sh628.length) (fun m640 => Ix sh639 (sh628.length) 101 (0 : Int32) ∧ bnd (sI m640 (sh628.length) (0 : Int32).toNatClampNeg (vp_nar .char (111 : Int32))) (fun m642 => Ix sh639 (sh628.length) 101 (1 : Int32) ∧ bnd (sI m642 (sh628.length) (1 : Int32).toNatClampNeg (vp_nar .char (114 : Int32))) (fun m644 => Ob sh639 v0 12 ∧ bnd (sR m644 v0 89 (some sh628.length)) (fun m647 => bnd (sh639 ++ [(101, 3)]) (fun sh648 => bnd (nw m647 sh639.length) (fun m649 => Ix sh648 (sh639.length) 101 (0 : Int32) ∧ bnd (sI m649 (sh639.length) (0 : Int32).toNatClampNeg (vp_nar .char (97 : Int32))) (fun m651 => Ix sh648 (sh639.length) 101 (1 : Int32) ∧ bnd (sI m651 (sh639.length) (1 : Int32).toNatClampNeg (vp_nar .char (108 : Int32))) (fun m653 => Ix sh648 (sh639.length) 101 (2 : Int32) ∧ bnd (sI m653 (sh639.length) (2 : Int32).toNatClampNeg (vp_nar .char (108 : Int32))) (fun m655 => Ob sh648 v0 12 ∧ bnd (sR m655 v0 90 (some sh639.length)) (fun m658 => bnd (sh648 ++ [(101, 3)]) (fun sh659 => bnd (nw m658 sh648.length) (fun m660 => Ix sh659 (sh648.length) 101 (0 : Int32) ∧ bnd (sI m660 (sh648.length) (0 : Int32).toNatClampNeg (vp_nar .char (109 : Int32))) (fun m662 => Ix sh659 (sh648.length) 101 (1 : Int32) ∧ bnd (sI m662 (sh648.length) (1 : Int32).toNatClampNeg (vp_nar .char (105 : Int32))) (fun m664 => Ix sh659 (sh648.length) 101 (2 : Int32) ∧ bnd (sI m664 (sh648.length) (2 : Int32).toNatClampNeg (vp_nar .char (110 : Int32))) (fun m666 => Ob sh659 v0 12 ∧ bnd (sR m666 v0 91 (some sh648.length)) (fun m669 => bnd (sh659 ++ [(101, 3)]) (fun sh670 => bnd (nw m669 sh659.length) (fun m671 => Ix sh670 (sh659.length) 101 (0 : Int32) ∧ bnd (sI m671 (sh659.length) (0 : Int32).toNatClampNeg (vp_nar .char (109 : Int32))) (fun m673 => Ix sh670 (sh659.length) 101 (1 : Int32) ∧ bnd (sI m673 (sh659.length) (1 : Int32).toNatClampNeg (vp_nar .char (97 : Int32))) (fun m675 => Ix sh670 (sh659.length) 101 (2 : Int32) ∧ bnd (sI m675 (sh659.length) (2 : Int32).toNatClampNeg (vp_nar .char (120 : Int32))) (fun m677 => Ob sh670 v0 12 ∧ bnd (sR m677 v0 92 (some sh659.length)) (fun m680 => bnd (sh670 ++ [(101, 4)]) (fun sh681 => bnd (nw m680 sh670.length) (fun m682 => Ix sh681 (sh670.length) 101 (0 : Int32) ∧ bnd (sI m682 (sh670.length) (0 : Int32).toNatClampNeg (vp_nar .char (121 : Int32))) (fun m684 => Ix sh681 (sh670.length) 101 (1 : Int32) ∧ bnd (sI m684 (sh670.length) (1 : Int32).toNatClampNeg (vp_nar .char (101 : Int32))) (fun m686 => Ix sh681 (sh670.length) 101 (2 : Int32) ∧ bnd (sI m686 (sh670.length) (2 : Int32).toNatClampNeg (vp_nar .char (97 : Int32))) (fun m688 => Ix sh681 (sh670.length) 101 (3 : Int32) ∧ bnd (sI m688 (sh670.length) (3 : Int32).toNatClampNeg (vp_nar .char (114 : Int32))) (fun m690 => Ob sh681 v0 12 ∧ bnd (sR m690 v0 93 (some sh670.length)) (fun m693 => bnd (sh681 ++ [(101, 3)]) (fun sh694 => bnd (nw m693 sh681.length) (fun m695 => Ix sh694 (sh681.length) 101 (0 : Int32) ∧ bnd (sI m695 (sh681.length) (0 : Int32).toNatClampNeg (vp_nar .char (112 : Int32))) (fun m697 => Ix sh694 (sh681.length) 101 (1 : Int32) ∧ bnd (sI m697 (sh681.length) (1 : Int32).toNatClampNeg (vp_nar .char (105 : Int32))) (fun m699 => Ix sh694 (sh681.length) 101 (2 : Int32) ∧ bnd (sI m699 (sh681.length) (2 : Int32).toNatClampNeg (vp_nar .char (101 : Int32))) (fun m701 => Ob sh694 v0 12 ∧ bnd (sR m701 v0 94 (some sh681.length)) (fun m704 => bnd (sh694 ++ [(101, 4)]) (fun sh705 => bnd (nw m704 sh694.length) (fun m706 => Ix sh705 (sh694.length) 101 (0 : Int32) ∧ bnd (sI m706 (sh694.length) (0 : Int32).toNatClampNeg (vp_nar .char (98 : Int32))) (fun m708 => Ix sh705 (sh694.length) 101 (1 : Int32) ∧ bnd (sI m708 (sh694.length) (1 : Int32).toNatClampNeg (vp_nar .char (101 : Int32))) (fun m710 => Ix sh705 (sh694.length) 101 (2 : Int32) ∧ bnd (sI m710 (sh694.length) (2 : Int32).toNatClampNeg (vp_nar .char (101 : Int32))) (fun m712 => Ix sh705 (sh694.length) 101 (3 : Int32) ∧ bnd (sI m712 (sh694.length) (3 : Int32).toNatClampNeg (vp_nar .char (110 : Int32))) (fun m714 => Ob sh705 v0 12 ∧ bnd (sR m714 v0 95 (some sh694.length)) (fun m717 => bnd (sh705 ++ [(101, 4)]) (fun sh718 => bnd (nw m717 sh705.length) (fun m719 => Ix sh718 (sh705.length) 101 (0 : Int32) ∧ bnd (sI m719 (sh705.length) (0 : Int32).toNatClampNeg (vp_nar .char (98 : Int32))) (fun m721 => Ix sh718 (sh705.length) 101 (1 : Int32) ∧ bnd (sI m721 (sh705.length) (1 : Int32).toNatClampNeg (vp_nar .char (111 : Int32))) (fun m723 => Ix sh718 (sh705.length) 101 (2 : Int32) ∧ bnd (sI m723 (sh705.length) (2 : Int32).toNatClampNeg (vp_nar .char (108 : Int32))) (fun m725 => Ix sh718 (sh705.length) 101 (3 : Int32) ∧ bnd (sI m725 (sh705.length) (3 : Int32).toNatClampNeg (vp_nar .char (100 : Int32))) (fun m727 => Ob sh718 v0 12 ∧ bnd (sR m727 v0 96 (some sh705.length)) (fun m730 => bnd (sh718 ++ [(101, 4)]) (fun sh731 => bnd (nw m730 sh718.length) (fun m732 => Ix sh731 (sh718.length) 101 (0 : Int32) ∧ bnd (sI m732 (sh718.length) (0 : Int32).toNatClampNeg (vp_nar .char (107 : Int32))) (fun m734 => Ix sh731 (sh718.length) 101 (1 : Int32) ∧ bnd (sI m734 (sh718.length) (1 : Int32).toNatClampNeg (vp_nar .char (105 : Int32))) (fun m736 => Ix sh731 (sh718.length) 101 (2 : Int32) ∧ bnd (sI m736 (sh718.length) (2 : Int32).toNatClampNeg (vp_nar .char (110 : Int32))) (fun m738 => Ix sh731 (sh718.length) 101 (3 : Int32) ∧ bnd (sI m738 (sh718.length) (3 : Int32).toNatClampNeg (vp_nar .char (100 : Int32))) (fun m740 => Ob sh731 v0 12 ∧ bnd (sR m740 v0 97 (some sh718.length)) (fun m743 => bnd (sh731 ++ [(101, 6)]) (fun sh744 => bnd (nw m743 sh731.length) (fun m745 => Ix sh744 (sh731.length) 101 (0 : Int32) ∧ bnd (sI m745 (sh731.length) (0 : Int32).toNatClampNeg (vp_nar .char (104 : Int32))) (fun m747 => Ix sh744 (sh731.length) 101 (1 : Int32) ∧ bnd (sI m747 (sh731.length) (1 : Int32).toNatClampNeg (vp_nar .char (101 : Int32))) (fun m749 => Ix sh744 (sh731.length) 101 (2 : Int32) ∧ bnd (sI m749 (sh731.length) (2 : Int32).toNatClampNeg (vp_nar .char (105 : Int32))) (fun m751 => Ix sh744 (sh731.length) 101 (3 : Int32) ∧ bnd (sI m751 (sh731.length) (3 : Int32).toNatClampNeg (vp_nar .char (103 : Int32))) (fun m753 => Ix sh744 (sh731.length) 101 (4 : Int32) ∧ bnd (sI m753 (sh731.length) (4 : Int32).toNatClampNeg (vp_nar .char (104 : Int32))) (fun m755 => Ix sh744 (sh731.length) 101 (5 : Int32) ∧ bnd (sI m755 (sh731.length) (5 : Int32).toNatClampNeg (vp_nar .char (116 : Int32))) (fun m757 => Ob sh744 v0 12 ∧ bnd (sR m757 v0 98 (some sh731.length)) (fun m760 => bnd (sh744 ++ [(101, 4)]) (fun sh761 => bnd (nw m760 sh744.length) (fun m762 => Ix sh761 (sh744.length) 101 (0 : Int32) ∧ bnd (sI m762 (sh744.length) (0 : Int32).toNatClampNeg (vp_nar .char (100 : Int32))) (fun m764 => Ix sh761 (sh744.length) 101 (1 : Int32) ∧ bnd (sI m764 (sh744.length) (1 : Int32).toNatClampNeg (vp_nar .char (111 : Int32))) (fun m766 => Ix sh761 (sh744.length) 101 (2 : Int32) ∧ bnd (sI m766 (sh744.length) (2 : Int32).toNatClampNeg (vp_nar .char (119 : Int32))) (fun m768 => Ix sh761 (sh744.length) 101 (3 : Int32) ∧ bnd (sI m768 (sh744.length) (3 : Int32).toNatClampNeg (vp_nar .char (110 : Int32))) (fun m770 => Ob sh761 v0 12 ∧ bnd (sR m770 v0 99 (some sh744.length)) (fun m773 => bnd (sh761 ++ [(101, 4)]) (fun sh774 => bnd (nw m773 sh761.length) (fun m775 => Ix sh774 (sh761.length) 101 (0 : Int32) ∧ bnd (sI m775 (sh761.length) (0 : Int32).toNatClampNeg (vp_nar .char (115 : Int32))) (fun m777 => Ix sh774 (sh761.length) 101 (1 : Int32) ∧ bnd (sI m777 (sh761.length) (1 : Int32).toNatClampNeg (vp_nar .char (116 : Int32))) (fun m779 => Ix sh774 (sh761.length) 101 (2 : Int32) ∧ bnd (sI m779 (sh761.length) (2 : Int32).toNatClampNeg (vp_nar .char (101 : Int32))) (fun m781 => Ix sh774 (sh761.length) 101 (3 : Int32) ∧ bnd (sI m781 (sh761.length) (3 : Int32).toNatClampNeg (vp_nar .char (112 : Int32))) (fun m783 => Ob sh774 v0 12 ∧ bnd (sR m783 v0 100 (some sh761.length)) (fun m786 => bnd (sh774 ++ [(101, 3)]) (fun sh787 => bnd (nw m786 sh774.length) (fun m788 => Ix sh787 (sh774.length) 101 (0 : Int32) ∧ bnd (sI m788 (sh774.length) (0 : Int32).toNatClampNeg (vp_nar .char (119 : Int32))) (fun m790 => Ix sh787 (sh774.length) 101 (1 : Int32) ∧ bnd (sI m790 (sh774.length) (1 : Int32).toNatClampNeg (vp_nar .char (101 : Int32))) (fun m792 => Ix sh787 (sh774.length) 101 (2 : Int32) ∧ bnd (sI m792 (sh774.length) (2 : Int32).toNatClampNeg (vp_nar .char (116 : Int32))) (fun m794 => Ob sh787 v0 12 ∧ bnd (sR m794 v0 101 (some sh774.length)) (fun m797 => bnd (sh787 ++ [(101, 6)]) (fun sh798 => bnd (nw m797 sh787.length) (fun m799 => Ix sh798 (sh787.length) 101 (0 : Int32) ∧ bnd (sI m799 (sh787.length) (0 : Int32).toNatClampNeg (vp_nar .char (110 : Int32))) (fun m801 => Ix sh798 (sh787.length) 101 (1 : Int32) ∧ bnd (sI m801 (sh787.length) (1 : Int32).toNatClampNeg (vp_nar .char (117 : Int32))) (fun m803 => Ix sh798 (sh787.length) 101 (2 : Int32) ∧ bnd (sI m803 (sh787.length) (2 : Int32).toNatClampNeg (vp_nar .char (109 : Int32))) (fun m805 => Ix sh798 (sh787.length) 101 (3 : Int32) ∧ bnd (sI m805 (sh787.length) (3 : Int32).toNatClampNeg (vp_nar .char (98 : Int32))) (fun m807 => Ix sh798 (sh787.length) 101 (4 : Int32) ∧ bnd (sI m807 (sh787.length) (4 : Int32).toNatClampNeg (vp_nar .char (101 : Int32))) (fun m809 => Ix sh798 (sh787.length) 101 (5 : Int32) ∧ bnd (sI m809 (sh787.length) (5 : Int32).toNatClampNeg (vp_nar .char (114 : Int32))) (fun m811 => Ob sh798 v0 12 ∧ bnd (sR m811 v0 102 (some sh787.length)) (fun m814 => bnd (sh798 ++ [(101, 6)]) (fun sh815 => bnd (nw m814 sh798.length) (fun m816 => Ix sh815 (sh798.length) 101 (0 : Int32) ∧ bnd (sI m816 (sh798.length) (0 : Int32).toNatClampNeg (vp_nar .char (99 : Int32))) (fun m818 => Ix sh815 (sh798.length) 101 (1 : Int32) ∧ bnd (sI m818 (sh798.length) (1 : Int32).toNatClampNeg (vp_nar .char (111 : Int32))) (fun m820 => Ix sh815 (sh798.length) 101 (2 : Int32) ∧ bnd (sI m820 (sh798.length) (2 : Int32).toNatClampNeg (vp_nar .char (108 : Int32))) (fun m822 => Ix sh815 (sh798.length) 101 (3 : Int32) ∧ bnd (sI m822 (sh798.length) (3 : Int32).toNatClampNeg (vp_nar .char (117 : Int32))) (fun m824 => Ix sh815 (sh798.length) 101 (4 : Int32) ∧ bnd (sI m824 (sh798.length) (4 : Int32).toNatClampNeg (vp_nar .char (109 : Int32))) (fun m826 => Ix sh815 (sh798.length) 101 (5 : Int32) ∧ bnd (sI m826 (sh798.length) (5 : Int32).toNatClampNeg (vp_nar .char (110 : Int32))) (fun m828 => Ob sh815 v0 12 ∧ bnd (sR m828 v0 103 (some sh798.length)) (fun m831 => bnd (sh815 ++ [(101, 3)]) (fun sh832 => bnd (nw m831 sh815.length) (fun m833 => Ix sh832 (sh815.length) 101 (0 : Int32) ∧ bnd (sI m833 (sh815.length) (0 : Int32).toNatClampNeg (vp_nar .char (114 : Int32))) (fun m835 => Ix sh832 (sh815.length) 101 (1 : Int32) ∧ bnd (sI m835 (sh815.length) (1 : Int32).toNatClampNeg (vp_nar .char (111 : Int32))) (fun m837 => Ix sh832 (sh815.length) 101 (2 : Int32) ∧ bnd (sI m837 (sh815.length) (2 : Int32).toNatClampNeg (vp_nar .char (119 : Int32))) (fun m839 => Ob sh832 v0 12 ∧ bnd (sR m839 v0 104 (some sh815.length)) (fun m842 => bnd (sh832 ++ [(101, 3)]) (fun sh843 => bnd (nw m842 sh832.length) (fun m844 => Ix sh843 (sh832.length) 101 (0 : Int32) ∧ bnd (sI m844 (sh832.length) (0 : Int32).toNatClampNeg (vp_nar .char (100 : Int32))) (fun m846 => Ix sh843 (sh832.length) 101 (1 : Int32) ∧ bnd (sI m846 (sh832.length) (1 : Int32).toNatClampNeg (vp_nar .char (97 : Int32))) (fun m848 => Ix sh843 (sh832.length) 101 (2 : Int32) ∧ bnd (sI m848 (sh832.length) (2 : Int32).toNatClampNeg (vp_nar .char (121 : Int32))) (fun m850 => Ob sh843 v0 12 ∧ bnd (sR m850 v0 105 (some sh832.length)) (fun m853 => bnd (sh843 ++ [(101, 3)]) (fun sh854 => bnd (nw m853 sh843.length) (fun m855 => Ix sh854 (sh843.length) 101 (0 : Int32) ∧ bnd (sI m855 (sh843.length) (0 : Int32).toNatClampNeg (vp_nar .char (119 : Int32))) (fun m857 => Ix sh854 (sh843.length) 101 (1 : Int32) ∧ bnd (sI m857 (sh843.length) (1 : Int32).toNatClampNeg (vp_nar .char (101 : Int32))) (fun m859 => Ix sh854 (sh843.length) 101 (2 : Int32) ∧ bnd (sI m859 (sh843.length) (2 : Int32).toNatClampNeg (vp_nar .char (116 : Int32))) (fun m861 => Ob sh854 v0 12 ∧ bnd (sR m861 v0 106 (some sh843.length)) (fun m864 => bnd (sh854 ++ [(101, 4)]) (fun sh865 => bnd (nw m864 sh854.length) (fun m866 => Ix sh865 (sh854.length) 101 (0 : Int32) ∧ bnd (sI m866 (sh854.length) (0 : Int32).toNatClampNeg (vp_nar .char (115 : Int32))) (fun m868 => Ix sh865 (sh854.length) 101 (1 : Int32) ∧ bnd (sI m868 (sh854.length) (1 : Int32).toNatClampNeg (vp_nar .char (116 : Int32))) (fun m870 => Ix sh865 (sh854.length) 101 (2 : Int32) ∧ bnd (sI m870 (sh854.length) (2 : Int32).toNatClampNeg (vp_nar .char (101 : Int32))) (fun m872 => Ix sh865 (sh854.length) 101 (3 : Int32) ∧ bnd (sI m872 (sh854.length) (3 : Int32).toNatClampNeg (vp_nar .char (112 : Int32))) (fun m874 => Ob sh865 v0 12 ∧ bnd (sR m874 v0 107 (some sh854.length)) (fun m877 => bnd (sh865 ++ [(100, 1700)]) (fun sh878 => bnd (nw m877 sh865.length) (fun m879 => Ob sh878 v0 12 ∧ bnd (sR m879 v0 108 (some sh865.length)) (fun m882 => bnd (sh878 ++ [(100, 1700)]) (fun sh883 => bnd (nw m882 sh878.length) (fun m884 => Ob sh883 v0 12 ∧ bnd (sR m884 v0 110 (some sh878.length)) (fun m887 => bnd (sh883 ++ [(103, 1700)]) (fun sh888 => bnd (nw m887 sh883.length) (fun m889 => Ob sh888 v0 12 ∧ bnd (sR m889 v0 114 (some sh883.length)) (fun m892 => bnd (sh888 ++ [(100, 117)]) (fun sh893 => bnd (nw m892 sh888.length) (fun m894 => Ob sh893 v0 12 ∧ bnd (sR m894 v0 118 (some sh888.length)) (fun m897 => Q sh893 m897))))))))))))))))))))))))))))))))))))))))))))))))))))))))))))))))))))))))))))))))))))))))))))))))))))))))))))))))))))))))))))))))))))))))))))))))))))))))))))))))))))))))))))))))))))))))))))))))))))))))))))))))))))))))))))))))))))))))))))))))))))))))))))))))))))))))))))))))))))))))))))))))))))))))))))))))))))))))))))))))))))))))))))))))))))))))))))))))))))))))))))))))))))))))))))))))))))))))))))))))))))))))))))))))))))))))))))))))))))))))))))))))))))))))))))))))))))))))))))))))))))))))))))
set_option maxHeartbeats 4000000 in
set_option maxRecDepth 100000 in
theorem c_X12_init {l : Launch} {G : Gl} {sh : Shp} {v0 : Nat} {Q : Shp → Mem → Prop} {m : Mem} (h : wp_X12_init sh v0 Q m) : CnA l G yX12_init cX12_init 1 1 60 87 20853 sh [.ref (G.1 + v0)] m Q := by
  refine con_A (ls := [(0, .ref (G.1 + v0))]) (by decide +kernel) rfl (Nat.le_of_ble_eq_true rfl) (fun F => ?_)
  show V G F (cX12_init, 1, RX12, none, "<init>", 1, 60, 87, 20853) sh 0 0 (Za G F sh 87 20853 Q) 0 [(0, .ref (G.1 + v0))] [] m
  unfold wp_X12_init at h
  refine v_aload_n 0 0 dX12_init_0 rfl rfl ?_
  refine v_oinit mo_RX12_1 (Nat.le_of_ble_eq_true rfl) (Nat.le_of_ble_eq_true rfl) (Nat.le_of_ble_eq_true rfl) dX12_init_1 ?_
  refine v_aload_n 0 0 dX12_init_4 rfl rfl ?_
  refine v_sipush (1600 : Int32) dX12_init_5 (by decide) ?_
  refine g_newa (atype := .int) (ty := .int) (N := 1600) 100 rfl rfl (by decide) (a0c_100 _) (fun _ _ h => h) aw_100 (by decide) (by decide +kernel) (Nat.le_of_ble_eq_true rfl) (Nat.le_of_ble_eq_true rfl) (Nat.le_of_ble_eq_true rfl) dX12_init_8 h ?_
  clear h
  intro sh1 m2 h hl3
  obtain ⟨o4, h⟩ := h
  refine g_qR 12 0 dX12_init_10 fw_RX12_7 o4 rfl (fun _ => rfl) (fun _ => rfl) h ?_
  clear h
  intro m5 h
  refine v_aload_n 0 0 dX12_init_13 rfl rfl ?_
  refine v_iconst (-1 : Int32) dX12_init_14 (by decide) ?_
  obtain ⟨o6, h⟩ := h
  refine g_pI 12 8 dX12_init_15 fw_RX12_13 o6 h ?_
  clear h
  intro m7 h
  refine v_aload_n 0 0 dX12_init_18 rfl rfl ?_
  refine v_bipush (6 : Int32) dX12_init_19 (by decide) ?_
  refine g_newa (atype := .int) (ty := .int) (N := 6) 100 rfl rfl (by decide) (a0c_100 _) (fun _ _ h => h) aw_100 (by decide) (by decide +kernel) (Nat.le_of_ble_eq_true rfl) (Nat.le_of_ble_eq_true rfl) (Nat.le_of_ble_eq_true rfl) dX12_init_21 h ?_
  clear h
  intro sh8 m9 h hl10
  obtain ⟨o11, h⟩ := h
  refine g_qR 12 9 dX12_init_23 fw_RX12_17 o11 rfl (fun _ => rfl) (fun _ => rfl) h ?_
  clear h
  intro m12 h
  refine v_aload_n 0 0 dX12_init_26 rfl rfl ?_
  refine v_iconst (5 : Int32) dX12_init_27 (by decide) ?_
  refine g_newa (atype := .char) (ty := .char) (N := 5) 101 rfl rfl (by decide) (a0c_101 _) (fun _ _ h => h) aw_101 (by decide) (by decide +kernel) (Nat.le_of_ble_eq_true rfl) (Nat.le_of_ble_eq_true rfl) (Nat.le_of_ble_eq_true rfl) dX12_init_28 h ?_
  clear h
  intro sh13 m14 h hl15
  refine v_dup dX12_init_30 rfl ?_
  refine v_iconst (0 : Int32) dX12_init_31 (by decide) ?_
  refine v_bipush (112 : Int32) dX12_init_32 (by decide) ?_
  obtain ⟨i17, h⟩ := h
  refine g_cast dX12_init_34 i17 h ?_
  clear h
  intro m16 h
  refine v_dup dX12_init_35 rfl ?_
  refine v_iconst (1 : Int32) dX12_init_36 (by decide) ?_
  refine v_bipush (108 : Int32) dX12_init_37 (by decide) ?_
  obtain ⟨i19, h⟩ := h
  refine g_cast dX12_init_39 i19 h ?_
  clear h
  intro m18 h
  refine v_dup dX12_init_40 rfl ?_
  refine v_iconst (2 : Int32) dX12_init_41 (by decide) ?_
  refine v_bipush (97 : Int32) dX12_init_42 (by decide) ?_
  obtain ⟨i21, h⟩ := h
  refine g_cast dX12_init_44 i21 h ?_
  clear h
  intro m20 h
  refine v_dup dX12_init_45 rfl ?_
  refine v_iconst (3 : Int32) dX12_init_46 (by decide) ?_
  refine v_bipush (105 : Int32) dX12_init_47 (by decide) ?_
  obtain ⟨i23, h⟩ := h
  refine g_cast dX12_init_49 i23 h ?_
  clear h
  intro m22 h
  refine v_dup dX12_init_50 rfl ?_
  refine v_iconst (4 : Int32) dX12_init_51 (by decide) ?_
  refine v_bipush (110 : Int32) dX12_init_52 (by decide) ?_
  obtain ⟨i25, h⟩ := h
  refine g_cast dX12_init_54 i25 h ?_
  clear h
  intro m24 h
  obtain ⟨o26, h⟩ := h
  refine g_qR 12 11 dX12_init_55 fw_RX12_20 o26 rfl (fun _ => rfl) (fun _ => rfl) h ?_
  clear h
  intro m27 h
  refine v_aload_n 0 0 dX12_init_58 rfl rfl ?_
  refine v_iconst (2 : Int32) dX12_init_59 (by decide) ?_
  refine g_newa (atype := .char) (ty := .char) (N := 2) 101 rfl rfl (by decide) (a0c_101 _) (fun _ _ h => h) aw_101 (by decide) (by decide +kernel) (Nat.le_of_ble_eq_true rfl) (Nat.le_of_ble_eq_true rfl) (Nat.le_of_ble_eq_true rfl) dX12_init_60 h ?_
  clear h
  intro sh28 m29 h hl30
  refine v_dup dX12_init_62 rfl ?_
  refine v_iconst (0 : Int32) dX12_init_63 (by decide) ?_
  refine v_bipush (98 : Int32) dX12_init_64 (by decide) ?_
  obtain ⟨i32, h⟩ := h
  refine g_cast dX12_init_66 i32 h ?_
  clear h
  intro m31 h
  refine v_dup dX12_init_67 rfl ?_
  refine v_iconst (1 : Int32) dX12_init_68 (by decide) ?_
  refine v_bipush (121 : Int32) dX12_init_69 (by decide) ?_
  obtain ⟨i34, h⟩ := h
  refine g_cast dX12_init_71 i34 h ?_
  clear h
  intro m33 h
  obtain ⟨o35, h⟩ := h
  refine g_qR 12 12 dX12_init_72 fw_RX12_24 o35 rfl (fun _ => rfl) (fun _ => rfl) h ?_
  clear h
  intro m36 h
  refine v_aload_n 0 0 dX12_init_75 rfl rfl ?_
  refine v_iconst (4 : Int32) dX12_init_76 (by decide) ?_
  refine g_newa (atype := .char) (ty := .char) (N := 4) 101 rfl rfl (by decide) (a0c_101 _) (fun _ _ h => h) aw_101 (by decide) (by decide +kernel) (Nat.le_of_ble_eq_true rfl) (Nat.le_of_ble_eq_true rfl) (Nat.le_of_ble_eq_true rfl) dX12_init_77 h ?_
  clear h
  intro sh37 m38 h hl39
  refine v_dup dX12_init_79 rfl ?_
  refine v_iconst (0 : Int32) dX12_init_80 (by decide) ?_
  refine v_bipush (104 : Int32) dX12_init_81 (by decide) ?_
  obtain ⟨i41, h⟩ := h
  refine g_cast dX12_init_83 i41 h ?_
  clear h
  intro m40 h
  refine v_dup dX12_init_84 rfl ?_
  refine v_iconst (1 : Int32) dX12_init_85 (by decide) ?_
  refine v_bipush (105 : Int32) dX12_init_86 (by decide) ?_
  obtain ⟨i43, h⟩ := h
  refine g_cast dX12_init_88 i43 h ?_
  clear h
  intro m42 h
  refine v_dup dX12_init_89 rfl ?_
  refine v_iconst (2 : Int32) dX12_init_90 (by decide) ?_
  refine v_bipush (103 : Int32) dX12_init_91 (by decide) ?_
  obtain ⟨i45, h⟩ := h
  refine g_cast dX12_init_93 i45 h ?_
  clear h
  intro m44 h
  refine v_dup dX12_init_94 rfl ?_
  refine v_iconst (3 : Int32) dX12_init_95 (by decide) ?_
  refine v_bipush (104 : Int32) dX12_init_96 (by decide) ?_
  obtain ⟨i47, h⟩ := h
  refine g_cast dX12_init_98 i47 h ?_
  clear h
  intro m46 h
  obtain ⟨o48, h⟩ := h
  refine g_qR 12 13 dX12_init_99 fw_RX12_27 o48 rfl (fun _ => rfl) (fun _ => rfl) h ?_
  clear h
  intro m49 h
  refine v_aload_n 0 0 dX12_init_102 rfl rfl ?_
  refine v_iconst (5 : Int32) dX12_init_103 (by decide) ?_
  refine g_newa (atype := .char) (ty := .char) (N := 5) 101 rfl rfl (by decide) (a0c_101 _) (fun _ _ h => h) aw_101 (by decide) (by decide +kernel) (Nat.le_of_ble_eq_true rfl) (Nat.le_of_ble_eq_true rfl) (Nat.le_of_ble_eq_true rfl) dX12_init_104 h ?_
  clear h
  intro sh50 m51 h hl52
  refine v_dup dX12_init_106 rfl ?_
  refine v_iconst (0 : Int32) dX12_init_107 (by decide) ?_
  refine v_bipush (115 : Int32) dX12_init_108 (by decide) ?_
  obtain ⟨i54, h⟩ := h
  refine g_cast dX12_init_110 i54 h ?_
  clear h
  intro m53 h
  refine v_dup dX12_init_111 rfl ?_
  refine v_iconst (1 : Int32) dX12_init_112 (by decide) ?_
  refine v_bipush (116 : Int32) dX12_init_113 (by decide) ?_
  obtain ⟨i56, h⟩ := h
  refine g_cast dX12_init_115 i56 h ?_
  clear h
  intro m55 h
  refine v_dup dX12_init_116 rfl ?_
  refine v_iconst (2 : Int32) dX12_init_117 (by decide) ?_
  refine v_bipush (111 : Int32) dX12_init_118 (by decide) ?_
  obtain ⟨i58, h⟩ := h
  refine g_cast dX12_init_120 i58 h ?_
  clear h
  intro m57 h
  refine v_dup dX12_init_121 rfl ?_
  refine v_iconst (3 : Int32) dX12_init_122 (by decide) ?_
  refine v_bipush (110 : Int32) dX12_init_123 (by decide) ?_
  obtain ⟨i60, h⟩ := h
  refine g_cast dX12_init_125 i60 h ?_
  clear h
  intro m59 h
  refine v_dup dX12_init_126 rfl ?_
  refine v_iconst (4 : Int32) dX12_init_127 (by decide) ?_
  refine v_bipush (101 : Int32) dX12_init_128 (by decide) ?_
  obtain ⟨i62, h⟩ := h
  refine g_cast dX12_init_130 i62 h ?_
  clear h
  intro m61 h
  obtain ⟨o63, h⟩ := h
  refine g_qR 12 14 dX12_init_131 fw_RX12_30 o63 rfl (fun _ => rfl) (fun _ => rfl) h ?_
  clear h
  intro m64 h
  refine v_aload_n 0 0 dX12_init_134 rfl rfl ?_
  refine v_bipush (6 : Int32) dX12_init_135 (by decide) ?_
  refine g_newa (atype := .char) (ty := .char) (N := 6) 101 rfl rfl (by decide) (a0c_101 _) (fun _ _ h => h) aw_101 (by decide) (by decide +kernel) (Nat.le_of_ble_eq_true rfl) (Nat.le_of_ble_eq_true rfl) (Nat.le_of_ble_eq_true rfl) dX12_init_137 h ?_
  clear h
  intro sh65 m66 h hl67
  refine v_dup dX12_init_139 rfl ?_
  refine v_iconst (0 : Int32) dX12_init_140 (by decide) ?_
  refine v_bipush (115 : Int32) dX12_init_141 (by decide) ?_
  obtain ⟨i69, h⟩ := h
  refine g_cast dX12_init_143 i69 h ?_
  clear h
  intro m68 h
  refine v_dup dX12_init_144 rfl ?_
  refine v_iconst (1 : Int32) dX12_init_145 (by decide) ?_
  refine v_bipush (111 : Int32) dX12_init_146 (by decide) ?_
  obtain ⟨i71, h⟩ := h
  refine g_cast dX12_init_148 i71 h ?_
  clear h
  intro m70 h
  refine v_dup dX12_init_149 rfl ?_
  refine v_iconst (2 : Int32) dX12_init_150 (by decide) ?_
  refine v_bipush (117 : Int32) dX12_init_151 (by decide) ?_
  obtain ⟨i73, h⟩ := h
  refine g_cast dX12_init_153 i73 h ?_
  clear h
  intro m72 h
  refine v_dup dX12_init_154 rfl ?_
  refine v_iconst (3 : Int32) dX12_init_155 (by decide) ?_
  refine v_bipush (114 : Int32) dX12_init_156 (by decide) ?_
  obtain ⟨i75, h⟩ := h
  refine g_cast dX12_init_158 i75 h ?_
  clear h
  intro m74 h
  refine v_dup dX12_init_159 rfl ?_
  refine v_iconst (4 : Int32) dX12_init_160 (by decide) ?_
  refine v_bipush (99 : Int32) dX12_init_161 (by decide) ?_
  obtain ⟨i77, h⟩ := h
  refine g_cast dX12_init_163 i77 h ?_
  clear h
  intro m76 h
  refine v_dup dX12_init_164 rfl ?_
  refine v_iconst (5 : Int32) dX12_init_165 (by decide) ?_
  refine v_bipush (101 : Int32) dX12_init_166 (by decide) ?_
  obtain ⟨i79, h⟩ := h
  refine g_cast dX12_init_168 i79 h ?_
  clear h
  intro m78 h
  obtain ⟨o80, h⟩ := h
  refine g_qR 12 15 dX12_init_169 fw_RX12_33 o80 rfl (fun _ => rfl) (fun _ => rfl) h ?_
  clear h
  intro m81 h
  refine v_aload_n 0 0 dX12_init_172 rfl rfl ?_
  refine v_iconst (4 : Int32) dX12_init_173 (by decide) ?_
  refine g_newa (atype := .char) (ty := .char) (N := 4) 101 rfl rfl (by decide) (a0c_101 _) (fun _ _ h => h) aw_101 (by decide) (by decide +kernel) (Nat.le_of_ble_eq_true rfl) (Nat.le_of_ble_eq_true rfl) (Nat.le_of_ble_eq_true rfl) dX12_init_174 h ?_
  clear h
  intro sh82 m83 h hl84
  refine v_dup dX12_init_176 rfl ?_
  refine v_iconst (0 : Int32) dX12_init_177 (by decide) ?_
  refine v_bipush (102 : Int32) dX12_init_178 (by decide) ?_
  obtain ⟨i86, h⟩ := h
  refine g_cast dX12_init_180 i86 h ?_
  clear h
  intro m85 h
  refine v_dup dX12_init_181 rfl ?_
  refine v_iconst (1 : Int32) dX12_init_182 (by decide) ?_
  refine v_bipush (97 : Int32) dX12_init_183 (by decide) ?_
  obtain ⟨i88, h⟩ := h
  refine g_cast dX12_init_185 i88 h ?_
  clear h
  intro m87 h
  refine v_dup dX12_init_186 rfl ?_
  refine v_iconst (2 : Int32) dX12_init_187 (by decide) ?_
  refine v_bipush (114 : Int32) dX12_init_188 (by decide) ?_
  obtain ⟨i90, h⟩ := h
  refine g_cast dX12_init_190 i90 h ?_
  clear h
  intro m89 h
  refine v_dup dX12_init_191 rfl ?_
  refine v_iconst (3 : Int32) dX12_init_192 (by decide) ?_
  refine v_bipush (109 : Int32) dX12_init_193 (by decide) ?_
  obtain ⟨i92, h⟩ := h
  refine g_cast dX12_init_195 i92 h ?_
  clear h
  intro m91 h
  obtain ⟨o93, h⟩ := h
  refine g_qR 12 16 dX12_init_196 fw_RX12_36 o93 rfl (fun _ => rfl) (fun _ => rfl) h ?_
  clear h
  intro m94 h
  refine v_aload_n 0 0 dX12_init_199 rfl rfl ?_
  refine v_iconst (2 : Int32) dX12_init_200 (by decide) ?_
  refine g_newa (atype := .char) (ty := .char) (N := 2) 101 rfl rfl (by decide) (a0c_101 _) (fun _ _ h => h) aw_101 (by decide) (by decide +kernel) (Nat.le_of_ble_eq_true rfl) (Nat.le_of_ble_eq_true rfl) (Nat.le_of_ble_eq_true rfl) dX12_init_201 h ?_
  clear h
  intro sh95 m96 h hl97
  refine v_dup dX12_init_203 rfl ?_
  refine v_iconst (0 : Int32) dX12_init_204 (by decide) ?_
  refine v_bipush (97 : Int32) dX12_init_205 (by decide) ?_
  obtain ⟨i99, h⟩ := h
  refine g_cast dX12_init_207 i99 h ?_
  clear h
  intro m98 h
  refine v_dup dX12_init_208 rfl ?_
  refine v_iconst (1 : Int32) dX12_init_209 (by decide) ?_
  refine v_bipush (116 : Int32) dX12_init_210 (by decide) ?_
  obtain ⟨i101, h⟩ := h
  refine g_cast dX12_init_212 i101 h ?_
  clear h
  intro m100 h
  obtain ⟨o102, h⟩ := h
  refine g_qR 12 17 dX12_init_213 fw_RX12_39 o102 rfl (fun _ => rfl) (fun _ => rfl) h ?_
  clear h
  intro m103 h
  refine v_aload_n 0 0 dX12_init_216 rfl rfl ?_
  refine v_iconst (3 : Int32) dX12_init_217 (by decide) ?_
  refine g_newa (atype := .char) (ty := .char) (N := 3) 101 rfl rfl (by decide) (a0c_101 _) (fun _ _ h => h) aw_101 (by decide) (by decide +kernel) (Nat.le_of_ble_eq_true rfl) (Nat.le_of_ble_eq_true rfl) (Nat.le_of_ble_eq_true rfl) dX12_init_218 h ?_
  clear h
  intro sh104 m105 h hl106
  refine v_dup dX12_init_220 rfl ?_
  refine v_iconst (0 : Int32) dX12_init_221 (by decide) ?_
  refine v_bipush (100 : Int32) dX12_init_222 (by decide) ?_
  obtain ⟨i108, h⟩ := h
  refine g_cast dX12_init_224 i108 h ?_
  clear h
  intro m107 h
  refine v_dup dX12_init_225 rfl ?_
  refine v_iconst (1 : Int32) dX12_init_226 (by decide) ?_
  refine v_bipush (97 : Int32) dX12_init_227 (by decide) ?_
  obtain ⟨i110, h⟩ := h
  refine g_cast dX12_init_229 i110 h ?_
  clear h
  intro m109 h
  refine v_dup dX12_init_230 rfl ?_
  refine v_iconst (2 : Int32) dX12_init_231 (by decide) ?_
  refine v_bipush (121 : Int32) dX12_init_232 (by decide) ?_
  obtain ⟨i112, h⟩ := h
  refine g_cast dX12_init_234 i112 h ?_
  clear h
  intro m111 h
  obtain ⟨o113, h⟩ := h
  refine g_qR 12 18 dX12_init_235 fw_RX12_42 o113 rfl (fun _ => rfl) (fun _ => rfl) h ?_
  clear h
  intro m114 h
  refine v_aload_n 0 0 dX12_init_238 rfl rfl ?_
  refine v_iconst (3 : Int32) dX12_init_239 (by decide) ?_
  refine g_newa (atype := .char) (ty := .char) (N := 3) 101 rfl rfl (by decide) (a0c_101 _) (fun _ _ h => h) aw_101 (by decide) (by decide +kernel) (Nat.le_of_ble_eq_true rfl) (Nat.le_of_ble_eq_true rfl) (Nat.le_of_ble_eq_true rfl) dX12_init_240 h ?_
  clear h
  intro sh115 m116 h hl117
  refine v_dup dX12_init_242 rfl ?_
  refine v_iconst (0 : Int32) dX12_init_243 (by decide) ?_
  refine v_bipush (112 : Int32) dX12_init_244 (by decide) ?_
  obtain ⟨i119, h⟩ := h
  refine g_cast dX12_init_246 i119 h ?_
  clear h
  intro m118 h
  refine v_dup dX12_init_247 rfl ?_
  refine v_iconst (1 : Int32) dX12_init_248 (by decide) ?_
  refine v_bipush (105 : Int32) dX12_init_249 (by decide) ?_
  obtain ⟨i121, h⟩ := h
  refine g_cast dX12_init_251 i121 h ?_
  clear h
  intro m120 h
  refine v_dup dX12_init_252 rfl ?_
  refine v_iconst (2 : Int32) dX12_init_253 (by decide) ?_
  refine v_bipush (101 : Int32) dX12_init_254 (by decide) ?_
  obtain ⟨i123, h⟩ := h
  refine g_cast dX12_init_256 i123 h ?_
  clear h
  intro m122 h
  obtain ⟨o124, h⟩ := h
  refine g_qR 12 19 dX12_init_257 fw_RX12_45 o124 rfl (fun _ => rfl) (fun _ => rfl) h ?_
  clear h
  intro m125 h
  refine v_aload_n 0 0 dX12_init_260 rfl rfl ?_
  refine v_bipush (6 : Int32) dX12_init_261 (by decide) ?_
  refine g_newa (atype := .char) (ty := .char) (N := 6) 101 rfl rfl (by decide) (a0c_101 _) (fun _ _ h => h) aw_101 (by decide) (by decide +kernel) (Nat.le_of_ble_eq_true rfl) (Nat.le_of_ble_eq_true rfl) (Nat.le_of_ble_eq_true rfl) dX12_init_263 h ?_
  clear h
  intro sh126 m127 h hl128
  refine v_dup dX12_init_265 rfl ?_
  refine v_iconst (0 : Int32) dX12_init_266 (by decide) ?_
  refine v_bipush (99 : Int32) dX12_init_267 (by decide) ?_
  obtain ⟨i130, h⟩ := h
  refine g_cast dX12_init_269 i130 h ?_
  clear h
  intro m129 h
  refine v_dup dX12_init_270 rfl ?_
  refine v_iconst (1 : Int32) dX12_init_271 (by decide) ?_
  refine v_bipush (97 : Int32) dX12_init_272 (by decide) ?_
  obtain ⟨i132, h⟩ := h
  refine g_cast dX12_init_274 i132 h ?_
  clear h
  intro m131 h
  refine v_dup dX12_init_275 rfl ?_
  refine v_iconst (2 : Int32) dX12_init_276 (by decide) ?_
  refine v_bipush (108 : Int32) dX12_init_277 (by decide) ?_
  obtain ⟨i134, h⟩ := h
  refine g_cast dX12_init_279 i134 h ?_
  clear h
  intro m133 h
  refine v_dup dX12_init_280 rfl ?_
  refine v_iconst (3 : Int32) dX12_init_281 (by decide) ?_
  refine v_bipush (108 : Int32) dX12_init_282 (by decide) ?_
  obtain ⟨i136, h⟩ := h
  refine g_cast dX12_init_284 i136 h ?_
  clear h
  intro m135 h
  refine v_dup dX12_init_285 rfl ?_
  refine v_iconst (4 : Int32) dX12_init_286 (by decide) ?_
  refine v_bipush (101 : Int32) dX12_init_287 (by decide) ?_
  obtain ⟨i138, h⟩ := h
  refine g_cast dX12_init_289 i138 h ?_
  clear h
  intro m137 h
  refine v_dup dX12_init_290 rfl ?_
  refine v_iconst (5 : Int32) dX12_init_291 (by decide) ?_
  refine v_bipush (114 : Int32) dX12_init_292 (by decide) ?_
  obtain ⟨i140, h⟩ := h
  refine g_cast dX12_init_294 i140 h ?_
  clear h
  intro m139 h
  obtain ⟨o141, h⟩ := h
  refine g_qR 12 20 dX12_init_295 fw_RX12_48 o141 rfl (fun _ => rfl) (fun _ => rfl) h ?_
  clear h
  intro m142 h
  refine v_aload_n 0 0 dX12_init_298 rfl rfl ?_
  refine v_iconst (4 : Int32) dX12_init_299 (by decide) ?_
  refine g_newa (atype := .char) (ty := .char) (N := 4) 101 rfl rfl (by decide) (a0c_101 _) (fun _ _ h => h) aw_101 (by decide) (by decide +kernel) (Nat.le_of_ble_eq_true rfl) (Nat.le_of_ble_eq_true rfl) (Nat.le_of_ble_eq_true rfl) dX12_init_300 h ?_
  clear h
  intro sh143 m144 h hl145
  refine v_dup dX12_init_302 rfl ?_
  refine v_iconst (0 : Int32) dX12_init_303 (by decide) ?_
  refine v_bipush (98 : Int32) dX12_init_304 (by decide) ?_
  obtain ⟨i147, h⟩ := h
  refine g_cast dX12_init_306 i147 h ?_
  clear h
  intro m146 h
  refine v_dup dX12_init_307 rfl ?_
  refine v_iconst (1 : Int32) dX12_init_308 (by decide) ?_
  refine v_bipush (111 : Int32) dX12_init_309 (by decide) ?_
  obtain ⟨i149, h⟩ := h
  refine g_cast dX12_init_311 i149 h ?_
  clear h
  intro m148 h
  refine v_dup dX12_init_312 rfl ?_
  refine v_iconst (2 : Int32) dX12_init_313 (by decide) ?_
  refine v_bipush (108 : Int32) dX12_init_314 (by decide) ?_
  obtain ⟨i151, h⟩ := h
  refine g_cast dX12_init_316 i151 h ?_
  clear h
  intro m150 h
  refine v_dup dX12_init_317 rfl ?_
  refine v_iconst (3 : Int32) dX12_init_318 (by decide) ?_
  refine v_bipush (100 : Int32) dX12_init_319 (by decide) ?_
  obtain ⟨i153, h⟩ := h
  refine g_cast dX12_init_321 i153 h ?_
  clear h
  intro m152 h
  obtain ⟨o154, h⟩ := h
  refine g_qR 12 21 dX12_init_322 fw_RX12_51 o154 rfl (fun _ => rfl) (fun _ => rfl) h ?_
  clear h
  intro m155 h
  refine v_aload_n 0 0 dX12_init_325 rfl rfl ?_
  refine v_iconst (4 : Int32) dX12_init_326 (by decide) ?_
  refine g_newa (atype := .char) (ty := .char) (N := 4) 101 rfl rfl (by decide) (a0c_101 _) (fun _ _ h => h) aw_101 (by decide) (by decide +kernel) (Nat.le_of_ble_eq_true rfl) (Nat.le_of_ble_eq_true rfl) (Nat.le_of_ble_eq_true rfl) dX12_init_327 h ?_
  clear h
  intro sh156 m157 h hl158
  refine v_dup dX12_init_329 rfl ?_
  refine v_iconst (0 : Int32) dX12_init_330 (by decide) ?_
  refine v_bipush (107 : Int32) dX12_init_331 (by decide) ?_
  obtain ⟨i160, h⟩ := h
  refine g_cast dX12_init_333 i160 h ?_
  clear h
  intro m159 h
  refine v_dup dX12_init_334 rfl ?_
  refine v_iconst (1 : Int32) dX12_init_335 (by decide) ?_
  refine v_bipush (105 : Int32) dX12_init_336 (by decide) ?_
  obtain ⟨i162, h⟩ := h
  refine g_cast dX12_init_338 i162 h ?_
  clear h
  intro m161 h
  refine v_dup dX12_init_339 rfl ?_
  refine v_iconst (2 : Int32) dX12_init_340 (by decide) ?_
  refine v_bipush (110 : Int32) dX12_init_341 (by decide) ?_
  obtain ⟨i164, h⟩ := h
  refine g_cast dX12_init_343 i164 h ?_
  clear h
  intro m163 h
  refine v_dup dX12_init_344 rfl ?_
  refine v_iconst (3 : Int32) dX12_init_345 (by decide) ?_
  refine v_bipush (100 : Int32) dX12_init_346 (by decide) ?_
  obtain ⟨i166, h⟩ := h
  refine g_cast dX12_init_348 i166 h ?_
  clear h
  intro m165 h
  obtain ⟨o167, h⟩ := h
  refine g_qR 12 22 dX12_init_349 fw_RX12_54 o167 rfl (fun _ => rfl) (fun _ => rfl) h ?_
  clear h
  intro m168 h
  refine v_aload_n 0 0 dX12_init_352 rfl rfl ?_
  refine v_iconst (4 : Int32) dX12_init_353 (by decide) ?_
  refine g_newa (atype := .char) (ty := .char) (N := 4) 101 rfl rfl (by decide) (a0c_101 _) (fun _ _ h => h) aw_101 (by decide) (by decide +kernel) (Nat.le_of_ble_eq_true rfl) (Nat.le_of_ble_eq_true rfl) (Nat.le_of_ble_eq_true rfl) dX12_init_354 h ?_
  clear h
  intro sh169 m170 h hl171
  refine v_dup dX12_init_356 rfl ?_
  refine v_iconst (0 : Int32) dX12_init_357 (by decide) ?_
  refine v_bipush (103 : Int32) dX12_init_358 (by decide) ?_
  obtain ⟨i173, h⟩ := h
  refine g_cast dX12_init_360 i173 h ?_
  clear h
  intro m172 h
  refine v_dup dX12_init_361 rfl ?_
  refine v_iconst (1 : Int32) dX12_init_362 (by decide) ?_
  refine v_bipush (111 : Int32) dX12_init_363 (by decide) ?_
  obtain ⟨i175, h⟩ := h
  refine g_cast dX12_init_365 i175 h ?_
  clear h
  intro m174 h
  refine v_dup dX12_init_366 rfl ?_
  refine v_iconst (2 : Int32) dX12_init_367 (by decide) ?_
  refine v_bipush (101 : Int32) dX12_init_368 (by decide) ?_
  obtain ⟨i177, h⟩ := h
  refine g_cast dX12_init_370 i177 h ?_
  clear h
  intro m176 h
  refine v_dup dX12_init_371 rfl ?_
  refine v_iconst (3 : Int32) dX12_init_372 (by decide) ?_
  refine v_bipush (115 : Int32) dX12_init_373 (by decide) ?_
  obtain ⟨i179, h⟩ := h
  refine g_cast dX12_init_375 i179 h ?_
  clear h
  intro m178 h
  obtain ⟨o180, h⟩ := h
  refine g_qR 12 23 dX12_init_376 fw_RX12_57 o180 rfl (fun _ => rfl) (fun _ => rfl) h ?_
  clear h
  intro m181 h
  refine v_aload_n 0 0 dX12_init_379 rfl rfl ?_
  refine v_iconst (5 : Int32) dX12_init_380 (by decide) ?_
  refine g_newa (atype := .char) (ty := .char) (N := 5) 101 rfl rfl (by decide) (a0c_101 _) (fun _ _ h => h) aw_101 (by decide) (by decide +kernel) (Nat.le_of_ble_eq_true rfl) (Nat.le_of_ble_eq_true rfl) (Nat.le_of_ble_eq_true rfl) dX12_init_381 h ?_
  clear h
  intro sh182 m183 h hl184
  refine v_dup dX12_init_383 rfl ?_
  refine v_iconst (0 : Int32) dX12_init_384 (by decide) ?_
  refine v_bipush (98 : Int32) dX12_init_385 (by decide) ?_
  obtain ⟨i186, h⟩ := h
  refine g_cast dX12_init_387 i186 h ?_
  clear h
  intro m185 h
  refine v_dup dX12_init_388 rfl ?_
  refine v_iconst (1 : Int32) dX12_init_389 (by decide) ?_
  refine v_bipush (97 : Int32) dX12_init_390 (by decide) ?_
  obtain ⟨i188, h⟩ := h
  refine g_cast dX12_init_392 i188 h ?_
  clear h
  intro m187 h
  refine v_dup dX12_init_393 rfl ?_
  refine v_iconst (2 : Int32) dX12_init_394 (by decide) ?_
  refine v_bipush (107 : Int32) dX12_init_395 (by decide) ?_
  obtain ⟨i190, h⟩ := h
  refine g_cast dX12_init_397 i190 h ?_
  clear h
  intro m189 h
  refine v_dup dX12_init_398 rfl ?_
  refine v_iconst (3 : Int32) dX12_init_399 (by decide) ?_
  refine v_bipush (101 : Int32) dX12_init_400 (by decide) ?_
  obtain ⟨i192, h⟩ := h
  refine g_cast dX12_init_402 i192 h ?_
  clear h
  intro m191 h
  refine v_dup dX12_init_403 rfl ?_
  refine v_iconst (4 : Int32) dX12_init_404 (by decide) ?_
  refine v_bipush (115 : Int32) dX12_init_405 (by decide) ?_
  obtain ⟨i194, h⟩ := h
  refine g_cast dX12_init_407 i194 h ?_
  clear h
  intro m193 h
  obtain ⟨o195, h⟩ := h
  refine g_qR 12 24 dX12_init_408 fw_RX12_60 o195 rfl (fun _ => rfl) (fun _ => rfl) h ?_
  clear h
  intro m196 h
  refine v_aload_n 0 0 dX12_init_411 rfl rfl ?_
  refine v_iconst (4 : Int32) dX12_init_412 (by decide) ?_
  refine g_newa (atype := .char) (ty := .char) (N := 4) 101 rfl rfl (by decide) (a0c_101 _) (fun _ _ h => h) aw_101 (by decide) (by decide +kernel) (Nat.le_of_ble_eq_true rfl) (Nat.le_of_ble_eq_true rfl) (Nat.le_of_ble_eq_true rfl) dX12_init_413 h ?_
  clear h
  intro sh197 m198 h hl199
  refine v_dup dX12_init_415 rfl ?_
  refine v_iconst (0 : Int32) dX12_init_416 (by decide) ?_
  refine v_bipush (121 : Int32) dX12_init_417 (by decide) ?_
  obtain ⟨i201, h⟩ := h
  refine g_cast dX12_init_419 i201 h ?_
  clear h
  intro m200 h
  refine v_dup dX12_init_420 rfl ?_
  refine v_iconst (1 : Int32) dX12_init_421 (by decide) ?_
  refine v_bipush (101 : Int32) dX12_init_422 (by decide) ?_
  obtain ⟨i203, h⟩ := h
  refine g_cast dX12_init_424 i203 h ?_
  clear h
  intro m202 h
  refine v_dup dX12_init_425 rfl ?_
  refine v_iconst (2 : Int32) dX12_init_426 (by decide) ?_
  refine v_bipush (97 : Int32) dX12_init_427 (by decide) ?_
  obtain ⟨i205, h⟩ := h
  refine g_cast dX12_init_429 i205 h ?_
  clear h
  intro m204 h
  refine v_dup dX12_init_430 rfl ?_
  refine v_iconst (3 : Int32) dX12_init_431 (by decide) ?_
  refine v_bipush (114 : Int32) dX12_init_432 (by decide) ?_
  obtain ⟨i207, h⟩ := h
  refine g_cast dX12_init_434 i207 h ?_
  clear h
  intro m206 h
  obtain ⟨o208, h⟩ := h
  refine g_qR 12 25 dX12_init_435 fw_RX12_63 o208 rfl (fun _ => rfl) (fun _ => rfl) h ?_
  clear h
  intro m209 h
  refine v_aload_n 0 0 dX12_init_438 rfl rfl ?_
  refine v_iconst (4 : Int32) dX12_init_439 (by decide) ?_
  refine g_newa (atype := .char) (ty := .char) (N := 4) 101 rfl rfl (by decide) (a0c_101 _) (fun _ _ h => h) aw_101 (by decide) (by decide +kernel) (Nat.le_of_ble_eq_true rfl) (Nat.le_of_ble_eq_true rfl) (Nat.le_of_ble_eq_true rfl) dX12_init_440 h ?_
  clear h
  intro sh210 m211 h hl212
  refine v_dup dX12_init_442 rfl ?_
  refine v_iconst (0 : Int32) dX12_init_443 (by decide) ?_
  refine v_bipush (98 : Int32) dX12_init_444 (by decide) ?_
  obtain ⟨i214, h⟩ := h
  refine g_cast dX12_init_446 i214 h ?_
  clear h
  intro m213 h
  refine v_dup dX12_init_447 rfl ?_
  refine v_iconst (1 : Int32) dX12_init_448 (by decide) ?_
  refine v_bipush (101 : Int32) dX12_init_449 (by decide) ?_
  obtain ⟨i216, h⟩ := h
  refine g_cast dX12_init_451 i216 h ?_
  clear h
  intro m215 h
  refine v_dup dX12_init_452 rfl ?_
  refine v_iconst (2 : Int32) dX12_init_453 (by decide) ?_
  refine v_bipush (101 : Int32) dX12_init_454 (by decide) ?_
  obtain ⟨i218, h⟩ := h
  refine g_cast dX12_init_456 i218 h ?_
  clear h
  intro m217 h
  refine v_dup dX12_init_457 rfl ?_
  refine v_iconst (3 : Int32) dX12_init_458 (by decide) ?_
  refine v_bipush (110 : Int32) dX12_init_459 (by decide) ?_
  obtain ⟨i220, h⟩ := h
  refine g_cast dX12_init_461 i220 h ?_
  clear h
  intro m219 h
  obtain ⟨o221, h⟩ := h
  refine g_qR 12 26 dX12_init_462 fw_RX12_66 o221 rfl (fun _ => rfl) (fun _ => rfl) h ?_
  clear h
  intro m222 h
  refine v_aload_n 0 0 dX12_init_465 rfl rfl ?_
  refine v_bipush (6 : Int32) dX12_init_466 (by decide) ?_
  refine g_newa (atype := .char) (ty := .char) (N := 6) 101 rfl rfl (by decide) (a0c_101 _) (fun _ _ h => h) aw_101 (by decide) (by decide +kernel) (Nat.le_of_ble_eq_true rfl) (Nat.le_of_ble_eq_true rfl) (Nat.le_of_ble_eq_true rfl) dX12_init_468 h ?_
  clear h
  intro sh223 m224 h hl225
  refine v_dup dX12_init_470 rfl ?_
  refine v_iconst (0 : Int32) dX12_init_471 (by decide) ?_
  refine v_bipush (104 : Int32) dX12_init_472 (by decide) ?_
  obtain ⟨i227, h⟩ := h
  refine g_cast dX12_init_474 i227 h ?_
  clear h
  intro m226 h
  refine v_dup dX12_init_475 rfl ?_
  refine v_iconst (1 : Int32) dX12_init_476 (by decide) ?_
  refine v_bipush (101 : Int32) dX12_init_477 (by decide) ?_
  obtain ⟨i229, h⟩ := h
  refine g_cast dX12_init_479 i229 h ?_
  clear h
  intro m228 h
  refine v_dup dX12_init_480 rfl ?_
  refine v_iconst (2 : Int32) dX12_init_481 (by decide) ?_
  refine v_bipush (105 : Int32) dX12_init_482 (by decide) ?_
  obtain ⟨i231, h⟩ := h
  refine g_cast dX12_init_484 i231 h ?_
  clear h
  intro m230 h
  refine v_dup dX12_init_485 rfl ?_
  refine v_iconst (3 : Int32) dX12_init_486 (by decide) ?_
  refine v_bipush (103 : Int32) dX12_init_487 (by decide) ?_
  obtain ⟨i233, h⟩ := h
  refine g_cast dX12_init_489 i233 h ?_
  clear h
  intro m232 h
  refine v_dup dX12_init_490 rfl ?_
  refine v_iconst (4 : Int32) dX12_init_491 (by decide) ?_
  refine v_bipush (104 : Int32) dX12_init_492 (by decide) ?_
  obtain ⟨i235, h⟩ := h
  refine g_cast dX12_init_494 i235 h ?_
  clear h
  intro m234 h
  refine v_dup dX12_init_495 rfl ?_
  refine v_iconst (5 : Int32) dX12_init_496 (by decide) ?_
  refine v_bipush (116 : Int32) dX12_init_497 (by decide) ?_
  obtain ⟨i237, h⟩ := h
  refine g_cast dX12_init_499 i237 h ?_
  clear h
  intro m236 h
  obtain ⟨o238, h⟩ := h
  refine g_qR 12 27 dX12_init_500 fw_RX12_69 o238 rfl (fun _ => rfl) (fun _ => rfl) h ?_
  clear h
  intro m239 h
  refine v_aload_n 0 0 dX12_init_503 rfl rfl ?_
  refine v_iconst (4 : Int32) dX12_init_504 (by decide) ?_
  refine g_newa (atype := .char) (ty := .char) (N := 4) 101 rfl rfl (by decide) (a0c_101 _) (fun _ _ h => h) aw_101 (by decide) (by decide +kernel) (Nat.le_of_ble_eq_true rfl) (Nat.le_of_ble_eq_true rfl) (Nat.le_of_ble_eq_true rfl) dX12_init_505 h ?_
  clear h
  intro sh240 m241 h hl242
  refine v_dup dX12_init_507 rfl ?_
  refine v_iconst (0 : Int32) dX12_init_508 (by decide) ?_
  refine v_bipush (100 : Int32) dX12_init_509 (by decide) ?_
  obtain ⟨i244, h⟩ := h
  refine g_cast dX12_init_511 i244 h ?_
  clear h
  intro m243 h
  refine v_dup dX12_init_512 rfl ?_
  refine v_iconst (1 : Int32) dX12_init_513 (by decide) ?_
  refine v_bipush (111 : Int32) dX12_init_514 (by decide) ?_
  obtain ⟨i246, h⟩ := h
  refine g_cast dX12_init_516 i246 h ?_
  clear h
  intro m245 h
  refine v_dup dX12_init_517 rfl ?_
  refine v_iconst (2 : Int32) dX12_init_518 (by decide) ?_
  refine v_bipush (119 : Int32) dX12_init_519 (by decide) ?_
  obtain ⟨i248, h⟩ := h
  refine g_cast dX12_init_521 i248 h ?_
  clear h
  intro m247 h
  refine v_dup dX12_init_522 rfl ?_
  refine v_iconst (3 : Int32) dX12_init_523 (by decide) ?_
  refine v_bipush (110 : Int32) dX12_init_524 (by decide) ?_
  obtain ⟨i250, h⟩ := h
  refine g_cast dX12_init_526 i250 h ?_
  clear h
  intro m249 h
  obtain ⟨o251, h⟩ := h
  refine g_qR 12 28 dX12_init_527 fw_RX12_72 o251 rfl (fun _ => rfl) (fun _ => rfl) h ?_
  clear h
  intro m252 h
  refine v_aload_n 0 0 dX12_init_530 rfl rfl ?_
  refine v_iconst (4 : Int32) dX12_init_531 (by decide) ?_
  refine g_newa (atype := .char) (ty := .char) (N := 4) 101 rfl rfl (by decide) (a0c_101 _) (fun _ _ h => h) aw_101 (by decide) (by decide +kernel) (Nat.le_of_ble_eq_true rfl) (Nat.le_of_ble_eq_true rfl) (Nat.le_of_ble_eq_true rfl) dX12_init_532 h ?_
  clear h
  intro sh253 m254 h hl255
  refine v_dup dX12_init_534 rfl ?_
  refine v_iconst (0 : Int32) dX12_init_535 (by decide) ?_
  refine v_bipush (115 : Int32) dX12_init_536 (by decide) ?_
  obtain ⟨i257, h⟩ := h
  refine g_cast dX12_init_538 i257 h ?_
  clear h
  intro m256 h
  refine v_dup dX12_init_539 rfl ?_
  refine v_iconst (1 : Int32) dX12_init_540 (by decide) ?_
  refine v_bipush (116 : Int32) dX12_init_541 (by decide) ?_
  obtain ⟨i259, h⟩ := h
  refine g_cast dX12_init_543 i259 h ?_
  clear h
  intro m258 h
  refine v_dup dX12_init_544 rfl ?_
  refine v_iconst (2 : Int32) dX12_init_545 (by decide) ?_
  refine v_bipush (101 : Int32) dX12_init_546 (by decide) ?_
  obtain ⟨i261, h⟩ := h
  refine g_cast dX12_init_548 i261 h ?_
  clear h
  intro m260 h
  refine v_dup dX12_init_549 rfl ?_
  refine v_iconst (3 : Int32) dX12_init_550 (by decide) ?_
  refine v_bipush (112 : Int32) dX12_init_551 (by decide) ?_
  obtain ⟨i263, h⟩ := h
  refine g_cast dX12_init_553 i263 h ?_
  clear h
  intro m262 h
  obtain ⟨o264, h⟩ := h
  refine g_qR 12 29 dX12_init_554 fw_RX12_75 o264 rfl (fun _ => rfl) (fun _ => rfl) h ?_
  clear h
  intro m265 h
  refine v_aload_n 0 0 dX12_init_557 rfl rfl ?_
  refine v_iconst (3 : Int32) dX12_init_558 (by decide) ?_
  refine g_newa (atype := .char) (ty := .char) (N := 3) 101 rfl rfl (by decide) (a0c_101 _) (fun _ _ h => h) aw_101 (by decide) (by decide +kernel) (Nat.le_of_ble_eq_true rfl) (Nat.le_of_ble_eq_true rfl) (Nat.le_of_ble_eq_true rfl) dX12_init_559 h ?_
  clear h
  intro sh266 m267 h hl268
  refine v_dup dX12_init_561 rfl ?_
  refine v_iconst (0 : Int32) dX12_init_562 (by decide) ?_
  refine v_bipush (119 : Int32) dX12_init_563 (by decide) ?_
  obtain ⟨i270, h⟩ := h
  refine g_cast dX12_init_565 i270 h ?_
  clear h
  intro m269 h
  refine v_dup dX12_init_566 rfl ?_
  refine v_iconst (1 : Int32) dX12_init_567 (by decide) ?_
  refine v_bipush (101 : Int32) dX12_init_568 (by decide) ?_
  obtain ⟨i272, h⟩ := h
  refine g_cast dX12_init_570 i272 h ?_
  clear h
  intro m271 h
  refine v_dup dX12_init_571 rfl ?_
  refine v_iconst (2 : Int32) dX12_init_572 (by decide) ?_
  refine v_bipush (116 : Int32) dX12_init_573 (by decide) ?_
  obtain ⟨i274, h⟩ := h
  refine g_cast dX12_init_575 i274 h ?_
  clear h
  intro m273 h
  obtain ⟨o275, h⟩ := h
  refine g_qR 12 30 dX12_init_576 fw_RX12_78 o275 rfl (fun _ => rfl) (fun _ => rfl) h ?_
  clear h
  intro m276 h
  refine v_aload_n 0 0 dX12_init_579 rfl rfl ?_
  refine v_bipush (6 : Int32) dX12_init_580 (by decide) ?_
  refine g_newa (atype := .char) (ty := .char) (N := 6) 101 rfl rfl (by decide) (a0c_101 _) (fun _ _ h => h) aw_101 (by decide) (by decide +kernel) (Nat.le_of_ble_eq_true rfl) (Nat.le_of_ble_eq_true rfl) (Nat.le_of_ble_eq_true rfl) dX12_init_582 h ?_
  clear h
  intro sh277 m278 h hl279
  refine v_dup dX12_init_584 rfl ?_
  refine v_iconst (0 : Int32) dX12_init_585 (by decide) ?_
  refine v_bipush (110 : Int32) dX12_init_586 (by decide) ?_
  obtain ⟨i281, h⟩ := h
  refine g_cast dX12_init_588 i281 h ?_
  clear h
  intro m280 h
  refine v_dup dX12_init_589 rfl ?_
  refine v_iconst (1 : Int32) dX12_init_590 (by decide) ?_
  refine v_bipush (117 : Int32) dX12_init_591 (by decide) ?_
  obtain ⟨i283, h⟩ := h
  refine g_cast dX12_init_593 i283 h ?_
  clear h
  intro m282 h
  refine v_dup dX12_init_594 rfl ?_
  refine v_iconst (2 : Int32) dX12_init_595 (by decide) ?_
  refine v_bipush (109 : Int32) dX12_init_596 (by decide) ?_
  obtain ⟨i285, h⟩ := h
  refine g_cast dX12_init_598 i285 h ?_
  clear h
  intro m284 h
  refine v_dup dX12_init_599 rfl ?_
  refine v_iconst (3 : Int32) dX12_init_600 (by decide) ?_
  refine v_bipush (98 : Int32) dX12_init_601 (by decide) ?_
  obtain ⟨i287, h⟩ := h
  refine g_cast dX12_init_603 i287 h ?_
  clear h
  intro m286 h
  refine v_dup dX12_init_604 rfl ?_
  refine v_iconst (4 : Int32) dX12_init_605 (by decide) ?_
  refine v_bipush (101 : Int32) dX12_init_606 (by decide) ?_
  obtain ⟨i289, h⟩ := h
  refine g_cast dX12_init_608 i289 h ?_
  clear h
  intro m288 h
  refine v_dup dX12_init_609 rfl ?_
  refine v_iconst (5 : Int32) dX12_init_610 (by decide) ?_
  refine v_bipush (114 : Int32) dX12_init_611 (by decide) ?_
  obtain ⟨i291, h⟩ := h
  refine g_cast dX12_init_613 i291 h ?_
  clear h
  intro m290 h
  obtain ⟨o292, h⟩ := h
  refine g_qR 12 31 dX12_init_614 fw_RX12_81 o292 rfl (fun _ => rfl) (fun _ => rfl) h ?_
  clear h
  intro m293 h
  refine v_aload_n 0 0 dX12_init_617 rfl rfl ?_
  refine v_bipush (6 : Int32) dX12_init_618 (by decide) ?_
  refine g_newa (atype := .char) (ty := .char) (N := 6) 101 rfl rfl (by decide) (a0c_101 _) (fun _ _ h => h) aw_101 (by decide) (by decide +kernel) (Nat.le_of_ble_eq_true rfl) (Nat.le_of_ble_eq_true rfl) (Nat.le_of_ble_eq_true rfl) dX12_init_620 h ?_
  clear h
  intro sh294 m295 h hl296
  refine v_dup dX12_init_622 rfl ?_
  refine v_iconst (0 : Int32) dX12_init_623 (by decide) ?_
  refine v_bipush (99 : Int32) dX12_init_624 (by decide) ?_
  obtain ⟨i298, h⟩ := h
  refine g_cast dX12_init_626 i298 h ?_
  clear h
  intro m297 h
  refine v_dup dX12_init_627 rfl ?_
  refine v_iconst (1 : Int32) dX12_init_628 (by decide) ?_
  refine v_bipush (111 : Int32) dX12_init_629 (by decide) ?_
  obtain ⟨i300, h⟩ := h
  refine g_cast dX12_init_631 i300 h ?_
  clear h
  intro m299 h
  refine v_dup dX12_init_632 rfl ?_
  refine v_iconst (2 : Int32) dX12_init_633 (by decide) ?_
  refine v_bipush (108 : Int32) dX12_init_634 (by decide) ?_
  obtain ⟨i302, h⟩ := h
  refine g_cast dX12_init_636 i302 h ?_
  clear h
  intro m301 h
  refine v_dup dX12_init_637 rfl ?_
  refine v_iconst (3 : Int32) dX12_init_638 (by decide) ?_
  refine v_bipush (117 : Int32) dX12_init_639 (by decide) ?_
  obtain ⟨i304, h⟩ := h
  refine g_cast dX12_init_641 i304 h ?_
  clear h
  intro m303 h
  refine v_dup dX12_init_642 rfl ?_
  refine v_iconst (4 : Int32) dX12_init_643 (by decide) ?_
  refine v_bipush (109 : Int32) dX12_init_644 (by decide) ?_
  obtain ⟨i306, h⟩ := h
  refine g_cast dX12_init_646 i306 h ?_
  clear h
  intro m305 h
  refine v_dup dX12_init_647 rfl ?_
  refine v_iconst (5 : Int32) dX12_init_648 (by decide) ?_
  refine v_bipush (110 : Int32) dX12_init_649 (by decide) ?_
  obtain ⟨i308, h⟩ := h
  refine g_cast dX12_init_651 i308 h ?_
  clear h
  intro m307 h
  obtain ⟨o309, h⟩ := h
  refine g_qR 12 32 dX12_init_652 fw_RX12_84 o309 rfl (fun _ => rfl) (fun _ => rfl) h ?_
  clear h
  intro m310 h
  refine v_aload_n 0 0 dX12_init_655 rfl rfl ?_
  refine v_iconst (3 : Int32) dX12_init_656 (by decide) ?_
  refine g_newa (atype := .char) (ty := .char) (N := 3) 101 rfl rfl (by decide) (a0c_101 _) (fun _ _ h => h) aw_101 (by decide) (by decide +kernel) (Nat.le_of_ble_eq_true rfl) (Nat.le_of_ble_eq_true rfl) (Nat.le_of_ble_eq_true rfl) dX12_init_657 h ?_
  clear h
  intro sh311 m312 h hl313
  refine v_dup dX12_init_659 rfl ?_
  refine v_iconst (0 : Int32) dX12_init_660 (by decide) ?_
  refine v_bipush (114 : Int32) dX12_init_661 (by decide) ?_
  obtain ⟨i315, h⟩ := h
  refine g_cast dX12_init_663 i315 h ?_
  clear h
  intro m314 h
  refine v_dup dX12_init_664 rfl ?_
  refine v_iconst (1 : Int32) dX12_init_665 (by decide) ?_
  refine v_bipush (111 : Int32) dX12_init_666 (by decide) ?_
  obtain ⟨i317, h⟩ := h
  refine g_cast dX12_init_668 i317 h ?_
  clear h
  intro m316 h
  refine v_dup dX12_init_669 rfl ?_
  refine v_iconst (2 : Int32) dX12_init_670 (by decide) ?_
  refine v_bipush (119 : Int32) dX12_init_671 (by decide) ?_
  obtain ⟨i319, h⟩ := h
  refine g_cast dX12_init_673 i319 h ?_
  clear h
  intro m318 h
  obtain ⟨o320, h⟩ := h
  refine g_qR 12 33 dX12_init_674 fw_RX12_87 o320 rfl (fun _ => rfl) (fun _ => rfl) h ?_
  clear h
  intro m321 h
  refine v_aload_n 0 0 dX12_init_677 rfl rfl ?_
  refine v_iconst (5 : Int32) dX12_init_678 (by decide) ?_
  refine g_newa (atype := .char) (ty := .char) (N := 5) 101 rfl rfl (by decide) (a0c_101 _) (fun _ _ h => h) aw_101 (by decide) (by decide +kernel) (Nat.le_of_ble_eq_true rfl) (Nat.le_of_ble_eq_true rfl) (Nat.le_of_ble_eq_true rfl) dX12_init_679 h ?_
  clear h
  intro sh322 m323 h hl324
  refine v_dup dX12_init_681 rfl ?_
  refine v_iconst (0 : Int32) dX12_init_682 (by decide) ?_
  refine v_bipush (102 : Int32) dX12_init_683 (by decide) ?_
  obtain ⟨i326, h⟩ := h
  refine g_cast dX12_init_685 i326 h ?_
  clear h
  intro m325 h
  refine v_dup dX12_init_686 rfl ?_
  refine v_iconst (1 : Int32) dX12_init_687 (by decide) ?_
  refine v_bipush (105 : Int32) dX12_init_688 (by decide) ?_
  obtain ⟨i328, h⟩ := h
  refine g_cast dX12_init_690 i328 h ?_
  clear h
  intro m327 h
  refine v_dup dX12_init_691 rfl ?_
  refine v_iconst (2 : Int32) dX12_init_692 (by decide) ?_
  refine v_bipush (114 : Int32) dX12_init_693 (by decide) ?_
  obtain ⟨i330, h⟩ := h
  refine g_cast dX12_init_695 i330 h ?_
  clear h
  intro m329 h
  refine v_dup dX12_init_696 rfl ?_
  refine v_iconst (3 : Int32) dX12_init_697 (by decide) ?_
  refine v_bipush (115 : Int32) dX12_init_698 (by decide) ?_
  obtain ⟨i332, h⟩ := h
  refine g_cast dX12_init_700 i332 h ?_
  clear h
  intro m331 h
  refine v_dup dX12_init_701 rfl ?_
  refine v_iconst (4 : Int32) dX12_init_702 (by decide) ?_
  refine v_bipush (116 : Int32) dX12_init_703 (by decide) ?_
  obtain ⟨i334, h⟩ := h
  refine g_cast dX12_init_705 i334 h ?_
  clear h
  intro m333 h
  obtain ⟨o335, h⟩ := h
  refine g_qR 12 34 dX12_init_706 fw_RX12_90 o335 rfl (fun _ => rfl) (fun _ => rfl) h ?_
  clear h
  intro m336 h
  refine v_aload_n 0 0 dX12_init_709 rfl rfl ?_
  refine v_iconst (2 : Int32) dX12_init_710 (by decide) ?_
  refine g_newa (atype := .char) (ty := .char) (N := 2) 101 rfl rfl (by decide) (a0c_101 _) (fun _ _ h => h) aw_101 (by decide) (by decide +kernel) (Nat.le_of_ble_eq_true rfl) (Nat.le_of_ble_eq_true rfl) (Nat.le_of_ble_eq_true rfl) dX12_init_711 h ?_
  clear h
  intro sh337 m338 h hl339
  refine v_dup dX12_init_713 rfl ?_
  refine v_iconst (0 : Int32) dX12_init_714 (by decide) ?_
  refine v_bipush (111 : Int32) dX12_init_715 (by decide) ?_
  obtain ⟨i341, h⟩ := h
  refine g_cast dX12_init_717 i341 h ?_
  clear h
  intro m340 h
  refine v_dup dX12_init_718 rfl ?_
  refine v_iconst (1 : Int32) dX12_init_719 (by decide) ?_
  refine v_bipush (114 : Int32) dX12_init_720 (by decide) ?_
  obtain ⟨i343, h⟩ := h
  refine g_cast dX12_init_722 i343 h ?_
  clear h
  intro m342 h
  obtain ⟨o344, h⟩ := h
  refine g_qR 12 35 dX12_init_723 fw_RX12_93 o344 rfl (fun _ => rfl) (fun _ => rfl) h ?_
  clear h
  intro m345 h
  refine v_aload_n 0 0 dX12_init_726 rfl rfl ?_
  refine v_iconst (3 : Int32) dX12_init_727 (by decide) ?_
  refine g_newa (atype := .char) (ty := .char) (N := 3) 101 rfl rfl (by decide) (a0c_101 _) (fun _ _ h => h) aw_101 (by decide) (by decide +kernel) (Nat.le_of_ble_eq_true rfl) (Nat.le_of_ble_eq_true rfl) (Nat.le_of_ble_eq_true rfl) dX12_init_728 h ?_
  clear h
  intro sh346 m347 h hl348
  refine v_dup dX12_init_730 rfl ?_
  refine v_iconst (0 : Int32) dX12_init_731 (by decide) ?_
  refine v_bipush (97 : Int32) dX12_init_732 (by decide) ?_
  obtain ⟨i350, h⟩ := h
  refine g_cast dX12_init_734 i350 h ?_
  clear h
  intro m349 h
  refine v_dup dX12_init_735 rfl ?_
  refine v_iconst (1 : Int32) dX12_init_736 (by decide) ?_
  refine v_bipush (110 : Int32) dX12_init_737 (by decide) ?_
  obtain ⟨i352, h⟩ := h
  refine g_cast dX12_init_739 i352 h ?_
  clear h
  intro m351 h
  refine v_dup dX12_init_740 rfl ?_
  refine v_iconst (2 : Int32) dX12_init_741 (by decide) ?_
  refine v_bipush (100 : Int32) dX12_init_742 (by decide) ?_
  obtain ⟨i354, h⟩ := h
  refine g_cast dX12_init_744 i354 h ?_
  clear h
  intro m353 h
  obtain ⟨o355, h⟩ := h
  refine g_qR 12 36 dX12_init_745 fw_RX12_96 o355 rfl (fun _ => rfl) (fun _ => rfl) h ?_
  clear h
  intro m356 h
  refine v_aload_n 0 0 dX12_init_748 rfl rfl ?_
  refine v_iconst (3 : Int32) dX12_init_749 (by decide) ?_
  refine g_newa (atype := .char) (ty := .char) (N := 3) 101 rfl rfl (by decide) (a0c_101 _) (fun _ _ h => h) aw_101 (by decide) (by decide +kernel) (Nat.le_of_ble_eq_true rfl) (Nat.le_of_ble_eq_true rfl) (Nat.le_of_ble_eq_true rfl) dX12_init_750 h ?_
  clear h
  intro sh357 m358 h hl359
  refine v_dup dX12_init_752 rfl ?_
  refine v_iconst (0 : Int32) dX12_init_753 (by decide) ?_
  refine v_bipush (110 : Int32) dX12_init_754 (by decide) ?_
  obtain ⟨i361, h⟩ := h
  refine g_cast dX12_init_756 i361 h ?_
  clear h
  intro m360 h
  refine v_dup dX12_init_757 rfl ?_
  refine v_iconst (1 : Int32) dX12_init_758 (by decide) ?_
  refine v_bipush (111 : Int32) dX12_init_759 (by decide) ?_
  obtain ⟨i363, h⟩ := h
  refine g_cast dX12_init_761 i363 h ?_
  clear h
  intro m362 h
  refine v_dup dX12_init_762 rfl ?_
  refine v_iconst (2 : Int32) dX12_init_763 (by decide) ?_
  refine v_bipush (116 : Int32) dX12_init_764 (by decide) ?_
  obtain ⟨i365, h⟩ := h
  refine g_cast dX12_init_766 i365 h ?_
  clear h
  intro m364 h
  obtain ⟨o366, h⟩ := h
  refine g_qR 12 37 dX12_init_767 fw_RX12_99 o366 rfl (fun _ => rfl) (fun _ => rfl) h ?_
  clear h
  intro m367 h
  refine v_aload_n 0 0 dX12_init_770 rfl rfl ?_
  refine v_iconst (3 : Int32) dX12_init_771 (by decide) ?_
  refine g_newa (atype := .char) (ty := .char) (N := 3) 101 rfl rfl (by decide) (a0c_101 _) (fun _ _ h => h) aw_101 (by decide) (by decide +kernel) (Nat.le_of_ble_eq_true rfl) (Nat.le_of_ble_eq_true rfl) (Nat.le_of_ble_eq_true rfl) dX12_init_772 h ?_
  clear h
  intro sh368 m369 h hl370
  refine v_dup dX12_init_774 rfl ?_
  refine v_iconst (0 : Int32) dX12_init_775 (by decide) ?_
  refine v_bipush (97 : Int32) dX12_init_776 (by decide) ?_
  obtain ⟨i372, h⟩ := h
  refine g_cast dX12_init_778 i372 h ?_
  clear h
  intro m371 h
  refine v_dup dX12_init_779 rfl ?_
  refine v_iconst (1 : Int32) dX12_init_780 (by decide) ?_
  refine v_bipush (108 : Int32) dX12_init_781 (by decide) ?_
  obtain ⟨i374, h⟩ := h
  refine g_cast dX12_init_783 i374 h ?_
  clear h
  intro m373 h
  refine v_dup dX12_init_784 rfl ?_
  refine v_iconst (2 : Int32) dX12_init_785 (by decide) ?_
  refine v_bipush (108 : Int32) dX12_init_786 (by decide) ?_
  obtain ⟨i376, h⟩ := h
  refine g_cast dX12_init_788 i376 h ?_
  clear h
  intro m375 h
  obtain ⟨o377, h⟩ := h
  refine g_qR 12 38 dX12_init_789 fw_RX12_102 o377 rfl (fun _ => rfl) (fun _ => rfl) h ?_
  clear h
  intro m378 h
  refine v_aload_n 0 0 dX12_init_792 rfl rfl ?_
  refine v_iconst (3 : Int32) dX12_init_793 (by decide) ?_
  refine g_newa (atype := .char) (ty := .char) (N := 3) 101 rfl rfl (by decide) (a0c_101 _) (fun _ _ h => h) aw_101 (by decide) (by decide +kernel) (Nat.le_of_ble_eq_true rfl) (Nat.le_of_ble_eq_true rfl) (Nat.le_of_ble_eq_true rfl) dX12_init_794 h ?_
  clear h
  intro sh379 m380 h hl381
  refine v_dup dX12_init_796 rfl ?_
  refine v_iconst (0 : Int32) dX12_init_797 (by decide) ?_
  refine v_bipush (109 : Int32) dX12_init_798 (by decide) ?_
  obtain ⟨i383, h⟩ := h
  refine g_cast dX12_init_800 i383 h ?_
  clear h
  intro m382 h
  refine v_dup dX12_init_801 rfl ?_
  refine v_iconst (1 : Int32) dX12_init_802 (by decide) ?_
  refine v_bipush (105 : Int32) dX12_init_803 (by decide) ?_
  obtain ⟨i385, h⟩ := h
  refine g_cast dX12_init_805 i385 h ?_
  clear h
  intro m384 h
  refine v_dup dX12_init_806 rfl ?_
  refine v_iconst (2 : Int32) dX12_init_807 (by decide) ?_
  refine v_bipush (110 : Int32) dX12_init_808 (by decide) ?_
  obtain ⟨i387, h⟩ := h
  refine g_cast dX12_init_810 i387 h ?_
  clear h
  intro m386 h
  obtain ⟨o388, h⟩ := h
  refine g_qR 12 39 dX12_init_811 fw_RX12_105 o388 rfl (fun _ => rfl) (fun _ => rfl) h ?_
  clear h
  intro m389 h
  refine v_aload_n 0 0 dX12_init_814 rfl rfl ?_
  refine v_iconst (3 : Int32) dX12_init_815 (by decide) ?_
  refine g_newa (atype := .char) (ty := .char) (N := 3) 101 rfl rfl (by decide) (a0c_101 _) (fun _ _ h => h) aw_101 (by decide) (by decide +kernel) (Nat.le_of_ble_eq_true rfl) (Nat.le_of_ble_eq_true rfl) (Nat.le_of_ble_eq_true rfl) dX12_init_816 h ?_
  clear h
  intro sh390 m391 h hl392
  refine v_dup dX12_init_818 rfl ?_
  refine v_iconst (0 : Int32) dX12_init_819 (by decide) ?_
  refine v_bipush (109 : Int32) dX12_init_820 (by decide) ?_
  obtain ⟨i394, h⟩ := h
  refine g_cast dX12_init_822 i394 h ?_
  clear h
  intro m393 h
  refine v_dup dX12_init_823 rfl ?_
  refine v_iconst (1 : Int32) dX12_init_824 (by decide) ?_
  refine v_bipush (97 : Int32) dX12_init_825 (by decide) ?_
  obtain ⟨i396, h⟩ := h
  refine g_cast dX12_init_827 i396 h ?_
  clear h
  intro m395 h
  refine v_dup dX12_init_828 rfl ?_
  refine v_iconst (2 : Int32) dX12_init_829 (by decide) ?_
  refine v_bipush (120 : Int32) dX12_init_830 (by decide) ?_
  obtain ⟨i398, h⟩ := h
  refine g_cast dX12_init_832 i398 h ?_
  clear h
  intro m397 h
  obtain ⟨o399, h⟩ := h
  refine g_qR 12 40 dX12_init_833 fw_RX12_108 o399 rfl (fun _ => rfl) (fun _ => rfl) h ?_
  clear h
  intro m400 h
  refine v_aload_n 0 0 dX12_init_836 rfl rfl ?_
  refine v_iconst (4 : Int32) dX12_init_837 (by decide) ?_
  refine g_newa (atype := .int) (ty := .int) (N := 4) 100 rfl rfl (by decide) (a0c_100 _) (fun _ _ h => h) aw_100 (by decide) (by decide +kernel) (Nat.le_of_ble_eq_true rfl) (Nat.le_of_ble_eq_true rfl) (Nat.le_of_ble_eq_true rfl) dX12_init_838 h ?_
  clear h
  intro sh401 m402 h hl403
  obtain ⟨o404, h⟩ := h
  refine g_qR 12 42 dX12_init_840 fw_RX12_111 o404 rfl (fun _ => rfl) (fun _ => rfl) h ?_
  clear h
  intro m405 h
  refine v_aload_n 0 0 dX12_init_843 rfl rfl ?_
  refine v_iconst (4 : Int32) dX12_init_844 (by decide) ?_
  refine g_newa (atype := .int) (ty := .int) (N := 4) 100 rfl rfl (by decide) (a0c_100 _) (fun _ _ h => h) aw_100 (by decide) (by decide +kernel) (Nat.le_of_ble_eq_true rfl) (Nat.le_of_ble_eq_true rfl) (Nat.le_of_ble_eq_true rfl) dX12_init_845 h ?_
  clear h
  intro sh406 m407 h hl408
  obtain ⟨o409, h⟩ := h
  refine g_qR 12 45 dX12_init_847 fw_RX12_114 o409 rfl (fun _ => rfl) (fun _ => rfl) h ?_
  clear h
  intro m410 h
  refine v_aload_n 0 0 dX12_init_850 rfl rfl ?_
  refine v_bipush (32 : Int32) dX12_init_851 (by decide) ?_
  refine g_newa (atype := .long) (ty := .long) (N := 32) 103 rfl rfl (by decide) (a0c_103 _) (fun _ _ h => h) aw_103 (by decide) (by decide +kernel) (Nat.le_of_ble_eq_true rfl) (Nat.le_of_ble_eq_true rfl) (Nat.le_of_ble_eq_true rfl) dX12_init_853 h ?_
  clear h
  intro sh411 m412 h hl413
  obtain ⟨o414, h⟩ := h
  refine g_qR 12 46 dX12_init_855 fw_RX12_117 o414 rfl (fun _ => rfl) (fun _ => rfl) h ?_
  clear h
  intro m415 h
  refine v_aload_n 0 0 dX12_init_858 rfl rfl ?_
  refine v_bipush (36 : Int32) dX12_init_859 (by decide) ?_
  refine g_newa (atype := .int) (ty := .int) (N := 36) 100 rfl rfl (by decide) (a0c_100 _) (fun _ _ h => h) aw_100 (by decide) (by decide +kernel) (Nat.le_of_ble_eq_true rfl) (Nat.le_of_ble_eq_true rfl) (Nat.le_of_ble_eq_true rfl) dX12_init_861 h ?_
  clear h
  intro sh416 m417 h hl418
  obtain ⟨o419, h⟩ := h
  refine g_qR 12 47 dX12_init_863 fw_RX12_121 o419 rfl (fun _ => rfl) (fun _ => rfl) h ?_
  clear h
  intro m420 h
  refine v_aload_n 0 0 dX12_init_866 rfl rfl ?_
  refine v_bipush (20 : Int32) dX12_init_867 (by decide) ?_
  refine g_newa (atype := .int) (ty := .int) (N := 20) 100 rfl rfl (by decide) (a0c_100 _) (fun _ _ h => h) aw_100 (by decide) (by decide +kernel) (Nat.le_of_ble_eq_true rfl) (Nat.le_of_ble_eq_true rfl) (Nat.le_of_ble_eq_true rfl) dX12_init_869 h ?_
  clear h
  intro sh421 m422 h hl423
  obtain ⟨o424, h⟩ := h
  refine g_qR 12 48 dX12_init_871 fw_RX12_124 o424 rfl (fun _ => rfl) (fun _ => rfl) h ?_
  clear h
  intro m425 h
  refine v_aload_n 0 0 dX12_init_874 rfl rfl ?_
  refine v_bipush (36 : Int32) dX12_init_875 (by decide) ?_
  refine g_newa (atype := .int) (ty := .int) (N := 36) 100 rfl rfl (by decide) (a0c_100 _) (fun _ _ h => h) aw_100 (by decide) (by decide +kernel) (Nat.le_of_ble_eq_true rfl) (Nat.le_of_ble_eq_true rfl) (Nat.le_of_ble_eq_true rfl) dX12_init_877 h ?_
  clear h
  intro sh426 m427 h hl428
  obtain ⟨o429, h⟩ := h
  refine g_qR 12 49 dX12_init_879 fw_RX12_127 o429 rfl (fun _ => rfl) (fun _ => rfl) h ?_
  clear h
  intro m430 h
  refine v_aload_n 0 0 dX12_init_882 rfl rfl ?_
  refine v_bipush (36 : Int32) dX12_init_883 (by decide) ?_
  refine g_newa (atype := .boolean) (ty := .boolean) (N := 36) 102 rfl rfl (by decide) (a0c_102 _) (fun _ _ h => h) aw_102 (by decide) (by decide +kernel) (Nat.le_of_ble_eq_true rfl) (Nat.le_of_ble_eq_true rfl) (Nat.le_of_ble_eq_true rfl) dX12_init_885 h ?_
  clear h
  intro sh431 m432 h hl433
  obtain ⟨o434, h⟩ := h
  refine g_qR 12 50 dX12_init_887 fw_RX12_130 o434 rfl (fun _ => rfl) (fun _ => rfl) h ?_
  clear h
  intro m435 h
  refine v_aload_n 0 0 dX12_init_890 rfl rfl ?_
  refine v_iconst (4 : Int32) dX12_init_891 (by decide) ?_
  refine g_newa (atype := .int) (ty := .int) (N := 4) 100 rfl rfl (by decide) (a0c_100 _) (fun _ _ h => h) aw_100 (by decide) (by decide +kernel) (Nat.le_of_ble_eq_true rfl) (Nat.le_of_ble_eq_true rfl) (Nat.le_of_ble_eq_true rfl) dX12_init_892 h ?_
  clear h
  intro sh436 m437 h hl438
  refine v_dup dX12_init_894 rfl ?_
  refine v_iconst (0 : Int32) dX12_init_895 (by decide) ?_
  refine v_iconst (-1 : Int32) dX12_init_896 (by decide) ?_
  obtain ⟨i440, h⟩ := h
  refine g_iast dX12_init_897 i440 h ?_
  clear h
  intro m439 h
  refine v_dup dX12_init_898 rfl ?_
  refine v_iconst (1 : Int32) dX12_init_899 (by decide) ?_
  refine v_iconst (-1 : Int32) dX12_init_900 (by decide) ?_
  obtain ⟨i442, h⟩ := h
  refine g_iast dX12_init_901 i442 h ?_
  clear h
  intro m441 h
  refine v_dup dX12_init_902 rfl ?_
  refine v_iconst (2 : Int32) dX12_init_903 (by decide) ?_
  refine v_iconst (-1 : Int32) dX12_init_904 (by decide) ?_
  obtain ⟨i444, h⟩ := h
  refine g_iast dX12_init_905 i444 h ?_
  clear h
  intro m443 h
  refine v_dup dX12_init_906 rfl ?_
  refine v_iconst (3 : Int32) dX12_init_907 (by decide) ?_
  refine v_iconst (-1 : Int32) dX12_init_908 (by decide) ?_
  obtain ⟨i446, h⟩ := h
  refine g_iast dX12_init_909 i446 h ?_
  clear h
  intro m445 h
  obtain ⟨o447, h⟩ := h
  refine g_qR 12 51 dX12_init_910 fw_RX12_134 o447 rfl (fun _ => rfl) (fun _ => rfl) h ?_
  clear h
  intro m448 h
  refine v_aload_n 0 0 dX12_init_913 rfl rfl ?_
  refine v_iconst (4 : Int32) dX12_init_914 (by decide) ?_
  refine g_newa (atype := .int) (ty := .int) (N := 4) 100 rfl rfl (by decide) (a0c_100 _) (fun _ _ h => h) aw_100 (by decide) (by decide +kernel) (Nat.le_of_ble_eq_true rfl) (Nat.le_of_ble_eq_true rfl) (Nat.le_of_ble_eq_true rfl) dX12_init_915 h ?_
  clear h
  intro sh449 m450 h hl451
  obtain ⟨o452, h⟩ := h
  refine g_qR 12 52 dX12_init_917 fw_RX12_137 o452 rfl (fun _ => rfl) (fun _ => rfl) h ?_
  clear h
  intro m453 h
  refine v_aload_n 0 0 dX12_init_920 rfl rfl ?_
  refine v_sipush (3200 : Int32) dX12_init_921 (by decide) ?_
  refine g_newa (atype := .int) (ty := .int) (N := 3200) 100 rfl rfl (by decide) (a0c_100 _) (fun _ _ h => h) aw_100 (by decide) (by decide +kernel) (Nat.le_of_ble_eq_true rfl) (Nat.le_of_ble_eq_true rfl) (Nat.le_of_ble_eq_true rfl) dX12_init_924 h ?_
  clear h
  intro sh454 m455 h hl456
  obtain ⟨o457, h⟩ := h
  refine g_qR 12 53 dX12_init_926 fw_RX12_140 o457 rfl (fun _ => rfl) (fun _ => rfl) h ?_
  clear h
  intro m458 h
  refine v_aload_n 0 0 dX12_init_929 rfl rfl ?_
  refine v_sipush (236 : Int32) dX12_init_930 (by decide) ?_
  refine g_newa (atype := .int) (ty := .int) (N := 236) 100 rfl rfl (by decide) (a0c_100 _) (fun _ _ h => h) aw_100 (by decide) (by decide +kernel) (Nat.le_of_ble_eq_true rfl) (Nat.le_of_ble_eq_true rfl) (Nat.le_of_ble_eq_true rfl) dX12_init_933 h ?_
  clear h
  intro sh459 m460 h hl461
  obtain ⟨o462, h⟩ := h
  refine g_qR 12 58 dX12_init_935 fw_RX12_143 o462 rfl (fun _ => rfl) (fun _ => rfl) h ?_
  clear h
  intro m463 h
  refine v_aload_n 0 0 dX12_init_938 rfl rfl ?_
  refine v_bipush (36 : Int32) dX12_init_939 (by decide) ?_
  refine g_newa (atype := .int) (ty := .int) (N := 36) 100 rfl rfl (by decide) (a0c_100 _) (fun _ _ h => h) aw_100 (by decide) (by decide +kernel) (Nat.le_of_ble_eq_true rfl) (Nat.le_of_ble_eq_true rfl) (Nat.le_of_ble_eq_true rfl) dX12_init_941 h ?_
  clear h
  intro sh464 m465 h hl466
  obtain ⟨o467, h⟩ := h
  refine g_qR 12 63 dX12_init_943 fw_RX12_146 o467 rfl (fun _ => rfl) (fun _ => rfl) h ?_
  clear h
  intro m468 h
  refine v_aload_n 0 0 dX12_init_946 rfl rfl ?_
  refine v_bipush (36 : Int32) dX12_init_947 (by decide) ?_
  refine g_newa (atype := .int) (ty := .int) (N := 36) 100 rfl rfl (by decide) (a0c_100 _) (fun _ _ h => h) aw_100 (by decide) (by decide +kernel) (Nat.le_of_ble_eq_true rfl) (Nat.le_of_ble_eq_true rfl) (Nat.le_of_ble_eq_true rfl) dX12_init_949 h ?_
  clear h
  intro sh469 m470 h hl471
  obtain ⟨o472, h⟩ := h
  refine g_qR 12 65 dX12_init_951 fw_RX12_149 o472 rfl (fun _ => rfl) (fun _ => rfl) h ?_
  clear h
  intro m473 h
  refine v_aload_n 0 0 dX12_init_954 rfl rfl ?_
  refine v_bipush (30 : Int32) dX12_init_955 (by decide) ?_
  refine g_newa (atype := .int) (ty := .int) (N := 30) 100 rfl rfl (by decide) (a0c_100 _) (fun _ _ h => h) aw_100 (by decide) (by decide +kernel) (Nat.le_of_ble_eq_true rfl) (Nat.le_of_ble_eq_true rfl) (Nat.le_of_ble_eq_true rfl) dX12_init_957 h ?_
  clear h
  intro sh474 m475 h hl476
  obtain ⟨o477, h⟩ := h
  refine g_qR 12 66 dX12_init_959 fw_RX12_152 o477 rfl (fun _ => rfl) (fun _ => rfl) h ?_
  clear h
  intro m478 h
  refine v_aload_n 0 0 dX12_init_962 rfl rfl ?_
  refine v_sipush (2304 : Int32) dX12_init_963 (by decide) ?_
  refine g_newa (atype := .boolean) (ty := .boolean) (N := 2304) 102 rfl rfl (by decide) (a0c_102 _) (fun _ _ h => h) aw_102 (by decide) (by decide +kernel) (Nat.le_of_ble_eq_true rfl) (Nat.le_of_ble_eq_true rfl) (Nat.le_of_ble_eq_true rfl) dX12_init_966 h ?_
  clear h
  intro sh479 m480 h hl481
  obtain ⟨o482, h⟩ := h
  refine g_qR 12 67 dX12_init_968 fw_RX12_155 o482 rfl (fun _ => rfl) (fun _ => rfl) h ?_
  clear h
  intro m483 h
  refine v_aload_n 0 0 dX12_init_971 rfl rfl ?_
  refine v_sipush (2304 : Int32) dX12_init_972 (by decide) ?_
  refine g_newa (atype := .boolean) (ty := .boolean) (N := 2304) 102 rfl rfl (by decide) (a0c_102 _) (fun _ _ h => h) aw_102 (by decide) (by decide +kernel) (Nat.le_of_ble_eq_true rfl) (Nat.le_of_ble_eq_true rfl) (Nat.le_of_ble_eq_true rfl) dX12_init_975 h ?_
  clear h
  intro sh484 m485 h hl486
  obtain ⟨o487, h⟩ := h
  refine g_qR 12 68 dX12_init_977 fw_RX12_158 o487 rfl (fun _ => rfl) (fun _ => rfl) h ?_
  clear h
  intro m488 h
  refine v_aload_n 0 0 dX12_init_980 rfl rfl ?_
  refine v_bipush (64 : Int32) dX12_init_981 (by decide) ?_
  refine g_newa (atype := .boolean) (ty := .boolean) (N := 64) 102 rfl rfl (by decide) (a0c_102 _) (fun _ _ h => h) aw_102 (by decide) (by decide +kernel) (Nat.le_of_ble_eq_true rfl) (Nat.le_of_ble_eq_true rfl) (Nat.le_of_ble_eq_true rfl) dX12_init_983 h ?_
  clear h
  intro sh489 m490 h hl491
  obtain ⟨o492, h⟩ := h
  refine g_qR 12 69 dX12_init_985 fw_RX12_161 o492 rfl (fun _ => rfl) (fun _ => rfl) h ?_
  clear h
  intro m493 h
  refine v_aload_n 0 0 dX12_init_988 rfl rfl ?_
  refine v_sipush (384 : Int32) dX12_init_989 (by decide) ?_
  refine g_newa (atype := .int) (ty := .int) (N := 384) 100 rfl rfl (by decide) (a0c_100 _) (fun _ _ h => h) aw_100 (by decide) (by decide +kernel) (Nat.le_of_ble_eq_true rfl) (Nat.le_of_ble_eq_true rfl) (Nat.le_of_ble_eq_true rfl) dX12_init_992 h ?_
  clear h
  intro sh494 m495 h hl496
  obtain ⟨o497, h⟩ := h
  refine g_qR 12 70 dX12_init_994 fw_RX12_164 o497 rfl (fun _ => rfl) (fun _ => rfl) h ?_
  clear h
  intro m498 h
  refine v_aload_n 0 0 dX12_init_997 rfl rfl ?_
  refine v_bipush (6 : Int32) dX12_init_998 (by decide) ?_
  refine g_newa (atype := .int) (ty := .int) (N := 6) 100 rfl rfl (by decide) (a0c_100 _) (fun _ _ h => h) aw_100 (by decide) (by decide +kernel) (Nat.le_of_ble_eq_true rfl) (Nat.le_of_ble_eq_true rfl) (Nat.le_of_ble_eq_true rfl) dX12_init_1000 h ?_
  clear h
  intro sh499 m500 h hl501
  obtain ⟨o502, h⟩ := h
  refine g_qR 12 71 dX12_init_1002 fw_RX12_167 o502 rfl (fun _ => rfl) (fun _ => rfl) h ?_
  clear h
  intro m503 h
  refine v_aload_n 0 0 dX12_init_1005 rfl rfl ?_
  refine v_bipush (36 : Int32) dX12_init_1006 (by decide) ?_
  refine g_newa (atype := .int) (ty := .int) (N := 36) 100 rfl rfl (by decide) (a0c_100 _) (fun _ _ h => h) aw_100 (by decide) (by decide +kernel) (Nat.le_of_ble_eq_true rfl) (Nat.le_of_ble_eq_true rfl) (Nat.le_of_ble_eq_true rfl) dX12_init_1008 h ?_
  clear h
  intro sh504 m505 h hl506
  obtain ⟨o507, h⟩ := h
  refine g_qR 12 72 dX12_init_1010 fw_RX12_170 o507 rfl (fun _ => rfl) (fun _ => rfl) h ?_
  clear h
  intro m508 h
  refine v_aload_n 0 0 dX12_init_1013 rfl rfl ?_
  refine v_bipush (36 : Int32) dX12_init_1014 (by decide) ?_
  refine g_newa (atype := .int) (ty := .int) (N := 36) 100 rfl rfl (by decide) (a0c_100 _) (fun _ _ h => h) aw_100 (by decide) (by decide +kernel) (Nat.le_of_ble_eq_true rfl) (Nat.le_of_ble_eq_true rfl) (Nat.le_of_ble_eq_true rfl) dX12_init_1016 h ?_
  clear h
  intro sh509 m510 h hl511
  obtain ⟨o512, h⟩ := h
  refine g_qR 12 73 dX12_init_1018 fw_RX12_173 o512 rfl (fun _ => rfl) (fun _ => rfl) h ?_
  clear h
  intro m513 h
  refine v_aload_n 0 0 dX12_init_1021 rfl rfl ?_
  refine v_bipush (32 : Int32) dX12_init_1022 (by decide) ?_
  refine g_newa (atype := .int) (ty := .int) (N := 32) 100 rfl rfl (by decide) (a0c_100 _) (fun _ _ h => h) aw_100 (by decide) (by decide +kernel) (Nat.le_of_ble_eq_true rfl) (Nat.le_of_ble_eq_true rfl) (Nat.le_of_ble_eq_true rfl) dX12_init_1024 h ?_
  clear h
  intro sh514 m515 h hl516
  obtain ⟨o517, h⟩ := h
  refine g_qR 12 75 dX12_init_1026 fw_RX12_176 o517 rfl (fun _ => rfl) (fun _ => rfl) h ?_
  clear h
  intro m518 h
  refine v_aload_n 0 0 dX12_init_1029 rfl rfl ?_
  refine v_sipush (205 : Int32) dX12_init_1030 (by decide) ?_
  refine g_newa (atype := .int) (ty := .int) (N := 205) 100 rfl rfl (by decide) (a0c_100 _) (fun _ _ h => h) aw_100 (by decide) (by decide +kernel) (Nat.le_of_ble_eq_true rfl) (Nat.le_of_ble_eq_true rfl) (Nat.le_of_ble_eq_true rfl) dX12_init_1033 h ?_
  clear h
  intro sh519 m520 h hl521
  obtain ⟨o522, h⟩ := h
  refine g_qR 12 76 dX12_init_1035 fw_RX12_179 o522 rfl (fun _ => rfl) (fun _ => rfl) h ?_
  clear h
  intro m523 h
  refine v_aload_n 0 0 dX12_init_1038 rfl rfl ?_
  refine v_sipush (4720 : Int32) dX12_init_1039 (by decide) ?_
  refine g_newa (atype := .int) (ty := .int) (N := 4720) 100 rfl rfl (by decide) (a0c_100 _) (fun _ _ h => h) aw_100 (by decide) (by decide +kernel) (Nat.le_of_ble_eq_true rfl) (Nat.le_of_ble_eq_true rfl) (Nat.le_of_ble_eq_true rfl) dX12_init_1042 h ?_
  clear h
  intro sh524 m525 h hl526
  obtain ⟨o527, h⟩ := h
  refine g_qR 12 77 dX12_init_1044 fw_RX12_182 o527 rfl (fun _ => rfl) (fun _ => rfl) h ?_
  clear h
  intro m528 h
  refine v_aload_n 0 0 dX12_init_1047 rfl rfl ?_
  refine v_lconst (1 : Int64) dX12_init_1048 (by decide) ?_
  obtain ⟨o529, h⟩ := h
  refine g_pL 12 80 dX12_init_1049 fw_RX12_185 o529 h ?_
  clear h
  intro m530 h
  refine v_aload_n 0 0 dX12_init_1052 rfl rfl ?_
  refine v_iconst (5 : Int32) dX12_init_1053 (by decide) ?_
  refine g_newa (atype := .char) (ty := .char) (N := 5) 101 rfl rfl (by decide) (a0c_101 _) (fun _ _ h => h) aw_101 (by decide) (by decide +kernel) (Nat.le_of_ble_eq_true rfl) (Nat.le_of_ble_eq_true rfl) (Nat.le_of_ble_eq_true rfl) dX12_init_1054 h ?_
  clear h
  intro sh531 m532 h hl533
  refine v_dup dX12_init_1056 rfl ?_
  refine v_iconst (0 : Int32) dX12_init_1057 (by decide) ?_
  refine v_bipush (102 : Int32) dX12_init_1058 (by decide) ?_
  obtain ⟨i535, h⟩ := h
  refine g_cast dX12_init_1060 i535 h ?_
  clear h
  intro m534 h
  refine v_dup dX12_init_1061 rfl ?_
  refine v_iconst (1 : Int32) dX12_init_1062 (by decide) ?_
  refine v_bipush (105 : Int32) dX12_init_1063 (by decide) ?_
  obtain ⟨i537, h⟩ := h
  refine g_cast dX12_init_1065 i537 h ?_
  clear h
  intro m536 h
  refine v_dup dX12_init_1066 rfl ?_
  refine v_iconst (2 : Int32) dX12_init_1067 (by decide) ?_
  refine v_bipush (114 : Int32) dX12_init_1068 (by decide) ?_
  obtain ⟨i539, h⟩ := h
  refine g_cast dX12_init_1070 i539 h ?_
  clear h
  intro m538 h
  refine v_dup dX12_init_1071 rfl ?_
  refine v_iconst (3 : Int32) dX12_init_1072 (by decide) ?_
  refine v_bipush (115 : Int32) dX12_init_1073 (by decide) ?_
  obtain ⟨i541, h⟩ := h
  refine g_cast dX12_init_1075 i541 h ?_
  clear h
  intro m540 h
  refine v_dup dX12_init_1076 rfl ?_
  refine v_iconst (4 : Int32) dX12_init_1077 (by decide) ?_
  refine v_bipush (116 : Int32) dX12_init_1078 (by decide) ?_
  obtain ⟨i543, h⟩ := h
  refine g_cast dX12_init_1080 i543 h ?_
  clear h
  intro m542 h
  obtain ⟨o544, h⟩ := h
  refine g_qR 12 81 dX12_init_1081 fw_RX12_189 o544 rfl (fun _ => rfl) (fun _ => rfl) h ?_
  clear h
  intro m545 h
  refine v_aload_n 0 0 dX12_init_1084 rfl rfl ?_
  refine v_iconst (4 : Int32) dX12_init_1085 (by decide) ?_
  refine g_newa (atype := .char) (ty := .char) (N := 4) 101 rfl rfl (by decide) (a0c_101 _) (fun _ _ h => h) aw_101 (by decide) (by decide +kernel) (Nat.le_of_ble_eq_true rfl) (Nat.le_of_ble_eq_true rfl) (Nat.le_of_ble_eq_true rfl) dX12_init_1086 h ?_
  clear h
  intro sh546 m547 h hl548
  refine v_dup dX12_init_1088 rfl ?_
  refine v_iconst (0 : Int32) dX12_init_1089 (by decide) ?_
  refine v_bipush (108 : Int32) dX12_init_1090 (by decide) ?_
  obtain ⟨i550, h⟩ := h
  refine g_cast dX12_init_1092 i550 h ?_
  clear h
  intro m549 h
  refine v_dup dX12_init_1093 rfl ?_
  refine v_iconst (1 : Int32) dX12_init_1094 (by decide) ?_
  refine v_bipush (97 : Int32) dX12_init_1095 (by decide) ?_
  obtain ⟨i552, h⟩ := h
  refine g_cast dX12_init_1097 i552 h ?_
  clear h
  intro m551 h
  refine v_dup dX12_init_1098 rfl ?_
  refine v_iconst (2 : Int32) dX12_init_1099 (by decide) ?_
  refine v_bipush (115 : Int32) dX12_init_1100 (by decide) ?_
  obtain ⟨i554, h⟩ := h
  refine g_cast dX12_init_1102 i554 h ?_
  clear h
  intro m553 h
  refine v_dup dX12_init_1103 rfl ?_
  refine v_iconst (3 : Int32) dX12_init_1104 (by decide) ?_
  refine v_bipush (116 : Int32) dX12_init_1105 (by decide) ?_
  obtain ⟨i556, h⟩ := h
  refine g_cast dX12_init_1107 i556 h ?_
  clear h
  intro m555 h
  obtain ⟨o557, h⟩ := h
  refine g_qR 12 82 dX12_init_1108 fw_RX12_192 o557 rfl (fun _ => rfl) (fun _ => rfl) h ?_
  clear h
  intro m558 h
  refine v_aload_n 0 0 dX12_init_1111 rfl rfl ?_
  refine v_iconst (5 : Int32) dX12_init_1112 (by decide) ?_
  refine g_newa (atype := .char) (ty := .char) (N := 5) 101 rfl rfl (by decide) (a0c_101 _) (fun _ _ h => h) aw_101 (by decide) (by decide +kernel) (Nat.le_of_ble_eq_true rfl) (Nat.le_of_ble_eq_true rfl) (Nat.le_of_ble_eq_true rfl) dX12_init_1113 h ?_
  clear h
  intro sh559 m560 h hl561
  refine v_dup dX12_init_1115 rfl ?_
  refine v_iconst (0 : Int32) dX12_init_1116 (by decide) ?_
  refine v_bipush (111 : Int32) dX12_init_1117 (by decide) ?_
  obtain ⟨i563, h⟩ := h
  refine g_cast dX12_init_1119 i563 h ?_
  clear h
  intro m562 h
  refine v_dup dX12_init_1120 rfl ?_
  refine v_iconst (1 : Int32) dX12_init_1121 (by decide) ?_
  refine v_bipush (102 : Int32) dX12_init_1122 (by decide) ?_
  obtain ⟨i565, h⟩ := h
  refine g_cast dX12_init_1124 i565 h ?_
  clear h
  intro m564 h
  refine v_dup dX12_init_1125 rfl ?_
  refine v_iconst (2 : Int32) dX12_init_1126 (by decide) ?_
  refine v_bipush (116 : Int32) dX12_init_1127 (by decide) ?_
  obtain ⟨i567, h⟩ := h
  refine g_cast dX12_init_1129 i567 h ?_
  clear h
  intro m566 h
  refine v_dup dX12_init_1130 rfl ?_
  refine v_iconst (3 : Int32) dX12_init_1131 (by decide) ?_
  refine v_bipush (101 : Int32) dX12_init_1132 (by decide) ?_
  obtain ⟨i569, h⟩ := h
  refine g_cast dX12_init_1134 i569 h ?_
  clear h
  intro m568 h
  refine v_dup dX12_init_1135 rfl ?_
  refine v_iconst (4 : Int32) dX12_init_1136 (by decide) ?_
  refine v_bipush (110 : Int32) dX12_init_1137 (by decide) ?_
  obtain ⟨i571, h⟩ := h
  refine g_cast dX12_init_1139 i571 h ?_
  clear h
  intro m570 h
  obtain ⟨o572, h⟩ := h
  refine g_qR 12 83 dX12_init_1140 fw_RX12_195 o572 rfl (fun _ => rfl) (fun _ => rfl) h ?_
  clear h
  intro m573 h
  refine v_aload_n 0 0 dX12_init_1143 rfl rfl ?_
  refine v_iconst (5 : Int32) dX12_init_1144 (by decide) ?_
  refine g_newa (atype := .char) (ty := .char) (N := 5) 101 rfl rfl (by decide) (a0c_101 _) (fun _ _ h => h) aw_101 (by decide) (by decide +kernel) (Nat.le_of_ble_eq_true rfl) (Nat.le_of_ble_eq_true rfl) (Nat.le_of_ble_eq_true rfl) dX12_init_1145 h ?_
  clear h
  intro sh574 m575 h hl576
  refine v_dup dX12_init_1147 rfl ?_
  refine v_iconst (0 : Int32) dX12_init_1148 (by decide) ?_
  refine v_bipush (116 : Int32) dX12_init_1149 (by decide) ?_
  obtain ⟨i578, h⟩ := h
  refine g_cast dX12_init_1151 i578 h ?_
  clear h
  intro m577 h
  refine v_dup dX12_init_1152 rfl ?_
  refine v_iconst (1 : Int32) dX12_init_1153 (by decide) ?_
  refine v_bipush (111 : Int32) dX12_init_1154 (by decide) ?_
  obtain ⟨i580, h⟩ := h
  refine g_cast dX12_init_1156 i580 h ?_
  clear h
  intro m579 h
  refine v_dup dX12_init_1157 rfl ?_
  refine v_iconst (2 : Int32) dX12_init_1158 (by decide) ?_
  refine v_bipush (116 : Int32) dX12_init_1159 (by decide) ?_
  obtain ⟨i582, h⟩ := h
  refine g_cast dX12_init_1161 i582 h ?_
  clear h
  intro m581 h
  refine v_dup dX12_init_1162 rfl ?_
  refine v_iconst (3 : Int32) dX12_init_1163 (by decide) ?_
  refine v_bipush (97 : Int32) dX12_init_1164 (by decide) ?_
  obtain ⟨i584, h⟩ := h
  refine g_cast dX12_init_1166 i584 h ?_
  clear h
  intro m583 h
  refine v_dup dX12_init_1167 rfl ?_
  refine v_iconst (4 : Int32) dX12_init_1168 (by decide) ?_
  refine v_bipush (108 : Int32) dX12_init_1169 (by decide) ?_
  obtain ⟨i586, h⟩ := h
  refine g_cast dX12_init_1171 i586 h ?_
  clear h
  intro m585 h
  obtain ⟨o587, h⟩ := h
  refine g_qR 12 84 dX12_init_1172 fw_RX12_198 o587 rfl (fun _ => rfl) (fun _ => rfl) h ?_
  clear h
  intro m588 h
  refine v_aload_n 0 0 dX12_init_1175 rfl rfl ?_
  refine v_iconst (4 : Int32) dX12_init_1176 (by decide) ?_
  refine g_newa (atype := .char) (ty := .char) (N := 4) 101 rfl rfl (by decide) (a0c_101 _) (fun _ _ h => h) aw_101 (by decide) (by decide +kernel) (Nat.le_of_ble_eq_true rfl) (Nat.le_of_ble_eq_true rfl) (Nat.le_of_ble_eq_true rfl) dX12_init_1177 h ?_
  clear h
  intro sh589 m590 h hl591
  refine v_dup dX12_init_1179 rfl ?_
  refine v_iconst (0 : Int32) dX12_init_1180 (by decide) ?_
  refine v_bipush (109 : Int32) dX12_init_1181 (by decide) ?_
  obtain ⟨i593, h⟩ := h
  refine g_cast dX12_init_1183 i593 h ?_
  clear h
  intro m592 h
  refine v_dup dX12_init_1184 rfl ?_
  refine v_iconst (1 : Int32) dX12_init_1185 (by decide) ?_
  refine v_bipush (111 : Int32) dX12_init_1186 (by decide) ?_
  obtain ⟨i595, h⟩ := h
  refine g_cast dX12_init_1188 i595 h ?_
  clear h
  intro m594 h
  refine v_dup dX12_init_1189 rfl ?_
  refine v_iconst (2 : Int32) dX12_init_1190 (by decide) ?_
  refine v_bipush (115 : Int32) dX12_init_1191 (by decide) ?_
  obtain ⟨i597, h⟩ := h
  refine g_cast dX12_init_1193 i597 h ?_
  clear h
  intro m596 h
  refine v_dup dX12_init_1194 rfl ?_
  refine v_iconst (3 : Int32) dX12_init_1195 (by decide) ?_
  refine v_bipush (116 : Int32) dX12_init_1196 (by decide) ?_
  obtain ⟨i599, h⟩ := h
  refine g_cast dX12_init_1198 i599 h ?_
  clear h
  intro m598 h
  obtain ⟨o600, h⟩ := h
  refine g_qR 12 85 dX12_init_1199 fw_RX12_201 o600 rfl (fun _ => rfl) (fun _ => rfl) h ?_
  clear h
  intro m601 h
  refine v_aload_n 0 0 dX12_init_1202 rfl rfl ?_
  refine v_iconst (5 : Int32) dX12_init_1203 (by decide) ?_
  refine g_newa (atype := .char) (ty := .char) (N := 5) 101 rfl rfl (by decide) (a0c_101 _) (fun _ _ h => h) aw_101 (by decide) (by decide +kernel) (Nat.le_of_ble_eq_true rfl) (Nat.le_of_ble_eq_true rfl) (Nat.le_of_ble_eq_true rfl) dX12_init_1204 h ?_
  clear h
  intro sh602 m603 h hl604
  refine v_dup dX12_init_1206 rfl ?_
  refine v_iconst (0 : Int32) dX12_init_1207 (by decide) ?_
  refine v_bipush (108 : Int32) dX12_init_1208 (by decide) ?_
  obtain ⟨i606, h⟩ := h
  refine g_cast dX12_init_1210 i606 h ?_
  clear h
  intro m605 h
  refine v_dup dX12_init_1211 rfl ?_
  refine v_iconst (1 : Int32) dX12_init_1212 (by decide) ?_
  refine v_bipush (101 : Int32) dX12_init_1213 (by decide) ?_
  obtain ⟨i608, h⟩ := h
  refine g_cast dX12_init_1215 i608 h ?_
  clear h
  intro m607 h
  refine v_dup dX12_init_1216 rfl ?_
  refine v_iconst (2 : Int32) dX12_init_1217 (by decide) ?_
  refine v_bipush (97 : Int32) dX12_init_1218 (by decide) ?_
  obtain ⟨i610, h⟩ := h
  refine g_cast dX12_init_1220 i610 h ?_
  clear h
  intro m609 h
  refine v_dup dX12_init_1221 rfl ?_
  refine v_iconst (3 : Int32) dX12_init_1222 (by decide) ?_
  refine v_bipush (115 : Int32) dX12_init_1223 (by decide) ?_
  obtain ⟨i612, h⟩ := h
  refine g_cast dX12_init_1225 i612 h ?_
  clear h
  intro m611 h
  refine v_dup dX12_init_1226 rfl ?_
  refine v_iconst (4 : Int32) dX12_init_1227 (by decide) ?_
  refine v_bipush (116 : Int32) dX12_init_1228 (by decide) ?_
  obtain ⟨i614, h⟩ := h
  refine g_cast dX12_init_1230 i614 h ?_
  clear h
  intro m613 h
  obtain ⟨o615, h⟩ := h
  refine g_qR 12 86 dX12_init_1231 fw_RX12_204 o615 rfl (fun _ => rfl) (fun _ => rfl) h ?_
  clear h
  intro m616 h
  refine v_aload_n 0 0 dX12_init_1234 rfl rfl ?_
  refine v_iconst (3 : Int32) dX12_init_1235 (by decide) ?_
  refine g_newa (atype := .char) (ty := .char) (N := 3) 101 rfl rfl (by decide) (a0c_101 _) (fun _ _ h => h) aw_101 (by decide) (by decide +kernel) (Nat.le_of_ble_eq_true rfl) (Nat.le_of_ble_eq_true rfl) (Nat.le_of_ble_eq_true rfl) dX12_init_1236 h ?_
  clear h
  intro sh617 m618 h hl619
  refine v_dup dX12_init_1238 rfl ?_
  refine v_iconst (0 : Int32) dX12_init_1239 (by decide) ?_
  refine v_bipush (110 : Int32) dX12_init_1240 (by decide) ?_
  obtain ⟨i621, h⟩ := h
  refine g_cast dX12_init_1242 i621 h ?_
  clear h
  intro m620 h
  refine v_dup dX12_init_1243 rfl ?_
  refine v_iconst (1 : Int32) dX12_init_1244 (by decide) ?_
  refine v_bipush (111 : Int32) dX12_init_1245 (by decide) ?_
  obtain ⟨i623, h⟩ := h
  refine g_cast dX12_init_1247 i623 h ?_
  clear h
  intro m622 h
  refine v_dup dX12_init_1248 rfl ?_
  refine v_iconst (2 : Int32) dX12_init_1249 (by decide) ?_
  refine v_bipush (116 : Int32) dX12_init_1250 (by decide) ?_
  obtain ⟨i625, h⟩ := h
  refine g_cast dX12_init_1252 i625 h ?_
  clear h
  intro m624 h
  obtain ⟨o626, h⟩ := h
  refine g_qR 12 87 dX12_init_1253 fw_RX12_207 o626 rfl (fun _ => rfl) (fun _ => rfl) h ?_
  clear h
  intro m627 h
  refine v_aload_n 0 0 dX12_init_1256 rfl rfl ?_
  refine v_iconst (3 : Int32) dX12_init_1257 (by decide) ?_
  refine g_newa (atype := .char) (ty := .char) (N := 3) 101 rfl rfl (by decide) (a0c_101 _) (fun _ _ h => h) aw_101 (by decide) (by decide +kernel) (Nat.le_of_ble_eq_true rfl) (Nat.le_of_ble_eq_true rfl) (Nat.le_of_ble_eq_true rfl) dX12_init_1258 h ?_
  clear h
  intro sh628 m629 h hl630
  refine v_dup dX12_init_1260 rfl ?_
  refine v_iconst (0 : Int32) dX12_init_1261 (by decide) ?_
  refine v_bipush (97 : Int32) dX12_init_1262 (by decide) ?_
  obtain ⟨i632, h⟩ := h
  refine g_cast dX12_init_1264 i632 h ?_
  clear h
  intro m631 h
  refine v_dup dX12_init_1265 rfl ?_
  refine v_iconst (1 : Int32) dX12_init_1266 (by decide) ?_
  refine v_bipush (110 : Int32) dX12_init_1267 (by decide) ?_
  obtain ⟨i634, h⟩ := h
  refine g_cast dX12_init_1269 i634 h ?_
  clear h
  intro m633 h
  refine v_dup dX12_init_1270 rfl ?_
  refine v_iconst (2 : Int32) dX12_init_1271 (by decide) ?_
  refine v_bipush (100 : Int32) dX12_init_1272 (by decide) ?_
  obtain ⟨i636, h⟩ := h
  refine g_cast dX12_init_1274 i636 h ?_
  clear h
  intro m635 h
  obtain ⟨o637, h⟩ := h
  refine g_qR 12 88 dX12_init_1275 fw_RX12_210 o637 rfl (fun _ => rfl) (fun _ => rfl) h ?_
  clear h
  intro m638 h
  refine v_aload_n 0 0 dX12_init_1278 rfl rfl ?_
  refine v_iconst (2 : Int32) dX12_init_1279 (by decide) ?_
  refine g_newa (atype := .char) (ty := .char) (N := 2) 101 rfl rfl (by decide) (a0c_101 _) (fun _ _ h => h) aw_101 (by decide) (by decide +kernel) (Nat.le_of_ble_eq_true rfl) (Nat.le_of_ble_eq_true rfl) (Nat.le_of_ble_eq_true rfl) dX12_init_1280 h ?_
  clear h
  intro sh639 m640 h hl641
  refine v_dup dX12_init_1282 rfl ?_
  refine v_iconst (0 : Int32) dX12_init_1283 (by decide) ?_
  refine v_bipush (111 : Int32) dX12_init_1284 (by decide) ?_
  obtain ⟨i643, h⟩ := h
  refine g_cast dX12_init_1286 i643 h ?_
  clear h
  intro m642 h
  refine v_dup dX12_init_1287 rfl ?_
  refine v_iconst (1 : Int32) dX12_init_1288 (by decide) ?_
  refine v_bipush (114 : Int32) dX12_init_1289 (by decide) ?_
  obtain ⟨i645, h⟩ := h
  refine g_cast dX12_init_1291 i645 h ?_
  clear h
  intro m644 h
  obtain ⟨o646, h⟩ := h
  refine g_qR 12 89 dX12_init_1292 fw_RX12_213 o646 rfl (fun _ => rfl) (fun _ => rfl) h ?_
  clear h
  intro m647 h
  refine v_aload_n 0 0 dX12_init_1295 rfl rfl ?_
  refine v_iconst (3 : Int32) dX12_init_1296 (by decide) ?_
  refine g_newa (atype := .char) (ty := .char) (N := 3) 101 rfl rfl (by decide) (a0c_101 _) (fun _ _ h => h) aw_101 (by decide) (by decide +kernel) (Nat.le_of_ble_eq_true rfl) (Nat.le_of_ble_eq_true rfl) (Nat.le_of_ble_eq_true rfl) dX12_init_1297 h ?_
  clear h
  intro sh648 m649 h hl650
  refine v_dup dX12_init_1299 rfl ?_
  refine v_iconst (0 : Int32) dX12_init_1300 (by decide) ?_
  refine v_bipush (97 : Int32) dX12_init_1301 (by decide) ?_
  obtain ⟨i652, h⟩ := h
  refine g_cast dX12_init_1303 i652 h ?_
  clear h
  intro m651 h
  refine v_dup dX12_init_1304 rfl ?_
  refine v_iconst (1 : Int32) dX12_init_1305 (by decide) ?_
  refine v_bipush (108 : Int32) dX12_init_1306 (by decide) ?_
  obtain ⟨i654, h⟩ := h
  refine g_cast dX12_init_1308 i654 h ?_
  clear h
  intro m653 h
  refine v_dup dX12_init_1309 rfl ?_
  refine v_iconst (2 : Int32) dX12_init_1310 (by decide) ?_
  refine v_bipush (108 : Int32) dX12_init_1311 (by decide) ?_
  obtain ⟨i656, h⟩ := h
  refine g_cast dX12_init_1313 i656 h ?_
  clear h
  intro m655 h
  obtain ⟨o657, h⟩ := h
  refine g_qR 12 90 dX12_init_1314 fw_RX12_216 o657 rfl (fun _ => rfl) (fun _ => rfl) h ?_
  clear h
  intro m658 h
  refine v_aload_n 0 0 dX12_init_1317 rfl rfl ?_
  refine v_iconst (3 : Int32) dX12_init_1318 (by decide) ?_
  refine g_newa (atype := .char) (ty := .char) (N := 3) 101 rfl rfl (by decide) (a0c_101 _) (fun _ _ h => h) aw_101 (by decide) (by decide +kernel) (Nat.le_of_ble_eq_true rfl) (Nat.le_of_ble_eq_true rfl) (Nat.le_of_ble_eq_true rfl) dX12_init_1319 h ?_
  clear h
  intro sh659 m660 h hl661
  refine v_dup dX12_init_1321 rfl ?_
  refine v_iconst (0 : Int32) dX12_init_1322 (by decide) ?_
  refine v_bipush (109 : Int32) dX12_init_1323 (by decide) ?_
  obtain ⟨i663, h⟩ := h
  refine g_cast dX12_init_1325 i663 h ?_
  clear h
  intro m662 h
  refine v_dup dX12_init_1326 rfl ?_
  refine v_iconst (1 : Int32) dX12_init_1327 (by decide) ?_
  refine v_bipush (105 : Int32) dX12_init_1328 (by decide) ?_
  obtain ⟨i665, h⟩ := h
  refine g_cast dX12_init_1330 i665 h ?_
  clear h
  intro m664 h
  refine v_dup dX12_init_1331 rfl ?_
  refine v_iconst (2 : Int32) dX12_init_1332 (by decide) ?_
  refine v_bipush (110 : Int32) dX12_init_1333 (by decide) ?_
  obtain ⟨i667, h⟩ := h
  refine g_cast dX12_init_1335 i667 h ?_
  clear h
  intro m666 h
  obtain ⟨o668, h⟩ := h
  refine g_qR 12 91 dX12_init_1336 fw_RX12_219 o668 rfl (fun _ => rfl) (fun _ => rfl) h ?_
  clear h
  intro m669 h
  refine v_aload_n 0 0 dX12_init_1339 rfl rfl ?_
  refine v_iconst (3 : Int32) dX12_init_1340 (by decide) ?_
  refine g_newa (atype := .char) (ty := .char) (N := 3) 101 rfl rfl (by decide) (a0c_101 _) (fun _ _ h => h) aw_101 (by decide) (by decide +kernel) (Nat.le_of_ble_eq_true rfl) (Nat.le_of_ble_eq_true rfl) (Nat.le_of_ble_eq_true rfl) dX12_init_1341 h ?_
  clear h
  intro sh670 m671 h hl672
  refine v_dup dX12_init_1343 rfl ?_
  refine v_iconst (0 : Int32) dX12_init_1344 (by decide) ?_
  refine v_bipush (109 : Int32) dX12_init_1345 (by decide) ?_
  obtain ⟨i674, h⟩ := h
  refine g_cast dX12_init_1347 i674 h ?_
  clear h
  intro m673 h
  refine v_dup dX12_init_1348 rfl ?_
  refine v_iconst (1 : Int32) dX12_init_1349 (by decide) ?_
  refine v_bipush (97 : Int32) dX12_init_1350 (by decide) ?_
  obtain ⟨i676, h⟩ := h
  refine g_cast dX12_init_1352 i676 h ?_
  clear h
  intro m675 h
  refine v_dup dX12_init_1353 rfl ?_
  refine v_iconst (2 : Int32) dX12_init_1354 (by decide) ?_
  refine v_bipush (120 : Int32) dX12_init_1355 (by decide) ?_
  obtain ⟨i678, h⟩ := h
  refine g_cast dX12_init_1357 i678 h ?_
  clear h
  intro m677 h
  obtain ⟨o679, h⟩ := h
  refine g_qR 12 92 dX12_init_1358 fw_RX12_222 o679 rfl (fun _ => rfl) (fun _ => rfl) h ?_
  clear h
  intro m680 h
  refine v_aload_n 0 0 dX12_init_1361 rfl rfl ?_
  refine v_iconst (4 : Int32) dX12_init_1362 (by decide) ?_
  refine g_newa (atype := .char) (ty := .char) (N := 4) 101 rfl rfl (by decide) (a0c_101 _) (fun _ _ h => h) aw_101 (by decide) (by decide +kernel) (Nat.le_of_ble_eq_true rfl) (Nat.le_of_ble_eq_true rfl) (Nat.le_of_ble_eq_true rfl) dX12_init_1363 h ?_
  clear h
  intro sh681 m682 h hl683
  refine v_dup dX12_init_1365 rfl ?_
  refine v_iconst (0 : Int32) dX12_init_1366 (by decide) ?_
  refine v_bipush (121 : Int32) dX12_init_1367 (by decide) ?_
  obtain ⟨i685, h⟩ := h
  refine g_cast dX12_init_1369 i685 h ?_
  clear h
  intro m684 h
  refine v_dup dX12_init_1370 rfl ?_
  refine v_iconst (1 : Int32) dX12_init_1371 (by decide) ?_
  refine v_bipush (101 : Int32) dX12_init_1372 (by decide) ?_
  obtain ⟨i687, h⟩ := h
  refine g_cast dX12_init_1374 i687 h ?_
  clear h
  intro m686 h
  refine v_dup dX12_init_1375 rfl ?_
  refine v_iconst (2 : Int32) dX12_init_1376 (by decide) ?_
  refine v_bipush (97 : Int32) dX12_init_1377 (by decide) ?_
  obtain ⟨i689, h⟩ := h
  refine g_cast dX12_init_1379 i689 h ?_
  clear h
  intro m688 h
  refine v_dup dX12_init_1380 rfl ?_
  refine v_iconst (3 : Int32) dX12_init_1381 (by decide) ?_
  refine v_bipush (114 : Int32) dX12_init_1382 (by decide) ?_
  obtain ⟨i691, h⟩ := h
  refine g_cast dX12_init_1384 i691 h ?_
  clear h
  intro m690 h
  obtain ⟨o692, h⟩ := h
  refine g_qR 12 93 dX12_init_1385 fw_RX12_225 o692 rfl (fun _ => rfl) (fun _ => rfl) h ?_
  clear h
  intro m693 h
  refine v_aload_n 0 0 dX12_init_1388 rfl rfl ?_
  refine v_iconst (3 : Int32) dX12_init_1389 (by decide) ?_
  refine g_newa (atype := .char) (ty := .char) (N := 3) 101 rfl rfl (by decide) (a0c_101 _) (fun _ _ h => h) aw_101 (by decide) (by decide +kernel) (Nat.le_of_ble_eq_true rfl) (Nat.le_of_ble_eq_true rfl) (Nat.le_of_ble_eq_true rfl) dX12_init_1390 h ?_
  clear h
  intro sh694 m695 h hl696
  refine v_dup dX12_init_1392 rfl ?_
  refine v_iconst (0 : Int32) dX12_init_1393 (by decide) ?_
  refine v_bipush (112 : Int32) dX12_init_1394 (by decide) ?_
  obtain ⟨i698, h⟩ := h
  refine g_cast dX12_init_1396 i698 h ?_
  clear h
  intro m697 h
  refine v_dup dX12_init_1397 rfl ?_
  refine v_iconst (1 : Int32) dX12_init_1398 (by decide) ?_
  refine v_bipush (105 : Int32) dX12_init_1399 (by decide) ?_
  obtain ⟨i700, h⟩ := h
  refine g_cast dX12_init_1401 i700 h ?_
  clear h
  intro m699 h
  refine v_dup dX12_init_1402 rfl ?_
  refine v_iconst (2 : Int32) dX12_init_1403 (by decide) ?_
  refine v_bipush (101 : Int32) dX12_init_1404 (by decide) ?_
  obtain ⟨i702, h⟩ := h
  refine g_cast dX12_init_1406 i702 h ?_
  clear h
  intro m701 h
  obtain ⟨o703, h⟩ := h
  refine g_qR 12 94 dX12_init_1407 fw_RX12_228 o703 rfl (fun _ => rfl) (fun _ => rfl) h ?_
  clear h
  intro m704 h
  refine v_aload_n 0 0 dX12_init_1410 rfl rfl ?_
  refine v_iconst (4 : Int32) dX12_init_1411 (by decide) ?_
  refine g_newa (atype := .char) (ty := .char) (N := 4) 101 rfl rfl (by decide) (a0c_101 _) (fun _ _ h => h) aw_101 (by decide) (by decide +kernel) (Nat.le_of_ble_eq_true rfl) (Nat.le_of_ble_eq_true rfl) (Nat.le_of_ble_eq_true rfl) dX12_init_1412 h ?_
  clear h
  intro sh705 m706 h hl707
  refine v_dup dX12_init_1414 rfl ?_
  refine v_iconst (0 : Int32) dX12_init_1415 (by decide) ?_
  refine v_bipush (98 : Int32) dX12_init_1416 (by decide) ?_
  obtain ⟨i709, h⟩ := h
  refine g_cast dX12_init_1418 i709 h ?_
  clear h
  intro m708 h
  refine v_dup dX12_init_1419 rfl ?_
  refine v_iconst (1 : Int32) dX12_init_1420 (by decide) ?_
  refine v_bipush (101 : Int32) dX12_init_1421 (by decide) ?_
  obtain ⟨i711, h⟩ := h
  refine g_cast dX12_init_1423 i711 h ?_
  clear h
  intro m710 h
  refine v_dup dX12_init_1424 rfl ?_
  refine v_iconst (2 : Int32) dX12_init_1425 (by decide) ?_
  refine v_bipush (101 : Int32) dX12_init_1426 (by decide) ?_
  obtain ⟨i713, h⟩ := h
  refine g_cast dX12_init_1428 i713 h ?_
  clear h
  intro m712 h
  refine v_dup dX12_init_1429 rfl ?_
  refine v_iconst (3 : Int32) dX12_init_1430 (by decide) ?_
  refine v_bipush (110 : Int32) dX12_init_1431 (by decide) ?_
  obtain ⟨i715, h⟩ := h
  refine g_cast dX12_init_1433 i715 h ?_
  clear h
  intro m714 h
  obtain ⟨o716, h⟩ := h
  refine g_qR 12 95 dX12_init_1434 fw_RX12_231 o716 rfl (fun _ => rfl) (fun _ => rfl) h ?_
  clear h
  intro m717 h
  refine v_aload_n 0 0 dX12_init_1437 rfl rfl ?_
  refine v_iconst (4 : Int32) dX12_init_1438 (by decide) ?_
  refine g_newa (atype := .char) (ty := .char) (N := 4) 101 rfl rfl (by decide) (a0c_101 _) (fun _ _ h => h) aw_101 (by decide) (by decide +kernel) (Nat.le_of_ble_eq_true rfl) (Nat.le_of_ble_eq_true rfl) (Nat.le_of_ble_eq_true rfl) dX12_init_1439 h ?_
  clear h
  intro sh718 m719 h hl720
  refine v_dup dX12_init_1441 rfl ?_
  refine v_iconst (0 : Int32) dX12_init_1442 (by decide) ?_
  refine v_bipush (98 : Int32) dX12_init_1443 (by decide) ?_
  obtain ⟨i722, h⟩ := h
  refine g_cast dX12_init_1445 i722 h ?_
  clear h
  intro m721 h
  refine v_dup dX12_init_1446 rfl ?_
  refine v_iconst (1 : Int32) dX12_init_1447 (by decide) ?_
  refine v_bipush (111 : Int32) dX12_init_1448 (by decide) ?_
  obtain ⟨i724, h⟩ := h
  refine g_cast dX12_init_1450 i724 h ?_
  clear h
  intro m723 h
  refine v_dup dX12_init_1451 rfl ?_
  refine v_iconst (2 : Int32) dX12_init_1452 (by decide) ?_
  refine v_bipush (108 : Int32) dX12_init_1453 (by decide) ?_
  obtain ⟨i726, h⟩ := h
  refine g_cast dX12_init_1455 i726 h ?_
  clear h
  intro m725 h
  refine v_dup dX12_init_1456 rfl ?_
  refine v_iconst (3 : Int32) dX12_init_1457 (by decide) ?_
  refine v_bipush (100 : Int32) dX12_init_1458 (by decide) ?_
  obtain ⟨i728, h⟩ := h
  refine g_cast dX12_init_1460 i728 h ?_
  clear h
  intro m727 h
  obtain ⟨o729, h⟩ := h
  refine g_qR 12 96 dX12_init_1461 fw_RX12_234 o729 rfl (fun _ => rfl) (fun _ => rfl) h ?_
  clear h
  intro m730 h
  refine v_aload_n 0 0 dX12_init_1464 rfl rfl ?_
  refine v_iconst (4 : Int32) dX12_init_1465 (by decide) ?_
  refine g_newa (atype := .char) (ty := .char) (N := 4) 101 rfl rfl (by decide) (a0c_101 _) (fun _ _ h => h) aw_101 (by decide) (by decide +kernel) (Nat.le_of_ble_eq_true rfl) (Nat.le_of_ble_eq_true rfl) (Nat.le_of_ble_eq_true rfl) dX12_init_1466 h ?_
  clear h
  intro sh731 m732 h hl733
  refine v_dup dX12_init_1468 rfl ?_
  refine v_iconst (0 : Int32) dX12_init_1469 (by decide) ?_
  refine v_bipush (107 : Int32) dX12_init_1470 (by decide) ?_
  obtain ⟨i735, h⟩ := h
  refine g_cast dX12_init_1472 i735 h ?_
  clear h
  intro m734 h
  refine v_dup dX12_init_1473 rfl ?_
  refine v_iconst (1 : Int32) dX12_init_1474 (by decide) ?_
  refine v_bipush (105 : Int32) dX12_init_1475 (by decide) ?_
  obtain ⟨i737, h⟩ := h
  refine g_cast dX12_init_1477 i737 h ?_
  clear h
  intro m736 h
  refine v_dup dX12_init_1478 rfl ?_
  refine v_iconst (2 : Int32) dX12_init_1479 (by decide) ?_
  refine v_bipush (110 : Int32) dX12_init_1480 (by decide) ?_
  obtain ⟨i739, h⟩ := h
  refine g_cast dX12_init_1482 i739 h ?_
  clear h
  intro m738 h
  refine v_dup dX12_init_1483 rfl ?_
  refine v_iconst (3 : Int32) dX12_init_1484 (by decide) ?_
  refine v_bipush (100 : Int32) dX12_init_1485 (by decide) ?_
  obtain ⟨i741, h⟩ := h
  refine g_cast dX12_init_1487 i741 h ?_
  clear h
  intro m740 h
  obtain ⟨o742, h⟩ := h
  refine g_qR 12 97 dX12_init_1488 fw_RX12_237 o742 rfl (fun _ => rfl) (fun _ => rfl) h ?_
  clear h
  intro m743 h
  refine v_aload_n 0 0 dX12_init_1491 rfl rfl ?_
  refine v_bipush (6 : Int32) dX12_init_1492 (by decide) ?_
  refine g_newa (atype := .char) (ty := .char) (N := 6) 101 rfl rfl (by decide) (a0c_101 _) (fun _ _ h => h) aw_101 (by decide) (by decide +kernel) (Nat.le_of_ble_eq_true rfl) (Nat.le_of_ble_eq_true rfl) (Nat.le_of_ble_eq_true rfl) dX12_init_1494 h ?_
  clear h
  intro sh744 m745 h hl746
  refine v_dup dX12_init_1496 rfl ?_
  refine v_iconst (0 : Int32) dX12_init_1497 (by decide) ?_
  refine v_bipush (104 : Int32) dX12_init_1498 (by decide) ?_
  obtain ⟨i748, h⟩ := h
  refine g_cast dX12_init_1500 i748 h ?_
  clear h
  intro m747 h
  refine v_dup dX12_init_1501 rfl ?_
  refine v_iconst (1 : Int32) dX12_init_1502 (by decide) ?_
  refine v_bipush (101 : Int32) dX12_init_1503 (by decide) ?_
  obtain ⟨i750, h⟩ := h
  refine g_cast dX12_init_1505 i750 h ?_
  clear h
  intro m749 h
  refine v_dup dX12_init_1506 rfl ?_
  refine v_iconst (2 : Int32) dX12_init_1507 (by decide) ?_
  refine v_bipush (105 : Int32) dX12_init_1508 (by decide) ?_
  obtain ⟨i752, h⟩ := h
  refine g_cast dX12_init_1510 i752 h ?_
  clear h
  intro m751 h
  refine v_dup dX12_init_1511 rfl ?_
  refine v_iconst (3 : Int32) dX12_init_1512 (by decide) ?_
  refine v_bipush (103 : Int32) dX12_init_1513 (by decide) ?_
  obtain ⟨i754, h⟩ := h
  refine g_cast dX12_init_1515 i754 h ?_
  clear h
  intro m753 h
  refine v_dup dX12_init_1516 rfl ?_
  refine v_iconst (4 : Int32) dX12_init_1517 (by decide) ?_
  refine v_bipush (104 : Int32) dX12_init_1518 (by decide) ?_
  obtain ⟨i756, h⟩ := h
  refine g_cast dX12_init_1520 i756 h ?_
  clear h
  intro m755 h
  refine v_dup dX12_init_1521 rfl ?_
  refine v_iconst (5 : Int32) dX12_init_1522 (by decide) ?_
  refine v_bipush (116 : Int32) dX12_init_1523 (by decide) ?_
  obtain ⟨i758, h⟩ := h
  refine g_cast dX12_init_1525 i758 h ?_
  clear h
  intro m757 h
  obtain ⟨o759, h⟩ := h
  refine g_qR 12 98 dX12_init_1526 fw_RX12_240 o759 rfl (fun _ => rfl) (fun _ => rfl) h ?_
  clear h
  intro m760 h
  refine v_aload_n 0 0 dX12_init_1529 rfl rfl ?_
  refine v_iconst (4 : Int32) dX12_init_1530 (by decide) ?_
  refine g_newa (atype := .char) (ty := .char) (N := 4) 101 rfl rfl (by decide) (a0c_101 _) (fun _ _ h => h) aw_101 (by decide) (by decide +kernel) (Nat.le_of_ble_eq_true rfl) (Nat.le_of_ble_eq_true rfl) (Nat.le_of_ble_eq_true rfl) dX12_init_1531 h ?_
  clear h
  intro sh761 m762 h hl763
  refine v_dup dX12_init_1533 rfl ?_
  refine v_iconst (0 : Int32) dX12_init_1534 (by decide) ?_
  refine v_bipush (100 : Int32) dX12_init_1535 (by decide) ?_
  obtain ⟨i765, h⟩ := h
  refine g_cast dX12_init_1537 i765 h ?_
  clear h
  intro m764 h
  refine v_dup dX12_init_1538 rfl ?_
  refine v_iconst (1 : Int32) dX12_init_1539 (by decide) ?_
  refine v_bipush (111 : Int32) dX12_init_1540 (by decide) ?_
  obtain ⟨i767, h⟩ := h
  refine g_cast dX12_init_1542 i767 h ?_
  clear h
  intro m766 h
  refine v_dup dX12_init_1543 rfl ?_
  refine v_iconst (2 : Int32) dX12_init_1544 (by decide) ?_
  refine v_bipush (119 : Int32) dX12_init_1545 (by decide) ?_
  obtain ⟨i769, h⟩ := h
  refine g_cast dX12_init_1547 i769 h ?_
  clear h
  intro m768 h
  refine v_dup dX12_init_1548 rfl ?_
  refine v_iconst (3 : Int32) dX12_init_1549 (by decide) ?_
  refine v_bipush (110 : Int32) dX12_init_1550 (by decide) ?_
  obtain ⟨i771, h⟩ := h
  refine g_cast dX12_init_1552 i771 h ?_
  clear h
  intro m770 h
  obtain ⟨o772, h⟩ := h
  refine g_qR 12 99 dX12_init_1553 fw_RX12_243 o772 rfl (fun _ => rfl) (fun _ => rfl) h ?_
  clear h
  intro m773 h
  refine v_aload_n 0 0 dX12_init_1556 rfl rfl ?_
  refine v_iconst (4 : Int32) dX12_init_1557 (by decide) ?_
  refine g_newa (atype := .char) (ty := .char) (N := 4) 101 rfl rfl (by decide) (a0c_101 _) (fun _ _ h => h) aw_101 (by decide) (by decide +kernel) (Nat.le_of_ble_eq_true rfl) (Nat.le_of_ble_eq_true rfl) (Nat.le_of_ble_eq_true rfl) dX12_init_1558 h ?_
  clear h
  intro sh774 m775 h hl776
  refine v_dup dX12_init_1560 rfl ?_
  refine v_iconst (0 : Int32) dX12_init_1561 (by decide) ?_
  refine v_bipush (115 : Int32) dX12_init_1562 (by decide) ?_
  obtain ⟨i778, h⟩ := h
  refine g_cast dX12_init_1564 i778 h ?_
  clear h
  intro m777 h
  refine v_dup dX12_init_1565 rfl ?_
  refine v_iconst (1 : Int32) dX12_init_1566 (by decide) ?_
  refine v_bipush (116 : Int32) dX12_init_1567 (by decide) ?_
  obtain ⟨i780, h⟩ := h
  refine g_cast dX12_init_1569 i780 h ?_
  clear h
  intro m779 h
  refine v_dup dX12_init_1570 rfl ?_
  refine v_iconst (2 : Int32) dX12_init_1571 (by decide) ?_
  refine v_bipush (101 : Int32) dX12_init_1572 (by decide) ?_
  obtain ⟨i782, h⟩ := h
  refine g_cast dX12_init_1574 i782 h ?_
  clear h
  intro m781 h
  refine v_dup dX12_init_1575 rfl ?_
  refine v_iconst (3 : Int32) dX12_init_1576 (by decide) ?_
  refine v_bipush (112 : Int32) dX12_init_1577 (by decide) ?_
  obtain ⟨i784, h⟩ := h
  refine g_cast dX12_init_1579 i784 h ?_
  clear h
  intro m783 h
  obtain ⟨o785, h⟩ := h
  refine g_qR 12 100 dX12_init_1580 fw_RX12_246 o785 rfl (fun _ => rfl) (fun _ => rfl) h ?_
  clear h
  intro m786 h
  refine v_aload_n 0 0 dX12_init_1583 rfl rfl ?_
  refine v_iconst (3 : Int32) dX12_init_1584 (by decide) ?_
  refine g_newa (atype := .char) (ty := .char) (N := 3) 101 rfl rfl (by decide) (a0c_101 _) (fun _ _ h => h) aw_101 (by decide) (by decide +kernel) (Nat.le_of_ble_eq_true rfl) (Nat.le_of_ble_eq_true rfl) (Nat.le_of_ble_eq_true rfl) dX12_init_1585 h ?_
  clear h
  intro sh787 m788 h hl789
  refine v_dup dX12_init_1587 rfl ?_
  refine v_iconst (0 : Int32) dX12_init_1588 (by decide) ?_
  refine v_bipush (119 : Int32) dX12_init_1589 (by decide) ?_
  obtain ⟨i791, h⟩ := h
  refine g_cast dX12_init_1591 i791 h ?_
  clear h
  intro m790 h
  refine v_dup dX12_init_1592 rfl ?_
  refine v_iconst (1 : Int32) dX12_init_1593 (by decide) ?_
  refine v_bipush (101 : Int32) dX12_init_1594 (by decide) ?_
  obtain ⟨i793, h⟩ := h
  refine g_cast dX12_init_1596 i793 h ?_
  clear h
  intro m792 h
  refine v_dup dX12_init_1597 rfl ?_
  refine v_iconst (2 : Int32) dX12_init_1598 (by decide) ?_
  refine v_bipush (116 : Int32) dX12_init_1599 (by decide) ?_
  obtain ⟨i795, h⟩ := h
  refine g_cast dX12_init_1601 i795 h ?_
  clear h
  intro m794 h
  obtain ⟨o796, h⟩ := h
  refine g_qR 12 101 dX12_init_1602 fw_RX12_249 o796 rfl (fun _ => rfl) (fun _ => rfl) h ?_
  clear h
  intro m797 h
  refine v_aload_n 0 0 dX12_init_1605 rfl rfl ?_
  refine v_bipush (6 : Int32) dX12_init_1606 (by decide) ?_
  refine g_newa (atype := .char) (ty := .char) (N := 6) 101 rfl rfl (by decide) (a0c_101 _) (fun _ _ h => h) aw_101 (by decide) (by decide +kernel) (Nat.le_of_ble_eq_true rfl) (Nat.le_of_ble_eq_true rfl) (Nat.le_of_ble_eq_true rfl) dX12_init_1608 h ?_
  clear h
  intro sh798 m799 h hl800
  refine v_dup dX12_init_1610 rfl ?_
  refine v_iconst (0 : Int32) dX12_init_1611 (by decide) ?_
  refine v_bipush (110 : Int32) dX12_init_1612 (by decide) ?_
  obtain ⟨i802, h⟩ := h
  refine g_cast dX12_init_1614 i802 h ?_
  clear h
  intro m801 h
  refine v_dup dX12_init_1615 rfl ?_
  refine v_iconst (1 : Int32) dX12_init_1616 (by decide) ?_
  refine v_bipush (117 : Int32) dX12_init_1617 (by decide) ?_
  obtain ⟨i804, h⟩ := h
  refine g_cast dX12_init_1619 i804 h ?_
  clear h
  intro m803 h
  refine v_dup dX12_init_1620 rfl ?_
  refine v_iconst (2 : Int32) dX12_init_1621 (by decide) ?_
  refine v_bipush (109 : Int32) dX12_init_1622 (by decide) ?_
  obtain ⟨i806, h⟩ := h
  refine g_cast dX12_init_1624 i806 h ?_
  clear h
  intro m805 h
  refine v_dup dX12_init_1625 rfl ?_
  refine v_iconst (3 : Int32) dX12_init_1626 (by decide) ?_
  refine v_bipush (98 : Int32) dX12_init_1627 (by decide) ?_
  obtain ⟨i808, h⟩ := h
  refine g_cast dX12_init_1629 i808 h ?_
  clear h
  intro m807 h
  refine v_dup dX12_init_1630 rfl ?_
  refine v_iconst (4 : Int32) dX12_init_1631 (by decide) ?_
  refine v_bipush (101 : Int32) dX12_init_1632 (by decide) ?_
  obtain ⟨i810, h⟩ := h
  refine g_cast dX12_init_1634 i810 h ?_
  clear h
  intro m809 h
  refine v_dup dX12_init_1635 rfl ?_
  refine v_iconst (5 : Int32) dX12_init_1636 (by decide) ?_
  refine v_bipush (114 : Int32) dX12_init_1637 (by decide) ?_
  obtain ⟨i812, h⟩ := h
  refine g_cast dX12_init_1639 i812 h ?_
  clear h
  intro m811 h
  obtain ⟨o813, h⟩ := h
  refine g_qR 12 102 dX12_init_1640 fw_RX12_252 o813 rfl (fun _ => rfl) (fun _ => rfl) h ?_
  clear h
  intro m814 h
  refine v_aload_n 0 0 dX12_init_1643 rfl rfl ?_
  refine v_bipush (6 : Int32) dX12_init_1644 (by decide) ?_
  refine g_newa (atype := .char) (ty := .char) (N := 6) 101 rfl rfl (by decide) (a0c_101 _) (fun _ _ h => h) aw_101 (by decide) (by decide +kernel) (Nat.le_of_ble_eq_true rfl) (Nat.le_of_ble_eq_true rfl) (Nat.le_of_ble_eq_true rfl) dX12_init_1646 h ?_
  clear h
  intro sh815 m816 h hl817
  refine v_dup dX12_init_1648 rfl ?_
  refine v_iconst (0 : Int32) dX12_init_1649 (by decide) ?_
  refine v_bipush (99 : Int32) dX12_init_1650 (by decide) ?_
  obtain ⟨i819, h⟩ := h
  refine g_cast dX12_init_1652 i819 h ?_
  clear h
  intro m818 h
  refine v_dup dX12_init_1653 rfl ?_
  refine v_iconst (1 : Int32) dX12_init_1654 (by decide) ?_
  refine v_bipush (111 : Int32) dX12_init_1655 (by decide) ?_
  obtain ⟨i821, h⟩ := h
  refine g_cast dX12_init_1657 i821 h ?_
  clear h
  intro m820 h
  refine v_dup dX12_init_1658 rfl ?_
  refine v_iconst (2 : Int32) dX12_init_1659 (by decide) ?_
  refine v_bipush (108 : Int32) dX12_init_1660 (by decide) ?_
  obtain ⟨i823, h⟩ := h
  refine g_cast dX12_init_1662 i823 h ?_
  clear h
  intro m822 h
  refine v_dup dX12_init_1663 rfl ?_
  refine v_iconst (3 : Int32) dX12_init_1664 (by decide) ?_
  refine v_bipush (117 : Int32) dX12_init_1665 (by decide) ?_
  obtain ⟨i825, h⟩ := h
  refine g_cast dX12_init_1667 i825 h ?_
  clear h
  intro m824 h
  refine v_dup dX12_init_1668 rfl ?_
  refine v_iconst (4 : Int32) dX12_init_1669 (by decide) ?_
  refine v_bipush (109 : Int32) dX12_init_1670 (by decide) ?_
  obtain ⟨i827, h⟩ := h
  refine g_cast dX12_init_1672 i827 h ?_
  clear h
  intro m826 h
  refine v_dup dX12_init_1673 rfl ?_
  refine v_iconst (5 : Int32) dX12_init_1674 (by decide) ?_
  refine v_bipush (110 : Int32) dX12_init_1675 (by decide) ?_
  obtain ⟨i829, h⟩ := h
  refine g_cast dX12_init_1677 i829 h ?_
  clear h
  intro m828 h
  obtain ⟨o830, h⟩ := h
  refine g_qR 12 103 dX12_init_1678 fw_RX12_255 o830 rfl (fun _ => rfl) (fun _ => rfl) h ?_
  clear h
  intro m831 h
  refine v_aload_n 0 0 dX12_init_1681 rfl rfl ?_
  refine v_iconst (3 : Int32) dX12_init_1682 (by decide) ?_
  refine g_newa (atype := .char) (ty := .char) (N := 3) 101 rfl rfl (by decide) (a0c_101 _) (fun _ _ h => h) aw_101 (by decide) (by decide +kernel) (Nat.le_of_ble_eq_true rfl) (Nat.le_of_ble_eq_true rfl) (Nat.le_of_ble_eq_true rfl) dX12_init_1683 h ?_
  clear h
  intro sh832 m833 h hl834
  refine v_dup dX12_init_1685 rfl ?_
  refine v_iconst (0 : Int32) dX12_init_1686 (by decide) ?_
  refine v_bipush (114 : Int32) dX12_init_1687 (by decide) ?_
  obtain ⟨i836, h⟩ := h
  refine g_cast dX12_init_1689 i836 h ?_
  clear h
  intro m835 h
  refine v_dup dX12_init_1690 rfl ?_
  refine v_iconst (1 : Int32) dX12_init_1691 (by decide) ?_
  refine v_bipush (111 : Int32) dX12_init_1692 (by decide) ?_
  obtain ⟨i838, h⟩ := h
  refine g_cast dX12_init_1694 i838 h ?_
  clear h
  intro m837 h
  refine v_dup dX12_init_1695 rfl ?_
  refine v_iconst (2 : Int32) dX12_init_1696 (by decide) ?_
  refine v_bipush (119 : Int32) dX12_init_1697 (by decide) ?_
  obtain ⟨i840, h⟩ := h
  refine g_cast dX12_init_1699 i840 h ?_
  clear h
  intro m839 h
  obtain ⟨o841, h⟩ := h
  refine g_qR 12 104 dX12_init_1700 fw_RX12_258 o841 rfl (fun _ => rfl) (fun _ => rfl) h ?_
  clear h
  intro m842 h
  refine v_aload_n 0 0 dX12_init_1703 rfl rfl ?_
  refine v_iconst (3 : Int32) dX12_init_1704 (by decide) ?_
  refine g_newa (atype := .char) (ty := .char) (N := 3) 101 rfl rfl (by decide) (a0c_101 _) (fun _ _ h => h) aw_101 (by decide) (by decide +kernel) (Nat.le_of_ble_eq_true rfl) (Nat.le_of_ble_eq_true rfl) (Nat.le_of_ble_eq_true rfl) dX12_init_1705 h ?_
  clear h
  intro sh843 m844 h hl845
  refine v_dup dX12_init_1707 rfl ?_
  refine v_iconst (0 : Int32) dX12_init_1708 (by decide) ?_
  refine v_bipush (100 : Int32) dX12_init_1709 (by decide) ?_
  obtain ⟨i847, h⟩ := h
  refine g_cast dX12_init_1711 i847 h ?_
  clear h
  intro m846 h
  refine v_dup dX12_init_1712 rfl ?_
  refine v_iconst (1 : Int32) dX12_init_1713 (by decide) ?_
  refine v_bipush (97 : Int32) dX12_init_1714 (by decide) ?_
  obtain ⟨i849, h⟩ := h
  refine g_cast dX12_init_1716 i849 h ?_
  clear h
  intro m848 h
  refine v_dup dX12_init_1717 rfl ?_
  refine v_iconst (2 : Int32) dX12_init_1718 (by decide) ?_
  refine v_bipush (121 : Int32) dX12_init_1719 (by decide) ?_
  obtain ⟨i851, h⟩ := h
  refine g_cast dX12_init_1721 i851 h ?_
  clear h
  intro m850 h
  obtain ⟨o852, h⟩ := h
  refine g_qR 12 105 dX12_init_1722 fw_RX12_261 o852 rfl (fun _ => rfl) (fun _ => rfl) h ?_
  clear h
  intro m853 h
  refine v_aload_n 0 0 dX12_init_1725 rfl rfl ?_
  refine v_iconst (3 : Int32) dX12_init_1726 (by decide) ?_
  refine g_newa (atype := .char) (ty := .char) (N := 3) 101 rfl rfl (by decide) (a0c_101 _) (fun _ _ h => h) aw_101 (by decide) (by decide +kernel) (Nat.le_of_ble_eq_true rfl) (Nat.le_of_ble_eq_true rfl) (Nat.le_of_ble_eq_true rfl) dX12_init_1727 h ?_
  clear h
  intro sh854 m855 h hl856
  refine v_dup dX12_init_1729 rfl ?_
  refine v_iconst (0 : Int32) dX12_init_1730 (by decide) ?_
  refine v_bipush (119 : Int32) dX12_init_1731 (by decide) ?_
  obtain ⟨i858, h⟩ := h
  refine g_cast dX12_init_1733 i858 h ?_
  clear h
  intro m857 h
  refine v_dup dX12_init_1734 rfl ?_
  refine v_iconst (1 : Int32) dX12_init_1735 (by decide) ?_
  refine v_bipush (101 : Int32) dX12_init_1736 (by decide) ?_
  obtain ⟨i860, h⟩ := h
  refine g_cast dX12_init_1738 i860 h ?_
  clear h
  intro m859 h
  refine v_dup dX12_init_1739 rfl ?_
  refine v_iconst (2 : Int32) dX12_init_1740 (by decide) ?_
  refine v_bipush (116 : Int32) dX12_init_1741 (by decide) ?_
  obtain ⟨i862, h⟩ := h
  refine g_cast dX12_init_1743 i862 h ?_
  clear h
  intro m861 h
  obtain ⟨o863, h⟩ := h
  refine g_qR 12 106 dX12_init_1744 fw_RX12_264 o863 rfl (fun _ => rfl) (fun _ => rfl) h ?_
  clear h
  intro m864 h
  refine v_aload_n 0 0 dX12_init_1747 rfl rfl ?_
  refine v_iconst (4 : Int32) dX12_init_1748 (by decide) ?_
  refine g_newa (atype := .char) (ty := .char) (N := 4) 101 rfl rfl (by decide) (a0c_101 _) (fun _ _ h => h) aw_101 (by decide) (by decide +kernel) (Nat.le_of_ble_eq_true rfl) (Nat.le_of_ble_eq_true rfl) (Nat.le_of_ble_eq_true rfl) dX12_init_1749 h ?_
  clear h
  intro sh865 m866 h hl867
  refine v_dup dX12_init_1751 rfl ?_
  refine v_iconst (0 : Int32) dX12_init_1752 (by decide) ?_
  refine v_bipush (115 : Int32) dX12_init_1753 (by decide) ?_
  obtain ⟨i869, h⟩ := h
  refine g_cast dX12_init_1755 i869 h ?_
  clear h
  intro m868 h
  refine v_dup dX12_init_1756 rfl ?_
  refine v_iconst (1 : Int32) dX12_init_1757 (by decide) ?_
  refine v_bipush (116 : Int32) dX12_init_1758 (by decide) ?_
  obtain ⟨i871, h⟩ := h
  refine g_cast dX12_init_1760 i871 h ?_
  clear h
  intro m870 h
  refine v_dup dX12_init_1761 rfl ?_
  refine v_iconst (2 : Int32) dX12_init_1762 (by decide) ?_
  refine v_bipush (101 : Int32) dX12_init_1763 (by decide) ?_
  obtain ⟨i873, h⟩ := h
  refine g_cast dX12_init_1765 i873 h ?_
  clear h
  intro m872 h
  refine v_dup dX12_init_1766 rfl ?_
  refine v_iconst (3 : Int32) dX12_init_1767 (by decide) ?_
  refine v_bipush (112 : Int32) dX12_init_1768 (by decide) ?_
  obtain ⟨i875, h⟩ := h
  refine g_cast dX12_init_1770 i875 h ?_
  clear h
  intro m874 h
  obtain ⟨o876, h⟩ := h
  refine g_qR 12 107 dX12_init_1771 fw_RX12_267 o876 rfl (fun _ => rfl) (fun _ => rfl) h ?_
  clear h
  intro m877 h
  refine v_aload_n 0 0 dX12_init_1774 rfl rfl ?_
  refine v_sipush (1700 : Int32) dX12_init_1775 (by decide) ?_
  refine g_newa (atype := .int) (ty := .int) (N := 1700) 100 rfl rfl (by decide) (a0c_100 _) (fun _ _ h => h) aw_100 (by decide) (by decide +kernel) (Nat.le_of_ble_eq_true rfl) (Nat.le_of_ble_eq_true rfl) (Nat.le_of_ble_eq_true rfl) dX12_init_1778 h ?_
  clear h
  intro sh878 m879 h hl880
  obtain ⟨o881, h⟩ := h
  refine g_qR 12 108 dX12_init_1780 fw_RX12_270 o881 rfl (fun _ => rfl) (fun _ => rfl) h ?_
  clear h
  intro m882 h
  refine v_aload_n 0 0 dX12_init_1783 rfl rfl ?_
  refine v_sipush (1700 : Int32) dX12_init_1784 (by decide) ?_
  refine g_newa (atype := .int) (ty := .int) (N := 1700) 100 rfl rfl (by decide) (a0c_100 _) (fun _ _ h => h) aw_100 (by decide) (by decide +kernel) (Nat.le_of_ble_eq_true rfl) (Nat.le_of_ble_eq_true rfl) (Nat.le_of_ble_eq_true rfl) dX12_init_1787 h ?_
  clear h
  intro sh883 m884 h hl885
  obtain ⟨o886, h⟩ := h
  refine g_qR 12 110 dX12_init_1789 fw_RX12_273 o886 rfl (fun _ => rfl) (fun _ => rfl) h ?_
  clear h
  intro m887 h
  refine v_aload_n 0 0 dX12_init_1792 rfl rfl ?_
  refine v_sipush (1700 : Int32) dX12_init_1793 (by decide) ?_
  refine g_newa (atype := .long) (ty := .long) (N := 1700) 103 rfl rfl (by decide) (a0c_103 _) (fun _ _ h => h) aw_103 (by decide) (by decide +kernel) (Nat.le_of_ble_eq_true rfl) (Nat.le_of_ble_eq_true rfl) (Nat.le_of_ble_eq_true rfl) dX12_init_1796 h ?_
  clear h
  intro sh888 m889 h hl890
  obtain ⟨o891, h⟩ := h
  refine g_qR 12 114 dX12_init_1798 fw_RX12_276 o891 rfl (fun _ => rfl) (fun _ => rfl) h ?_
  clear h
  intro m892 h
  refine v_aload_n 0 0 dX12_init_1801 rfl rfl ?_
  refine v_bipush (117 : Int32) dX12_init_1802 (by decide) ?_
  refine g_newa (atype := .int) (ty := .int) (N := 117) 100 rfl rfl (by decide) (a0c_100 _) (fun _ _ h => h) aw_100 (by decide) (by decide +kernel) (Nat.le_of_ble_eq_true rfl) (Nat.le_of_ble_eq_true rfl) (Nat.le_of_ble_eq_true rfl) dX12_init_1804 h ?_
  clear h
  intro sh893 m894 h hl895
  obtain ⟨o896, h⟩ := h
  refine g_qR 12 118 dX12_init_1806 fw_RX12_279 o896 rfl (fun _ => rfl) (fun _ => rfl) h ?_
  clear h
  intro m897 h
  exact v_cret0 dX12_init_1809 rfl (by omega) (Nat.le_of_ble_eq_true rfl) (Nat.le_of_ble_eq_true rfl) h
