theorem dX12_init_0 : decode cX12_init 0 = .ok (.aload_n 0, 1) := by decide +kernel
theorem dX12_init_1 : decode cX12_init 1 = .ok (.invokespecial 1, 3) := by decide +kernel
theorem dX12_init_4 : decode cX12_init 4 = .ok (.aload_n 0, 1) := by decide +kernel
theorem dX12_init_5 : decode cX12_init 5 = .ok (.sipush 1600, 3) := by decide +kernel
theorem dX12_init_8 : decode cX12_init 8 = .ok (.newarray .int, 2) := by decide +kernel
theorem dX12_init_10 : decode cX12_init 10 = .ok (.putfield 7, 3) := by decide +kernel
theorem dX12_init_13 : decode cX12_init 13 = .ok (.aload_n 0, 1) := by decide +kernel
theorem dX12_init_14 : decode cX12_init 14 = .ok (.iconst (-1), 1) := by decide +kernel
theorem dX12_init_15 : decode cX12_init 15 = .ok (.putfield 13, 3) := by decide +kernel
theorem dX12_init_18 : decode cX12_init 18 = .ok (.aload_n 0, 1) := by decide +kernel
theorem dX12_init_19 : decode cX12_init 19 = .ok (.bipush 6, 2) := by decide +kernel
theorem dX12_init_21 : decode cX12_init 21 = .ok (.newarray .int, 2) := by decide +kernel
theorem dX12_init_23 : decode cX12_init 23 = .ok (.putfield 17, 3) := by decide +kernel
theorem dX12_init_26 : decode cX12_init 26 = .ok (.aload_n 0, 1) := by decide +kernel
theorem dX12_init_27 : decode cX12_init 27 = .ok (.iconst 4, 1) := by decide +kernel
theorem dX12_init_28 : decode cX12_init 28 = .ok (.newarray .char, 2) := by decide +kernel
theorem dX12_init_30 : decode cX12_init 30 = .ok (.dup, 1) := by decide +kernel
theorem dX12_init_31 : decode cX12_init 31 = .ok (.iconst 0, 1) := by decide +kernel
theorem dX12_init_32 : decode cX12_init 32 = .ok (.bipush 107, 2) := by decide +kernel
theorem dX12_init_34 : decode cX12_init 34 = .ok (.castore, 1) := by decide +kernel
theorem dX12_init_35 : decode cX12_init 35 = .ok (.dup, 1) := by decide +kernel
theorem dX12_init_36 : decode cX12_init 36 = .ok (.iconst 1, 1) := by decide +kernel
theorem dX12_init_37 : decode cX12_init 37 = .ok (.bipush 105, 2) := by decide +kernel
theorem dX12_init_39 : decode cX12_init 39 = .ok (.castore, 1) := by decide +kernel
theorem dX12_init_40 : decode cX12_init 40 = .ok (.dup, 1) := by decide +kernel
theorem dX12_init_41 : decode cX12_init 41 = .ok (.iconst 2, 1) := by decide +kernel
theorem dX12_init_42 : decode cX12_init 42 = .ok (.bipush 110, 2) := by decide +kernel
theorem dX12_init_44 : decode cX12_init 44 = .ok (.castore, 1) := by decide +kernel
theorem dX12_init_45 : decode cX12_init 45 = .ok (.dup, 1) := by decide +kernel
theorem dX12_init_46 : decode cX12_init 46 = .ok (.iconst 3, 1) := by decide +kernel
theorem dX12_init_47 : decode cX12_init 47 = .ok (.bipush 100, 2) := by decide +kernel
theorem dX12_init_49 : decode cX12_init 49 = .ok (.castore, 1) := by decide +kernel
theorem dX12_init_50 : decode cX12_init 50 = .ok (.putfield 20, 3) := by decide +kernel
theorem dX12_init_53 : decode cX12_init 53 = .ok (.aload_n 0, 1) := by decide +kernel
theorem dX12_init_54 : decode cX12_init 54 = .ok (.iconst 4, 1) := by decide +kernel
theorem dX12_init_55 : decode cX12_init 55 = .ok (.newarray .char, 2) := by decide +kernel
theorem dX12_init_57 : decode cX12_init 57 = .ok (.dup, 1) := by decide +kernel
theorem dX12_init_58 : decode cX12_init 58 = .ok (.iconst 0, 1) := by decide +kernel
theorem dX12_init_59 : decode cX12_init 59 = .ok (.bipush 108, 2) := by decide +kernel
theorem dX12_init_61 : decode cX12_init 61 = .ok (.castore, 1) := by decide +kernel
theorem dX12_init_62 : decode cX12_init 62 = .ok (.dup, 1) := by decide +kernel
theorem dX12_init_63 : decode cX12_init 63 = .ok (.iconst 1, 1) := by decide +kernel
theorem dX12_init_64 : decode cX12_init 64 = .ok (.bipush 111, 2) := by decide +kernel
theorem dX12_init_66 : decode cX12_init 66 = .ok (.castore, 1) := by decide +kernel
theorem dX12_init_67 : decode cX12_init 67 = .ok (.dup, 1) := by decide +kernel
theorem dX12_init_68 : decode cX12_init 68 = .ok (.iconst 2, 1) := by decide +kernel
theorem dX12_init_69 : decode cX12_init 69 = .ok (.bipush 118, 2) := by decide +kernel
theorem dX12_init_71 : decode cX12_init 71 = .ok (.castore, 1) := by decide +kernel
theorem dX12_init_72 : decode cX12_init 72 = .ok (.dup, 1) := by decide +kernel
theorem dX12_init_73 : decode cX12_init 73 = .ok (.iconst 3, 1) := by decide +kernel
theorem dX12_init_74 : decode cX12_init 74 = .ok (.bipush 101, 2) := by decide +kernel
theorem dX12_init_76 : decode cX12_init 76 = .ok (.castore, 1) := by decide +kernel
theorem dX12_init_77 : decode cX12_init 77 = .ok (.putfield 24, 3) := by decide +kernel
theorem dX12_init_80 : decode cX12_init 80 = .ok (.aload_n 0, 1) := by decide +kernel
theorem dX12_init_81 : decode cX12_init 81 = .ok (.iconst 3, 1) := by decide +kernel
theorem dX12_init_82 : decode cX12_init 82 = .ok (.newarray .char, 2) := by decide +kernel
theorem dX12_init_84 : decode cX12_init 84 = .ok (.dup, 1) := by decide +kernel
theorem dX12_init_85 : decode cX12_init 85 = .ok (.iconst 0, 1) := by decide +kernel
theorem dX12_init_86 : decode cX12_init 86 = .ok (.bipush 119, 2) := by decide +kernel
theorem dX12_init_88 : decode cX12_init 88 = .ok (.castore, 1) := by decide +kernel
theorem dX12_init_89 : decode cX12_init 89 = .ok (.dup, 1) := by decide +kernel
theorem dX12_init_90 : decode cX12_init 90 = .ok (.iconst 1, 1) := by decide +kernel
theorem dX12_init_91 : decode cX12_init 91 = .ok (.bipush 105, 2) := by decide +kernel
theorem dX12_init_93 : decode cX12_init 93 = .ok (.castore, 1) := by decide +kernel
theorem dX12_init_94 : decode cX12_init 94 = .ok (.dup, 1) := by decide +kernel
theorem dX12_init_95 : decode cX12_init 95 = .ok (.iconst 2, 1) := by decide +kernel
theorem dX12_init_96 : decode cX12_init 96 = .ok (.bipush 116, 2) := by decide +kernel
theorem dX12_init_98 : decode cX12_init 98 = .ok (.castore, 1) := by decide +kernel
theorem dX12_init_99 : decode cX12_init 99 = .ok (.putfield 27, 3) := by decide +kernel
theorem dX12_init_102 : decode cX12_init 102 = .ok (.aload_n 0, 1) := by decide +kernel
theorem dX12_init_103 : decode cX12_init 103 = .ok (.iconst 4, 1) := by decide +kernel
theorem dX12_init_104 : decode cX12_init 104 = .ok (.newarray .char, 2) := by decide +kernel
theorem dX12_init_106 : decode cX12_init 106 = .ok (.dup, 1) := by decide +kernel
theorem dX12_init_107 : decode cX12_init 107 = .ok (.iconst 0, 1) := by decide +kernel
theorem dX12_init_108 : decode cX12_init 108 = .ok (.bipush 116, 2) := by decide +kernel
theorem dX12_init_110 : decode cX12_init 110 = .ok (.castore, 1) := by decide +kernel
theorem dX12_init_111 : decode cX12_init 111 = .ok (.dup, 1) := by decide +kernel
theorem dX12_init_112 : decode cX12_init 112 = .ok (.iconst 1, 1) := by decide +kernel
theorem dX12_init_113 : decode cX12_init 113 = .ok (.bipush 114, 2) := by decide +kernel
theorem dX12_init_115 : decode cX12_init 115 = .ok (.castore, 1) := by decide +kernel
theorem dX12_init_116 : decode cX12_init 116 = .ok (.dup, 1) := by decide +kernel
theorem dX12_init_117 : decode cX12_init 117 = .ok (.iconst 2, 1) := by decide +kernel
theorem dX12_init_118 : decode cX12_init 118 = .ok (.bipush 117, 2) := by decide +kernel
theorem dX12_init_120 : decode cX12_init 120 = .ok (.castore, 1) := by decide +kernel
theorem dX12_init_121 : decode cX12_init 121 = .ok (.dup, 1) := by decide +kernel
theorem dX12_init_122 : decode cX12_init 122 = .ok (.iconst 3, 1) := by decide +kernel
theorem dX12_init_123 : decode cX12_init 123 = .ok (.bipush 101, 2) := by decide +kernel
theorem dX12_init_125 : decode cX12_init 125 = .ok (.castore, 1) := by decide +kernel
theorem dX12_init_126 : decode cX12_init 126 = .ok (.putfield 30, 3) := by decide +kernel
theorem dX12_init_129 : decode cX12_init 129 = .ok (.aload_n 0, 1) := by decide +kernel
theorem dX12_init_130 : decode cX12_init 130 = .ok (.iconst 5, 1) := by decide +kernel
theorem dX12_init_131 : decode cX12_init 131 = .ok (.newarray .char, 2) := by decide +kernel
theorem dX12_init_133 : decode cX12_init 133 = .ok (.dup, 1) := by decide +kernel
theorem dX12_init_134 : decode cX12_init 134 = .ok (.iconst 0, 1) := by decide +kernel
theorem dX12_init_135 : decode cX12_init 135 = .ok (.bipush 102, 2) := by decide +kernel
theorem dX12_init_137 : decode cX12_init 137 = .ok (.castore, 1) := by decide +kernel
theorem dX12_init_138 : decode cX12_init 138 = .ok (.dup, 1) := by decide +kernel
theorem dX12_init_139 : decode cX12_init 139 = .ok (.iconst 1, 1) := by decide +kernel
theorem dX12_init_140 : decode cX12_init 140 = .ok (.bipush 97, 2) := by decide +kernel
theorem dX12_init_142 : decode cX12_init 142 = .ok (.castore, 1) := by decide +kernel
theorem dX12_init_143 : decode cX12_init 143 = .ok (.dup, 1) := by decide +kernel
theorem dX12_init_144 : decode cX12_init 144 = .ok (.iconst 2, 1) := by decide +kernel
theorem dX12_init_145 : decode cX12_init 145 = .ok (.bipush 108, 2) := by decide +kernel
theorem dX12_init_147 : decode cX12_init 147 = .ok (.castore, 1) := by decide +kernel
theorem dX12_init_148 : decode cX12_init 148 = .ok (.dup, 1) := by decide +kernel
theorem dX12_init_149 : decode cX12_init 149 = .ok (.iconst 3, 1) := by decide +kernel
theorem dX12_init_150 : decode cX12_init 150 = .ok (.bipush 115, 2) := by decide +kernel
theorem dX12_init_152 : decode cX12_init 152 = .ok (.castore, 1) := by decide +kernel
theorem dX12_init_153 : decode cX12_init 153 = .ok (.dup, 1) := by decide +kernel
theorem dX12_init_154 : decode cX12_init 154 = .ok (.iconst 4, 1) := by decide +kernel
theorem dX12_init_155 : decode cX12_init 155 = .ok (.bipush 101, 2) := by decide +kernel
theorem dX12_init_157 : decode cX12_init 157 = .ok (.castore, 1) := by decide +kernel
theorem dX12_init_158 : decode cX12_init 158 = .ok (.putfield 33, 3) := by decide +kernel
theorem dX12_init_161 : decode cX12_init 161 = .ok (.aload_n 0, 1) := by decide +kernel
theorem dX12_init_162 : decode cX12_init 162 = .ok (.iconst 4, 1) := by decide +kernel
theorem dX12_init_163 : decode cX12_init 163 = .ok (.newarray .char, 2) := by decide +kernel
theorem dX12_init_165 : decode cX12_init 165 = .ok (.dup, 1) := by decide +kernel
theorem dX12_init_166 : decode cX12_init 166 = .ok (.iconst 0, 1) := by decide +kernel
theorem dX12_init_167 : decode cX12_init 167 = .ok (.bipush 116, 2) := by decide +kernel
theorem dX12_init_169 : decode cX12_init 169 = .ok (.castore, 1) := by decide +kernel
theorem dX12_init_170 : decode cX12_init 170 = .ok (.dup, 1) := by decide +kernel
theorem dX12_init_171 : decode cX12_init 171 = .ok (.iconst 1, 1) := by decide +kernel
theorem dX12_init_172 : decode cX12_init 172 = .ok (.bipush 101, 2) := by decide +kernel
theorem dX12_init_174 : decode cX12_init 174 = .ok (.castore, 1) := by decide +kernel
theorem dX12_init_175 : decode cX12_init 175 = .ok (.dup, 1) := by decide +kernel
theorem dX12_init_176 : decode cX12_init 176 = .ok (.iconst 2, 1) := by decide +kernel
theorem dX12_init_177 : decode cX12_init 177 = .ok (.bipush 115, 2) := by decide +kernel
theorem dX12_init_179 : decode cX12_init 179 = .ok (.castore, 1) := by decide +kernel
theorem dX12_init_180 : decode cX12_init 180 = .ok (.dup, 1) := by decide +kernel
theorem dX12_init_181 : decode cX12_init 181 = .ok (.iconst 3, 1) := by decide +kernel
theorem dX12_init_182 : decode cX12_init 182 = .ok (.bipush 116, 2) := by decide +kernel
theorem dX12_init_184 : decode cX12_init 184 = .ok (.castore, 1) := by decide +kernel
theorem dX12_init_185 : decode cX12_init 185 = .ok (.putfield 36, 3) := by decide +kernel
theorem dX12_init_188 : decode cX12_init 188 = .ok (.aload_n 0, 1) := by decide +kernel
theorem dX12_init_189 : decode cX12_init 189 = .ok (.iconst 4, 1) := by decide +kernel
theorem dX12_init_190 : decode cX12_init 190 = .ok (.newarray .char, 2) := by decide +kernel
theorem dX12_init_192 : decode cX12_init 192 = .ok (.dup, 1) := by decide +kernel
theorem dX12_init_193 : decode cX12_init 193 = .ok (.iconst 0, 1) := by decide +kernel
theorem dX12_init_194 : decode cX12_init 194 = .ok (.bipush 104, 2) := by decide +kernel
theorem dX12_init_196 : decode cX12_init 196 = .ok (.castore, 1) := by decide +kernel
theorem dX12_init_197 : decode cX12_init 197 = .ok (.dup, 1) := by decide +kernel
theorem dX12_init_198 : decode cX12_init 198 = .ok (.iconst 1, 1) := by decide +kernel
theorem dX12_init_199 : decode cX12_init 199 = .ok (.bipush 97, 2) := by decide +kernel
theorem dX12_init_201 : decode cX12_init 201 = .ok (.castore, 1) := by decide +kernel
theorem dX12_init_202 : decode cX12_init 202 = .ok (.dup, 1) := by decide +kernel
theorem dX12_init_203 : decode cX12_init 203 = .ok (.iconst 2, 1) := by decide +kernel
theorem dX12_init_204 : decode cX12_init 204 = .ok (.bipush 114, 2) := by decide +kernel
theorem dX12_init_206 : decode cX12_init 206 = .ok (.castore, 1) := by decide +kernel
theorem dX12_init_207 : decode cX12_init 207 = .ok (.dup, 1) := by decide +kernel
theorem dX12_init_208 : decode cX12_init 208 = .ok (.iconst 3, 1) := by decide +kernel
theorem dX12_init_209 : decode cX12_init 209 = .ok (.bipush 109, 2) := by decide +kernel
theorem dX12_init_211 : decode cX12_init 211 = .ok (.castore, 1) := by decide +kernel
theorem dX12_init_212 : decode cX12_init 212 = .ok (.putfield 39, 3) := by decide +kernel
theorem dX12_init_215 : decode cX12_init 215 = .ok (.aload_n 0, 1) := by decide +kernel
theorem dX12_init_216 : decode cX12_init 216 = .ok (.iconst 4, 1) := by decide +kernel
theorem dX12_init_217 : decode cX12_init 217 = .ok (.newarray .char, 2) := by decide +kernel
theorem dX12_init_219 : decode cX12_init 219 = .ok (.dup, 1) := by decide +kernel
theorem dX12_init_220 : decode cX12_init 220 = .ok (.iconst 0, 1) := by decide +kernel
theorem dX12_init_221 : decode cX12_init 221 = .ok (.bipush 109, 2) := by decide +kernel
theorem dX12_init_223 : decode cX12_init 223 = .ok (.castore, 1) := by decide +kernel
theorem dX12_init_224 : decode cX12_init 224 = .ok (.dup, 1) := by decide +kernel
theorem dX12_init_225 : decode cX12_init 225 = .ok (.iconst 1, 1) := by decide +kernel
theorem dX12_init_226 : decode cX12_init 226 = .ok (.bipush 97, 2) := by decide +kernel
theorem dX12_init_228 : decode cX12_init 228 = .ok (.castore, 1) := by decide +kernel
theorem dX12_init_229 : decode cX12_init 229 = .ok (.dup, 1) := by decide +kernel
theorem dX12_init_230 : decode cX12_init 230 = .ok (.iconst 2, 1) := by decide +kernel
theorem dX12_init_231 : decode cX12_init 231 = .ok (.bipush 114, 2) := by decide +kernel
theorem dX12_init_233 : decode cX12_init 233 = .ok (.castore, 1) := by decide +kernel
theorem dX12_init_234 : decode cX12_init 234 = .ok (.dup, 1) := by decide +kernel
theorem dX12_init_235 : decode cX12_init 235 = .ok (.iconst 3, 1) := by decide +kernel
theorem dX12_init_236 : decode cX12_init 236 = .ok (.bipush 107, 2) := by decide +kernel
theorem dX12_init_238 : decode cX12_init 238 = .ok (.castore, 1) := by decide +kernel
theorem dX12_init_239 : decode cX12_init 239 = .ok (.putfield 42, 3) := by decide +kernel
theorem dX12_init_242 : decode cX12_init 242 = .ok (.aload_n 0, 1) := by decide +kernel
theorem dX12_init_243 : decode cX12_init 243 = .ok (.bipush 6, 2) := by decide +kernel
theorem dX12_init_245 : decode cX12_init 245 = .ok (.newarray .char, 2) := by decide +kernel
theorem dX12_init_247 : decode cX12_init 247 = .ok (.dup, 1) := by decide +kernel
theorem dX12_init_248 : decode cX12_init 248 = .ok (.iconst 0, 1) := by decide +kernel
theorem dX12_init_249 : decode cX12_init 249 = .ok (.bipush 121, 2) := by decide +kernel
theorem dX12_init_251 : decode cX12_init 251 = .ok (.castore, 1) := by decide +kernel
theorem dX12_init_252 : decode cX12_init 252 = .ok (.dup, 1) := by decide +kernel
theorem dX12_init_253 : decode cX12_init 253 = .ok (.iconst 1, 1) := by decide +kernel
theorem dX12_init_254 : decode cX12_init 254 = .ok (.bipush 105, 2) := by decide +kernel
theorem dX12_init_256 : decode cX12_init 256 = .ok (.castore, 1) := by decide +kernel
theorem dX12_init_257 : decode cX12_init 257 = .ok (.dup, 1) := by decide +kernel
theorem dX12_init_258 : decode cX12_init 258 = .ok (.iconst 2, 1) := by decide +kernel
theorem dX12_init_259 : decode cX12_init 259 = .ok (.bipush 101, 2) := by decide +kernel
theorem dX12_init_261 : decode cX12_init 261 = .ok (.castore, 1) := by decide +kernel
theorem dX12_init_262 : decode cX12_init 262 = .ok (.dup, 1) := by decide +kernel
theorem dX12_init_263 : decode cX12_init 263 = .ok (.iconst 3, 1) := by decide +kernel
theorem dX12_init_264 : decode cX12_init 264 = .ok (.bipush 108, 2) := by decide +kernel
theorem dX12_init_266 : decode cX12_init 266 = .ok (.castore, 1) := by decide +kernel
theorem dX12_init_267 : decode cX12_init 267 = .ok (.dup, 1) := by decide +kernel
theorem dX12_init_268 : decode cX12_init 268 = .ok (.iconst 4, 1) := by decide +kernel
theorem dX12_init_269 : decode cX12_init 269 = .ok (.bipush 100, 2) := by decide +kernel
theorem dX12_init_271 : decode cX12_init 271 = .ok (.castore, 1) := by decide +kernel
theorem dX12_init_272 : decode cX12_init 272 = .ok (.dup, 1) := by decide +kernel
theorem dX12_init_273 : decode cX12_init 273 = .ok (.iconst 5, 1) := by decide +kernel
theorem dX12_init_274 : decode cX12_init 274 = .ok (.bipush 115, 2) := by decide +kernel
theorem dX12_init_276 : decode cX12_init 276 = .ok (.castore, 1) := by decide +kernel
theorem dX12_init_277 : decode cX12_init 277 = .ok (.putfield 45, 3) := by decide +kernel
theorem dX12_init_280 : decode cX12_init 280 = .ok (.aload_n 0, 1) := by decide +kernel
theorem dX12_init_281 : decode cX12_init 281 = .ok (.iconst 5, 1) := by decide +kernel
theorem dX12_init_282 : decode cX12_init 282 = .ok (.newarray .char, 2) := by decide +kernel
theorem dX12_init_284 : decode cX12_init 284 = .ok (.dup, 1) := by decide +kernel
theorem dX12_init_285 : decode cX12_init 285 = .ok (.iconst 0, 1) := by decide +kernel
theorem dX12_init_286 : decode cX12_init 286 = .ok (.bipush 102, 2) := by decide +kernel
theorem dX12_init_288 : decode cX12_init 288 = .ok (.castore, 1) := by decide +kernel
theorem dX12_init_289 : decode cX12_init 289 = .ok (.dup, 1) := by decide +kernel
theorem dX12_init_290 : decode cX12_init 290 = .ok (.iconst 1, 1) := by decide +kernel
theorem dX12_init_291 : decode cX12_init 291 = .ok (.bipush 105, 2) := by decide +kernel
theorem dX12_init_293 : decode cX12_init 293 = .ok (.castore, 1) := by decide +kernel
theorem dX12_init_294 : decode cX12_init 294 = .ok (.dup, 1) := by decide +kernel
theorem dX12_init_295 : decode cX12_init 295 = .ok (.iconst 2, 1) := by decide +kernel
theorem dX12_init_296 : decode cX12_init 296 = .ok (.bipush 114, 2) := by decide +kernel
theorem dX12_init_298 : decode cX12_init 298 = .ok (.castore, 1) := by decide +kernel
theorem dX12_init_299 : decode cX12_init 299 = .ok (.dup, 1) := by decide +kernel
theorem dX12_init_300 : decode cX12_init 300 = .ok (.iconst 3, 1) := by decide +kernel
theorem dX12_init_301 : decode cX12_init 301 = .ok (.bipush 115, 2) := by decide +kernel
theorem dX12_init_303 : decode cX12_init 303 = .ok (.castore, 1) := by decide +kernel
theorem dX12_init_304 : decode cX12_init 304 = .ok (.dup, 1) := by decide +kernel
theorem dX12_init_305 : decode cX12_init 305 = .ok (.iconst 4, 1) := by decide +kernel
theorem dX12_init_306 : decode cX12_init 306 = .ok (.bipush 116, 2) := by decide +kernel
theorem dX12_init_308 : decode cX12_init 308 = .ok (.castore, 1) := by decide +kernel
theorem dX12_init_309 : decode cX12_init 309 = .ok (.putfield 48, 3) := by decide +kernel
theorem dX12_init_312 : decode cX12_init 312 = .ok (.aload_n 0, 1) := by decide +kernel
theorem dX12_init_313 : decode cX12_init 313 = .ok (.iconst 5, 1) := by decide +kernel
theorem dX12_init_314 : decode cX12_init 314 = .ok (.newarray .char, 2) := by decide +kernel
theorem dX12_init_316 : decode cX12_init 316 = .ok (.dup, 1) := by decide +kernel
theorem dX12_init_317 : decode cX12_init 317 = .ok (.iconst 0, 1) := by decide +kernel
theorem dX12_init_318 : decode cX12_init 318 = .ok (.bipush 112, 2) := by decide +kernel
theorem dX12_init_320 : decode cX12_init 320 = .ok (.castore, 1) := by decide +kernel
theorem dX12_init_321 : decode cX12_init 321 = .ok (.dup, 1) := by decide +kernel
theorem dX12_init_322 : decode cX12_init 322 = .ok (.iconst 1, 1) := by decide +kernel
theorem dX12_init_323 : decode cX12_init 323 = .ok (.bipush 114, 2) := by decide +kernel
theorem dX12_init_325 : decode cX12_init 325 = .ok (.castore, 1) := by decide +kernel
theorem dX12_init_326 : decode cX12_init 326 = .ok (.dup, 1) := by decide +kernel
theorem dX12_init_327 : decode cX12_init 327 = .ok (.iconst 2, 1) := by decide +kernel
theorem dX12_init_328 : decode cX12_init 328 = .ok (.bipush 105, 2) := by decide +kernel
theorem dX12_init_330 : decode cX12_init 330 = .ok (.castore, 1) := by decide +kernel
theorem dX12_init_331 : decode cX12_init 331 = .ok (.dup, 1) := by decide +kernel
theorem dX12_init_332 : decode cX12_init 332 = .ok (.iconst 3, 1) := by decide +kernel
theorem dX12_init_333 : decode cX12_init 333 = .ok (.bipush 99, 2) := by decide +kernel
theorem dX12_init_335 : decode cX12_init 335 = .ok (.castore, 1) := by decide +kernel
theorem dX12_init_336 : decode cX12_init 336 = .ok (.dup, 1) := by decide +kernel
theorem dX12_init_337 : decode cX12_init 337 = .ok (.iconst 4, 1) := by decide +kernel
theorem dX12_init_338 : decode cX12_init 338 = .ok (.bipush 101, 2) := by decide +kernel
theorem dX12_init_340 : decode cX12_init 340 = .ok (.castore, 1) := by decide +kernel
theorem dX12_init_341 : decode cX12_init 341 = .ok (.putfield 51, 3) := by decide +kernel
theorem dX12_init_344 : decode cX12_init 344 = .ok (.aload_n 0, 1) := by decide +kernel
theorem dX12_init_345 : decode cX12_init 345 = .ok (.iconst 5, 1) := by decide +kernel
theorem dX12_init_346 : decode cX12_init 346 = .ok (.newarray .char, 2) := by decide +kernel
theorem dX12_init_348 : decode cX12_init 348 = .ok (.dup, 1) := by decide +kernel
theorem dX12_init_349 : decode cX12_init 349 = .ok (.iconst 0, 1) := by decide +kernel
theorem dX12_init_350 : decode cX12_init 350 = .ok (.bipush 104, 2) := by decide +kernel
theorem dX12_init_352 : decode cX12_init 352 = .ok (.castore, 1) := by decide +kernel
theorem dX12_init_353 : decode cX12_init 353 = .ok (.dup, 1) := by decide +kernel
theorem dX12_init_354 : decode cX12_init 354 = .ok (.iconst 1, 1) := by decide +kernel
theorem dX12_init_355 : decode cX12_init 355 = .ok (.bipush 101, 2) := by decide +kernel
theorem dX12_init_357 : decode cX12_init 357 = .ok (.castore, 1) := by decide +kernel
theorem dX12_init_358 : decode cX12_init 358 = .ok (.dup, 1) := by decide +kernel
theorem dX12_init_359 : decode cX12_init 359 = .ok (.iconst 2, 1) := by decide +kernel
theorem dX12_init_360 : decode cX12_init 360 = .ok (.bipush 97, 2) := by decide +kernel
theorem dX12_init_362 : decode cX12_init 362 = .ok (.castore, 1) := by decide +kernel
theorem dX12_init_363 : decode cX12_init 363 = .ok (.dup, 1) := by decide +kernel
theorem dX12_init_364 : decode cX12_init 364 = .ok (.iconst 3, 1) := by decide +kernel
theorem dX12_init_365 : decode cX12_init 365 = .ok (.bipush 114, 2) := by decide +kernel
theorem dX12_init_367 : decode cX12_init 367 = .ok (.castore, 1) := by decide +kernel
theorem dX12_init_368 : decode cX12_init 368 = .ok (.dup, 1) := by decide +kernel
theorem dX12_init_369 : decode cX12_init 369 = .ok (.iconst 4, 1) := by decide +kernel
theorem dX12_init_370 : decode cX12_init 370 = .ok (.bipush 100, 2) := by decide +kernel
theorem dX12_init_372 : decode cX12_init 372 = .ok (.castore, 1) := by decide +kernel
theorem dX12_init_373 : decode cX12_init 373 = .ok (.putfield 54, 3) := by decide +kernel
theorem dX12_init_376 : decode cX12_init 376 = .ok (.aload_n 0, 1) := by decide +kernel
theorem dX12_init_377 : decode cX12_init 377 = .ok (.iconst 5, 1) := by decide +kernel
theorem dX12_init_378 : decode cX12_init 378 = .ok (.newarray .char, 2) := by decide +kernel
theorem dX12_init_380 : decode cX12_init 380 = .ok (.dup, 1) := by decide +kernel
theorem dX12_init_381 : decode cX12_init 381 = .ok (.iconst 0, 1) := by decide +kernel
theorem dX12_init_382 : decode cX12_init 382 = .ok (.bipush 116, 2) := by decide +kernel
theorem dX12_init_384 : decode cX12_init 384 = .ok (.castore, 1) := by decide +kernel
theorem dX12_init_385 : decode cX12_init 385 = .ok (.dup, 1) := by decide +kernel
theorem dX12_init_386 : decode cX12_init 386 = .ok (.iconst 1, 1) := by decide +kernel
theorem dX12_init_387 : decode cX12_init 387 = .ok (.bipush 114, 2) := by decide +kernel
theorem dX12_init_389 : decode cX12_init 389 = .ok (.castore, 1) := by decide +kernel
theorem dX12_init_390 : decode cX12_init 390 = .ok (.dup, 1) := by decide +kernel
theorem dX12_init_391 : decode cX12_init 391 = .ok (.iconst 2, 1) := by decide +kernel
theorem dX12_init_392 : decode cX12_init 392 = .ok (.bipush 117, 2) := by decide +kernel
theorem dX12_init_394 : decode cX12_init 394 = .ok (.castore, 1) := by decide +kernel
theorem dX12_init_395 : decode cX12_init 395 = .ok (.dup, 1) := by decide +kernel
theorem dX12_init_396 : decode cX12_init 396 = .ok (.iconst 3, 1) := by decide +kernel
theorem dX12_init_397 : decode cX12_init 397 = .ok (.bipush 116, 2) := by decide +kernel
theorem dX12_init_399 : decode cX12_init 399 = .ok (.castore, 1) := by decide +kernel
theorem dX12_init_400 : decode cX12_init 400 = .ok (.dup, 1) := by decide +kernel
theorem dX12_init_401 : decode cX12_init 401 = .ok (.iconst 4, 1) := by decide +kernel
theorem dX12_init_402 : decode cX12_init 402 = .ok (.bipush 104, 2) := by decide +kernel
theorem dX12_init_404 : decode cX12_init 404 = .ok (.castore, 1) := by decide +kernel
theorem dX12_init_405 : decode cX12_init 405 = .ok (.putfield 57, 3) := by decide +kernel
theorem dX12_init_408 : decode cX12_init 408 = .ok (.aload_n 0, 1) := by decide +kernel
theorem dX12_init_409 : decode cX12_init 409 = .ok (.bipush 6, 2) := by decide +kernel
theorem dX12_init_411 : decode cX12_init 411 = .ok (.newarray .char, 2) := by decide +kernel
theorem dX12_init_413 : decode cX12_init 413 = .ok (.dup, 1) := by decide +kernel
theorem dX12_init_414 : decode cX12_init 414 = .ok (.iconst 0, 1) := by decide +kernel
theorem dX12_init_415 : decode cX12_init 415 = .ok (.bipush 110, 2) := by decide +kernel
theorem dX12_init_417 : decode cX12_init 417 = .ok (.castore, 1) := by decide +kernel
theorem dX12_init_418 : decode cX12_init 418 = .ok (.dup, 1) := by decide +kernel
theorem dX12_init_419 : decode cX12_init 419 = .ok (.iconst 1, 1) := by decide +kernel
theorem dX12_init_420 : decode cX12_init 420 = .ok (.bipush 117, 2) := by decide +kernel
theorem dX12_init_422 : decode cX12_init 422 = .ok (.castore, 1) := by decide +kernel
theorem dX12_init_423 : decode cX12_init 423 = .ok (.dup, 1) := by decide +kernel
theorem dX12_init_424 : decode cX12_init 424 = .ok (.iconst 2, 1) := by decide +kernel
theorem dX12_init_425 : decode cX12_init 425 = .ok (.bipush 109, 2) := by decide +kernel
theorem dX12_init_427 : decode cX12_init 427 = .ok (.castore, 1) := by decide +kernel
theorem dX12_init_428 : decode cX12_init 428 = .ok (.dup, 1) := by decide +kernel
theorem dX12_init_429 : decode cX12_init 429 = .ok (.iconst 3, 1) := by decide +kernel
theorem dX12_init_430 : decode cX12_init 430 = .ok (.bipush 98, 2) := by decide +kernel
theorem dX12_init_432 : decode cX12_init 432 = .ok (.castore, 1) := by decide +kernel
theorem dX12_init_433 : decode cX12_init 433 = .ok (.dup, 1) := by decide +kernel
theorem dX12_init_434 : decode cX12_init 434 = .ok (.iconst 4, 1) := by decide +kernel
theorem dX12_init_435 : decode cX12_init 435 = .ok (.bipush 101, 2) := by decide +kernel
theorem dX12_init_437 : decode cX12_init 437 = .ok (.castore, 1) := by decide +kernel
theorem dX12_init_438 : decode cX12_init 438 = .ok (.dup, 1) := by decide +kernel
theorem dX12_init_439 : decode cX12_init 439 = .ok (.iconst 5, 1) := by decide +kernel
theorem dX12_init_440 : decode cX12_init 440 = .ok (.bipush 114, 2) := by decide +kernel
theorem dX12_init_442 : decode cX12_init 442 = .ok (.castore, 1) := by decide +kernel
theorem dX12_init_443 : decode cX12_init 443 = .ok (.putfield 60, 3) := by decide +kernel
theorem dX12_init_446 : decode cX12_init 446 = .ok (.aload_n 0, 1) := by decide +kernel
theorem dX12_init_447 : decode cX12_init 447 = .ok (.iconst 5, 1) := by decide +kernel
theorem dX12_init_448 : decode cX12_init 448 = .ok (.newarray .char, 2) := by decide +kernel
theorem dX12_init_450 : decode cX12_init 450 = .ok (.dup, 1) := by decide +kernel
theorem dX12_init_451 : decode cX12_init 451 = .ok (.iconst 0, 1) := by decide +kernel
theorem dX12_init_452 : decode cX12_init 452 = .ok (.bipush 109, 2) := by decide +kernel
theorem dX12_init_454 : decode cX12_init 454 = .ok (.castore, 1) := by decide +kernel
theorem dX12_init_455 : decode cX12_init 455 = .ok (.dup, 1) := by decide +kernel
theorem dX12_init_456 : decode cX12_init 456 = .ok (.iconst 1, 1) := by decide +kernel
theorem dX12_init_457 : decode cX12_init 457 = .ok (.bipush 101, 2) := by decide +kernel
theorem dX12_init_459 : decode cX12_init 459 = .ok (.castore, 1) := by decide +kernel
theorem dX12_init_460 : decode cX12_init 460 = .ok (.dup, 1) := by decide +kernel
theorem dX12_init_461 : decode cX12_init 461 = .ok (.iconst 2, 1) := by decide +kernel
theorem dX12_init_462 : decode cX12_init 462 = .ok (.bipush 114, 2) := by decide +kernel
theorem dX12_init_464 : decode cX12_init 464 = .ok (.castore, 1) := by decide +kernel
theorem dX12_init_465 : decode cX12_init 465 = .ok (.dup, 1) := by decide +kernel
theorem dX12_init_466 : decode cX12_init 466 = .ok (.iconst 3, 1) := by decide +kernel
theorem dX12_init_467 : decode cX12_init 467 = .ok (.bipush 105, 2) := by decide +kernel
theorem dX12_init_469 : decode cX12_init 469 = .ok (.castore, 1) := by decide +kernel
theorem dX12_init_470 : decode cX12_init 470 = .ok (.dup, 1) := by decide +kernel
theorem dX12_init_471 : decode cX12_init 471 = .ok (.iconst 4, 1) := by decide +kernel
theorem dX12_init_472 : decode cX12_init 472 = .ok (.bipush 116, 2) := by decide +kernel
theorem dX12_init_474 : decode cX12_init 474 = .ok (.castore, 1) := by decide +kernel
theorem dX12_init_475 : decode cX12_init 475 = .ok (.putfield 63, 3) := by decide +kernel
theorem dX12_init_478 : decode cX12_init 478 = .ok (.aload_n 0, 1) := by decide +kernel
theorem dX12_init_479 : decode cX12_init 479 = .ok (.iconst 4, 1) := by decide +kernel
theorem dX12_init_480 : decode cX12_init 480 = .ok (.newarray .char, 2) := by decide +kernel
theorem dX12_init_482 : decode cX12_init 482 = .ok (.dup, 1) := by decide +kernel
theorem dX12_init_483 : decode cX12_init 483 = .ok (.iconst 0, 1) := by decide +kernel
theorem dX12_init_484 : decode cX12_init 484 = .ok (.bipush 115, 2) := by decide +kernel
theorem dX12_init_486 : decode cX12_init 486 = .ok (.castore, 1) := by decide +kernel
theorem dX12_init_487 : decode cX12_init 487 = .ok (.dup, 1) := by decide +kernel
theorem dX12_init_488 : decode cX12_init 488 = .ok (.iconst 1, 1) := by decide +kernel
theorem dX12_init_489 : decode cX12_init 489 = .ok (.bipush 117, 2) := by decide +kernel
theorem dX12_init_491 : decode cX12_init 491 = .ok (.castore, 1) := by decide +kernel
theorem dX12_init_492 : decode cX12_init 492 = .ok (.dup, 1) := by decide +kernel
theorem dX12_init_493 : decode cX12_init 493 = .ok (.iconst 2, 1) := by decide +kernel
theorem dX12_init_494 : decode cX12_init 494 = .ok (.bipush 114, 2) := by decide +kernel
theorem dX12_init_496 : decode cX12_init 496 = .ok (.castore, 1) := by decide +kernel
theorem dX12_init_497 : decode cX12_init 497 = .ok (.dup, 1) := by decide +kernel
theorem dX12_init_498 : decode cX12_init 498 = .ok (.iconst 3, 1) := by decide +kernel
theorem dX12_init_499 : decode cX12_init 499 = .ok (.bipush 101, 2) := by decide +kernel
theorem dX12_init_501 : decode cX12_init 501 = .ok (.castore, 1) := by decide +kernel
theorem dX12_init_502 : decode cX12_init 502 = .ok (.putfield 66, 3) := by decide +kernel
theorem dX12_init_505 : decode cX12_init 505 = .ok (.aload_n 0, 1) := by decide +kernel
theorem dX12_init_506 : decode cX12_init 506 = .ok (.iconst 2, 1) := by decide +kernel
theorem dX12_init_507 : decode cX12_init 507 = .ok (.newarray .char, 2) := by decide +kernel
theorem dX12_init_509 : decode cX12_init 509 = .ok (.dup, 1) := by decide +kernel
theorem dX12_init_510 : decode cX12_init 510 = .ok (.iconst 0, 1) := by decide +kernel
theorem dX12_init_511 : decode cX12_init 511 = .ok (.bipush 111, 2) := by decide +kernel
theorem dX12_init_513 : decode cX12_init 513 = .ok (.castore, 1) := by decide +kernel
theorem dX12_init_514 : decode cX12_init 514 = .ok (.dup, 1) := by decide +kernel
theorem dX12_init_515 : decode cX12_init 515 = .ok (.iconst 1, 1) := by decide +kernel
theorem dX12_init_516 : decode cX12_init 516 = .ok (.bipush 114, 2) := by decide +kernel
theorem dX12_init_518 : decode cX12_init 518 = .ok (.castore, 1) := by decide +kernel
theorem dX12_init_519 : decode cX12_init 519 = .ok (.putfield 69, 3) := by decide +kernel
theorem dX12_init_522 : decode cX12_init 522 = .ok (.aload_n 0, 1) := by decide +kernel
theorem dX12_init_523 : decode cX12_init 523 = .ok (.iconst 3, 1) := by decide +kernel
theorem dX12_init_524 : decode cX12_init 524 = .ok (.newarray .char, 2) := by decide +kernel
theorem dX12_init_526 : decode cX12_init 526 = .ok (.dup, 1) := by decide +kernel
theorem dX12_init_527 : decode cX12_init 527 = .ok (.iconst 0, 1) := by decide +kernel
theorem dX12_init_528 : decode cX12_init 528 = .ok (.bipush 97, 2) := by decide +kernel
theorem dX12_init_530 : decode cX12_init 530 = .ok (.castore, 1) := by decide +kernel
theorem dX12_init_531 : decode cX12_init 531 = .ok (.dup, 1) := by decide +kernel
theorem dX12_init_532 : decode cX12_init 532 = .ok (.iconst 1, 1) := by decide +kernel
theorem dX12_init_533 : decode cX12_init 533 = .ok (.bipush 110, 2) := by decide +kernel
theorem dX12_init_535 : decode cX12_init 535 = .ok (.castore, 1) := by decide +kernel
theorem dX12_init_536 : decode cX12_init 536 = .ok (.dup, 1) := by decide +kernel
theorem dX12_init_537 : decode cX12_init 537 = .ok (.iconst 2, 1) := by decide +kernel
theorem dX12_init_538 : decode cX12_init 538 = .ok (.bipush 100, 2) := by decide +kernel
theorem dX12_init_540 : decode cX12_init 540 = .ok (.castore, 1) := by decide +kernel
theorem dX12_init_541 : decode cX12_init 541 = .ok (.putfield 72, 3) := by decide +kernel
theorem dX12_init_544 : decode cX12_init 544 = .ok (.aload_n 0, 1) := by decide +kernel
theorem dX12_init_545 : decode cX12_init 545 = .ok (.iconst 3, 1) := by decide +kernel
theorem dX12_init_546 : decode cX12_init 546 = .ok (.newarray .char, 2) := by decide +kernel
theorem dX12_init_548 : decode cX12_init 548 = .ok (.dup, 1) := by decide +kernel
theorem dX12_init_549 : decode cX12_init 549 = .ok (.iconst 0, 1) := by decide +kernel
theorem dX12_init_550 : decode cX12_init 550 = .ok (.bipush 110, 2) := by decide +kernel
theorem dX12_init_552 : decode cX12_init 552 = .ok (.castore, 1) := by decide +kernel
theorem dX12_init_553 : decode cX12_init 553 = .ok (.dup, 1) := by decide +kernel
theorem dX12_init_554 : decode cX12_init 554 = .ok (.iconst 1, 1) := by decide +kernel
theorem dX12_init_555 : decode cX12_init 555 = .ok (.bipush 111, 2) := by decide +kernel
theorem dX12_init_557 : decode cX12_init 557 = .ok (.castore, 1) := by decide +kernel
theorem dX12_init_558 : decode cX12_init 558 = .ok (.dup, 1) := by decide +kernel
theorem dX12_init_559 : decode cX12_init 559 = .ok (.iconst 2, 1) := by decide +kernel
theorem dX12_init_560 : decode cX12_init 560 = .ok (.bipush 116, 2) := by decide +kernel
theorem dX12_init_562 : decode cX12_init 562 = .ok (.castore, 1) := by decide +kernel
theorem dX12_init_563 : decode cX12_init 563 = .ok (.putfield 75, 3) := by decide +kernel
theorem dX12_init_566 : decode cX12_init 566 = .ok (.aload_n 0, 1) := by decide +kernel
theorem dX12_init_567 : decode cX12_init 567 = .ok (.iconst 3, 1) := by decide +kernel
theorem dX12_init_568 : decode cX12_init 568 = .ok (.newarray .char, 2) := by decide +kernel
theorem dX12_init_570 : decode cX12_init 570 = .ok (.dup, 1) := by decide +kernel
theorem dX12_init_571 : decode cX12_init 571 = .ok (.iconst 0, 1) := by decide +kernel
theorem dX12_init_572 : decode cX12_init 572 = .ok (.bipush 97, 2) := by decide +kernel
theorem dX12_init_574 : decode cX12_init 574 = .ok (.castore, 1) := by decide +kernel
theorem dX12_init_575 : decode cX12_init 575 = .ok (.dup, 1) := by decide +kernel
theorem dX12_init_576 : decode cX12_init 576 = .ok (.iconst 1, 1) := by decide +kernel
theorem dX12_init_577 : decode cX12_init 577 = .ok (.bipush 108, 2) := by decide +kernel
theorem dX12_init_579 : decode cX12_init 579 = .ok (.castore, 1) := by decide +kernel
theorem dX12_init_580 : decode cX12_init 580 = .ok (.dup, 1) := by decide +kernel
theorem dX12_init_581 : decode cX12_init 581 = .ok (.iconst 2, 1) := by decide +kernel
theorem dX12_init_582 : decode cX12_init 582 = .ok (.bipush 108, 2) := by decide +kernel
theorem dX12_init_584 : decode cX12_init 584 = .ok (.castore, 1) := by decide +kernel
theorem dX12_init_585 : decode cX12_init 585 = .ok (.putfield 78, 3) := by decide +kernel
theorem dX12_init_588 : decode cX12_init 588 = .ok (.aload_n 0, 1) := by decide +kernel
theorem dX12_init_589 : decode cX12_init 589 = .ok (.iconst 3, 1) := by decide +kernel
theorem dX12_init_590 : decode cX12_init 590 = .ok (.newarray .char, 2) := by decide +kernel
theorem dX12_init_592 : decode cX12_init 592 = .ok (.dup, 1) := by decide +kernel
theorem dX12_init_593 : decode cX12_init 593 = .ok (.iconst 0, 1) := by decide +kernel
theorem dX12_init_594 : decode cX12_init 594 = .ok (.bipush 109, 2) := by decide +kernel
theorem dX12_init_596 : decode cX12_init 596 = .ok (.castore, 1) := by decide +kernel
theorem dX12_init_597 : decode cX12_init 597 = .ok (.dup, 1) := by decide +kernel
theorem dX12_init_598 : decode cX12_init 598 = .ok (.iconst 1, 1) := by decide +kernel
theorem dX12_init_599 : decode cX12_init 599 = .ok (.bipush 105, 2) := by decide +kernel
theorem dX12_init_601 : decode cX12_init 601 = .ok (.castore, 1) := by decide +kernel
theorem dX12_init_602 : decode cX12_init 602 = .ok (.dup, 1) := by decide +kernel
theorem dX12_init_603 : decode cX12_init 603 = .ok (.iconst 2, 1) := by decide +kernel
theorem dX12_init_604 : decode cX12_init 604 = .ok (.bipush 110, 2) := by decide +kernel
theorem dX12_init_606 : decode cX12_init 606 = .ok (.castore, 1) := by decide +kernel
theorem dX12_init_607 : decode cX12_init 607 = .ok (.putfield 81, 3) := by decide +kernel
theorem dX12_init_610 : decode cX12_init 610 = .ok (.aload_n 0, 1) := by decide +kernel
theorem dX12_init_611 : decode cX12_init 611 = .ok (.iconst 3, 1) := by decide +kernel
theorem dX12_init_612 : decode cX12_init 612 = .ok (.newarray .char, 2) := by decide +kernel
theorem dX12_init_614 : decode cX12_init 614 = .ok (.dup, 1) := by decide +kernel
theorem dX12_init_615 : decode cX12_init 615 = .ok (.iconst 0, 1) := by decide +kernel
theorem dX12_init_616 : decode cX12_init 616 = .ok (.bipush 109, 2) := by decide +kernel
theorem dX12_init_618 : decode cX12_init 618 = .ok (.castore, 1) := by decide +kernel
theorem dX12_init_619 : decode cX12_init 619 = .ok (.dup, 1) := by decide +kernel
theorem dX12_init_620 : decode cX12_init 620 = .ok (.iconst 1, 1) := by decide +kernel
theorem dX12_init_621 : decode cX12_init 621 = .ok (.bipush 97, 2) := by decide +kernel
theorem dX12_init_623 : decode cX12_init 623 = .ok (.castore, 1) := by decide +kernel
theorem dX12_init_624 : decode cX12_init 624 = .ok (.dup, 1) := by decide +kernel
theorem dX12_init_625 : decode cX12_init 625 = .ok (.iconst 2, 1) := by decide +kernel
theorem dX12_init_626 : decode cX12_init 626 = .ok (.bipush 120, 2) := by decide +kernel
theorem dX12_init_628 : decode cX12_init 628 = .ok (.castore, 1) := by decide +kernel
theorem dX12_init_629 : decode cX12_init 629 = .ok (.putfield 84, 3) := by decide +kernel
theorem dX12_init_632 : decode cX12_init 632 = .ok (.aload_n 0, 1) := by decide +kernel
theorem dX12_init_633 : decode cX12_init 633 = .ok (.bipush 6, 2) := by decide +kernel
theorem dX12_init_635 : decode cX12_init 635 = .ok (.newarray .int, 2) := by decide +kernel
theorem dX12_init_637 : decode cX12_init 637 = .ok (.putfield 87, 3) := by decide +kernel
theorem dX12_init_640 : decode cX12_init 640 = .ok (.aload_n 0, 1) := by decide +kernel
theorem dX12_init_641 : decode cX12_init 641 = .ok (.bipush 36, 2) := by decide +kernel
theorem dX12_init_643 : decode cX12_init 643 = .ok (.newarray .long, 2) := by decide +kernel
theorem dX12_init_645 : decode cX12_init 645 = .ok (.putfield 90, 3) := by decide +kernel
theorem dX12_init_648 : decode cX12_init 648 = .ok (.aload_n 0, 1) := by decide +kernel
theorem dX12_init_649 : decode cX12_init 649 = .ok (.bipush 48, 2) := by decide +kernel
theorem dX12_init_651 : decode cX12_init 651 = .ok (.newarray .int, 2) := by decide +kernel
theorem dX12_init_653 : decode cX12_init 653 = .ok (.putfield 94, 3) := by decide +kernel
theorem dX12_init_656 : decode cX12_init 656 = .ok (.aload_n 0, 1) := by decide +kernel
theorem dX12_init_657 : decode cX12_init 657 = .ok (.bipush 12, 2) := by decide +kernel
theorem dX12_init_659 : decode cX12_init 659 = .ok (.newarray .int, 2) := by decide +kernel
theorem dX12_init_661 : decode cX12_init 661 = .ok (.putfield 97, 3) := by decide +kernel
theorem dX12_init_664 : decode cX12_init 664 = .ok (.aload_n 0, 1) := by decide +kernel
theorem dX12_init_665 : decode cX12_init 665 = .ok (.bipush 20, 2) := by decide +kernel
theorem dX12_init_667 : decode cX12_init 667 = .ok (.newarray .int, 2) := by decide +kernel
theorem dX12_init_669 : decode cX12_init 669 = .ok (.putfield 100, 3) := by decide +kernel
theorem dX12_init_672 : decode cX12_init 672 = .ok (.aload_n 0, 1) := by decide +kernel
theorem dX12_init_673 : decode cX12_init 673 = .ok (.iconst 4, 1) := by decide +kernel
theorem dX12_init_674 : decode cX12_init 674 = .ok (.newarray .int, 2) := by decide +kernel
theorem dX12_init_676 : decode cX12_init 676 = .ok (.dup, 1) := by decide +kernel
theorem dX12_init_677 : decode cX12_init 677 = .ok (.iconst 0, 1) := by decide +kernel
theorem dX12_init_678 : decode cX12_init 678 = .ok (.bipush 50, 2) := by decide +kernel
theorem dX12_init_680 : decode cX12_init 680 = .ok (.iastore, 1) := by decide +kernel
theorem dX12_init_681 : decode cX12_init 681 = .ok (.dup, 1) := by decide +kernel
theorem dX12_init_682 : decode cX12_init 682 = .ok (.iconst 1, 1) := by decide +kernel
theorem dX12_init_683 : decode cX12_init 683 = .ok (.sipush 1000, 3) := by decide +kernel
theorem dX12_init_686 : decode cX12_init 686 = .ok (.iastore, 1) := by decide +kernel
theorem dX12_init_687 : decode cX12_init 687 = .ok (.dup, 1) := by decide +kernel
theorem dX12_init_688 : decode cX12_init 688 = .ok (.iconst 2, 1) := by decide +kernel
theorem dX12_init_689 : decode cX12_init 689 = .ok (.bipush 50, 2) := by decide +kernel
theorem dX12_init_691 : decode cX12_init 691 = .ok (.iastore, 1) := by decide +kernel
theorem dX12_init_692 : decode cX12_init 692 = .ok (.dup, 1) := by decide +kernel
theorem dX12_init_693 : decode cX12_init 693 = .ok (.iconst 3, 1) := by decide +kernel
theorem dX12_init_694 : decode cX12_init 694 = .ok (.sipush 1000, 3) := by decide +kernel
theorem dX12_init_697 : decode cX12_init 697 = .ok (.iastore, 1) := by decide +kernel
theorem dX12_init_698 : decode cX12_init 698 = .ok (.putfield 103, 3) := by decide +kernel
theorem dX12_init_701 : decode cX12_init 701 = .ok (.aload_n 0, 1) := by decide +kernel
theorem dX12_init_702 : decode cX12_init 702 = .ok (.iconst 2, 1) := by decide +kernel
theorem dX12_init_703 : decode cX12_init 703 = .ok (.newarray .int, 2) := by decide +kernel
theorem dX12_init_705 : decode cX12_init 705 = .ok (.dup, 1) := by decide +kernel
theorem dX12_init_706 : decode cX12_init 706 = .ok (.iconst 0, 1) := by decide +kernel
theorem dX12_init_707 : decode cX12_init 707 = .ok (.iconst (-1), 1) := by decide +kernel
theorem dX12_init_708 : decode cX12_init 708 = .ok (.iastore, 1) := by decide +kernel
theorem dX12_init_709 : decode cX12_init 709 = .ok (.dup, 1) := by decide +kernel
theorem dX12_init_710 : decode cX12_init 710 = .ok (.iconst 1, 1) := by decide +kernel
theorem dX12_init_711 : decode cX12_init 711 = .ok (.iconst (-1), 1) := by decide +kernel
theorem dX12_init_712 : decode cX12_init 712 = .ok (.iastore, 1) := by decide +kernel
theorem dX12_init_713 : decode cX12_init 713 = .ok (.putfield 106, 3) := by decide +kernel
theorem dX12_init_716 : decode cX12_init 716 = .ok (.aload_n 0, 1) := by decide +kernel
theorem dX12_init_717 : decode cX12_init 717 = .ok (.iconst 2, 1) := by decide +kernel
theorem dX12_init_718 : decode cX12_init 718 = .ok (.newarray .int, 2) := by decide +kernel
theorem dX12_init_720 : decode cX12_init 720 = .ok (.putfield 109, 3) := by decide +kernel
theorem dX12_init_723 : decode cX12_init 723 = .ok (.aload_n 0, 1) := by decide +kernel
theorem dX12_init_724 : decode cX12_init 724 = .ok (.sipush 3200, 3) := by decide +kernel
theorem dX12_init_727 : decode cX12_init 727 = .ok (.newarray .int, 2) := by decide +kernel
theorem dX12_init_729 : decode cX12_init 729 = .ok (.putfield 112, 3) := by decide +kernel
theorem dX12_init_732 : decode cX12_init 732 = .ok (.aload_n 0, 1) := by decide +kernel
theorem dX12_init_733 : decode cX12_init 733 = .ok (.sipush 185, 3) := by decide +kernel
theorem dX12_init_736 : decode cX12_init 736 = .ok (.newarray .int, 2) := by decide +kernel
theorem dX12_init_738 : decode cX12_init 738 = .ok (.putfield 115, 3) := by decide +kernel
theorem dX12_init_741 : decode cX12_init 741 = .ok (.aload_n 0, 1) := by decide +kernel
theorem dX12_init_742 : decode cX12_init 742 = .ok (.bipush 24, 2) := by decide +kernel
theorem dX12_init_744 : decode cX12_init 744 = .ok (.newarray .int, 2) := by decide +kernel
theorem dX12_init_746 : decode cX12_init 746 = .ok (.putfield 118, 3) := by decide +kernel
theorem dX12_init_749 : decode cX12_init 749 = .ok (.aload_n 0, 1) := by decide +kernel
theorem dX12_init_750 : decode cX12_init 750 = .ok (.bipush 72, 2) := by decide +kernel
theorem dX12_init_752 : decode cX12_init 752 = .ok (.newarray .int, 2) := by decide +kernel
theorem dX12_init_754 : decode cX12_init 754 = .ok (.putfield 121, 3) := by decide +kernel
theorem dX12_init_757 : decode cX12_init 757 = .ok (.aload_n 0, 1) := by decide +kernel
theorem dX12_init_758 : decode cX12_init 758 = .ok (.bipush 36, 2) := by decide +kernel
theorem dX12_init_760 : decode cX12_init 760 = .ok (.newarray .int, 2) := by decide +kernel
theorem dX12_init_762 : decode cX12_init 762 = .ok (.putfield 124, 3) := by decide +kernel
theorem dX12_init_765 : decode cX12_init 765 = .ok (.aload_n 0, 1) := by decide +kernel
theorem dX12_init_766 : decode cX12_init 766 = .ok (.bipush 6, 2) := by decide +kernel
theorem dX12_init_768 : decode cX12_init 768 = .ok (.newarray .long, 2) := by decide +kernel
theorem dX12_init_770 : decode cX12_init 770 = .ok (.putfield 127, 3) := by decide +kernel
theorem dX12_init_773 : decode cX12_init 773 = .ok (.aload_n 0, 1) := by decide +kernel
theorem dX12_init_774 : decode cX12_init 774 = .ok (.bipush 6, 2) := by decide +kernel
theorem dX12_init_776 : decode cX12_init 776 = .ok (.newarray .int, 2) := by decide +kernel
theorem dX12_init_778 : decode cX12_init 778 = .ok (.putfield 130, 3) := by decide +kernel
theorem dX12_init_781 : decode cX12_init 781 = .ok (.aload_n 0, 1) := by decide +kernel
theorem dX12_init_782 : decode cX12_init 782 = .ok (.bipush 72, 2) := by decide +kernel
theorem dX12_init_784 : decode cX12_init 784 = .ok (.newarray .long, 2) := by decide +kernel
theorem dX12_init_786 : decode cX12_init 786 = .ok (.putfield 133, 3) := by decide +kernel
theorem dX12_init_789 : decode cX12_init 789 = .ok (.aload_n 0, 1) := by decide +kernel
theorem dX12_init_790 : decode cX12_init 790 = .ok (.bipush 72, 2) := by decide +kernel
theorem dX12_init_792 : decode cX12_init 792 = .ok (.newarray .int, 2) := by decide +kernel
theorem dX12_init_794 : decode cX12_init 794 = .ok (.putfield 136, 3) := by decide +kernel
theorem dX12_init_797 : decode cX12_init 797 = .ok (.aload_n 0, 1) := by decide +kernel
theorem dX12_init_798 : decode cX12_init 798 = .ok (.sipush 8192, 3) := by decide +kernel
theorem dX12_init_801 : decode cX12_init 801 = .ok (.newarray .long, 2) := by decide +kernel
theorem dX12_init_803 : decode cX12_init 803 = .ok (.putfield 139, 3) := by decide +kernel
theorem dX12_init_806 : decode cX12_init 806 = .ok (.aload_n 0, 1) := by decide +kernel
theorem dX12_init_807 : decode cX12_init 807 = .ok (.bipush 64, 2) := by decide +kernel
theorem dX12_init_809 : decode cX12_init 809 = .ok (.newarray .int, 2) := by decide +kernel
theorem dX12_init_811 : decode cX12_init 811 = .ok (.putfield 142, 3) := by decide +kernel
theorem dX12_init_814 : decode cX12_init 814 = .ok (.aload_n 0, 1) := by decide +kernel
theorem dX12_init_815 : decode cX12_init 815 = .ok (.sipush 3700, 3) := by decide +kernel
theorem dX12_init_818 : decode cX12_init 818 = .ok (.newarray .int, 2) := by decide +kernel
theorem dX12_init_820 : decode cX12_init 820 = .ok (.putfield 145, 3) := by decide +kernel
theorem dX12_init_823 : decode cX12_init 823 = .ok (.aload_n 0, 1) := by decide +kernel
theorem dX12_init_824 : decode cX12_init 824 = .ok (.lconst 1, 1) := by decide +kernel
theorem dX12_init_825 : decode cX12_init 825 = .ok (.putfield 148, 3) := by decide +kernel
theorem dX12_init_828 : decode cX12_init 828 = .ok (.aload_n 0, 1) := by decide +kernel
theorem dX12_init_829 : decode cX12_init 829 = .ok (.iconst 5, 1) := by decide +kernel
theorem dX12_init_830 : decode cX12_init 830 = .ok (.newarray .char, 2) := by decide +kernel
theorem dX12_init_832 : decode cX12_init 832 = .ok (.dup, 1) := by decide +kernel
theorem dX12_init_833 : decode cX12_init 833 = .ok (.iconst 0, 1) := by decide +kernel
theorem dX12_init_834 : decode cX12_init 834 = .ok (.bipush 102, 2) := by decide +kernel
theorem dX12_init_836 : decode cX12_init 836 = .ok (.castore, 1) := by decide +kernel
theorem dX12_init_837 : decode cX12_init 837 = .ok (.dup, 1) := by decide +kernel
theorem dX12_init_838 : decode cX12_init 838 = .ok (.iconst 1, 1) := by decide +kernel
theorem dX12_init_839 : decode cX12_init 839 = .ok (.bipush 105, 2) := by decide +kernel
theorem dX12_init_841 : decode cX12_init 841 = .ok (.castore, 1) := by decide +kernel
theorem dX12_init_842 : decode cX12_init 842 = .ok (.dup, 1) := by decide +kernel
theorem dX12_init_843 : decode cX12_init 843 = .ok (.iconst 2, 1) := by decide +kernel
theorem dX12_init_844 : decode cX12_init 844 = .ok (.bipush 114, 2) := by decide +kernel
theorem dX12_init_846 : decode cX12_init 846 = .ok (.castore, 1) := by decide +kernel
theorem dX12_init_847 : decode cX12_init 847 = .ok (.dup, 1) := by decide +kernel
theorem dX12_init_848 : decode cX12_init 848 = .ok (.iconst 3, 1) := by decide +kernel
theorem dX12_init_849 : decode cX12_init 849 = .ok (.bipush 115, 2) := by decide +kernel
theorem dX12_init_851 : decode cX12_init 851 = .ok (.castore, 1) := by decide +kernel
theorem dX12_init_852 : decode cX12_init 852 = .ok (.dup, 1) := by decide +kernel
theorem dX12_init_853 : decode cX12_init 853 = .ok (.iconst 4, 1) := by decide +kernel
theorem dX12_init_854 : decode cX12_init 854 = .ok (.bipush 116, 2) := by decide +kernel
theorem dX12_init_856 : decode cX12_init 856 = .ok (.castore, 1) := by decide +kernel
theorem dX12_init_857 : decode cX12_init 857 = .ok (.putfield 152, 3) := by decide +kernel
theorem dX12_init_860 : decode cX12_init 860 = .ok (.aload_n 0, 1) := by decide +kernel
theorem dX12_init_861 : decode cX12_init 861 = .ok (.iconst 4, 1) := by decide +kernel
theorem dX12_init_862 : decode cX12_init 862 = .ok (.newarray .char, 2) := by decide +kernel
theorem dX12_init_864 : decode cX12_init 864 = .ok (.dup, 1) := by decide +kernel
theorem dX12_init_865 : decode cX12_init 865 = .ok (.iconst 0, 1) := by decide +kernel
theorem dX12_init_866 : decode cX12_init 866 = .ok (.bipush 108, 2) := by decide +kernel
theorem dX12_init_868 : decode cX12_init 868 = .ok (.castore, 1) := by decide +kernel
theorem dX12_init_869 : decode cX12_init 869 = .ok (.dup, 1) := by decide +kernel
theorem dX12_init_870 : decode cX12_init 870 = .ok (.iconst 1, 1) := by decide +kernel
theorem dX12_init_871 : decode cX12_init 871 = .ok (.bipush 97, 2) := by decide +kernel
theorem dX12_init_873 : decode cX12_init 873 = .ok (.castore, 1) := by decide +kernel
theorem dX12_init_874 : decode cX12_init 874 = .ok (.dup, 1) := by decide +kernel
theorem dX12_init_875 : decode cX12_init 875 = .ok (.iconst 2, 1) := by decide +kernel
theorem dX12_init_876 : decode cX12_init 876 = .ok (.bipush 115, 2) := by decide +kernel
theorem dX12_init_878 : decode cX12_init 878 = .ok (.castore, 1) := by decide +kernel
theorem dX12_init_879 : decode cX12_init 879 = .ok (.dup, 1) := by decide +kernel
theorem dX12_init_880 : decode cX12_init 880 = .ok (.iconst 3, 1) := by decide +kernel
theorem dX12_init_881 : decode cX12_init 881 = .ok (.bipush 116, 2) := by decide +kernel
theorem dX12_init_883 : decode cX12_init 883 = .ok (.castore, 1) := by decide +kernel
theorem dX12_init_884 : decode cX12_init 884 = .ok (.putfield 155, 3) := by decide +kernel
theorem dX12_init_887 : decode cX12_init 887 = .ok (.aload_n 0, 1) := by decide +kernel
theorem dX12_init_888 : decode cX12_init 888 = .ok (.iconst 5, 1) := by decide +kernel
theorem dX12_init_889 : decode cX12_init 889 = .ok (.newarray .char, 2) := by decide +kernel
theorem dX12_init_891 : decode cX12_init 891 = .ok (.dup, 1) := by decide +kernel
theorem dX12_init_892 : decode cX12_init 892 = .ok (.iconst 0, 1) := by decide +kernel
theorem dX12_init_893 : decode cX12_init 893 = .ok (.bipush 111, 2) := by decide +kernel
theorem dX12_init_895 : decode cX12_init 895 = .ok (.castore, 1) := by decide +kernel
theorem dX12_init_896 : decode cX12_init 896 = .ok (.dup, 1) := by decide +kernel
theorem dX12_init_897 : decode cX12_init 897 = .ok (.iconst 1, 1) := by decide +kernel
theorem dX12_init_898 : decode cX12_init 898 = .ok (.bipush 102, 2) := by decide +kernel
theorem dX12_init_900 : decode cX12_init 900 = .ok (.castore, 1) := by decide +kernel
theorem dX12_init_901 : decode cX12_init 901 = .ok (.dup, 1) := by decide +kernel
theorem dX12_init_902 : decode cX12_init 902 = .ok (.iconst 2, 1) := by decide +kernel
theorem dX12_init_903 : decode cX12_init 903 = .ok (.bipush 116, 2) := by decide +kernel
theorem dX12_init_905 : decode cX12_init 905 = .ok (.castore, 1) := by decide +kernel
theorem dX12_init_906 : decode cX12_init 906 = .ok (.dup, 1) := by decide +kernel
theorem dX12_init_907 : decode cX12_init 907 = .ok (.iconst 3, 1) := by decide +kernel
theorem dX12_init_908 : decode cX12_init 908 = .ok (.bipush 101, 2) := by decide +kernel
theorem dX12_init_910 : decode cX12_init 910 = .ok (.castore, 1) := by decide +kernel
theorem dX12_init_911 : decode cX12_init 911 = .ok (.dup, 1) := by decide +kernel
theorem dX12_init_912 : decode cX12_init 912 = .ok (.iconst 4, 1) := by decide +kernel
theorem dX12_init_913 : decode cX12_init 913 = .ok (.bipush 110, 2) := by decide +kernel
theorem dX12_init_915 : decode cX12_init 915 = .ok (.castore, 1) := by decide +kernel
theorem dX12_init_916 : decode cX12_init 916 = .ok (.putfield 158, 3) := by decide +kernel
theorem dX12_init_919 : decode cX12_init 919 = .ok (.aload_n 0, 1) := by decide +kernel
theorem dX12_init_920 : decode cX12_init 920 = .ok (.iconst 5, 1) := by decide +kernel
theorem dX12_init_921 : decode cX12_init 921 = .ok (.newarray .char, 2) := by decide +kernel
theorem dX12_init_923 : decode cX12_init 923 = .ok (.dup, 1) := by decide +kernel
theorem dX12_init_924 : decode cX12_init 924 = .ok (.iconst 0, 1) := by decide +kernel
theorem dX12_init_925 : decode cX12_init 925 = .ok (.bipush 116, 2) := by decide +kernel
theorem dX12_init_927 : decode cX12_init 927 = .ok (.castore, 1) := by decide +kernel
theorem dX12_init_928 : decode cX12_init 928 = .ok (.dup, 1) := by decide +kernel
theorem dX12_init_929 : decode cX12_init 929 = .ok (.iconst 1, 1) := by decide +kernel
theorem dX12_init_930 : decode cX12_init 930 = .ok (.bipush 111, 2) := by decide +kernel
theorem dX12_init_932 : decode cX12_init 932 = .ok (.castore, 1) := by decide +kernel
theorem dX12_init_933 : decode cX12_init 933 = .ok (.dup, 1) := by decide +kernel
theorem dX12_init_934 : decode cX12_init 934 = .ok (.iconst 2, 1) := by decide +kernel
theorem dX12_init_935 : decode cX12_init 935 = .ok (.bipush 116, 2) := by decide +kernel
theorem dX12_init_937 : decode cX12_init 937 = .ok (.castore, 1) := by decide +kernel
theorem dX12_init_938 : decode cX12_init 938 = .ok (.dup, 1) := by decide +kernel
theorem dX12_init_939 : decode cX12_init 939 = .ok (.iconst 3, 1) := by decide +kernel
theorem dX12_init_940 : decode cX12_init 940 = .ok (.bipush 97, 2) := by decide +kernel
theorem dX12_init_942 : decode cX12_init 942 = .ok (.castore, 1) := by decide +kernel
theorem dX12_init_943 : decode cX12_init 943 = .ok (.dup, 1) := by decide +kernel
theorem dX12_init_944 : decode cX12_init 944 = .ok (.iconst 4, 1) := by decide +kernel
theorem dX12_init_945 : decode cX12_init 945 = .ok (.bipush 108, 2) := by decide +kernel
theorem dX12_init_947 : decode cX12_init 947 = .ok (.castore, 1) := by decide +kernel
theorem dX12_init_948 : decode cX12_init 948 = .ok (.putfield 161, 3) := by decide +kernel
theorem dX12_init_951 : decode cX12_init 951 = .ok (.aload_n 0, 1) := by decide +kernel
theorem dX12_init_952 : decode cX12_init 952 = .ok (.iconst 4, 1) := by decide +kernel
theorem dX12_init_953 : decode cX12_init 953 = .ok (.newarray .char, 2) := by decide +kernel
theorem dX12_init_955 : decode cX12_init 955 = .ok (.dup, 1) := by decide +kernel
theorem dX12_init_956 : decode cX12_init 956 = .ok (.iconst 0, 1) := by decide +kernel
theorem dX12_init_957 : decode cX12_init 957 = .ok (.bipush 109, 2) := by decide +kernel
theorem dX12_init_959 : decode cX12_init 959 = .ok (.castore, 1) := by decide +kernel
theorem dX12_init_960 : decode cX12_init 960 = .ok (.dup, 1) := by decide +kernel
theorem dX12_init_961 : decode cX12_init 961 = .ok (.iconst 1, 1) := by decide +kernel
theorem dX12_init_962 : decode cX12_init 962 = .ok (.bipush 111, 2) := by decide +kernel
theorem dX12_init_964 : decode cX12_init 964 = .ok (.castore, 1) := by decide +kernel
theorem dX12_init_965 : decode cX12_init 965 = .ok (.dup, 1) := by decide +kernel
theorem dX12_init_966 : decode cX12_init 966 = .ok (.iconst 2, 1) := by decide +kernel
theorem dX12_init_967 : decode cX12_init 967 = .ok (.bipush 115, 2) := by decide +kernel
theorem dX12_init_969 : decode cX12_init 969 = .ok (.castore, 1) := by decide +kernel
theorem dX12_init_970 : decode cX12_init 970 = .ok (.dup, 1) := by decide +kernel
theorem dX12_init_971 : decode cX12_init 971 = .ok (.iconst 3, 1) := by decide +kernel
theorem dX12_init_972 : decode cX12_init 972 = .ok (.bipush 116, 2) := by decide +kernel
theorem dX12_init_974 : decode cX12_init 974 = .ok (.castore, 1) := by decide +kernel
theorem dX12_init_975 : decode cX12_init 975 = .ok (.putfield 164, 3) := by decide +kernel
theorem dX12_init_978 : decode cX12_init 978 = .ok (.aload_n 0, 1) := by decide +kernel
theorem dX12_init_979 : decode cX12_init 979 = .ok (.iconst 5, 1) := by decide +kernel
theorem dX12_init_980 : decode cX12_init 980 = .ok (.newarray .char, 2) := by decide +kernel
theorem dX12_init_982 : decode cX12_init 982 = .ok (.dup, 1) := by decide +kernel
theorem dX12_init_983 : decode cX12_init 983 = .ok (.iconst 0, 1) := by decide +kernel
theorem dX12_init_984 : decode cX12_init 984 = .ok (.bipush 108, 2) := by decide +kernel
theorem dX12_init_986 : decode cX12_init 986 = .ok (.castore, 1) := by decide +kernel
theorem dX12_init_987 : decode cX12_init 987 = .ok (.dup, 1) := by decide +kernel
theorem dX12_init_988 : decode cX12_init 988 = .ok (.iconst 1, 1) := by decide +kernel
theorem dX12_init_989 : decode cX12_init 989 = .ok (.bipush 101, 2) := by decide +kernel
theorem dX12_init_991 : decode cX12_init 991 = .ok (.castore, 1) := by decide +kernel
theorem dX12_init_992 : decode cX12_init 992 = .ok (.dup, 1) := by decide +kernel
theorem dX12_init_993 : decode cX12_init 993 = .ok (.iconst 2, 1) := by decide +kernel
theorem dX12_init_994 : decode cX12_init 994 = .ok (.bipush 97, 2) := by decide +kernel
theorem dX12_init_996 : decode cX12_init 996 = .ok (.castore, 1) := by decide +kernel
theorem dX12_init_997 : decode cX12_init 997 = .ok (.dup, 1) := by decide +kernel
theorem dX12_init_998 : decode cX12_init 998 = .ok (.iconst 3, 1) := by decide +kernel
theorem dX12_init_999 : decode cX12_init 999 = .ok (.bipush 115, 2) := by decide +kernel
theorem dX12_init_1001 : decode cX12_init 1001 = .ok (.castore, 1) := by decide +kernel
theorem dX12_init_1002 : decode cX12_init 1002 = .ok (.dup, 1) := by decide +kernel
theorem dX12_init_1003 : decode cX12_init 1003 = .ok (.iconst 4, 1) := by decide +kernel
theorem dX12_init_1004 : decode cX12_init 1004 = .ok (.bipush 116, 2) := by decide +kernel
theorem dX12_init_1006 : decode cX12_init 1006 = .ok (.castore, 1) := by decide +kernel
theorem dX12_init_1007 : decode cX12_init 1007 = .ok (.putfield 167, 3) := by decide +kernel
theorem dX12_init_1010 : decode cX12_init 1010 = .ok (.aload_n 0, 1) := by decide +kernel
theorem dX12_init_1011 : decode cX12_init 1011 = .ok (.iconst 3, 1) := by decide +kernel
theorem dX12_init_1012 : decode cX12_init 1012 = .ok (.newarray .char, 2) := by decide +kernel
theorem dX12_init_1014 : decode cX12_init 1014 = .ok (.dup, 1) := by decide +kernel
theorem dX12_init_1015 : decode cX12_init 1015 = .ok (.iconst 0, 1) := by decide +kernel
theorem dX12_init_1016 : decode cX12_init 1016 = .ok (.bipush 110, 2) := by decide +kernel
theorem dX12_init_1018 : decode cX12_init 1018 = .ok (.castore, 1) := by decide +kernel
theorem dX12_init_1019 : decode cX12_init 1019 = .ok (.dup, 1) := by decide +kernel
theorem dX12_init_1020 : decode cX12_init 1020 = .ok (.iconst 1, 1) := by decide +kernel
theorem dX12_init_1021 : decode cX12_init 1021 = .ok (.bipush 111, 2) := by decide +kernel
theorem dX12_init_1023 : decode cX12_init 1023 = .ok (.castore, 1) := by decide +kernel
theorem dX12_init_1024 : decode cX12_init 1024 = .ok (.dup, 1) := by decide +kernel
theorem dX12_init_1025 : decode cX12_init 1025 = .ok (.iconst 2, 1) := by decide +kernel
theorem dX12_init_1026 : decode cX12_init 1026 = .ok (.bipush 116, 2) := by decide +kernel
theorem dX12_init_1028 : decode cX12_init 1028 = .ok (.castore, 1) := by decide +kernel
theorem dX12_init_1029 : decode cX12_init 1029 = .ok (.putfield 170, 3) := by decide +kernel
theorem dX12_init_1032 : decode cX12_init 1032 = .ok (.aload_n 0, 1) := by decide +kernel
theorem dX12_init_1033 : decode cX12_init 1033 = .ok (.iconst 3, 1) := by decide +kernel
theorem dX12_init_1034 : decode cX12_init 1034 = .ok (.newarray .char, 2) := by decide +kernel
theorem dX12_init_1036 : decode cX12_init 1036 = .ok (.dup, 1) := by decide +kernel
theorem dX12_init_1037 : decode cX12_init 1037 = .ok (.iconst 0, 1) := by decide +kernel
theorem dX12_init_1038 : decode cX12_init 1038 = .ok (.bipush 97, 2) := by decide +kernel
theorem dX12_init_1040 : decode cX12_init 1040 = .ok (.castore, 1) := by decide +kernel
theorem dX12_init_1041 : decode cX12_init 1041 = .ok (.dup, 1) := by decide +kernel
theorem dX12_init_1042 : decode cX12_init 1042 = .ok (.iconst 1, 1) := by decide +kernel
theorem dX12_init_1043 : decode cX12_init 1043 = .ok (.bipush 110, 2) := by decide +kernel
theorem dX12_init_1045 : decode cX12_init 1045 = .ok (.castore, 1) := by decide +kernel
theorem dX12_init_1046 : decode cX12_init 1046 = .ok (.dup, 1) := by decide +kernel
theorem dX12_init_1047 : decode cX12_init 1047 = .ok (.iconst 2, 1) := by decide +kernel
theorem dX12_init_1048 : decode cX12_init 1048 = .ok (.bipush 100, 2) := by decide +kernel
theorem dX12_init_1050 : decode cX12_init 1050 = .ok (.castore, 1) := by decide +kernel
theorem dX12_init_1051 : decode cX12_init 1051 = .ok (.putfield 173, 3) := by decide +kernel
theorem dX12_init_1054 : decode cX12_init 1054 = .ok (.aload_n 0, 1) := by decide +kernel
theorem dX12_init_1055 : decode cX12_init 1055 = .ok (.iconst 2, 1) := by decide +kernel
theorem dX12_init_1056 : decode cX12_init 1056 = .ok (.newarray .char, 2) := by decide +kernel
theorem dX12_init_1058 : decode cX12_init 1058 = .ok (.dup, 1) := by decide +kernel
theorem dX12_init_1059 : decode cX12_init 1059 = .ok (.iconst 0, 1) := by decide +kernel
theorem dX12_init_1060 : decode cX12_init 1060 = .ok (.bipush 111, 2) := by decide +kernel
theorem dX12_init_1062 : decode cX12_init 1062 = .ok (.castore, 1) := by decide +kernel
theorem dX12_init_1063 : decode cX12_init 1063 = .ok (.dup, 1) := by decide +kernel
theorem dX12_init_1064 : decode cX12_init 1064 = .ok (.iconst 1, 1) := by decide +kernel
theorem dX12_init_1065 : decode cX12_init 1065 = .ok (.bipush 114, 2) := by decide +kernel
theorem dX12_init_1067 : decode cX12_init 1067 = .ok (.castore, 1) := by decide +kernel
theorem dX12_init_1068 : decode cX12_init 1068 = .ok (.putfield 176, 3) := by decide +kernel
theorem dX12_init_1071 : decode cX12_init 1071 = .ok (.aload_n 0, 1) := by decide +kernel
theorem dX12_init_1072 : decode cX12_init 1072 = .ok (.iconst 3, 1) := by decide +kernel
theorem dX12_init_1073 : decode cX12_init 1073 = .ok (.newarray .char, 2) := by decide +kernel
theorem dX12_init_1075 : decode cX12_init 1075 = .ok (.dup, 1) := by decide +kernel
theorem dX12_init_1076 : decode cX12_init 1076 = .ok (.iconst 0, 1) := by decide +kernel
theorem dX12_init_1077 : decode cX12_init 1077 = .ok (.bipush 97, 2) := by decide +kernel
theorem dX12_init_1079 : decode cX12_init 1079 = .ok (.castore, 1) := by decide +kernel
theorem dX12_init_1080 : decode cX12_init 1080 = .ok (.dup, 1) := by decide +kernel
theorem dX12_init_1081 : decode cX12_init 1081 = .ok (.iconst 1, 1) := by decide +kernel
theorem dX12_init_1082 : decode cX12_init 1082 = .ok (.bipush 108, 2) := by decide +kernel
theorem dX12_init_1084 : decode cX12_init 1084 = .ok (.castore, 1) := by decide +kernel
theorem dX12_init_1085 : decode cX12_init 1085 = .ok (.dup, 1) := by decide +kernel
theorem dX12_init_1086 : decode cX12_init 1086 = .ok (.iconst 2, 1) := by decide +kernel
theorem dX12_init_1087 : decode cX12_init 1087 = .ok (.bipush 108, 2) := by decide +kernel
theorem dX12_init_1089 : decode cX12_init 1089 = .ok (.castore, 1) := by decide +kernel
theorem dX12_init_1090 : decode cX12_init 1090 = .ok (.putfield 179, 3) := by decide +kernel
theorem dX12_init_1093 : decode cX12_init 1093 = .ok (.aload_n 0, 1) := by decide +kernel
theorem dX12_init_1094 : decode cX12_init 1094 = .ok (.iconst 3, 1) := by decide +kernel
theorem dX12_init_1095 : decode cX12_init 1095 = .ok (.newarray .char, 2) := by decide +kernel
theorem dX12_init_1097 : decode cX12_init 1097 = .ok (.dup, 1) := by decide +kernel
theorem dX12_init_1098 : decode cX12_init 1098 = .ok (.iconst 0, 1) := by decide +kernel
theorem dX12_init_1099 : decode cX12_init 1099 = .ok (.bipush 109, 2) := by decide +kernel
theorem dX12_init_1101 : decode cX12_init 1101 = .ok (.castore, 1) := by decide +kernel
theorem dX12_init_1102 : decode cX12_init 1102 = .ok (.dup, 1) := by decide +kernel
theorem dX12_init_1103 : decode cX12_init 1103 = .ok (.iconst 1, 1) := by decide +kernel
theorem dX12_init_1104 : decode cX12_init 1104 = .ok (.bipush 105, 2) := by decide +kernel
theorem dX12_init_1106 : decode cX12_init 1106 = .ok (.castore, 1) := by decide +kernel
theorem dX12_init_1107 : decode cX12_init 1107 = .ok (.dup, 1) := by decide +kernel
theorem dX12_init_1108 : decode cX12_init 1108 = .ok (.iconst 2, 1) := by decide +kernel
theorem dX12_init_1109 : decode cX12_init 1109 = .ok (.bipush 110, 2) := by decide +kernel
theorem dX12_init_1111 : decode cX12_init 1111 = .ok (.castore, 1) := by decide +kernel
theorem dX12_init_1112 : decode cX12_init 1112 = .ok (.putfield 182, 3) := by decide +kernel
theorem dX12_init_1115 : decode cX12_init 1115 = .ok (.aload_n 0, 1) := by decide +kernel
theorem dX12_init_1116 : decode cX12_init 1116 = .ok (.iconst 3, 1) := by decide +kernel
theorem dX12_init_1117 : decode cX12_init 1117 = .ok (.newarray .char, 2) := by decide +kernel
theorem dX12_init_1119 : decode cX12_init 1119 = .ok (.dup, 1) := by decide +kernel
theorem dX12_init_1120 : decode cX12_init 1120 = .ok (.iconst 0, 1) := by decide +kernel
theorem dX12_init_1121 : decode cX12_init 1121 = .ok (.bipush 109, 2) := by decide +kernel
theorem dX12_init_1123 : decode cX12_init 1123 = .ok (.castore, 1) := by decide +kernel
theorem dX12_init_1124 : decode cX12_init 1124 = .ok (.dup, 1) := by decide +kernel
theorem dX12_init_1125 : decode cX12_init 1125 = .ok (.iconst 1, 1) := by decide +kernel
theorem dX12_init_1126 : decode cX12_init 1126 = .ok (.bipush 97, 2) := by decide +kernel
theorem dX12_init_1128 : decode cX12_init 1128 = .ok (.castore, 1) := by decide +kernel
theorem dX12_init_1129 : decode cX12_init 1129 = .ok (.dup, 1) := by decide +kernel
theorem dX12_init_1130 : decode cX12_init 1130 = .ok (.iconst 2, 1) := by decide +kernel
theorem dX12_init_1131 : decode cX12_init 1131 = .ok (.bipush 120, 2) := by decide +kernel
theorem dX12_init_1133 : decode cX12_init 1133 = .ok (.castore, 1) := by decide +kernel
theorem dX12_init_1134 : decode cX12_init 1134 = .ok (.putfield 185, 3) := by decide +kernel
theorem dX12_init_1137 : decode cX12_init 1137 = .ok (.aload_n 0, 1) := by decide +kernel
theorem dX12_init_1138 : decode cX12_init 1138 = .ok (.iconst 4, 1) := by decide +kernel
theorem dX12_init_1139 : decode cX12_init 1139 = .ok (.newarray .char, 2) := by decide +kernel
theorem dX12_init_1141 : decode cX12_init 1141 = .ok (.dup, 1) := by decide +kernel
theorem dX12_init_1142 : decode cX12_init 1142 = .ok (.iconst 0, 1) := by decide +kernel
theorem dX12_init_1143 : decode cX12_init 1143 = .ok (.bipush 108, 2) := by decide +kernel
theorem dX12_init_1145 : decode cX12_init 1145 = .ok (.castore, 1) := by decide +kernel
theorem dX12_init_1146 : decode cX12_init 1146 = .ok (.dup, 1) := by decide +kernel
theorem dX12_init_1147 : decode cX12_init 1147 = .ok (.iconst 1, 1) := by decide +kernel
theorem dX12_init_1148 : decode cX12_init 1148 = .ok (.bipush 111, 2) := by decide +kernel
theorem dX12_init_1150 : decode cX12_init 1150 = .ok (.castore, 1) := by decide +kernel
theorem dX12_init_1151 : decode cX12_init 1151 = .ok (.dup, 1) := by decide +kernel
theorem dX12_init_1152 : decode cX12_init 1152 = .ok (.iconst 2, 1) := by decide +kernel
theorem dX12_init_1153 : decode cX12_init 1153 = .ok (.bipush 118, 2) := by decide +kernel
theorem dX12_init_1155 : decode cX12_init 1155 = .ok (.castore, 1) := by decide +kernel
theorem dX12_init_1156 : decode cX12_init 1156 = .ok (.dup, 1) := by decide +kernel
theorem dX12_init_1157 : decode cX12_init 1157 = .ok (.iconst 3, 1) := by decide +kernel
theorem dX12_init_1158 : decode cX12_init 1158 = .ok (.bipush 101, 2) := by decide +kernel
theorem dX12_init_1160 : decode cX12_init 1160 = .ok (.castore, 1) := by decide +kernel
theorem dX12_init_1161 : decode cX12_init 1161 = .ok (.putfield 188, 3) := by decide +kernel
theorem dX12_init_1164 : decode cX12_init 1164 = .ok (.aload_n 0, 1) := by decide +kernel
theorem dX12_init_1165 : decode cX12_init 1165 = .ok (.iconst 3, 1) := by decide +kernel
theorem dX12_init_1166 : decode cX12_init 1166 = .ok (.newarray .char, 2) := by decide +kernel
theorem dX12_init_1168 : decode cX12_init 1168 = .ok (.dup, 1) := by decide +kernel
theorem dX12_init_1169 : decode cX12_init 1169 = .ok (.iconst 0, 1) := by decide +kernel
theorem dX12_init_1170 : decode cX12_init 1170 = .ok (.bipush 119, 2) := by decide +kernel
theorem dX12_init_1172 : decode cX12_init 1172 = .ok (.castore, 1) := by decide +kernel
theorem dX12_init_1173 : decode cX12_init 1173 = .ok (.dup, 1) := by decide +kernel
theorem dX12_init_1174 : decode cX12_init 1174 = .ok (.iconst 1, 1) := by decide +kernel
theorem dX12_init_1175 : decode cX12_init 1175 = .ok (.bipush 105, 2) := by decide +kernel
theorem dX12_init_1177 : decode cX12_init 1177 = .ok (.castore, 1) := by decide +kernel
theorem dX12_init_1178 : decode cX12_init 1178 = .ok (.dup, 1) := by decide +kernel
theorem dX12_init_1179 : decode cX12_init 1179 = .ok (.iconst 2, 1) := by decide +kernel
theorem dX12_init_1180 : decode cX12_init 1180 = .ok (.bipush 116, 2) := by decide +kernel
theorem dX12_init_1182 : decode cX12_init 1182 = .ok (.castore, 1) := by decide +kernel
theorem dX12_init_1183 : decode cX12_init 1183 = .ok (.putfield 191, 3) := by decide +kernel
theorem dX12_init_1186 : decode cX12_init 1186 = .ok (.aload_n 0, 1) := by decide +kernel
theorem dX12_init_1187 : decode cX12_init 1187 = .ok (.iconst 4, 1) := by decide +kernel
theorem dX12_init_1188 : decode cX12_init 1188 = .ok (.newarray .char, 2) := by decide +kernel
theorem dX12_init_1190 : decode cX12_init 1190 = .ok (.dup, 1) := by decide +kernel
theorem dX12_init_1191 : decode cX12_init 1191 = .ok (.iconst 0, 1) := by decide +kernel
theorem dX12_init_1192 : decode cX12_init 1192 = .ok (.bipush 104, 2) := by decide +kernel
theorem dX12_init_1194 : decode cX12_init 1194 = .ok (.castore, 1) := by decide +kernel
theorem dX12_init_1195 : decode cX12_init 1195 = .ok (.dup, 1) := by decide +kernel
theorem dX12_init_1196 : decode cX12_init 1196 = .ok (.iconst 1, 1) := by decide +kernel
theorem dX12_init_1197 : decode cX12_init 1197 = .ok (.bipush 97, 2) := by decide +kernel
theorem dX12_init_1199 : decode cX12_init 1199 = .ok (.castore, 1) := by decide +kernel
theorem dX12_init_1200 : decode cX12_init 1200 = .ok (.dup, 1) := by decide +kernel
theorem dX12_init_1201 : decode cX12_init 1201 = .ok (.iconst 2, 1) := by decide +kernel
theorem dX12_init_1202 : decode cX12_init 1202 = .ok (.bipush 114, 2) := by decide +kernel
theorem dX12_init_1204 : decode cX12_init 1204 = .ok (.castore, 1) := by decide +kernel
theorem dX12_init_1205 : decode cX12_init 1205 = .ok (.dup, 1) := by decide +kernel
theorem dX12_init_1206 : decode cX12_init 1206 = .ok (.iconst 3, 1) := by decide +kernel
theorem dX12_init_1207 : decode cX12_init 1207 = .ok (.bipush 109, 2) := by decide +kernel
theorem dX12_init_1209 : decode cX12_init 1209 = .ok (.castore, 1) := by decide +kernel
theorem dX12_init_1210 : decode cX12_init 1210 = .ok (.putfield 194, 3) := by decide +kernel
theorem dX12_init_1213 : decode cX12_init 1213 = .ok (.aload_n 0, 1) := by decide +kernel
theorem dX12_init_1214 : decode cX12_init 1214 = .ok (.iconst 5, 1) := by decide +kernel
theorem dX12_init_1215 : decode cX12_init 1215 = .ok (.newarray .char, 2) := by decide +kernel
theorem dX12_init_1217 : decode cX12_init 1217 = .ok (.dup, 1) := by decide +kernel
theorem dX12_init_1218 : decode cX12_init 1218 = .ok (.iconst 0, 1) := by decide +kernel
theorem dX12_init_1219 : decode cX12_init 1219 = .ok (.bipush 104, 2) := by decide +kernel
theorem dX12_init_1221 : decode cX12_init 1221 = .ok (.castore, 1) := by decide +kernel
theorem dX12_init_1222 : decode cX12_init 1222 = .ok (.dup, 1) := by decide +kernel
theorem dX12_init_1223 : decode cX12_init 1223 = .ok (.iconst 1, 1) := by decide +kernel
theorem dX12_init_1224 : decode cX12_init 1224 = .ok (.bipush 101, 2) := by decide +kernel
theorem dX12_init_1226 : decode cX12_init 1226 = .ok (.castore, 1) := by decide +kernel
theorem dX12_init_1227 : decode cX12_init 1227 = .ok (.dup, 1) := by decide +kernel
theorem dX12_init_1228 : decode cX12_init 1228 = .ok (.iconst 2, 1) := by decide +kernel
theorem dX12_init_1229 : decode cX12_init 1229 = .ok (.bipush 97, 2) := by decide +kernel
theorem dX12_init_1231 : decode cX12_init 1231 = .ok (.castore, 1) := by decide +kernel
theorem dX12_init_1232 : decode cX12_init 1232 = .ok (.dup, 1) := by decide +kernel
theorem dX12_init_1233 : decode cX12_init 1233 = .ok (.iconst 3, 1) := by decide +kernel
theorem dX12_init_1234 : decode cX12_init 1234 = .ok (.bipush 114, 2) := by decide +kernel
theorem dX12_init_1236 : decode cX12_init 1236 = .ok (.castore, 1) := by decide +kernel
theorem dX12_init_1237 : decode cX12_init 1237 = .ok (.dup, 1) := by decide +kernel
theorem dX12_init_1238 : decode cX12_init 1238 = .ok (.iconst 4, 1) := by decide +kernel
theorem dX12_init_1239 : decode cX12_init 1239 = .ok (.bipush 100, 2) := by decide +kernel
theorem dX12_init_1241 : decode cX12_init 1241 = .ok (.castore, 1) := by decide +kernel
theorem dX12_init_1242 : decode cX12_init 1242 = .ok (.putfield 197, 3) := by decide +kernel
theorem dX12_init_1245 : decode cX12_init 1245 = .ok (.aload_n 0, 1) := by decide +kernel
theorem dX12_init_1246 : decode cX12_init 1246 = .ok (.iconst 5, 1) := by decide +kernel
theorem dX12_init_1247 : decode cX12_init 1247 = .ok (.newarray .char, 2) := by decide +kernel
theorem dX12_init_1249 : decode cX12_init 1249 = .ok (.dup, 1) := by decide +kernel
theorem dX12_init_1250 : decode cX12_init 1250 = .ok (.iconst 0, 1) := by decide +kernel
theorem dX12_init_1251 : decode cX12_init 1251 = .ok (.bipush 116, 2) := by decide +kernel
theorem dX12_init_1253 : decode cX12_init 1253 = .ok (.castore, 1) := by decide +kernel
theorem dX12_init_1254 : decode cX12_init 1254 = .ok (.dup, 1) := by decide +kernel
theorem dX12_init_1255 : decode cX12_init 1255 = .ok (.iconst 1, 1) := by decide +kernel
theorem dX12_init_1256 : decode cX12_init 1256 = .ok (.bipush 114, 2) := by decide +kernel
theorem dX12_init_1258 : decode cX12_init 1258 = .ok (.castore, 1) := by decide +kernel
theorem dX12_init_1259 : decode cX12_init 1259 = .ok (.dup, 1) := by decide +kernel
theorem dX12_init_1260 : decode cX12_init 1260 = .ok (.iconst 2, 1) := by decide +kernel
theorem dX12_init_1261 : decode cX12_init 1261 = .ok (.bipush 117, 2) := by decide +kernel
theorem dX12_init_1263 : decode cX12_init 1263 = .ok (.castore, 1) := by decide +kernel
theorem dX12_init_1264 : decode cX12_init 1264 = .ok (.dup, 1) := by decide +kernel
theorem dX12_init_1265 : decode cX12_init 1265 = .ok (.iconst 3, 1) := by decide +kernel
theorem dX12_init_1266 : decode cX12_init 1266 = .ok (.bipush 116, 2) := by decide +kernel
theorem dX12_init_1268 : decode cX12_init 1268 = .ok (.castore, 1) := by decide +kernel
theorem dX12_init_1269 : decode cX12_init 1269 = .ok (.dup, 1) := by decide +kernel
theorem dX12_init_1270 : decode cX12_init 1270 = .ok (.iconst 4, 1) := by decide +kernel
theorem dX12_init_1271 : decode cX12_init 1271 = .ok (.bipush 104, 2) := by decide +kernel
theorem dX12_init_1273 : decode cX12_init 1273 = .ok (.castore, 1) := by decide +kernel
theorem dX12_init_1274 : decode cX12_init 1274 = .ok (.putfield 200, 3) := by decide +kernel
theorem dX12_init_1277 : decode cX12_init 1277 = .ok (.aload_n 0, 1) := by decide +kernel
theorem dX12_init_1278 : decode cX12_init 1278 = .ok (.bipush 6, 2) := by decide +kernel
theorem dX12_init_1280 : decode cX12_init 1280 = .ok (.newarray .char, 2) := by decide +kernel
theorem dX12_init_1282 : decode cX12_init 1282 = .ok (.dup, 1) := by decide +kernel
theorem dX12_init_1283 : decode cX12_init 1283 = .ok (.iconst 0, 1) := by decide +kernel
theorem dX12_init_1284 : decode cX12_init 1284 = .ok (.bipush 110, 2) := by decide +kernel
theorem dX12_init_1286 : decode cX12_init 1286 = .ok (.castore, 1) := by decide +kernel
theorem dX12_init_1287 : decode cX12_init 1287 = .ok (.dup, 1) := by decide +kernel
theorem dX12_init_1288 : decode cX12_init 1288 = .ok (.iconst 1, 1) := by decide +kernel
theorem dX12_init_1289 : decode cX12_init 1289 = .ok (.bipush 117, 2) := by decide +kernel
theorem dX12_init_1291 : decode cX12_init 1291 = .ok (.castore, 1) := by decide +kernel
theorem dX12_init_1292 : decode cX12_init 1292 = .ok (.dup, 1) := by decide +kernel
theorem dX12_init_1293 : decode cX12_init 1293 = .ok (.iconst 2, 1) := by decide +kernel
theorem dX12_init_1294 : decode cX12_init 1294 = .ok (.bipush 109, 2) := by decide +kernel
theorem dX12_init_1296 : decode cX12_init 1296 = .ok (.castore, 1) := by decide +kernel
theorem dX12_init_1297 : decode cX12_init 1297 = .ok (.dup, 1) := by decide +kernel
theorem dX12_init_1298 : decode cX12_init 1298 = .ok (.iconst 3, 1) := by decide +kernel
theorem dX12_init_1299 : decode cX12_init 1299 = .ok (.bipush 98, 2) := by decide +kernel
theorem dX12_init_1301 : decode cX12_init 1301 = .ok (.castore, 1) := by decide +kernel
theorem dX12_init_1302 : decode cX12_init 1302 = .ok (.dup, 1) := by decide +kernel
theorem dX12_init_1303 : decode cX12_init 1303 = .ok (.iconst 4, 1) := by decide +kernel
theorem dX12_init_1304 : decode cX12_init 1304 = .ok (.bipush 101, 2) := by decide +kernel
theorem dX12_init_1306 : decode cX12_init 1306 = .ok (.castore, 1) := by decide +kernel
theorem dX12_init_1307 : decode cX12_init 1307 = .ok (.dup, 1) := by decide +kernel
theorem dX12_init_1308 : decode cX12_init 1308 = .ok (.iconst 5, 1) := by decide +kernel
theorem dX12_init_1309 : decode cX12_init 1309 = .ok (.bipush 114, 2) := by decide +kernel
theorem dX12_init_1311 : decode cX12_init 1311 = .ok (.castore, 1) := by decide +kernel
theorem dX12_init_1312 : decode cX12_init 1312 = .ok (.putfield 203, 3) := by decide +kernel
theorem dX12_init_1315 : decode cX12_init 1315 = .ok (.aload_n 0, 1) := by decide +kernel
theorem dX12_init_1316 : decode cX12_init 1316 = .ok (.iconst 5, 1) := by decide +kernel
theorem dX12_init_1317 : decode cX12_init 1317 = .ok (.newarray .char, 2) := by decide +kernel
theorem dX12_init_1319 : decode cX12_init 1319 = .ok (.dup, 1) := by decide +kernel
theorem dX12_init_1320 : decode cX12_init 1320 = .ok (.iconst 0, 1) := by decide +kernel
theorem dX12_init_1321 : decode cX12_init 1321 = .ok (.bipush 109, 2) := by decide +kernel
theorem dX12_init_1323 : decode cX12_init 1323 = .ok (.castore, 1) := by decide +kernel
theorem dX12_init_1324 : decode cX12_init 1324 = .ok (.dup, 1) := by decide +kernel
theorem dX12_init_1325 : decode cX12_init 1325 = .ok (.iconst 1, 1) := by decide +kernel
theorem dX12_init_1326 : decode cX12_init 1326 = .ok (.bipush 101, 2) := by decide +kernel
theorem dX12_init_1328 : decode cX12_init 1328 = .ok (.castore, 1) := by decide +kernel
theorem dX12_init_1329 : decode cX12_init 1329 = .ok (.dup, 1) := by decide +kernel
theorem dX12_init_1330 : decode cX12_init 1330 = .ok (.iconst 2, 1) := by decide +kernel
theorem dX12_init_1331 : decode cX12_init 1331 = .ok (.bipush 114, 2) := by decide +kernel
theorem dX12_init_1333 : decode cX12_init 1333 = .ok (.castore, 1) := by decide +kernel
theorem dX12_init_1334 : decode cX12_init 1334 = .ok (.dup, 1) := by decide +kernel
theorem dX12_init_1335 : decode cX12_init 1335 = .ok (.iconst 3, 1) := by decide +kernel
theorem dX12_init_1336 : decode cX12_init 1336 = .ok (.bipush 105, 2) := by decide +kernel
theorem dX12_init_1338 : decode cX12_init 1338 = .ok (.castore, 1) := by decide +kernel
theorem dX12_init_1339 : decode cX12_init 1339 = .ok (.dup, 1) := by decide +kernel
theorem dX12_init_1340 : decode cX12_init 1340 = .ok (.iconst 4, 1) := by decide +kernel
theorem dX12_init_1341 : decode cX12_init 1341 = .ok (.bipush 116, 2) := by decide +kernel
theorem dX12_init_1343 : decode cX12_init 1343 = .ok (.castore, 1) := by decide +kernel
theorem dX12_init_1344 : decode cX12_init 1344 = .ok (.putfield 206, 3) := by decide +kernel
theorem dX12_init_1347 : decode cX12_init 1347 = .ok (.aload_n 0, 1) := by decide +kernel
theorem dX12_init_1348 : decode cX12_init 1348 = .ok (.iconst 4, 1) := by decide +kernel
theorem dX12_init_1349 : decode cX12_init 1349 = .ok (.newarray .char, 2) := by decide +kernel
theorem dX12_init_1351 : decode cX12_init 1351 = .ok (.dup, 1) := by decide +kernel
theorem dX12_init_1352 : decode cX12_init 1352 = .ok (.iconst 0, 1) := by decide +kernel
theorem dX12_init_1353 : decode cX12_init 1353 = .ok (.bipush 115, 2) := by decide +kernel
theorem dX12_init_1355 : decode cX12_init 1355 = .ok (.castore, 1) := by decide +kernel
theorem dX12_init_1356 : decode cX12_init 1356 = .ok (.dup, 1) := by decide +kernel
theorem dX12_init_1357 : decode cX12_init 1357 = .ok (.iconst 1, 1) := by decide +kernel
theorem dX12_init_1358 : decode cX12_init 1358 = .ok (.bipush 117, 2) := by decide +kernel
theorem dX12_init_1360 : decode cX12_init 1360 = .ok (.castore, 1) := by decide +kernel
theorem dX12_init_1361 : decode cX12_init 1361 = .ok (.dup, 1) := by decide +kernel
theorem dX12_init_1362 : decode cX12_init 1362 = .ok (.iconst 2, 1) := by decide +kernel
theorem dX12_init_1363 : decode cX12_init 1363 = .ok (.bipush 114, 2) := by decide +kernel
theorem dX12_init_1365 : decode cX12_init 1365 = .ok (.castore, 1) := by decide +kernel
theorem dX12_init_1366 : decode cX12_init 1366 = .ok (.dup, 1) := by decide +kernel
theorem dX12_init_1367 : decode cX12_init 1367 = .ok (.iconst 3, 1) := by decide +kernel
theorem dX12_init_1368 : decode cX12_init 1368 = .ok (.bipush 101, 2) := by decide +kernel
theorem dX12_init_1370 : decode cX12_init 1370 = .ok (.castore, 1) := by decide +kernel
theorem dX12_init_1371 : decode cX12_init 1371 = .ok (.putfield 209, 3) := by decide +kernel
theorem dX12_init_1374 : decode cX12_init 1374 = .ok (.aload_n 0, 1) := by decide +kernel
theorem dX12_init_1375 : decode cX12_init 1375 = .ok (.bipush 6, 2) := by decide +kernel
theorem dX12_init_1377 : decode cX12_init 1377 = .ok (.newarray .char, 2) := by decide +kernel
theorem dX12_init_1379 : decode cX12_init 1379 = .ok (.dup, 1) := by decide +kernel
theorem dX12_init_1380 : decode cX12_init 1380 = .ok (.iconst 0, 1) := by decide +kernel
theorem dX12_init_1381 : decode cX12_init 1381 = .ok (.bipush 121, 2) := by decide +kernel
theorem dX12_init_1383 : decode cX12_init 1383 = .ok (.castore, 1) := by decide +kernel
theorem dX12_init_1384 : decode cX12_init 1384 = .ok (.dup, 1) := by decide +kernel
theorem dX12_init_1385 : decode cX12_init 1385 = .ok (.iconst 1, 1) := by decide +kernel
theorem dX12_init_1386 : decode cX12_init 1386 = .ok (.bipush 105, 2) := by decide +kernel
theorem dX12_init_1388 : decode cX12_init 1388 = .ok (.castore, 1) := by decide +kernel
theorem dX12_init_1389 : decode cX12_init 1389 = .ok (.dup, 1) := by decide +kernel
theorem dX12_init_1390 : decode cX12_init 1390 = .ok (.iconst 2, 1) := by decide +kernel
theorem dX12_init_1391 : decode cX12_init 1391 = .ok (.bipush 101, 2) := by decide +kernel
theorem dX12_init_1393 : decode cX12_init 1393 = .ok (.castore, 1) := by decide +kernel
theorem dX12_init_1394 : decode cX12_init 1394 = .ok (.dup, 1) := by decide +kernel
theorem dX12_init_1395 : decode cX12_init 1395 = .ok (.iconst 3, 1) := by decide +kernel
theorem dX12_init_1396 : decode cX12_init 1396 = .ok (.bipush 108, 2) := by decide +kernel
theorem dX12_init_1398 : decode cX12_init 1398 = .ok (.castore, 1) := by decide +kernel
theorem dX12_init_1399 : decode cX12_init 1399 = .ok (.dup, 1) := by decide +kernel
theorem dX12_init_1400 : decode cX12_init 1400 = .ok (.iconst 4, 1) := by decide +kernel
theorem dX12_init_1401 : decode cX12_init 1401 = .ok (.bipush 100, 2) := by decide +kernel
theorem dX12_init_1403 : decode cX12_init 1403 = .ok (.castore, 1) := by decide +kernel
theorem dX12_init_1404 : decode cX12_init 1404 = .ok (.dup, 1) := by decide +kernel
theorem dX12_init_1405 : decode cX12_init 1405 = .ok (.iconst 5, 1) := by decide +kernel
theorem dX12_init_1406 : decode cX12_init 1406 = .ok (.bipush 115, 2) := by decide +kernel
theorem dX12_init_1408 : decode cX12_init 1408 = .ok (.castore, 1) := by decide +kernel
theorem dX12_init_1409 : decode cX12_init 1409 = .ok (.putfield 212, 3) := by decide +kernel
theorem dX12_init_1412 : decode cX12_init 1412 = .ok (.aload_n 0, 1) := by decide +kernel
theorem dX12_init_1413 : decode cX12_init 1413 = .ok (.sipush 1700, 3) := by decide +kernel
theorem dX12_init_1416 : decode cX12_init 1416 = .ok (.newarray .int, 2) := by decide +kernel
theorem dX12_init_1418 : decode cX12_init 1418 = .ok (.putfield 215, 3) := by decide +kernel
theorem dX12_init_1421 : decode cX12_init 1421 = .ok (.aload_n 0, 1) := by decide +kernel
theorem dX12_init_1422 : decode cX12_init 1422 = .ok (.sipush 1700, 3) := by decide +kernel
theorem dX12_init_1425 : decode cX12_init 1425 = .ok (.newarray .int, 2) := by decide +kernel
theorem dX12_init_1427 : decode cX12_init 1427 = .ok (.putfield 218, 3) := by decide +kernel
theorem dX12_init_1430 : decode cX12_init 1430 = .ok (.aload_n 0, 1) := by decide +kernel
theorem dX12_init_1431 : decode cX12_init 1431 = .ok (.sipush 1700, 3) := by decide +kernel
theorem dX12_init_1434 : decode cX12_init 1434 = .ok (.newarray .long, 2) := by decide +kernel
theorem dX12_init_1436 : decode cX12_init 1436 = .ok (.putfield 221, 3) := by decide +kernel
theorem dX12_init_1439 : decode cX12_init 1439 = .ok (.aload_n 0, 1) := by decide +kernel
theorem dX12_init_1440 : decode cX12_init 1440 = .ok (.bipush 27, 2) := by decide +kernel
theorem dX12_init_1442 : decode cX12_init 1442 = .ok (.newarray .int, 2) := by decide +kernel
theorem dX12_init_1444 : decode cX12_init 1444 = .ok (.putfield 224, 3) := by decide +kernel
theorem dX12_init_1447 : decode cX12_init 1447 = .ok (.return_, 1) := by decide +kernel
theorem ko_RX12_1 : Cond.methodLink RX12 1 Lib.objectInit ∈ ktG ∧ Cond.instanceMethod Lib.objectInit ∈ ktG ∧ Cond.code Lib.objectInit ⟨#[0xb1]⟩ 1 none ∈ ktG := ⟨kwm 1196 (by decide +kernel) (by decide +kernel), kwm 150 (by decide +kernel) (by decide +kernel), kwm 151 (by decide +kernel) (by decide +kernel)⟩
theorem kwa_char : Cond.arrayClass (newarray.typeOf .char) ∈ ktG := kwm 1489 (by decide +kernel) (by decide +kernel)
set_option maxHeartbeats 8000000 in
set_option maxRecDepth 100000 in
def f_iX12_init (h : KH) (v0 : Nat) : Option (KH) :=
  if (kkind h.1 = 20 ∧ klen h.1 = ((1600 : Int32)).toNatClampNeg ∧ ¬ (1600 : Int32) < 0 ∧ klen h.1 ≤ 9000) then kl (knew h) fun h2 =>
  if (kkind v0 = 12 ∧ v0 < h2.1) then if h.1 < 999999 then kl (ksR h2 v0 0 h.1) fun h6 =>
  if (kkind v0 = 12 ∧ v0 < h6.1) then kl (ksI h6 v0 8 (-1 : Int32)) fun h9 =>
  if (kkind h9.1 = 20 ∧ klen h9.1 = ((6 : Int32)).toNatClampNeg ∧ ¬ (6 : Int32) < 0 ∧ klen h9.1 ≤ 9000) then kl (knew h9) fun h12 =>
  if (kkind v0 = 12 ∧ v0 < h12.1) then if h9.1 < 999999 then kl (ksR h12 v0 9 h9.1) fun h16 =>
  if (kkind h16.1 = 22 ∧ klen h16.1 = ((4 : Int32)).toNatClampNeg ∧ ¬ (4 : Int32) < 0 ∧ klen h16.1 ≤ 9000) then kl (knew h16) fun h19 =>
  if (kkind h16.1 = 22 ∧ h16.1 < h19.1) then if ¬ klen h16.1 ≤ 0 then kl (ksI h19 h16.1 0 (vp_nar .char (107 : Int32))) fun h23 =>
  if (kkind h16.1 = 22 ∧ h16.1 < h23.1) then if ¬ klen h16.1 ≤ 1 then kl (ksI h23 h16.1 1 (vp_nar .char (105 : Int32))) fun h27 =>
  if (kkind h16.1 = 22 ∧ h16.1 < h27.1) then if ¬ klen h16.1 ≤ 2 then kl (ksI h27 h16.1 2 (vp_nar .char (110 : Int32))) fun h31 =>
  if (kkind h16.1 = 22 ∧ h16.1 < h31.1) then if ¬ klen h16.1 ≤ 3 then kl (ksI h31 h16.1 3 (vp_nar .char (100 : Int32))) fun h35 =>
  if (kkind v0 = 12 ∧ v0 < h35.1) then if h16.1 < 999999 then kl (ksR h35 v0 10 h16.1) fun h39 =>
  if (kkind h39.1 = 22 ∧ klen h39.1 = ((4 : Int32)).toNatClampNeg ∧ ¬ (4 : Int32) < 0 ∧ klen h39.1 ≤ 9000) then kl (knew h39) fun h42 =>
  if (kkind h39.1 = 22 ∧ h39.1 < h42.1) then if ¬ klen h39.1 ≤ 0 then kl (ksI h42 h39.1 0 (vp_nar .char (108 : Int32))) fun h46 =>
  if (kkind h39.1 = 22 ∧ h39.1 < h46.1) then if ¬ klen h39.1 ≤ 1 then kl (ksI h46 h39.1 1 (vp_nar .char (111 : Int32))) fun h50 =>
  if (kkind h39.1 = 22 ∧ h39.1 < h50.1) then if ¬ klen h39.1 ≤ 2 then kl (ksI h50 h39.1 2 (vp_nar .char (118 : Int32))) fun h54 =>
  if (kkind h39.1 = 22 ∧ h39.1 < h54.1) then if ¬ klen h39.1 ≤ 3 then kl (ksI h54 h39.1 3 (vp_nar .char (101 : Int32))) fun h58 =>
  if (kkind v0 = 12 ∧ v0 < h58.1) then if h39.1 < 999999 then kl (ksR h58 v0 11 h39.1) fun h62 =>
  if (kkind h62.1 = 22 ∧ klen h62.1 = ((3 : Int32)).toNatClampNeg ∧ ¬ (3 : Int32) < 0 ∧ klen h62.1 ≤ 9000) then kl (knew h62) fun h65 =>
  if (kkind h62.1 = 22 ∧ h62.1 < h65.1) then if ¬ klen h62.1 ≤ 0 then kl (ksI h65 h62.1 0 (vp_nar .char (119 : Int32))) fun h69 =>
  if (kkind h62.1 = 22 ∧ h62.1 < h69.1) then if ¬ klen h62.1 ≤ 1 then kl (ksI h69 h62.1 1 (vp_nar .char (105 : Int32))) fun h73 =>
  if (kkind h62.1 = 22 ∧ h62.1 < h73.1) then if ¬ klen h62.1 ≤ 2 then kl (ksI h73 h62.1 2 (vp_nar .char (116 : Int32))) fun h77 =>
  if (kkind v0 = 12 ∧ v0 < h77.1) then if h62.1 < 999999 then kl (ksR h77 v0 12 h62.1) fun h81 =>
  if (kkind h81.1 = 22 ∧ klen h81.1 = ((4 : Int32)).toNatClampNeg ∧ ¬ (4 : Int32) < 0 ∧ klen h81.1 ≤ 9000) then kl (knew h81) fun h84 =>
  if (kkind h81.1 = 22 ∧ h81.1 < h84.1) then if ¬ klen h81.1 ≤ 0 then kl (ksI h84 h81.1 0 (vp_nar .char (116 : Int32))) fun h88 =>
  if (kkind h81.1 = 22 ∧ h81.1 < h88.1) then if ¬ klen h81.1 ≤ 1 then kl (ksI h88 h81.1 1 (vp_nar .char (114 : Int32))) fun h92 =>
  if (kkind h81.1 = 22 ∧ h81.1 < h92.1) then if ¬ klen h81.1 ≤ 2 then kl (ksI h92 h81.1 2 (vp_nar .char (117 : Int32))) fun h96 =>
  if (kkind h81.1 = 22 ∧ h81.1 < h96.1) then if ¬ klen h81.1 ≤ 3 then kl (ksI h96 h81.1 3 (vp_nar .char (101 : Int32))) fun h100 =>
  if (kkind v0 = 12 ∧ v0 < h100.1) then if h81.1 < 999999 then kl (ksR h100 v0 13 h81.1) fun h104 =>
  if (kkind h104.1 = 22 ∧ klen h104.1 = ((5 : Int32)).toNatClampNeg ∧ ¬ (5 : Int32) < 0 ∧ klen h104.1 ≤ 9000) then kl (knew h104) fun h107 =>
  if (kkind h104.1 = 22 ∧ h104.1 < h107.1) then if ¬ klen h104.1 ≤ 0 then kl (ksI h107 h104.1 0 (vp_nar .char (102 : Int32))) fun h111 =>
  if (kkind h104.1 = 22 ∧ h104.1 < h111.1) then if ¬ klen h104.1 ≤ 1 then kl (ksI h111 h104.1 1 (vp_nar .char (97 : Int32))) fun h115 =>
  if (kkind h104.1 = 22 ∧ h104.1 < h115.1) then if ¬ klen h104.1 ≤ 2 then kl (ksI h115 h104.1 2 (vp_nar .char (108 : Int32))) fun h119 =>
  if (kkind h104.1 = 22 ∧ h104.1 < h119.1) then if ¬ klen h104.1 ≤ 3 then kl (ksI h119 h104.1 3 (vp_nar .char (115 : Int32))) fun h123 =>
  if (kkind h104.1 = 22 ∧ h104.1 < h123.1) then if ¬ klen h104.1 ≤ 4 then kl (ksI h123 h104.1 4 (vp_nar .char (101 : Int32))) fun h127 =>
  if (kkind v0 = 12 ∧ v0 < h127.1) then if h104.1 < 999999 then kl (ksR h127 v0 14 h104.1) fun h131 =>
  if (kkind h131.1 = 22 ∧ klen h131.1 = ((4 : Int32)).toNatClampNeg ∧ ¬ (4 : Int32) < 0 ∧ klen h131.1 ≤ 9000) then kl (knew h131) fun h134 =>
  if (kkind h131.1 = 22 ∧ h131.1 < h134.1) then if ¬ klen h131.1 ≤ 0 then kl (ksI h134 h131.1 0 (vp_nar .char (116 : Int32))) fun h138 =>
  if (kkind h131.1 = 22 ∧ h131.1 < h138.1) then if ¬ klen h131.1 ≤ 1 then kl (ksI h138 h131.1 1 (vp_nar .char (101 : Int32))) fun h142 =>
  if (kkind h131.1 = 22 ∧ h131.1 < h142.1) then if ¬ klen h131.1 ≤ 2 then kl (ksI h142 h131.1 2 (vp_nar .char (115 : Int32))) fun h146 =>
  if (kkind h131.1 = 22 ∧ h131.1 < h146.1) then if ¬ klen h131.1 ≤ 3 then kl (ksI h146 h131.1 3 (vp_nar .char (116 : Int32))) fun h150 =>
  if (kkind v0 = 12 ∧ v0 < h150.1) then if h131.1 < 999999 then kl (ksR h150 v0 15 h131.1) fun h154 =>
  if (kkind h154.1 = 22 ∧ klen h154.1 = ((4 : Int32)).toNatClampNeg ∧ ¬ (4 : Int32) < 0 ∧ klen h154.1 ≤ 9000) then kl (knew h154) fun h157 =>
  if (kkind h154.1 = 22 ∧ h154.1 < h157.1) then if ¬ klen h154.1 ≤ 0 then kl (ksI h157 h154.1 0 (vp_nar .char (104 : Int32))) fun h161 =>
  if (kkind h154.1 = 22 ∧ h154.1 < h161.1) then if ¬ klen h154.1 ≤ 1 then kl (ksI h161 h154.1 1 (vp_nar .char (97 : Int32))) fun h165 =>
  if (kkind h154.1 = 22 ∧ h154.1 < h165.1) then if ¬ klen h154.1 ≤ 2 then kl (ksI h165 h154.1 2 (vp_nar .char (114 : Int32))) fun h169 =>
  if (kkind h154.1 = 22 ∧ h154.1 < h169.1) then if ¬ klen h154.1 ≤ 3 then kl (ksI h169 h154.1 3 (vp_nar .char (109 : Int32))) fun h173 =>
  if (kkind v0 = 12 ∧ v0 < h173.1) then if h154.1 < 999999 then kl (ksR h173 v0 16 h154.1) fun h177 =>
  if (kkind h177.1 = 22 ∧ klen h177.1 = ((4 : Int32)).toNatClampNeg ∧ ¬ (4 : Int32) < 0 ∧ klen h177.1 ≤ 9000) then kl (knew h177) fun h180 =>
  if (kkind h177.1 = 22 ∧ h177.1 < h180.1) then if ¬ klen h177.1 ≤ 0 then kl (ksI h180 h177.1 0 (vp_nar .char (109 : Int32))) fun h184 =>
  if (kkind h177.1 = 22 ∧ h177.1 < h184.1) then if ¬ klen h177.1 ≤ 1 then kl (ksI h184 h177.1 1 (vp_nar .char (97 : Int32))) fun h188 =>
  if (kkind h177.1 = 22 ∧ h177.1 < h188.1) then if ¬ klen h177.1 ≤ 2 then kl (ksI h188 h177.1 2 (vp_nar .char (114 : Int32))) fun h192 =>
  if (kkind h177.1 = 22 ∧ h177.1 < h192.1) then if ¬ klen h177.1 ≤ 3 then kl (ksI h192 h177.1 3 (vp_nar .char (107 : Int32))) fun h196 =>
  if (kkind v0 = 12 ∧ v0 < h196.1) then if h177.1 < 999999 then kl (ksR h196 v0 17 h177.1) fun h200 =>
  if (kkind h200.1 = 22 ∧ klen h200.1 = ((6 : Int32)).toNatClampNeg ∧ ¬ (6 : Int32) < 0 ∧ klen h200.1 ≤ 9000) then kl (knew h200) fun h203 =>
  if (kkind h200.1 = 22 ∧ h200.1 < h203.1) then if ¬ klen h200.1 ≤ 0 then kl (ksI h203 h200.1 0 (vp_nar .char (121 : Int32))) fun h207 =>
  if (kkind h200.1 = 22 ∧ h200.1 < h207.1) then if ¬ klen h200.1 ≤ 1 then kl (ksI h207 h200.1 1 (vp_nar .char (105 : Int32))) fun h211 =>
  if (kkind h200.1 = 22 ∧ h200.1 < h211.1) then if ¬ klen h200.1 ≤ 2 then kl (ksI h211 h200.1 2 (vp_nar .char (101 : Int32))) fun h215 =>
  if (kkind h200.1 = 22 ∧ h200.1 < h215.1) then if ¬ klen h200.1 ≤ 3 then kl (ksI h215 h200.1 3 (vp_nar .char (108 : Int32))) fun h219 =>
  if (kkind h200.1 = 22 ∧ h200.1 < h219.1) then if ¬ klen h200.1 ≤ 4 then kl (ksI h219 h200.1 4 (vp_nar .char (100 : Int32))) fun h223 =>
  if (kkind h200.1 = 22 ∧ h200.1 < h223.1) then if ¬ klen h200.1 ≤ 5 then kl (ksI h223 h200.1 5 (vp_nar .char (115 : Int32))) fun h227 =>
  if (kkind v0 = 12 ∧ v0 < h227.1) then if h200.1 < 999999 then kl (ksR h227 v0 18 h200.1) fun h231 =>
  if (kkind h231.1 = 22 ∧ klen h231.1 = ((5 : Int32)).toNatClampNeg ∧ ¬ (5 : Int32) < 0 ∧ klen h231.1 ≤ 9000) then kl (knew h231) fun h234 =>
  if (kkind h231.1 = 22 ∧ h231.1 < h234.1) then if ¬ klen h231.1 ≤ 0 then kl (ksI h234 h231.1 0 (vp_nar .char (102 : Int32))) fun h238 =>
  if (kkind h231.1 = 22 ∧ h231.1 < h238.1) then if ¬ klen h231.1 ≤ 1 then kl (ksI h238 h231.1 1 (vp_nar .char (105 : Int32))) fun h242 =>
  if (kkind h231.1 = 22 ∧ h231.1 < h242.1) then if ¬ klen h231.1 ≤ 2 then kl (ksI h242 h231.1 2 (vp_nar .char (114 : Int32))) fun h246 =>
  if (kkind h231.1 = 22 ∧ h231.1 < h246.1) then if ¬ klen h231.1 ≤ 3 then kl (ksI h246 h231.1 3 (vp_nar .char (115 : Int32))) fun h250 =>
  if (kkind h231.1 = 22 ∧ h231.1 < h250.1) then if ¬ klen h231.1 ≤ 4 then kl (ksI h250 h231.1 4 (vp_nar .char (116 : Int32))) fun h254 =>
  if (kkind v0 = 12 ∧ v0 < h254.1) then if h231.1 < 999999 then kl (ksR h254 v0 19 h231.1) fun h258 =>
  if (kkind h258.1 = 22 ∧ klen h258.1 = ((5 : Int32)).toNatClampNeg ∧ ¬ (5 : Int32) < 0 ∧ klen h258.1 ≤ 9000) then kl (knew h258) fun h261 =>
  if (kkind h258.1 = 22 ∧ h258.1 < h261.1) then if ¬ klen h258.1 ≤ 0 then kl (ksI h261 h258.1 0 (vp_nar .char (112 : Int32))) fun h265 =>
  if (kkind h258.1 = 22 ∧ h258.1 < h265.1) then if ¬ klen h258.1 ≤ 1 then kl (ksI h265 h258.1 1 (vp_nar .char (114 : Int32))) fun h269 =>
  if (kkind h258.1 = 22 ∧ h258.1 < h269.1) then if ¬ klen h258.1 ≤ 2 then kl (ksI h269 h258.1 2 (vp_nar .char (105 : Int32))) fun h273 =>
  if (kkind h258.1 = 22 ∧ h258.1 < h273.1) then if ¬ klen h258.1 ≤ 3 then kl (ksI h273 h258.1 3 (vp_nar .char (99 : Int32))) fun h277 =>
  if (kkind h258.1 = 22 ∧ h258.1 < h277.1) then if ¬ klen h258.1 ≤ 4 then kl (ksI h277 h258.1 4 (vp_nar .char (101 : Int32))) fun h281 =>
  if (kkind v0 = 12 ∧ v0 < h281.1) then if h258.1 < 999999 then kl (ksR h281 v0 20 h258.1) fun h285 =>
  if (kkind h285.1 = 22 ∧ klen h285.1 = ((5 : Int32)).toNatClampNeg ∧ ¬ (5 : Int32) < 0 ∧ klen h285.1 ≤ 9000) then kl (knew h285) fun h288 =>
  if (kkind h285.1 = 22 ∧ h285.1 < h288.1) then if ¬ klen h285.1 ≤ 0 then kl (ksI h288 h285.1 0 (vp_nar .char (104 : Int32))) fun h292 =>
  if (kkind h285.1 = 22 ∧ h285.1 < h292.1) then if ¬ klen h285.1 ≤ 1 then kl (ksI h292 h285.1 1 (vp_nar .char (101 : Int32))) fun h296 =>
  if (kkind h285.1 = 22 ∧ h285.1 < h296.1) then if ¬ klen h285.1 ≤ 2 then kl (ksI h296 h285.1 2 (vp_nar .char (97 : Int32))) fun h300 =>
  if (kkind h285.1 = 22 ∧ h285.1 < h300.1) then if ¬ klen h285.1 ≤ 3 then kl (ksI h300 h285.1 3 (vp_nar .char (114 : Int32))) fun h304 =>
  if (kkind h285.1 = 22 ∧ h285.1 < h304.1) then if ¬ klen h285.1 ≤ 4 then kl (ksI h304 h285.1 4 (vp_nar .char (100 : Int32))) fun h308 =>
  if (kkind v0 = 12 ∧ v0 < h308.1) then if h285.1 < 999999 then kl (ksR h308 v0 21 h285.1) fun h312 =>
  if (kkind h312.1 = 22 ∧ klen h312.1 = ((5 : Int32)).toNatClampNeg ∧ ¬ (5 : Int32) < 0 ∧ klen h312.1 ≤ 9000) then kl (knew h312) fun h315 =>
  if (kkind h312.1 = 22 ∧ h312.1 < h315.1) then if ¬ klen h312.1 ≤ 0 then kl (ksI h315 h312.1 0 (vp_nar .char (116 : Int32))) fun h319 =>
  if (kkind h312.1 = 22 ∧ h312.1 < h319.1) then if ¬ klen h312.1 ≤ 1 then kl (ksI h319 h312.1 1 (vp_nar .char (114 : Int32))) fun h323 =>
  if (kkind h312.1 = 22 ∧ h312.1 < h323.1) then if ¬ klen h312.1 ≤ 2 then kl (ksI h323 h312.1 2 (vp_nar .char (117 : Int32))) fun h327 =>
  if (kkind h312.1 = 22 ∧ h312.1 < h327.1) then if ¬ klen h312.1 ≤ 3 then kl (ksI h327 h312.1 3 (vp_nar .char (116 : Int32))) fun h331 =>
  if (kkind h312.1 = 22 ∧ h312.1 < h331.1) then if ¬ klen h312.1 ≤ 4 then kl (ksI h331 h312.1 4 (vp_nar .char (104 : Int32))) fun h335 =>
  if (kkind v0 = 12 ∧ v0 < h335.1) then if h312.1 < 999999 then kl (ksR h335 v0 22 h312.1) fun h339 =>
  if (kkind h339.1 = 22 ∧ klen h339.1 = ((6 : Int32)).toNatClampNeg ∧ ¬ (6 : Int32) < 0 ∧ klen h339.1 ≤ 9000) then kl (knew h339) fun h342 =>
  if (kkind h339.1 = 22 ∧ h339.1 < h342.1) then if ¬ klen h339.1 ≤ 0 then kl (ksI h342 h339.1 0 (vp_nar .char (110 : Int32))) fun h346 =>
  if (kkind h339.1 = 22 ∧ h339.1 < h346.1) then if ¬ klen h339.1 ≤ 1 then kl (ksI h346 h339.1 1 (vp_nar .char (117 : Int32))) fun h350 =>
  if (kkind h339.1 = 22 ∧ h339.1 < h350.1) then if ¬ klen h339.1 ≤ 2 then kl (ksI h350 h339.1 2 (vp_nar .char (109 : Int32))) fun h354 =>
  if (kkind h339.1 = 22 ∧ h339.1 < h354.1) then if ¬ klen h339.1 ≤ 3 then kl (ksI h354 h339.1 3 (vp_nar .char (98 : Int32))) fun h358 =>
  if (kkind h339.1 = 22 ∧ h339.1 < h358.1) then if ¬ klen h339.1 ≤ 4 then kl (ksI h358 h339.1 4 (vp_nar .char (101 : Int32))) fun h362 =>
  if (kkind h339.1 = 22 ∧ h339.1 < h362.1) then if ¬ klen h339.1 ≤ 5 then kl (ksI h362 h339.1 5 (vp_nar .char (114 : Int32))) fun h366 =>
  if (kkind v0 = 12 ∧ v0 < h366.1) then if h339.1 < 999999 then kl (ksR h366 v0 23 h339.1) fun h370 =>
  if (kkind h370.1 = 22 ∧ klen h370.1 = ((5 : Int32)).toNatClampNeg ∧ ¬ (5 : Int32) < 0 ∧ klen h370.1 ≤ 9000) then kl (knew h370) fun h373 =>
  if (kkind h370.1 = 22 ∧ h370.1 < h373.1) then if ¬ klen h370.1 ≤ 0 then kl (ksI h373 h370.1 0 (vp_nar .char (109 : Int32))) fun h377 =>
  if (kkind h370.1 = 22 ∧ h370.1 < h377.1) then if ¬ klen h370.1 ≤ 1 then kl (ksI h377 h370.1 1 (vp_nar .char (101 : Int32))) fun h381 =>
  if (kkind h370.1 = 22 ∧ h370.1 < h381.1) then if ¬ klen h370.1 ≤ 2 then kl (ksI h381 h370.1 2 (vp_nar .char (114 : Int32))) fun h385 =>
  if (kkind h370.1 = 22 ∧ h370.1 < h385.1) then if ¬ klen h370.1 ≤ 3 then kl (ksI h385 h370.1 3 (vp_nar .char (105 : Int32))) fun h389 =>
  if (kkind h370.1 = 22 ∧ h370.1 < h389.1) then if ¬ klen h370.1 ≤ 4 then kl (ksI h389 h370.1 4 (vp_nar .char (116 : Int32))) fun h393 =>
  if (kkind v0 = 12 ∧ v0 < h393.1) then if h370.1 < 999999 then kl (ksR h393 v0 24 h370.1) fun h397 =>
  if (kkind h397.1 = 22 ∧ klen h397.1 = ((4 : Int32)).toNatClampNeg ∧ ¬ (4 : Int32) < 0 ∧ klen h397.1 ≤ 9000) then kl (knew h397) fun h400 =>
  if (kkind h397.1 = 22 ∧ h397.1 < h400.1) then if ¬ klen h397.1 ≤ 0 then kl (ksI h400 h397.1 0 (vp_nar .char (115 : Int32))) fun h404 =>
  if (kkind h397.1 = 22 ∧ h397.1 < h404.1) then if ¬ klen h397.1 ≤ 1 then kl (ksI h404 h397.1 1 (vp_nar .char (117 : Int32))) fun h408 =>
  if (kkind h397.1 = 22 ∧ h397.1 < h408.1) then if ¬ klen h397.1 ≤ 2 then kl (ksI h408 h397.1 2 (vp_nar .char (114 : Int32))) fun h412 =>
  if (kkind h397.1 = 22 ∧ h397.1 < h412.1) then if ¬ klen h397.1 ≤ 3 then kl (ksI h412 h397.1 3 (vp_nar .char (101 : Int32))) fun h416 =>
  if (kkind v0 = 12 ∧ v0 < h416.1) then if h397.1 < 999999 then kl (ksR h416 v0 25 h397.1) fun h420 =>
  if (kkind h420.1 = 22 ∧ klen h420.1 = ((2 : Int32)).toNatClampNeg ∧ ¬ (2 : Int32) < 0 ∧ klen h420.1 ≤ 9000) then kl (knew h420) fun h423 =>
  if (kkind h420.1 = 22 ∧ h420.1 < h423.1) then if ¬ klen h420.1 ≤ 0 then kl (ksI h423 h420.1 0 (vp_nar .char (111 : Int32))) fun h427 =>
  if (kkind h420.1 = 22 ∧ h420.1 < h427.1) then if ¬ klen h420.1 ≤ 1 then kl (ksI h427 h420.1 1 (vp_nar .char (114 : Int32))) fun h431 =>
  if (kkind v0 = 12 ∧ v0 < h431.1) then if h420.1 < 999999 then kl (ksR h431 v0 26 h420.1) fun h435 =>
  if (kkind h435.1 = 22 ∧ klen h435.1 = ((3 : Int32)).toNatClampNeg ∧ ¬ (3 : Int32) < 0 ∧ klen h435.1 ≤ 9000) then kl (knew h435) fun h438 =>
  if (kkind h435.1 = 22 ∧ h435.1 < h438.1) then if ¬ klen h435.1 ≤ 0 then kl (ksI h438 h435.1 0 (vp_nar .char (97 : Int32))) fun h442 =>
  if (kkind h435.1 = 22 ∧ h435.1 < h442.1) then if ¬ klen h435.1 ≤ 1 then kl (ksI h442 h435.1 1 (vp_nar .char (110 : Int32))) fun h446 =>
  if (kkind h435.1 = 22 ∧ h435.1 < h446.1) then if ¬ klen h435.1 ≤ 2 then kl (ksI h446 h435.1 2 (vp_nar .char (100 : Int32))) fun h450 =>
  if (kkind v0 = 12 ∧ v0 < h450.1) then if h435.1 < 999999 then kl (ksR h450 v0 27 h435.1) fun h454 =>
  if (kkind h454.1 = 22 ∧ klen h454.1 = ((3 : Int32)).toNatClampNeg ∧ ¬ (3 : Int32) < 0 ∧ klen h454.1 ≤ 9000) then kl (knew h454) fun h457 =>
  if (kkind h454.1 = 22 ∧ h454.1 < h457.1) then if ¬ klen h454.1 ≤ 0 then kl (ksI h457 h454.1 0 (vp_nar .char (110 : Int32))) fun h461 =>
  if (kkind h454.1 = 22 ∧ h454.1 < h461.1) then if ¬ klen h454.1 ≤ 1 then kl (ksI h461 h454.1 1 (vp_nar .char (111 : Int32))) fun h465 =>
  if (kkind h454.1 = 22 ∧ h454.1 < h465.1) then if ¬ klen h454.1 ≤ 2 then kl (ksI h465 h454.1 2 (vp_nar .char (116 : Int32))) fun h469 =>
  if (kkind v0 = 12 ∧ v0 < h469.1) then if h454.1 < 999999 then kl (ksR h469 v0 28 h454.1) fun h473 =>
  if (kkind h473.1 = 22 ∧ klen h473.1 = ((3 : Int32)).toNatClampNeg ∧ ¬ (3 : Int32) < 0 ∧ klen h473.1 ≤ 9000) then kl (knew h473) fun h476 =>
  if (kkind h473.1 = 22 ∧ h473.1 < h476.1) then if ¬ klen h473.1 ≤ 0 then kl (ksI h476 h473.1 0 (vp_nar .char (97 : Int32))) fun h480 =>
  if (kkind h473.1 = 22 ∧ h473.1 < h480.1) then if ¬ klen h473.1 ≤ 1 then kl (ksI h480 h473.1 1 (vp_nar .char (108 : Int32))) fun h484 =>
  if (kkind h473.1 = 22 ∧ h473.1 < h484.1) then if ¬ klen h473.1 ≤ 2 then kl (ksI h484 h473.1 2 (vp_nar .char (108 : Int32))) fun h488 =>
  if (kkind v0 = 12 ∧ v0 < h488.1) then if h473.1 < 999999 then kl (ksR h488 v0 29 h473.1) fun h492 =>
  if (kkind h492.1 = 22 ∧ klen h492.1 = ((3 : Int32)).toNatClampNeg ∧ ¬ (3 : Int32) < 0 ∧ klen h492.1 ≤ 9000) then kl (knew h492) fun h495 =>
  if (kkind h492.1 = 22 ∧ h492.1 < h495.1) then if ¬ klen h492.1 ≤ 0 then kl (ksI h495 h492.1 0 (vp_nar .char (109 : Int32))) fun h499 =>
  if (kkind h492.1 = 22 ∧ h492.1 < h499.1) then if ¬ klen h492.1 ≤ 1 then kl (ksI h499 h492.1 1 (vp_nar .char (105 : Int32))) fun h503 =>
  if (kkind h492.1 = 22 ∧ h492.1 < h503.1) then if ¬ klen h492.1 ≤ 2 then kl (ksI h503 h492.1 2 (vp_nar .char (110 : Int32))) fun h507 =>
  if (kkind v0 = 12 ∧ v0 < h507.1) then if h492.1 < 999999 then kl (ksR h507 v0 30 h492.1) fun h511 =>
  if (kkind h511.1 = 22 ∧ klen h511.1 = ((3 : Int32)).toNatClampNeg ∧ ¬ (3 : Int32) < 0 ∧ klen h511.1 ≤ 9000) then kl (knew h511) fun h514 =>
  if (kkind h511.1 = 22 ∧ h511.1 < h514.1) then if ¬ klen h511.1 ≤ 0 then kl (ksI h514 h511.1 0 (vp_nar .char (109 : Int32))) fun h518 =>
  if (kkind h511.1 = 22 ∧ h511.1 < h518.1) then if ¬ klen h511.1 ≤ 1 then kl (ksI h518 h511.1 1 (vp_nar .char (97 : Int32))) fun h522 =>
  if (kkind h511.1 = 22 ∧ h511.1 < h522.1) then if ¬ klen h511.1 ≤ 2 then kl (ksI h522 h511.1 2 (vp_nar .char (120 : Int32))) fun h526 =>
  if (kkind v0 = 12 ∧ v0 < h526.1) then if h511.1 < 999999 then kl (ksR h526 v0 31 h511.1) fun h530 =>
  if (kkind h530.1 = 20 ∧ klen h530.1 = ((6 : Int32)).toNatClampNeg ∧ ¬ (6 : Int32) < 0 ∧ klen h530.1 ≤ 9000) then kl (knew h530) fun h533 =>
  if (kkind v0 = 12 ∧ v0 < h533.1) then if h530.1 < 999999 then kl (ksR h533 v0 33 h530.1) fun h537 =>
  if (kkind h537.1 = 21 ∧ klen h537.1 = ((36 : Int32)).toNatClampNeg ∧ ¬ (36 : Int32) < 0 ∧ klen h537.1 ≤ 9000) then kl (knew h537) fun h540 =>
  if (kkind v0 = 12 ∧ v0 < h540.1) then if h537.1 < 999999 then kl (ksR h540 v0 34 h537.1) fun h544 =>
  if (kkind h544.1 = 20 ∧ klen h544.1 = ((48 : Int32)).toNatClampNeg ∧ ¬ (48 : Int32) < 0 ∧ klen h544.1 ≤ 9000) then kl (knew h544) fun h547 =>
  if (kkind v0 = 12 ∧ v0 < h547.1) then if h544.1 < 999999 then kl (ksR h547 v0 35 h544.1) fun h551 =>
  if (kkind h551.1 = 20 ∧ klen h551.1 = ((12 : Int32)).toNatClampNeg ∧ ¬ (12 : Int32) < 0 ∧ klen h551.1 ≤ 9000) then kl (knew h551) fun h554 =>
  if (kkind v0 = 12 ∧ v0 < h554.1) then if h551.1 < 999999 then kl (ksR h554 v0 36 h551.1) fun h558 =>
  if (kkind h558.1 = 20 ∧ klen h558.1 = ((20 : Int32)).toNatClampNeg ∧ ¬ (20 : Int32) < 0 ∧ klen h558.1 ≤ 9000) then kl (knew h558) fun h561 =>
  if (kkind v0 = 12 ∧ v0 < h561.1) then if h558.1 < 999999 then kl (ksR h561 v0 37 h558.1) fun h565 =>
  if (kkind h565.1 = 20 ∧ klen h565.1 = ((4 : Int32)).toNatClampNeg ∧ ¬ (4 : Int32) < 0 ∧ klen h565.1 ≤ 9000) then kl (knew h565) fun h568 =>
  if (kkind h565.1 = 20 ∧ h565.1 < h568.1) then if klen h565.1 ≤ 0 then none else kl (ksI h568 h565.1 0 (50 : Int32)) fun h572 =>
  if (kkind h565.1 = 20 ∧ h565.1 < h572.1) then if klen h565.1 ≤ 1 then none else kl (ksI h572 h565.1 1 (1000 : Int32)) fun h576 =>
  if (kkind h565.1 = 20 ∧ h565.1 < h576.1) then if klen h565.1 ≤ 2 then none else kl (ksI h576 h565.1 2 (50 : Int32)) fun h580 =>
  if (kkind h565.1 = 20 ∧ h565.1 < h580.1) then if klen h565.1 ≤ 3 then none else kl (ksI h580 h565.1 3 (1000 : Int32)) fun h584 =>
  if (kkind v0 = 12 ∧ v0 < h584.1) then if h565.1 < 999999 then kl (ksR h584 v0 38 h565.1) fun h588 =>
  if (kkind h588.1 = 20 ∧ klen h588.1 = ((2 : Int32)).toNatClampNeg ∧ ¬ (2 : Int32) < 0 ∧ klen h588.1 ≤ 9000) then kl (knew h588) fun h591 =>
  if (kkind h588.1 = 20 ∧ h588.1 < h591.1) then if klen h588.1 ≤ 0 then none else kl (ksI h591 h588.1 0 (-1 : Int32)) fun h595 =>
  if (kkind h588.1 = 20 ∧ h588.1 < h595.1) then if klen h588.1 ≤ 1 then none else kl (ksI h595 h588.1 1 (-1 : Int32)) fun h599 =>
  if (kkind v0 = 12 ∧ v0 < h599.1) then if h588.1 < 999999 then kl (ksR h599 v0 39 h588.1) fun h603 =>
  if (kkind h603.1 = 20 ∧ klen h603.1 = ((2 : Int32)).toNatClampNeg ∧ ¬ (2 : Int32) < 0 ∧ klen h603.1 ≤ 9000) then kl (knew h603) fun h606 =>
  if (kkind v0 = 12 ∧ v0 < h606.1) then if h603.1 < 999999 then kl (ksR h606 v0 40 h603.1) fun h610 =>
  if (kkind h610.1 = 20 ∧ klen h610.1 = ((3200 : Int32)).toNatClampNeg ∧ ¬ (3200 : Int32) < 0 ∧ klen h610.1 ≤ 9000) then kl (knew h610) fun h613 =>
  if (kkind v0 = 12 ∧ v0 < h613.1) then if h610.1 < 999999 then kl (ksR h613 v0 41 h610.1) fun h617 =>
  if (kkind h617.1 = 20 ∧ klen h617.1 = ((185 : Int32)).toNatClampNeg ∧ ¬ (185 : Int32) < 0 ∧ klen h617.1 ≤ 9000) then kl (knew h617) fun h620 =>
  if (kkind v0 = 12 ∧ v0 < h620.1) then if h617.1 < 999999 then kl (ksR h620 v0 45 h617.1) fun h624 =>
  if (kkind h624.1 = 20 ∧ klen h624.1 = ((24 : Int32)).toNatClampNeg ∧ ¬ (24 : Int32) < 0 ∧ klen h624.1 ≤ 9000) then kl (knew h624) fun h627 =>
  if (kkind v0 = 12 ∧ v0 < h627.1) then if h624.1 < 999999 then kl (ksR h627 v0 46 h624.1) fun h631 =>
  if (kkind h631.1 = 20 ∧ klen h631.1 = ((72 : Int32)).toNatClampNeg ∧ ¬ (72 : Int32) < 0 ∧ klen h631.1 ≤ 9000) then kl (knew h631) fun h634 =>
  if (kkind v0 = 12 ∧ v0 < h634.1) then if h631.1 < 999999 then kl (ksR h634 v0 50 h631.1) fun h638 =>
  if (kkind h638.1 = 20 ∧ klen h638.1 = ((36 : Int32)).toNatClampNeg ∧ ¬ (36 : Int32) < 0 ∧ klen h638.1 ≤ 9000) then kl (knew h638) fun h641 =>
  if (kkind v0 = 12 ∧ v0 < h641.1) then if h638.1 < 999999 then kl (ksR h641 v0 51 h638.1) fun h645 =>
  if (kkind h645.1 = 21 ∧ klen h645.1 = ((6 : Int32)).toNatClampNeg ∧ ¬ (6 : Int32) < 0 ∧ klen h645.1 ≤ 9000) then kl (knew h645) fun h648 =>
  if (kkind v0 = 12 ∧ v0 < h648.1) then if h645.1 < 999999 then kl (ksR h648 v0 52 h645.1) fun h652 =>
  if (kkind h652.1 = 20 ∧ klen h652.1 = ((6 : Int32)).toNatClampNeg ∧ ¬ (6 : Int32) < 0 ∧ klen h652.1 ≤ 9000) then kl (knew h652) fun h655 =>
  if (kkind v0 = 12 ∧ v0 < h655.1) then if h652.1 < 999999 then kl (ksR h655 v0 53 h652.1) fun h659 =>
  if (kkind h659.1 = 21 ∧ klen h659.1 = ((72 : Int32)).toNatClampNeg ∧ ¬ (72 : Int32) < 0 ∧ klen h659.1 ≤ 9000) then kl (knew h659) fun h662 =>
  if (kkind v0 = 12 ∧ v0 < h662.1) then if h659.1 < 999999 then kl (ksR h662 v0 54 h659.1) fun h666 =>
  if (kkind h666.1 = 20 ∧ klen h666.1 = ((72 : Int32)).toNatClampNeg ∧ ¬ (72 : Int32) < 0 ∧ klen h666.1 ≤ 9000) then kl (knew h666) fun h669 =>
  if (kkind v0 = 12 ∧ v0 < h669.1) then if h666.1 < 999999 then kl (ksR h669 v0 55 h666.1) fun h673 =>
  if (kkind h673.1 = 21 ∧ klen h673.1 = ((8192 : Int32)).toNatClampNeg ∧ ¬ (8192 : Int32) < 0 ∧ klen h673.1 ≤ 9000) then kl (knew h673) fun h676 =>
  if (kkind v0 = 12 ∧ v0 < h676.1) then if h673.1 < 999999 then kl (ksR h676 v0 57 h673.1) fun h680 =>
  if (kkind h680.1 = 20 ∧ klen h680.1 = ((64 : Int32)).toNatClampNeg ∧ ¬ (64 : Int32) < 0 ∧ klen h680.1 ≤ 9000) then kl (knew h680) fun h683 =>
  if (kkind v0 = 12 ∧ v0 < h683.1) then if h680.1 < 999999 then kl (ksR h683 v0 59 h680.1) fun h687 =>
  if (kkind h687.1 = 20 ∧ klen h687.1 = ((3700 : Int32)).toNatClampNeg ∧ ¬ (3700 : Int32) < 0 ∧ klen h687.1 ≤ 9000) then kl (knew h687) fun h690 =>
  if (kkind v0 = 12 ∧ v0 < h690.1) then if h687.1 < 999999 then kl (ksR h690 v0 60 h687.1) fun h694 =>
  if (kkind v0 = 12 ∧ v0 < h694.1) then kl (ksL h694 v0 63 (1 : Int64)) fun h697 =>
  if (kkind h697.1 = 22 ∧ klen h697.1 = ((5 : Int32)).toNatClampNeg ∧ ¬ (5 : Int32) < 0 ∧ klen h697.1 ≤ 9000) then kl (knew h697) fun h700 =>
  if (kkind h697.1 = 22 ∧ h697.1 < h700.1) then if ¬ klen h697.1 ≤ 0 then kl (ksI h700 h697.1 0 (vp_nar .char (102 : Int32))) fun h704 =>
  if (kkind h697.1 = 22 ∧ h697.1 < h704.1) then if ¬ klen h697.1 ≤ 1 then kl (ksI h704 h697.1 1 (vp_nar .char (105 : Int32))) fun h708 =>
  if (kkind h697.1 = 22 ∧ h697.1 < h708.1) then if ¬ klen h697.1 ≤ 2 then kl (ksI h708 h697.1 2 (vp_nar .char (114 : Int32))) fun h712 =>
  if (kkind h697.1 = 22 ∧ h697.1 < h712.1) then if ¬ klen h697.1 ≤ 3 then kl (ksI h712 h697.1 3 (vp_nar .char (115 : Int32))) fun h716 =>
  if (kkind h697.1 = 22 ∧ h697.1 < h716.1) then if ¬ klen h697.1 ≤ 4 then kl (ksI h716 h697.1 4 (vp_nar .char (116 : Int32))) fun h720 =>
  if (kkind v0 = 12 ∧ v0 < h720.1) then if h697.1 < 999999 then kl (ksR h720 v0 64 h697.1) fun h724 =>
  if (kkind h724.1 = 22 ∧ klen h724.1 = ((4 : Int32)).toNatClampNeg ∧ ¬ (4 : Int32) < 0 ∧ klen h724.1 ≤ 9000) then kl (knew h724) fun h727 =>
  if (kkind h724.1 = 22 ∧ h724.1 < h727.1) then if ¬ klen h724.1 ≤ 0 then kl (ksI h727 h724.1 0 (vp_nar .char (108 : Int32))) fun h731 =>
  if (kkind h724.1 = 22 ∧ h724.1 < h731.1) then if ¬ klen h724.1 ≤ 1 then kl (ksI h731 h724.1 1 (vp_nar .char (97 : Int32))) fun h735 =>
  if (kkind h724.1 = 22 ∧ h724.1 < h735.1) then if ¬ klen h724.1 ≤ 2 then kl (ksI h735 h724.1 2 (vp_nar .char (115 : Int32))) fun h739 =>
  if (kkind h724.1 = 22 ∧ h724.1 < h739.1) then if ¬ klen h724.1 ≤ 3 then kl (ksI h739 h724.1 3 (vp_nar .char (116 : Int32))) fun h743 =>
  if (kkind v0 = 12 ∧ v0 < h743.1) then if h724.1 < 999999 then kl (ksR h743 v0 65 h724.1) fun h747 =>
  if (kkind h747.1 = 22 ∧ klen h747.1 = ((5 : Int32)).toNatClampNeg ∧ ¬ (5 : Int32) < 0 ∧ klen h747.1 ≤ 9000) then kl (knew h747) fun h750 =>
  if (kkind h747.1 = 22 ∧ h747.1 < h750.1) then if ¬ klen h747.1 ≤ 0 then kl (ksI h750 h747.1 0 (vp_nar .char (111 : Int32))) fun h754 =>
  if (kkind h747.1 = 22 ∧ h747.1 < h754.1) then if ¬ klen h747.1 ≤ 1 then kl (ksI h754 h747.1 1 (vp_nar .char (102 : Int32))) fun h758 =>
  if (kkind h747.1 = 22 ∧ h747.1 < h758.1) then if ¬ klen h747.1 ≤ 2 then kl (ksI h758 h747.1 2 (vp_nar .char (116 : Int32))) fun h762 =>
  if (kkind h747.1 = 22 ∧ h747.1 < h762.1) then if ¬ klen h747.1 ≤ 3 then kl (ksI h762 h747.1 3 (vp_nar .char (101 : Int32))) fun h766 =>
  if (kkind h747.1 = 22 ∧ h747.1 < h766.1) then if ¬ klen h747.1 ≤ 4 then kl (ksI h766 h747.1 4 (vp_nar .char (110 : Int32))) fun h770 =>
  if (kkind v0 = 12 ∧ v0 < h770.1) then if h747.1 < 999999 then kl (ksR h770 v0 66 h747.1) fun h774 =>
  if (kkind h774.1 = 22 ∧ klen h774.1 = ((5 : Int32)).toNatClampNeg ∧ ¬ (5 : Int32) < 0 ∧ klen h774.1 ≤ 9000) then kl (knew h774) fun h777 =>
  if (kkind h774.1 = 22 ∧ h774.1 < h777.1) then if ¬ klen h774.1 ≤ 0 then kl (ksI h777 h774.1 0 (vp_nar .char (116 : Int32))) fun h781 =>
  if (kkind h774.1 = 22 ∧ h774.1 < h781.1) then if ¬ klen h774.1 ≤ 1 then kl (ksI h781 h774.1 1 (vp_nar .char (111 : Int32))) fun h785 =>
  if (kkind h774.1 = 22 ∧ h774.1 < h785.1) then if ¬ klen h774.1 ≤ 2 then kl (ksI h785 h774.1 2 (vp_nar .char (116 : Int32))) fun h789 =>
  if (kkind h774.1 = 22 ∧ h774.1 < h789.1) then if ¬ klen h774.1 ≤ 3 then kl (ksI h789 h774.1 3 (vp_nar .char (97 : Int32))) fun h793 =>
  if (kkind h774.1 = 22 ∧ h774.1 < h793.1) then if ¬ klen h774.1 ≤ 4 then kl (ksI h793 h774.1 4 (vp_nar .char (108 : Int32))) fun h797 =>
  if (kkind v0 = 12 ∧ v0 < h797.1) then if h774.1 < 999999 then kl (ksR h797 v0 67 h774.1) fun h801 =>
  if (kkind h801.1 = 22 ∧ klen h801.1 = ((4 : Int32)).toNatClampNeg ∧ ¬ (4 : Int32) < 0 ∧ klen h801.1 ≤ 9000) then kl (knew h801) fun h804 =>
  if (kkind h801.1 = 22 ∧ h801.1 < h804.1) then if ¬ klen h801.1 ≤ 0 then kl (ksI h804 h801.1 0 (vp_nar .char (109 : Int32))) fun h808 =>
  if (kkind h801.1 = 22 ∧ h801.1 < h808.1) then if ¬ klen h801.1 ≤ 1 then kl (ksI h808 h801.1 1 (vp_nar .char (111 : Int32))) fun h812 =>
  if (kkind h801.1 = 22 ∧ h801.1 < h812.1) then if ¬ klen h801.1 ≤ 2 then kl (ksI h812 h801.1 2 (vp_nar .char (115 : Int32))) fun h816 =>
  if (kkind h801.1 = 22 ∧ h801.1 < h816.1) then if ¬ klen h801.1 ≤ 3 then kl (ksI h816 h801.1 3 (vp_nar .char (116 : Int32))) fun h820 =>
  if (kkind v0 = 12 ∧ v0 < h820.1) then if h801.1 < 999999 then kl (ksR h820 v0 68 h801.1) fun h824 =>
  if (kkind h824.1 = 22 ∧ klen h824.1 = ((5 : Int32)).toNatClampNeg ∧ ¬ (5 : Int32) < 0 ∧ klen h824.1 ≤ 9000) then kl (knew h824) fun h827 =>
  if (kkind h824.1 = 22 ∧ h824.1 < h827.1) then if ¬ klen h824.1 ≤ 0 then kl (ksI h827 h824.1 0 (vp_nar .char (108 : Int32))) fun h831 =>
  if (kkind h824.1 = 22 ∧ h824.1 < h831.1) then if ¬ klen h824.1 ≤ 1 then kl (ksI h831 h824.1 1 (vp_nar .char (101 : Int32))) fun h835 =>
  if (kkind h824.1 = 22 ∧ h824.1 < h835.1) then if ¬ klen h824.1 ≤ 2 then kl (ksI h835 h824.1 2 (vp_nar .char (97 : Int32))) fun h839 =>
  if (kkind h824.1 = 22 ∧ h824.1 < h839.1) then if ¬ klen h824.1 ≤ 3 then kl (ksI h839 h824.1 3 (vp_nar .char (115 : Int32))) fun h843 =>
  if (kkind h824.1 = 22 ∧ h824.1 < h843.1) then if ¬ klen h824.1 ≤ 4 then kl (ksI h843 h824.1 4 (vp_nar .char (116 : Int32))) fun h847 =>
  if (kkind v0 = 12 ∧ v0 < h847.1) then if h824.1 < 999999 then kl (ksR h847 v0 69 h824.1) fun h851 =>
  if (kkind h851.1 = 22 ∧ klen h851.1 = ((3 : Int32)).toNatClampNeg ∧ ¬ (3 : Int32) < 0 ∧ klen h851.1 ≤ 9000) then kl (knew h851) fun h854 =>
  if (kkind h851.1 = 22 ∧ h851.1 < h854.1) then if ¬ klen h851.1 ≤ 0 then kl (ksI h854 h851.1 0 (vp_nar .char (110 : Int32))) fun h858 =>
  if (kkind h851.1 = 22 ∧ h851.1 < h858.1) then if ¬ klen h851.1 ≤ 1 then kl (ksI h858 h851.1 1 (vp_nar .char (111 : Int32))) fun h862 =>
  if (kkind h851.1 = 22 ∧ h851.1 < h862.1) then if ¬ klen h851.1 ≤ 2 then kl (ksI h862 h851.1 2 (vp_nar .char (116 : Int32))) fun h866 =>
  if (kkind v0 = 12 ∧ v0 < h866.1) then if h851.1 < 999999 then kl (ksR h866 v0 70 h851.1) fun h870 =>
  if (kkind h870.1 = 22 ∧ klen h870.1 = ((3 : Int32)).toNatClampNeg ∧ ¬ (3 : Int32) < 0 ∧ klen h870.1 ≤ 9000) then kl (knew h870) fun h873 =>
  if (kkind h870.1 = 22 ∧ h870.1 < h873.1) then if ¬ klen h870.1 ≤ 0 then kl (ksI h873 h870.1 0 (vp_nar .char (97 : Int32))) fun h877 =>
  if (kkind h870.1 = 22 ∧ h870.1 < h877.1) then if ¬ klen h870.1 ≤ 1 then kl (ksI h877 h870.1 1 (vp_nar .char (110 : Int32))) fun h881 =>
  if (kkind h870.1 = 22 ∧ h870.1 < h881.1) then if ¬ klen h870.1 ≤ 2 then kl (ksI h881 h870.1 2 (vp_nar .char (100 : Int32))) fun h885 =>
  if (kkind v0 = 12 ∧ v0 < h885.1) then if h870.1 < 999999 then kl (ksR h885 v0 71 h870.1) fun h889 =>
  if (kkind h889.1 = 22 ∧ klen h889.1 = ((2 : Int32)).toNatClampNeg ∧ ¬ (2 : Int32) < 0 ∧ klen h889.1 ≤ 9000) then kl (knew h889) fun h892 =>
  if (kkind h889.1 = 22 ∧ h889.1 < h892.1) then if ¬ klen h889.1 ≤ 0 then kl (ksI h892 h889.1 0 (vp_nar .char (111 : Int32))) fun h896 =>
  if (kkind h889.1 = 22 ∧ h889.1 < h896.1) then if ¬ klen h889.1 ≤ 1 then kl (ksI h896 h889.1 1 (vp_nar .char (114 : Int32))) fun h900 =>
  if (kkind v0 = 12 ∧ v0 < h900.1) then if h889.1 < 999999 then kl (ksR h900 v0 72 h889.1) fun h904 =>
  if (kkind h904.1 = 22 ∧ klen h904.1 = ((3 : Int32)).toNatClampNeg ∧ ¬ (3 : Int32) < 0 ∧ klen h904.1 ≤ 9000) then kl (knew h904) fun h907 =>
  if (kkind h904.1 = 22 ∧ h904.1 < h907.1) then if ¬ klen h904.1 ≤ 0 then kl (ksI h907 h904.1 0 (vp_nar .char (97 : Int32))) fun h911 =>
  if (kkind h904.1 = 22 ∧ h904.1 < h911.1) then if ¬ klen h904.1 ≤ 1 then kl (ksI h911 h904.1 1 (vp_nar .char (108 : Int32))) fun h915 =>
  if (kkind h904.1 = 22 ∧ h904.1 < h915.1) then if ¬ klen h904.1 ≤ 2 then kl (ksI h915 h904.1 2 (vp_nar .char (108 : Int32))) fun h919 =>
  if (kkind v0 = 12 ∧ v0 < h919.1) then if h904.1 < 999999 then kl (ksR h919 v0 73 h904.1) fun h923 =>
  if (kkind h923.1 = 22 ∧ klen h923.1 = ((3 : Int32)).toNatClampNeg ∧ ¬ (3 : Int32) < 0 ∧ klen h923.1 ≤ 9000) then kl (knew h923) fun h926 =>
  if (kkind h923.1 = 22 ∧ h923.1 < h926.1) then if ¬ klen h923.1 ≤ 0 then kl (ksI h926 h923.1 0 (vp_nar .char (109 : Int32))) fun h930 =>
  if (kkind h923.1 = 22 ∧ h923.1 < h930.1) then if ¬ klen h923.1 ≤ 1 then kl (ksI h930 h923.1 1 (vp_nar .char (105 : Int32))) fun h934 =>
  if (kkind h923.1 = 22 ∧ h923.1 < h934.1) then if ¬ klen h923.1 ≤ 2 then kl (ksI h934 h923.1 2 (vp_nar .char (110 : Int32))) fun h938 =>
  if (kkind v0 = 12 ∧ v0 < h938.1) then if h923.1 < 999999 then kl (ksR h938 v0 74 h923.1) fun h942 =>
  if (kkind h942.1 = 22 ∧ klen h942.1 = ((3 : Int32)).toNatClampNeg ∧ ¬ (3 : Int32) < 0 ∧ klen h942.1 ≤ 9000) then kl (knew h942) fun h945 =>
  if (kkind h942.1 = 22 ∧ h942.1 < h945.1) then if ¬ klen h942.1 ≤ 0 then kl (ksI h945 h942.1 0 (vp_nar .char (109 : Int32))) fun h949 =>
  if (kkind h942.1 = 22 ∧ h942.1 < h949.1) then if ¬ klen h942.1 ≤ 1 then kl (ksI h949 h942.1 1 (vp_nar .char (97 : Int32))) fun h953 =>
  if (kkind h942.1 = 22 ∧ h942.1 < h953.1) then if ¬ klen h942.1 ≤ 2 then kl (ksI h953 h942.1 2 (vp_nar .char (120 : Int32))) fun h957 =>
  if (kkind v0 = 12 ∧ v0 < h957.1) then if h942.1 < 999999 then kl (ksR h957 v0 75 h942.1) fun h961 =>
  if (kkind h961.1 = 22 ∧ klen h961.1 = ((4 : Int32)).toNatClampNeg ∧ ¬ (4 : Int32) < 0 ∧ klen h961.1 ≤ 9000) then kl (knew h961) fun h964 =>
  if (kkind h961.1 = 22 ∧ h961.1 < h964.1) then if ¬ klen h961.1 ≤ 0 then kl (ksI h964 h961.1 0 (vp_nar .char (108 : Int32))) fun h968 =>
  if (kkind h961.1 = 22 ∧ h961.1 < h968.1) then if ¬ klen h961.1 ≤ 1 then kl (ksI h968 h961.1 1 (vp_nar .char (111 : Int32))) fun h972 =>
  if (kkind h961.1 = 22 ∧ h961.1 < h972.1) then if ¬ klen h961.1 ≤ 2 then kl (ksI h972 h961.1 2 (vp_nar .char (118 : Int32))) fun h976 =>
  if (kkind h961.1 = 22 ∧ h961.1 < h976.1) then if ¬ klen h961.1 ≤ 3 then kl (ksI h976 h961.1 3 (vp_nar .char (101 : Int32))) fun h980 =>
  if (kkind v0 = 12 ∧ v0 < h980.1) then if h961.1 < 999999 then kl (ksR h980 v0 76 h961.1) fun h984 =>
  if (kkind h984.1 = 22 ∧ klen h984.1 = ((3 : Int32)).toNatClampNeg ∧ ¬ (3 : Int32) < 0 ∧ klen h984.1 ≤ 9000) then kl (knew h984) fun h987 =>
  if (kkind h984.1 = 22 ∧ h984.1 < h987.1) then if ¬ klen h984.1 ≤ 0 then kl (ksI h987 h984.1 0 (vp_nar .char (119 : Int32))) fun h991 =>
  if (kkind h984.1 = 22 ∧ h984.1 < h991.1) then if ¬ klen h984.1 ≤ 1 then kl (ksI h991 h984.1 1 (vp_nar .char (105 : Int32))) fun h995 =>
  if (kkind h984.1 = 22 ∧ h984.1 < h995.1) then if ¬ klen h984.1 ≤ 2 then kl (ksI h995 h984.1 2 (vp_nar .char (116 : Int32))) fun h999 =>
  if (kkind v0 = 12 ∧ v0 < h999.1) then if h984.1 < 999999 then kl (ksR h999 v0 77 h984.1) fun h1003 =>
  if (kkind h1003.1 = 22 ∧ klen h1003.1 = ((4 : Int32)).toNatClampNeg ∧ ¬ (4 : Int32) < 0 ∧ klen h1003.1 ≤ 9000) then kl (knew h1003) fun h1006 =>
  if (kkind h1003.1 = 22 ∧ h1003.1 < h1006.1) then if ¬ klen h1003.1 ≤ 0 then kl (ksI h1006 h1003.1 0 (vp_nar .char (104 : Int32))) fun h1010 =>
  if (kkind h1003.1 = 22 ∧ h1003.1 < h1010.1) then if ¬ klen h1003.1 ≤ 1 then kl (ksI h1010 h1003.1 1 (vp_nar .char (97 : Int32))) fun h1014 =>
  if (kkind h1003.1 = 22 ∧ h1003.1 < h1014.1) then if ¬ klen h1003.1 ≤ 2 then kl (ksI h1014 h1003.1 2 (vp_nar .char (114 : Int32))) fun h1018 =>
  if (kkind h1003.1 = 22 ∧ h1003.1 < h1018.1) then if ¬ klen h1003.1 ≤ 3 then kl (ksI h1018 h1003.1 3 (vp_nar .char (109 : Int32))) fun h1022 =>
  if (kkind v0 = 12 ∧ v0 < h1022.1) then if h1003.1 < 999999 then kl (ksR h1022 v0 78 h1003.1) fun h1026 =>
  if (kkind h1026.1 = 22 ∧ klen h1026.1 = ((5 : Int32)).toNatClampNeg ∧ ¬ (5 : Int32) < 0 ∧ klen h1026.1 ≤ 9000) then kl (knew h1026) fun h1029 =>
  if (kkind h1026.1 = 22 ∧ h1026.1 < h1029.1) then if ¬ klen h1026.1 ≤ 0 then kl (ksI h1029 h1026.1 0 (vp_nar .char (104 : Int32))) fun h1033 =>
  if (kkind h1026.1 = 22 ∧ h1026.1 < h1033.1) then if ¬ klen h1026.1 ≤ 1 then kl (ksI h1033 h1026.1 1 (vp_nar .char (101 : Int32))) fun h1037 =>
  if (kkind h1026.1 = 22 ∧ h1026.1 < h1037.1) then if ¬ klen h1026.1 ≤ 2 then kl (ksI h1037 h1026.1 2 (vp_nar .char (97 : Int32))) fun h1041 =>
  if (kkind h1026.1 = 22 ∧ h1026.1 < h1041.1) then if ¬ klen h1026.1 ≤ 3 then kl (ksI h1041 h1026.1 3 (vp_nar .char (114 : Int32))) fun h1045 =>
  if (kkind h1026.1 = 22 ∧ h1026.1 < h1045.1) then if ¬ klen h1026.1 ≤ 4 then kl (ksI h1045 h1026.1 4 (vp_nar .char (100 : Int32))) fun h1049 =>
  if (kkind v0 = 12 ∧ v0 < h1049.1) then if h1026.1 < 999999 then kl (ksR h1049 v0 79 h1026.1) fun h1053 =>
  if (kkind h1053.1 = 22 ∧ klen h1053.1 = ((5 : Int32)).toNatClampNeg ∧ ¬ (5 : Int32) < 0 ∧ klen h1053.1 ≤ 9000) then kl (knew h1053) fun h1056 =>
  if (kkind h1053.1 = 22 ∧ h1053.1 < h1056.1) then if ¬ klen h1053.1 ≤ 0 then kl (ksI h1056 h1053.1 0 (vp_nar .char (116 : Int32))) fun h1060 =>
  if (kkind h1053.1 = 22 ∧ h1053.1 < h1060.1) then if ¬ klen h1053.1 ≤ 1 then kl (ksI h1060 h1053.1 1 (vp_nar .char (114 : Int32))) fun h1064 =>
  if (kkind h1053.1 = 22 ∧ h1053.1 < h1064.1) then if ¬ klen h1053.1 ≤ 2 then kl (ksI h1064 h1053.1 2 (vp_nar .char (117 : Int32))) fun h1068 =>
  if (kkind h1053.1 = 22 ∧ h1053.1 < h1068.1) then if ¬ klen h1053.1 ≤ 3 then kl (ksI h1068 h1053.1 3 (vp_nar .char (116 : Int32))) fun h1072 =>
  if (kkind h1053.1 = 22 ∧ h1053.1 < h1072.1) then if ¬ klen h1053.1 ≤ 4 then kl (ksI h1072 h1053.1 4 (vp_nar .char (104 : Int32))) fun h1076 =>
  if (kkind v0 = 12 ∧ v0 < h1076.1) then if h1053.1 < 999999 then kl (ksR h1076 v0 80 h1053.1) fun h1080 =>
  if (kkind h1080.1 = 22 ∧ klen h1080.1 = ((6 : Int32)).toNatClampNeg ∧ ¬ (6 : Int32) < 0 ∧ klen h1080.1 ≤ 9000) then kl (knew h1080) fun h1083 =>
  if (kkind h1080.1 = 22 ∧ h1080.1 < h1083.1) then if ¬ klen h1080.1 ≤ 0 then kl (ksI h1083 h1080.1 0 (vp_nar .char (110 : Int32))) fun h1087 =>
  if (kkind h1080.1 = 22 ∧ h1080.1 < h1087.1) then if ¬ klen h1080.1 ≤ 1 then kl (ksI h1087 h1080.1 1 (vp_nar .char (117 : Int32))) fun h1091 =>
  if (kkind h1080.1 = 22 ∧ h1080.1 < h1091.1) then if ¬ klen h1080.1 ≤ 2 then kl (ksI h1091 h1080.1 2 (vp_nar .char (109 : Int32))) fun h1095 =>
  if (kkind h1080.1 = 22 ∧ h1080.1 < h1095.1) then if ¬ klen h1080.1 ≤ 3 then kl (ksI h1095 h1080.1 3 (vp_nar .char (98 : Int32))) fun h1099 =>
  if (kkind h1080.1 = 22 ∧ h1080.1 < h1099.1) then if ¬ klen h1080.1 ≤ 4 then kl (ksI h1099 h1080.1 4 (vp_nar .char (101 : Int32))) fun h1103 =>
  if (kkind h1080.1 = 22 ∧ h1080.1 < h1103.1) then if ¬ klen h1080.1 ≤ 5 then kl (ksI h1103 h1080.1 5 (vp_nar .char (114 : Int32))) fun h1107 =>
  if (kkind v0 = 12 ∧ v0 < h1107.1) then if h1080.1 < 999999 then kl (ksR h1107 v0 81 h1080.1) fun h1111 =>
  if (kkind h1111.1 = 22 ∧ klen h1111.1 = ((5 : Int32)).toNatClampNeg ∧ ¬ (5 : Int32) < 0 ∧ klen h1111.1 ≤ 9000) then kl (knew h1111) fun h1114 =>
  if (kkind h1111.1 = 22 ∧ h1111.1 < h1114.1) then if ¬ klen h1111.1 ≤ 0 then kl (ksI h1114 h1111.1 0 (vp_nar .char (109 : Int32))) fun h1118 =>
  if (kkind h1111.1 = 22 ∧ h1111.1 < h1118.1) then if ¬ klen h1111.1 ≤ 1 then kl (ksI h1118 h1111.1 1 (vp_nar .char (101 : Int32))) fun h1122 =>
  if (kkind h1111.1 = 22 ∧ h1111.1 < h1122.1) then if ¬ klen h1111.1 ≤ 2 then kl (ksI h1122 h1111.1 2 (vp_nar .char (114 : Int32))) fun h1126 =>
  if (kkind h1111.1 = 22 ∧ h1111.1 < h1126.1) then if ¬ klen h1111.1 ≤ 3 then kl (ksI h1126 h1111.1 3 (vp_nar .char (105 : Int32))) fun h1130 =>
  if (kkind h1111.1 = 22 ∧ h1111.1 < h1130.1) then if ¬ klen h1111.1 ≤ 4 then kl (ksI h1130 h1111.1 4 (vp_nar .char (116 : Int32))) fun h1134 =>
  if (kkind v0 = 12 ∧ v0 < h1134.1) then if h1111.1 < 999999 then kl (ksR h1134 v0 82 h1111.1) fun h1138 =>
  if (kkind h1138.1 = 22 ∧ klen h1138.1 = ((4 : Int32)).toNatClampNeg ∧ ¬ (4 : Int32) < 0 ∧ klen h1138.1 ≤ 9000) then kl (knew h1138) fun h1141 =>
  if (kkind h1138.1 = 22 ∧ h1138.1 < h1141.1) then if ¬ klen h1138.1 ≤ 0 then kl (ksI h1141 h1138.1 0 (vp_nar .char (115 : Int32))) fun h1145 =>
  if (kkind h1138.1 = 22 ∧ h1138.1 < h1145.1) then if ¬ klen h1138.1 ≤ 1 then kl (ksI h1145 h1138.1 1 (vp_nar .char (117 : Int32))) fun h1149 =>
  if (kkind h1138.1 = 22 ∧ h1138.1 < h1149.1) then if ¬ klen h1138.1 ≤ 2 then kl (ksI h1149 h1138.1 2 (vp_nar .char (114 : Int32))) fun h1153 =>
  if (kkind h1138.1 = 22 ∧ h1138.1 < h1153.1) then if ¬ klen h1138.1 ≤ 3 then kl (ksI h1153 h1138.1 3 (vp_nar .char (101 : Int32))) fun h1157 =>
  if (kkind v0 = 12 ∧ v0 < h1157.1) then if h1138.1 < 999999 then kl (ksR h1157 v0 83 h1138.1) fun h1161 =>
  if (kkind h1161.1 = 22 ∧ klen h1161.1 = ((6 : Int32)).toNatClampNeg ∧ ¬ (6 : Int32) < 0 ∧ klen h1161.1 ≤ 9000) then kl (knew h1161) fun h1164 =>
  if (kkind h1161.1 = 22 ∧ h1161.1 < h1164.1) then if ¬ klen h1161.1 ≤ 0 then kl (ksI h1164 h1161.1 0 (vp_nar .char (121 : Int32))) fun h1168 =>
  if (kkind h1161.1 = 22 ∧ h1161.1 < h1168.1) then if ¬ klen h1161.1 ≤ 1 then kl (ksI h1168 h1161.1 1 (vp_nar .char (105 : Int32))) fun h1172 =>
  if (kkind h1161.1 = 22 ∧ h1161.1 < h1172.1) then if ¬ klen h1161.1 ≤ 2 then kl (ksI h1172 h1161.1 2 (vp_nar .char (101 : Int32))) fun h1176 =>
  if (kkind h1161.1 = 22 ∧ h1161.1 < h1176.1) then if ¬ klen h1161.1 ≤ 3 then kl (ksI h1176 h1161.1 3 (vp_nar .char (108 : Int32))) fun h1180 =>
  if (kkind h1161.1 = 22 ∧ h1161.1 < h1180.1) then if ¬ klen h1161.1 ≤ 4 then kl (ksI h1180 h1161.1 4 (vp_nar .char (100 : Int32))) fun h1184 =>
  if (kkind h1161.1 = 22 ∧ h1161.1 < h1184.1) then if ¬ klen h1161.1 ≤ 5 then kl (ksI h1184 h1161.1 5 (vp_nar .char (115 : Int32))) fun h1188 =>
  if (kkind v0 = 12 ∧ v0 < h1188.1) then if h1161.1 < 999999 then kl (ksR h1188 v0 84 h1161.1) fun h1192 =>
  if (kkind h1192.1 = 20 ∧ klen h1192.1 = ((1700 : Int32)).toNatClampNeg ∧ ¬ (1700 : Int32) < 0 ∧ klen h1192.1 ≤ 9000) then kl (knew h1192) fun h1195 =>
  if (kkind v0 = 12 ∧ v0 < h1195.1) then if h1192.1 < 999999 then kl (ksR h1195 v0 85 h1192.1) fun h1199 =>
  if (kkind h1199.1 = 20 ∧ klen h1199.1 = ((1700 : Int32)).toNatClampNeg ∧ ¬ (1700 : Int32) < 0 ∧ klen h1199.1 ≤ 9000) then kl (knew h1199) fun h1202 =>
  if (kkind v0 = 12 ∧ v0 < h1202.1) then if h1199.1 < 999999 then kl (ksR h1202 v0 87 h1199.1) fun h1206 =>
  if (kkind h1206.1 = 21 ∧ klen h1206.1 = ((1700 : Int32)).toNatClampNeg ∧ ¬ (1700 : Int32) < 0 ∧ klen h1206.1 ≤ 9000) then kl (knew h1206) fun h1209 =>
  if (kkind v0 = 12 ∧ v0 < h1209.1) then if h1206.1 < 999999 then kl (ksR h1209 v0 91 h1206.1) fun h1213 =>
  if (kkind h1213.1 = 20 ∧ klen h1213.1 = ((27 : Int32)).toNatClampNeg ∧ ¬ (27 : Int32) < 0 ∧ klen h1213.1 ≤ 9000) then kl (knew h1213) fun h1216 =>
  if (kkind v0 = 12 ∧ v0 < h1216.1) then if h1213.1 < 999999 then kl (ksR h1216 v0 95 h1213.1) fun h1220 =>
  some h1220 else none else none else none else none else none else none else none else none else none else none else none else none else none else none else none else none else none else none else none else none else none else none else none else none else none else none else none else none else none else none else none else none else none else none else none else none else none else none else none else none else none else none else none else none else none else none else none else none else none else none else none else none else none else none else none else none else none else none else none else none else none else none else none else none else none else none else none else none else none else none else none else none else none else none else none else none else none else none else none else none else none else none else none else none else none else none else none else none else none else none else none else none else none else none else none else none else none else none else none else none else none else none else none else none else none else none else none else none else none else none else none else none else none else none else none else none else none else none else none else none else none else none else none else none else none else none else none else none else none else none else none else none else none else none else none else none else none else none else none else none else none else none else none else none else none else none else none else none else none else none else none else none else none else none else none else none else none else none else none else none else none else none else none else none else none else none else none else none else none else none else none else none else none else none else none else none else none else none else none else none else none else none else none else none else none else none else none else none else none else none else none else none else none else none else none else none else none else none else none else none else none else none else none else none else none else none else none else none else none else none else none else none else none else none else none else none else none else none else none else none else none else none else none else none else none else none else none else none else none else none else none else none else none else none else none else none else none else none else none else none else none else none else none else none else none else none else none else none else none else none else none else none else none else none else none else none else none else none else none else none else none else none else none else none else none else none else none else none else none else none else none else none else none else none else none else none else none else none else none else none else none else none else none else none else none else none else none else none else none else none else none else none else none else none else none else none else none else none else none else none else none else none else none else none else none else none else none else none else none else none else none else none else none else none else none else none else none else none else none else none else none else none else none else none else none else none else none else none else none else none else none else none else none else none else none else none else none else none else none else none else none else none else none else none else none else none else none else none else none else none else none else none else none else none else none else none else none else none else none else none else none else none else none else none else none else none else none else none else none else none else none else none else none else none else none else none else none else none else none else none else none else none else none else none else none else none else none else none else none else none else none else none else none else none else none else none else none else none else none else none else none else none else none else none else none else none else none else none else none else none else none else none else none else none else none else none else none else none else none else none else none else none else none else none else none else none else none else none else none else none else none else none else none else none else none else none else none else none else none else none else none else none else none else none else none else none else none else none else none else none else none else none else none else none else none else none else none else none else none else none else none else none else none else none else none else none else none else none else none else none else none else none else none else none else none else none else none else none else none else none else none else none else none else none else none else none else none else none else none else none else none else none else none else none else none else none else none else none else none else none else none else none else none else none else none else none else none else none else none else none else none else none else none else none else none else none else none else none else none else none else none else none else none else none else none else none else none else none else none else none else none else none else none else none else none else none else none else none else none else none else none else none else none else none else none else none else none else none else none else none else none else none else none else none else none else none else none else none else none else none else none else none else none else none else none else none else none else none else none
set_option maxHeartbeats 8000000 in
set_option maxRecDepth 100000 in
theorem s0_iX12_init {xs : Nat → Int32} {L : Nat} (h : KH) (v0 : Nat) {t : KH} (H : f_iX12_init h v0 = some t) : KX (KZs xs L) RX12 cX12_init 1 true 2 (KRv cX12_init t) 0 [(0, .ref v0)] [] h := by
  unfold f_iX12_init at H
  refine x_aload_n (q := 1) dX12_init_0 rfl rfl ?_
  refine x_objInit (q := 4) (rest := []) dX12_init_1 rfl ko_RX12_1 (by decide) (Nat.le_of_ble_eq_true rfl) ?_
  refine x_aload_n (q := 5) dX12_init_4 rfl rfl ?_
  refine x_sipush (q := 8) (v := (1600 : Int32)) dX12_init_5 rfl (by decide) ?_
  replace H := kif H; obtain ⟨g1, H⟩ := H
  replace H := kle H; obtain ⟨h2, q3, H⟩ := H
  refine x_newa (q := 10) (kk := 20) dX12_init_8 rfl (Or.inl ⟨rfl, rfl⟩) kwa_int g1 ?_
  refine x_nmH q3 ?_
  replace H := kif H; obtain ⟨g4, H⟩ := H
  replace H := kif H; obtain ⟨g5, H⟩ := H
  replace H := kle H; obtain ⟨h6, q7, H⟩ := H
  refine x_putR (q := 13) dX12_init_10 rfl kl_RX12_7 (Or.inr ⟨rfl, rfl⟩) rfl g5 g4 ?_
  refine x_nmH q7 ?_
  refine x_aload_n (q := 14) dX12_init_13 rfl rfl ?_
  refine x_iconst (q := 15) (v := (-1 : Int32)) dX12_init_14 rfl (by decide) ?_
  replace H := kif H; obtain ⟨g8, H⟩ := H
  replace H := kle H; obtain ⟨h9, q10, H⟩ := H
  refine x_putI (q := 18) dX12_init_15 rfl kl_RX12_13 (Or.inl rfl) rfl g8 ?_
  refine x_nmH q10 ?_
  refine x_aload_n (q := 19) dX12_init_18 rfl rfl ?_
  refine x_bipush (q := 21) (v := (6 : Int32)) dX12_init_19 rfl (by decide) ?_
  replace H := kif H; obtain ⟨g11, H⟩ := H
  replace H := kle H; obtain ⟨h12, q13, H⟩ := H
  refine x_newa (q := 23) (kk := 20) dX12_init_21 rfl (Or.inl ⟨rfl, rfl⟩) kwa_int g11 ?_
  refine x_nmH q13 ?_
  replace H := kif H; obtain ⟨g14, H⟩ := H
  replace H := kif H; obtain ⟨g15, H⟩ := H
  replace H := kle H; obtain ⟨h16, q17, H⟩ := H
  refine x_putR (q := 26) dX12_init_23 rfl kl_RX12_17 (Or.inr ⟨rfl, rfl⟩) rfl g15 g14 ?_
  refine x_nmH q17 ?_
  refine x_aload_n (q := 27) dX12_init_26 rfl rfl ?_
  refine x_iconst (q := 28) (v := (4 : Int32)) dX12_init_27 rfl (by decide) ?_
  replace H := kif H; obtain ⟨g18, H⟩ := H
  replace H := kle H; obtain ⟨h19, q20, H⟩ := H
  refine x_newa (q := 30) (kk := 22) dX12_init_28 rfl (Or.inr (Or.inr (Or.inl ⟨rfl, rfl⟩))) kwa_char g18 ?_
  refine x_nmH q20 ?_
  refine x_dup (q := 31) dX12_init_30 rfl rfl ?_
  refine x_iconst (q := 32) (v := (0 : Int32)) dX12_init_31 rfl (by decide) ?_
  refine x_bipush (q := 34) (v := (107 : Int32)) dX12_init_32 rfl (by decide) ?_
  replace H := kif H; obtain ⟨g21, H⟩ := H
  replace H := kif H; obtain ⟨g22, H⟩ := H
  replace H := kle H; obtain ⟨h23, q24, H⟩ := H
  refine x_cast (q := 35) dX12_init_34 rfl g21 (fun z => z.elim (by decide) g22) ?_
  refine x_nmH q24 ?_
  refine x_dup (q := 36) dX12_init_35 rfl rfl ?_
  refine x_iconst (q := 37) (v := (1 : Int32)) dX12_init_36 rfl (by decide) ?_
  refine x_bipush (q := 39) (v := (105 : Int32)) dX12_init_37 rfl (by decide) ?_
  replace H := kif H; obtain ⟨g25, H⟩ := H
  replace H := kif H; obtain ⟨g26, H⟩ := H
  replace H := kle H; obtain ⟨h27, q28, H⟩ := H
  refine x_cast (q := 40) dX12_init_39 rfl g25 (fun z => z.elim (by decide) g26) ?_
  refine x_nmH q28 ?_
  refine x_dup (q := 41) dX12_init_40 rfl rfl ?_
  refine x_iconst (q := 42) (v := (2 : Int32)) dX12_init_41 rfl (by decide) ?_
  refine x_bipush (q := 44) (v := (110 : Int32)) dX12_init_42 rfl (by decide) ?_
  replace H := kif H; obtain ⟨g29, H⟩ := H
  replace H := kif H; obtain ⟨g30, H⟩ := H
  replace H := kle H; obtain ⟨h31, q32, H⟩ := H
  refine x_cast (q := 45) dX12_init_44 rfl g29 (fun z => z.elim (by decide) g30) ?_
  refine x_nmH q32 ?_
  refine x_dup (q := 46) dX12_init_45 rfl rfl ?_
  refine x_iconst (q := 47) (v := (3 : Int32)) dX12_init_46 rfl (by decide) ?_
  refine x_bipush (q := 49) (v := (100 : Int32)) dX12_init_47 rfl (by decide) ?_
  replace H := kif H; obtain ⟨g33, H⟩ := H
  replace H := kif H; obtain ⟨g34, H⟩ := H
  replace H := kle H; obtain ⟨h35, q36, H⟩ := H
  refine x_cast (q := 50) dX12_init_49 rfl g33 (fun z => z.elim (by decide) g34) ?_
  refine x_nmH q36 ?_
  replace H := kif H; obtain ⟨g37, H⟩ := H
  replace H := kif H; obtain ⟨g38, H⟩ := H
  replace H := kle H; obtain ⟨h39, q40, H⟩ := H
  refine x_putR (q := 53) dX12_init_50 rfl kl_RX12_20 (Or.inr ⟨rfl, rfl⟩) rfl g38 g37 ?_
  refine x_nmH q40 ?_
  refine x_aload_n (q := 54) dX12_init_53 rfl rfl ?_
  refine x_iconst (q := 55) (v := (4 : Int32)) dX12_init_54 rfl (by decide) ?_
  replace H := kif H; obtain ⟨g41, H⟩ := H
  replace H := kle H; obtain ⟨h42, q43, H⟩ := H
  refine x_newa (q := 57) (kk := 22) dX12_init_55 rfl (Or.inr (Or.inr (Or.inl ⟨rfl, rfl⟩))) kwa_char g41 ?_
  refine x_nmH q43 ?_
  refine x_dup (q := 58) dX12_init_57 rfl rfl ?_
  refine x_iconst (q := 59) (v := (0 : Int32)) dX12_init_58 rfl (by decide) ?_
  refine x_bipush (q := 61) (v := (108 : Int32)) dX12_init_59 rfl (by decide) ?_
  replace H := kif H; obtain ⟨g44, H⟩ := H
  replace H := kif H; obtain ⟨g45, H⟩ := H
  replace H := kle H; obtain ⟨h46, q47, H⟩ := H
  refine x_cast (q := 62) dX12_init_61 rfl g44 (fun z => z.elim (by decide) g45) ?_
  refine x_nmH q47 ?_
  refine x_dup (q := 63) dX12_init_62 rfl rfl ?_
  refine x_iconst (q := 64) (v := (1 : Int32)) dX12_init_63 rfl (by decide) ?_
  refine x_bipush (q := 66) (v := (111 : Int32)) dX12_init_64 rfl (by decide) ?_
  replace H := kif H; obtain ⟨g48, H⟩ := H
  replace H := kif H; obtain ⟨g49, H⟩ := H
  replace H := kle H; obtain ⟨h50, q51, H⟩ := H
  refine x_cast (q := 67) dX12_init_66 rfl g48 (fun z => z.elim (by decide) g49) ?_
  refine x_nmH q51 ?_
  refine x_dup (q := 68) dX12_init_67 rfl rfl ?_
  refine x_iconst (q := 69) (v := (2 : Int32)) dX12_init_68 rfl (by decide) ?_
  refine x_bipush (q := 71) (v := (118 : Int32)) dX12_init_69 rfl (by decide) ?_
  replace H := kif H; obtain ⟨g52, H⟩ := H
  replace H := kif H; obtain ⟨g53, H⟩ := H
  replace H := kle H; obtain ⟨h54, q55, H⟩ := H
  refine x_cast (q := 72) dX12_init_71 rfl g52 (fun z => z.elim (by decide) g53) ?_
  refine x_nmH q55 ?_
  refine x_dup (q := 73) dX12_init_72 rfl rfl ?_
  refine x_iconst (q := 74) (v := (3 : Int32)) dX12_init_73 rfl (by decide) ?_
  refine x_bipush (q := 76) (v := (101 : Int32)) dX12_init_74 rfl (by decide) ?_
  replace H := kif H; obtain ⟨g56, H⟩ := H
  replace H := kif H; obtain ⟨g57, H⟩ := H
  replace H := kle H; obtain ⟨h58, q59, H⟩ := H
  refine x_cast (q := 77) dX12_init_76 rfl g56 (fun z => z.elim (by decide) g57) ?_
  refine x_nmH q59 ?_
  replace H := kif H; obtain ⟨g60, H⟩ := H
  replace H := kif H; obtain ⟨g61, H⟩ := H
  replace H := kle H; obtain ⟨h62, q63, H⟩ := H
  refine x_putR (q := 80) dX12_init_77 rfl kl_RX12_24 (Or.inr ⟨rfl, rfl⟩) rfl g61 g60 ?_
  refine x_nmH q63 ?_
  refine x_aload_n (q := 81) dX12_init_80 rfl rfl ?_
  refine x_iconst (q := 82) (v := (3 : Int32)) dX12_init_81 rfl (by decide) ?_
  replace H := kif H; obtain ⟨g64, H⟩ := H
  replace H := kle H; obtain ⟨h65, q66, H⟩ := H
  refine x_newa (q := 84) (kk := 22) dX12_init_82 rfl (Or.inr (Or.inr (Or.inl ⟨rfl, rfl⟩))) kwa_char g64 ?_
  refine x_nmH q66 ?_
  refine x_dup (q := 85) dX12_init_84 rfl rfl ?_
  refine x_iconst (q := 86) (v := (0 : Int32)) dX12_init_85 rfl (by decide) ?_
  refine x_bipush (q := 88) (v := (119 : Int32)) dX12_init_86 rfl (by decide) ?_
  replace H := kif H; obtain ⟨g67, H⟩ := H
  replace H := kif H; obtain ⟨g68, H⟩ := H
  replace H := kle H; obtain ⟨h69, q70, H⟩ := H
  refine x_cast (q := 89) dX12_init_88 rfl g67 (fun z => z.elim (by decide) g68) ?_
  refine x_nmH q70 ?_
  refine x_dup (q := 90) dX12_init_89 rfl rfl ?_
  refine x_iconst (q := 91) (v := (1 : Int32)) dX12_init_90 rfl (by decide) ?_
  refine x_bipush (q := 93) (v := (105 : Int32)) dX12_init_91 rfl (by decide) ?_
  replace H := kif H; obtain ⟨g71, H⟩ := H
  replace H := kif H; obtain ⟨g72, H⟩ := H
  replace H := kle H; obtain ⟨h73, q74, H⟩ := H
  refine x_cast (q := 94) dX12_init_93 rfl g71 (fun z => z.elim (by decide) g72) ?_
  refine x_nmH q74 ?_
  refine x_dup (q := 95) dX12_init_94 rfl rfl ?_
  refine x_iconst (q := 96) (v := (2 : Int32)) dX12_init_95 rfl (by decide) ?_
  refine x_bipush (q := 98) (v := (116 : Int32)) dX12_init_96 rfl (by decide) ?_
  replace H := kif H; obtain ⟨g75, H⟩ := H
  replace H := kif H; obtain ⟨g76, H⟩ := H
  replace H := kle H; obtain ⟨h77, q78, H⟩ := H
  refine x_cast (q := 99) dX12_init_98 rfl g75 (fun z => z.elim (by decide) g76) ?_
  refine x_nmH q78 ?_
  replace H := kif H; obtain ⟨g79, H⟩ := H
  replace H := kif H; obtain ⟨g80, H⟩ := H
  replace H := kle H; obtain ⟨h81, q82, H⟩ := H
  refine x_putR (q := 102) dX12_init_99 rfl kl_RX12_27 (Or.inr ⟨rfl, rfl⟩) rfl g80 g79 ?_
  refine x_nmH q82 ?_
  refine x_aload_n (q := 103) dX12_init_102 rfl rfl ?_
  refine x_iconst (q := 104) (v := (4 : Int32)) dX12_init_103 rfl (by decide) ?_
  replace H := kif H; obtain ⟨g83, H⟩ := H
  replace H := kle H; obtain ⟨h84, q85, H⟩ := H
  refine x_newa (q := 106) (kk := 22) dX12_init_104 rfl (Or.inr (Or.inr (Or.inl ⟨rfl, rfl⟩))) kwa_char g83 ?_
  refine x_nmH q85 ?_
  refine x_dup (q := 107) dX12_init_106 rfl rfl ?_
  refine x_iconst (q := 108) (v := (0 : Int32)) dX12_init_107 rfl (by decide) ?_
  refine x_bipush (q := 110) (v := (116 : Int32)) dX12_init_108 rfl (by decide) ?_
  replace H := kif H; obtain ⟨g86, H⟩ := H
  replace H := kif H; obtain ⟨g87, H⟩ := H
  replace H := kle H; obtain ⟨h88, q89, H⟩ := H
  refine x_cast (q := 111) dX12_init_110 rfl g86 (fun z => z.elim (by decide) g87) ?_
  refine x_nmH q89 ?_
  refine x_dup (q := 112) dX12_init_111 rfl rfl ?_
  refine x_iconst (q := 113) (v := (1 : Int32)) dX12_init_112 rfl (by decide) ?_
  refine x_bipush (q := 115) (v := (114 : Int32)) dX12_init_113 rfl (by decide) ?_
  replace H := kif H; obtain ⟨g90, H⟩ := H
  replace H := kif H; obtain ⟨g91, H⟩ := H
  replace H := kle H; obtain ⟨h92, q93, H⟩ := H
  refine x_cast (q := 116) dX12_init_115 rfl g90 (fun z => z.elim (by decide) g91) ?_
  refine x_nmH q93 ?_
  refine x_dup (q := 117) dX12_init_116 rfl rfl ?_
  refine x_iconst (q := 118) (v := (2 : Int32)) dX12_init_117 rfl (by decide) ?_
  refine x_bipush (q := 120) (v := (117 : Int32)) dX12_init_118 rfl (by decide) ?_
  replace H := kif H; obtain ⟨g94, H⟩ := H
  replace H := kif H; obtain ⟨g95, H⟩ := H
  replace H := kle H; obtain ⟨h96, q97, H⟩ := H
  refine x_cast (q := 121) dX12_init_120 rfl g94 (fun z => z.elim (by decide) g95) ?_
  refine x_nmH q97 ?_
  refine x_dup (q := 122) dX12_init_121 rfl rfl ?_
  refine x_iconst (q := 123) (v := (3 : Int32)) dX12_init_122 rfl (by decide) ?_
  refine x_bipush (q := 125) (v := (101 : Int32)) dX12_init_123 rfl (by decide) ?_
  replace H := kif H; obtain ⟨g98, H⟩ := H
  replace H := kif H; obtain ⟨g99, H⟩ := H
  replace H := kle H; obtain ⟨h100, q101, H⟩ := H
  refine x_cast (q := 126) dX12_init_125 rfl g98 (fun z => z.elim (by decide) g99) ?_
  refine x_nmH q101 ?_
  replace H := kif H; obtain ⟨g102, H⟩ := H
  replace H := kif H; obtain ⟨g103, H⟩ := H
  replace H := kle H; obtain ⟨h104, q105, H⟩ := H
  refine x_putR (q := 129) dX12_init_126 rfl kl_RX12_30 (Or.inr ⟨rfl, rfl⟩) rfl g103 g102 ?_
  refine x_nmH q105 ?_
  refine x_aload_n (q := 130) dX12_init_129 rfl rfl ?_
  refine x_iconst (q := 131) (v := (5 : Int32)) dX12_init_130 rfl (by decide) ?_
  replace H := kif H; obtain ⟨g106, H⟩ := H
  replace H := kle H; obtain ⟨h107, q108, H⟩ := H
  refine x_newa (q := 133) (kk := 22) dX12_init_131 rfl (Or.inr (Or.inr (Or.inl ⟨rfl, rfl⟩))) kwa_char g106 ?_
  refine x_nmH q108 ?_
  refine x_dup (q := 134) dX12_init_133 rfl rfl ?_
  refine x_iconst (q := 135) (v := (0 : Int32)) dX12_init_134 rfl (by decide) ?_
  refine x_bipush (q := 137) (v := (102 : Int32)) dX12_init_135 rfl (by decide) ?_
  replace H := kif H; obtain ⟨g109, H⟩ := H
  replace H := kif H; obtain ⟨g110, H⟩ := H
  replace H := kle H; obtain ⟨h111, q112, H⟩ := H
  refine x_cast (q := 138) dX12_init_137 rfl g109 (fun z => z.elim (by decide) g110) ?_
  refine x_nmH q112 ?_
  refine x_dup (q := 139) dX12_init_138 rfl rfl ?_
  refine x_iconst (q := 140) (v := (1 : Int32)) dX12_init_139 rfl (by decide) ?_
  refine x_bipush (q := 142) (v := (97 : Int32)) dX12_init_140 rfl (by decide) ?_
  replace H := kif H; obtain ⟨g113, H⟩ := H
  replace H := kif H; obtain ⟨g114, H⟩ := H
  replace H := kle H; obtain ⟨h115, q116, H⟩ := H
  refine x_cast (q := 143) dX12_init_142 rfl g113 (fun z => z.elim (by decide) g114) ?_
  refine x_nmH q116 ?_
  refine x_dup (q := 144) dX12_init_143 rfl rfl ?_
  refine x_iconst (q := 145) (v := (2 : Int32)) dX12_init_144 rfl (by decide) ?_
  refine x_bipush (q := 147) (v := (108 : Int32)) dX12_init_145 rfl (by decide) ?_
  replace H := kif H; obtain ⟨g117, H⟩ := H
  replace H := kif H; obtain ⟨g118, H⟩ := H
  replace H := kle H; obtain ⟨h119, q120, H⟩ := H
  refine x_cast (q := 148) dX12_init_147 rfl g117 (fun z => z.elim (by decide) g118) ?_
  refine x_nmH q120 ?_
  refine x_dup (q := 149) dX12_init_148 rfl rfl ?_
  refine x_iconst (q := 150) (v := (3 : Int32)) dX12_init_149 rfl (by decide) ?_
  refine x_bipush (q := 152) (v := (115 : Int32)) dX12_init_150 rfl (by decide) ?_
  replace H := kif H; obtain ⟨g121, H⟩ := H
  replace H := kif H; obtain ⟨g122, H⟩ := H
  replace H := kle H; obtain ⟨h123, q124, H⟩ := H
  refine x_cast (q := 153) dX12_init_152 rfl g121 (fun z => z.elim (by decide) g122) ?_
  refine x_nmH q124 ?_
  refine x_dup (q := 154) dX12_init_153 rfl rfl ?_
  refine x_iconst (q := 155) (v := (4 : Int32)) dX12_init_154 rfl (by decide) ?_
  refine x_bipush (q := 157) (v := (101 : Int32)) dX12_init_155 rfl (by decide) ?_
  replace H := kif H; obtain ⟨g125, H⟩ := H
  replace H := kif H; obtain ⟨g126, H⟩ := H
  replace H := kle H; obtain ⟨h127, q128, H⟩ := H
  refine x_cast (q := 158) dX12_init_157 rfl g125 (fun z => z.elim (by decide) g126) ?_
  refine x_nmH q128 ?_
  replace H := kif H; obtain ⟨g129, H⟩ := H
  replace H := kif H; obtain ⟨g130, H⟩ := H
  replace H := kle H; obtain ⟨h131, q132, H⟩ := H
  refine x_putR (q := 161) dX12_init_158 rfl kl_RX12_33 (Or.inr ⟨rfl, rfl⟩) rfl g130 g129 ?_
  refine x_nmH q132 ?_
  refine x_aload_n (q := 162) dX12_init_161 rfl rfl ?_
  refine x_iconst (q := 163) (v := (4 : Int32)) dX12_init_162 rfl (by decide) ?_
  replace H := kif H; obtain ⟨g133, H⟩ := H
  replace H := kle H; obtain ⟨h134, q135, H⟩ := H
  refine x_newa (q := 165) (kk := 22) dX12_init_163 rfl (Or.inr (Or.inr (Or.inl ⟨rfl, rfl⟩))) kwa_char g133 ?_
  refine x_nmH q135 ?_
  refine x_dup (q := 166) dX12_init_165 rfl rfl ?_
  refine x_iconst (q := 167) (v := (0 : Int32)) dX12_init_166 rfl (by decide) ?_
  refine x_bipush (q := 169) (v := (116 : Int32)) dX12_init_167 rfl (by decide) ?_
  replace H := kif H; obtain ⟨g136, H⟩ := H
  replace H := kif H; obtain ⟨g137, H⟩ := H
  replace H := kle H; obtain ⟨h138, q139, H⟩ := H
  refine x_cast (q := 170) dX12_init_169 rfl g136 (fun z => z.elim (by decide) g137) ?_
  refine x_nmH q139 ?_
  refine x_dup (q := 171) dX12_init_170 rfl rfl ?_
  refine x_iconst (q := 172) (v := (1 : Int32)) dX12_init_171 rfl (by decide) ?_
  refine x_bipush (q := 174) (v := (101 : Int32)) dX12_init_172 rfl (by decide) ?_
  replace H := kif H; obtain ⟨g140, H⟩ := H
  replace H := kif H; obtain ⟨g141, H⟩ := H
  replace H := kle H; obtain ⟨h142, q143, H⟩ := H
  refine x_cast (q := 175) dX12_init_174 rfl g140 (fun z => z.elim (by decide) g141) ?_
  refine x_nmH q143 ?_
  refine x_dup (q := 176) dX12_init_175 rfl rfl ?_
  refine x_iconst (q := 177) (v := (2 : Int32)) dX12_init_176 rfl (by decide) ?_
  refine x_bipush (q := 179) (v := (115 : Int32)) dX12_init_177 rfl (by decide) ?_
  replace H := kif H; obtain ⟨g144, H⟩ := H
  replace H := kif H; obtain ⟨g145, H⟩ := H
  replace H := kle H; obtain ⟨h146, q147, H⟩ := H
  refine x_cast (q := 180) dX12_init_179 rfl g144 (fun z => z.elim (by decide) g145) ?_
  refine x_nmH q147 ?_
  refine x_dup (q := 181) dX12_init_180 rfl rfl ?_
  refine x_iconst (q := 182) (v := (3 : Int32)) dX12_init_181 rfl (by decide) ?_
  refine x_bipush (q := 184) (v := (116 : Int32)) dX12_init_182 rfl (by decide) ?_
  replace H := kif H; obtain ⟨g148, H⟩ := H
  replace H := kif H; obtain ⟨g149, H⟩ := H
  replace H := kle H; obtain ⟨h150, q151, H⟩ := H
  refine x_cast (q := 185) dX12_init_184 rfl g148 (fun z => z.elim (by decide) g149) ?_
  refine x_nmH q151 ?_
  replace H := kif H; obtain ⟨g152, H⟩ := H
  replace H := kif H; obtain ⟨g153, H⟩ := H
  replace H := kle H; obtain ⟨h154, q155, H⟩ := H
  refine x_putR (q := 188) dX12_init_185 rfl kl_RX12_36 (Or.inr ⟨rfl, rfl⟩) rfl g153 g152 ?_
  refine x_nmH q155 ?_
  refine x_aload_n (q := 189) dX12_init_188 rfl rfl ?_
  refine x_iconst (q := 190) (v := (4 : Int32)) dX12_init_189 rfl (by decide) ?_
  replace H := kif H; obtain ⟨g156, H⟩ := H
  replace H := kle H; obtain ⟨h157, q158, H⟩ := H
  refine x_newa (q := 192) (kk := 22) dX12_init_190 rfl (Or.inr (Or.inr (Or.inl ⟨rfl, rfl⟩))) kwa_char g156 ?_
  refine x_nmH q158 ?_
  refine x_dup (q := 193) dX12_init_192 rfl rfl ?_
  refine x_iconst (q := 194) (v := (0 : Int32)) dX12_init_193 rfl (by decide) ?_
  refine x_bipush (q := 196) (v := (104 : Int32)) dX12_init_194 rfl (by decide) ?_
  replace H := kif H; obtain ⟨g159, H⟩ := H
  replace H := kif H; obtain ⟨g160, H⟩ := H
  replace H := kle H; obtain ⟨h161, q162, H⟩ := H
  refine x_cast (q := 197) dX12_init_196 rfl g159 (fun z => z.elim (by decide) g160) ?_
  refine x_nmH q162 ?_
  refine x_dup (q := 198) dX12_init_197 rfl rfl ?_
  refine x_iconst (q := 199) (v := (1 : Int32)) dX12_init_198 rfl (by decide) ?_
  refine x_bipush (q := 201) (v := (97 : Int32)) dX12_init_199 rfl (by decide) ?_
  replace H := kif H; obtain ⟨g163, H⟩ := H
  replace H := kif H; obtain ⟨g164, H⟩ := H
  replace H := kle H; obtain ⟨h165, q166, H⟩ := H
  refine x_cast (q := 202) dX12_init_201 rfl g163 (fun z => z.elim (by decide) g164) ?_
  refine x_nmH q166 ?_
  refine x_dup (q := 203) dX12_init_202 rfl rfl ?_
  refine x_iconst (q := 204) (v := (2 : Int32)) dX12_init_203 rfl (by decide) ?_
  refine x_bipush (q := 206) (v := (114 : Int32)) dX12_init_204 rfl (by decide) ?_
  replace H := kif H; obtain ⟨g167, H⟩ := H
  replace H := kif H; obtain ⟨g168, H⟩ := H
  replace H := kle H; obtain ⟨h169, q170, H⟩ := H
  refine x_cast (q := 207) dX12_init_206 rfl g167 (fun z => z.elim (by decide) g168) ?_
  refine x_nmH q170 ?_
  refine x_dup (q := 208) dX12_init_207 rfl rfl ?_
  refine x_iconst (q := 209) (v := (3 : Int32)) dX12_init_208 rfl (by decide) ?_
  refine x_bipush (q := 211) (v := (109 : Int32)) dX12_init_209 rfl (by decide) ?_
  replace H := kif H; obtain ⟨g171, H⟩ := H
  replace H := kif H; obtain ⟨g172, H⟩ := H
  replace H := kle H; obtain ⟨h173, q174, H⟩ := H
  refine x_cast (q := 212) dX12_init_211 rfl g171 (fun z => z.elim (by decide) g172) ?_
  refine x_nmH q174 ?_
  replace H := kif H; obtain ⟨g175, H⟩ := H
  replace H := kif H; obtain ⟨g176, H⟩ := H
  replace H := kle H; obtain ⟨h177, q178, H⟩ := H
  refine x_putR (q := 215) dX12_init_212 rfl kl_RX12_39 (Or.inr ⟨rfl, rfl⟩) rfl g176 g175 ?_
  refine x_nmH q178 ?_
  refine x_aload_n (q := 216) dX12_init_215 rfl rfl ?_
  refine x_iconst (q := 217) (v := (4 : Int32)) dX12_init_216 rfl (by decide) ?_
  replace H := kif H; obtain ⟨g179, H⟩ := H
  replace H := kle H; obtain ⟨h180, q181, H⟩ := H
  refine x_newa (q := 219) (kk := 22) dX12_init_217 rfl (Or.inr (Or.inr (Or.inl ⟨rfl, rfl⟩))) kwa_char g179 ?_
  refine x_nmH q181 ?_
  refine x_dup (q := 220) dX12_init_219 rfl rfl ?_
  refine x_iconst (q := 221) (v := (0 : Int32)) dX12_init_220 rfl (by decide) ?_
  refine x_bipush (q := 223) (v := (109 : Int32)) dX12_init_221 rfl (by decide) ?_
  replace H := kif H; obtain ⟨g182, H⟩ := H
  replace H := kif H; obtain ⟨g183, H⟩ := H
  replace H := kle H; obtain ⟨h184, q185, H⟩ := H
  refine x_cast (q := 224) dX12_init_223 rfl g182 (fun z => z.elim (by decide) g183) ?_
  refine x_nmH q185 ?_
  refine x_dup (q := 225) dX12_init_224 rfl rfl ?_
  refine x_iconst (q := 226) (v := (1 : Int32)) dX12_init_225 rfl (by decide) ?_
  refine x_bipush (q := 228) (v := (97 : Int32)) dX12_init_226 rfl (by decide) ?_
  replace H := kif H; obtain ⟨g186, H⟩ := H
  replace H := kif H; obtain ⟨g187, H⟩ := H
  replace H := kle H; obtain ⟨h188, q189, H⟩ := H
  refine x_cast (q := 229) dX12_init_228 rfl g186 (fun z => z.elim (by decide) g187) ?_
  refine x_nmH q189 ?_
  refine x_dup (q := 230) dX12_init_229 rfl rfl ?_
  refine x_iconst (q := 231) (v := (2 : Int32)) dX12_init_230 rfl (by decide) ?_
  refine x_bipush (q := 233) (v := (114 : Int32)) dX12_init_231 rfl (by decide) ?_
  replace H := kif H; obtain ⟨g190, H⟩ := H
  replace H := kif H; obtain ⟨g191, H⟩ := H
  replace H := kle H; obtain ⟨h192, q193, H⟩ := H
  refine x_cast (q := 234) dX12_init_233 rfl g190 (fun z => z.elim (by decide) g191) ?_
  refine x_nmH q193 ?_
  refine x_dup (q := 235) dX12_init_234 rfl rfl ?_
  refine x_iconst (q := 236) (v := (3 : Int32)) dX12_init_235 rfl (by decide) ?_
  refine x_bipush (q := 238) (v := (107 : Int32)) dX12_init_236 rfl (by decide) ?_
  replace H := kif H; obtain ⟨g194, H⟩ := H
  replace H := kif H; obtain ⟨g195, H⟩ := H
  replace H := kle H; obtain ⟨h196, q197, H⟩ := H
  refine x_cast (q := 239) dX12_init_238 rfl g194 (fun z => z.elim (by decide) g195) ?_
  refine x_nmH q197 ?_
  replace H := kif H; obtain ⟨g198, H⟩ := H
  replace H := kif H; obtain ⟨g199, H⟩ := H
  replace H := kle H; obtain ⟨h200, q201, H⟩ := H
  refine x_putR (q := 242) dX12_init_239 rfl kl_RX12_42 (Or.inr ⟨rfl, rfl⟩) rfl g199 g198 ?_
  refine x_nmH q201 ?_
  refine x_aload_n (q := 243) dX12_init_242 rfl rfl ?_
  refine x_bipush (q := 245) (v := (6 : Int32)) dX12_init_243 rfl (by decide) ?_
  replace H := kif H; obtain ⟨g202, H⟩ := H
  replace H := kle H; obtain ⟨h203, q204, H⟩ := H
  refine x_newa (q := 247) (kk := 22) dX12_init_245 rfl (Or.inr (Or.inr (Or.inl ⟨rfl, rfl⟩))) kwa_char g202 ?_
  refine x_nmH q204 ?_
  refine x_dup (q := 248) dX12_init_247 rfl rfl ?_
  refine x_iconst (q := 249) (v := (0 : Int32)) dX12_init_248 rfl (by decide) ?_
  refine x_bipush (q := 251) (v := (121 : Int32)) dX12_init_249 rfl (by decide) ?_
  replace H := kif H; obtain ⟨g205, H⟩ := H
  replace H := kif H; obtain ⟨g206, H⟩ := H
  replace H := kle H; obtain ⟨h207, q208, H⟩ := H
  refine x_cast (q := 252) dX12_init_251 rfl g205 (fun z => z.elim (by decide) g206) ?_
  refine x_nmH q208 ?_
  refine x_dup (q := 253) dX12_init_252 rfl rfl ?_
  refine x_iconst (q := 254) (v := (1 : Int32)) dX12_init_253 rfl (by decide) ?_
  refine x_bipush (q := 256) (v := (105 : Int32)) dX12_init_254 rfl (by decide) ?_
  replace H := kif H; obtain ⟨g209, H⟩ := H
  replace H := kif H; obtain ⟨g210, H⟩ := H
  replace H := kle H; obtain ⟨h211, q212, H⟩ := H
  refine x_cast (q := 257) dX12_init_256 rfl g209 (fun z => z.elim (by decide) g210) ?_
  refine x_nmH q212 ?_
  refine x_dup (q := 258) dX12_init_257 rfl rfl ?_
  refine x_iconst (q := 259) (v := (2 : Int32)) dX12_init_258 rfl (by decide) ?_
  refine x_bipush (q := 261) (v := (101 : Int32)) dX12_init_259 rfl (by decide) ?_
  replace H := kif H; obtain ⟨g213, H⟩ := H
  replace H := kif H; obtain ⟨g214, H⟩ := H
  replace H := kle H; obtain ⟨h215, q216, H⟩ := H
  refine x_cast (q := 262) dX12_init_261 rfl g213 (fun z => z.elim (by decide) g214) ?_
  refine x_nmH q216 ?_
  refine x_dup (q := 263) dX12_init_262 rfl rfl ?_
  refine x_iconst (q := 264) (v := (3 : Int32)) dX12_init_263 rfl (by decide) ?_
  refine x_bipush (q := 266) (v := (108 : Int32)) dX12_init_264 rfl (by decide) ?_
  replace H := kif H; obtain ⟨g217, H⟩ := H
  replace H := kif H; obtain ⟨g218, H⟩ := H
  replace H := kle H; obtain ⟨h219, q220, H⟩ := H
  refine x_cast (q := 267) dX12_init_266 rfl g217 (fun z => z.elim (by decide) g218) ?_
  refine x_nmH q220 ?_
  refine x_dup (q := 268) dX12_init_267 rfl rfl ?_
  refine x_iconst (q := 269) (v := (4 : Int32)) dX12_init_268 rfl (by decide) ?_
  refine x_bipush (q := 271) (v := (100 : Int32)) dX12_init_269 rfl (by decide) ?_
  replace H := kif H; obtain ⟨g221, H⟩ := H
  replace H := kif H; obtain ⟨g222, H⟩ := H
  replace H := kle H; obtain ⟨h223, q224, H⟩ := H
  refine x_cast (q := 272) dX12_init_271 rfl g221 (fun z => z.elim (by decide) g222) ?_
  refine x_nmH q224 ?_
  refine x_dup (q := 273) dX12_init_272 rfl rfl ?_
  refine x_iconst (q := 274) (v := (5 : Int32)) dX12_init_273 rfl (by decide) ?_
  refine x_bipush (q := 276) (v := (115 : Int32)) dX12_init_274 rfl (by decide) ?_
  replace H := kif H; obtain ⟨g225, H⟩ := H
  replace H := kif H; obtain ⟨g226, H⟩ := H
  replace H := kle H; obtain ⟨h227, q228, H⟩ := H
  refine x_cast (q := 277) dX12_init_276 rfl g225 (fun z => z.elim (by decide) g226) ?_
  refine x_nmH q228 ?_
  replace H := kif H; obtain ⟨g229, H⟩ := H
  replace H := kif H; obtain ⟨g230, H⟩ := H
  replace H := kle H; obtain ⟨h231, q232, H⟩ := H
  refine x_putR (q := 280) dX12_init_277 rfl kl_RX12_45 (Or.inr ⟨rfl, rfl⟩) rfl g230 g229 ?_
  refine x_nmH q232 ?_
  refine x_aload_n (q := 281) dX12_init_280 rfl rfl ?_
  refine x_iconst (q := 282) (v := (5 : Int32)) dX12_init_281 rfl (by decide) ?_
  replace H := kif H; obtain ⟨g233, H⟩ := H
  replace H := kle H; obtain ⟨h234, q235, H⟩ := H
  refine x_newa (q := 284) (kk := 22) dX12_init_282 rfl (Or.inr (Or.inr (Or.inl ⟨rfl, rfl⟩))) kwa_char g233 ?_
  refine x_nmH q235 ?_
  refine x_dup (q := 285) dX12_init_284 rfl rfl ?_
  refine x_iconst (q := 286) (v := (0 : Int32)) dX12_init_285 rfl (by decide) ?_
  refine x_bipush (q := 288) (v := (102 : Int32)) dX12_init_286 rfl (by decide) ?_
  replace H := kif H; obtain ⟨g236, H⟩ := H
  replace H := kif H; obtain ⟨g237, H⟩ := H
  replace H := kle H; obtain ⟨h238, q239, H⟩ := H
  refine x_cast (q := 289) dX12_init_288 rfl g236 (fun z => z.elim (by decide) g237) ?_
  refine x_nmH q239 ?_
  refine x_dup (q := 290) dX12_init_289 rfl rfl ?_
  refine x_iconst (q := 291) (v := (1 : Int32)) dX12_init_290 rfl (by decide) ?_
  refine x_bipush (q := 293) (v := (105 : Int32)) dX12_init_291 rfl (by decide) ?_
  replace H := kif H; obtain ⟨g240, H⟩ := H
  replace H := kif H; obtain ⟨g241, H⟩ := H
  replace H := kle H; obtain ⟨h242, q243, H⟩ := H
  refine x_cast (q := 294) dX12_init_293 rfl g240 (fun z => z.elim (by decide) g241) ?_
  refine x_nmH q243 ?_
  refine x_dup (q := 295) dX12_init_294 rfl rfl ?_
  refine x_iconst (q := 296) (v := (2 : Int32)) dX12_init_295 rfl (by decide) ?_
  refine x_bipush (q := 298) (v := (114 : Int32)) dX12_init_296 rfl (by decide) ?_
  replace H := kif H; obtain ⟨g244, H⟩ := H
  replace H := kif H; obtain ⟨g245, H⟩ := H
  replace H := kle H; obtain ⟨h246, q247, H⟩ := H
  refine x_cast (q := 299) dX12_init_298 rfl g244 (fun z => z.elim (by decide) g245) ?_
  refine x_nmH q247 ?_
  refine x_dup (q := 300) dX12_init_299 rfl rfl ?_
  refine x_iconst (q := 301) (v := (3 : Int32)) dX12_init_300 rfl (by decide) ?_
  refine x_bipush (q := 303) (v := (115 : Int32)) dX12_init_301 rfl (by decide) ?_
  replace H := kif H; obtain ⟨g248, H⟩ := H
  replace H := kif H; obtain ⟨g249, H⟩ := H
  replace H := kle H; obtain ⟨h250, q251, H⟩ := H
  refine x_cast (q := 304) dX12_init_303 rfl g248 (fun z => z.elim (by decide) g249) ?_
  refine x_nmH q251 ?_
  refine x_dup (q := 305) dX12_init_304 rfl rfl ?_
  refine x_iconst (q := 306) (v := (4 : Int32)) dX12_init_305 rfl (by decide) ?_
  refine x_bipush (q := 308) (v := (116 : Int32)) dX12_init_306 rfl (by decide) ?_
  replace H := kif H; obtain ⟨g252, H⟩ := H
  replace H := kif H; obtain ⟨g253, H⟩ := H
  replace H := kle H; obtain ⟨h254, q255, H⟩ := H
  refine x_cast (q := 309) dX12_init_308 rfl g252 (fun z => z.elim (by decide) g253) ?_
  refine x_nmH q255 ?_
  replace H := kif H; obtain ⟨g256, H⟩ := H
  replace H := kif H; obtain ⟨g257, H⟩ := H
  replace H := kle H; obtain ⟨h258, q259, H⟩ := H
  refine x_putR (q := 312) dX12_init_309 rfl kl_RX12_48 (Or.inr ⟨rfl, rfl⟩) rfl g257 g256 ?_
  refine x_nmH q259 ?_
  refine x_aload_n (q := 313) dX12_init_312 rfl rfl ?_
  refine x_iconst (q := 314) (v := (5 : Int32)) dX12_init_313 rfl (by decide) ?_
  replace H := kif H; obtain ⟨g260, H⟩ := H
  replace H := kle H; obtain ⟨h261, q262, H⟩ := H
  refine x_newa (q := 316) (kk := 22) dX12_init_314 rfl (Or.inr (Or.inr (Or.inl ⟨rfl, rfl⟩))) kwa_char g260 ?_
  refine x_nmH q262 ?_
  refine x_dup (q := 317) dX12_init_316 rfl rfl ?_
  refine x_iconst (q := 318) (v := (0 : Int32)) dX12_init_317 rfl (by decide) ?_
  refine x_bipush (q := 320) (v := (112 : Int32)) dX12_init_318 rfl (by decide) ?_
  replace H := kif H; obtain ⟨g263, H⟩ := H
  replace H := kif H; obtain ⟨g264, H⟩ := H
  replace H := kle H; obtain ⟨h265, q266, H⟩ := H
  refine x_cast (q := 321) dX12_init_320 rfl g263 (fun z => z.elim (by decide) g264) ?_
  refine x_nmH q266 ?_
  refine x_dup (q := 322) dX12_init_321 rfl rfl ?_
  refine x_iconst (q := 323) (v := (1 : Int32)) dX12_init_322 rfl (by decide) ?_
  refine x_bipush (q := 325) (v := (114 : Int32)) dX12_init_323 rfl (by decide) ?_
  replace H := kif H; obtain ⟨g267, H⟩ := H
  replace H := kif H; obtain ⟨g268, H⟩ := H
  replace H := kle H; obtain ⟨h269, q270, H⟩ := H
  refine x_cast (q := 326) dX12_init_325 rfl g267 (fun z => z.elim (by decide) g268) ?_
  refine x_nmH q270 ?_
  refine x_dup (q := 327) dX12_init_326 rfl rfl ?_
  refine x_iconst (q := 328) (v := (2 : Int32)) dX12_init_327 rfl (by decide) ?_
  refine x_bipush (q := 330) (v := (105 : Int32)) dX12_init_328 rfl (by decide) ?_
  replace H := kif H; obtain ⟨g271, H⟩ := H
  replace H := kif H; obtain ⟨g272, H⟩ := H
  replace H := kle H; obtain ⟨h273, q274, H⟩ := H
  refine x_cast (q := 331) dX12_init_330 rfl g271 (fun z => z.elim (by decide) g272) ?_
  refine x_nmH q274 ?_
  refine x_dup (q := 332) dX12_init_331 rfl rfl ?_
  refine x_iconst (q := 333) (v := (3 : Int32)) dX12_init_332 rfl (by decide) ?_
  refine x_bipush (q := 335) (v := (99 : Int32)) dX12_init_333 rfl (by decide) ?_
  replace H := kif H; obtain ⟨g275, H⟩ := H
  replace H := kif H; obtain ⟨g276, H⟩ := H
  replace H := kle H; obtain ⟨h277, q278, H⟩ := H
  refine x_cast (q := 336) dX12_init_335 rfl g275 (fun z => z.elim (by decide) g276) ?_
  refine x_nmH q278 ?_
  refine x_dup (q := 337) dX12_init_336 rfl rfl ?_
  refine x_iconst (q := 338) (v := (4 : Int32)) dX12_init_337 rfl (by decide) ?_
  refine x_bipush (q := 340) (v := (101 : Int32)) dX12_init_338 rfl (by decide) ?_
  replace H := kif H; obtain ⟨g279, H⟩ := H
  replace H := kif H; obtain ⟨g280, H⟩ := H
  replace H := kle H; obtain ⟨h281, q282, H⟩ := H
  refine x_cast (q := 341) dX12_init_340 rfl g279 (fun z => z.elim (by decide) g280) ?_
  refine x_nmH q282 ?_
  replace H := kif H; obtain ⟨g283, H⟩ := H
  replace H := kif H; obtain ⟨g284, H⟩ := H
  replace H := kle H; obtain ⟨h285, q286, H⟩ := H
  refine x_putR (q := 344) dX12_init_341 rfl kl_RX12_51 (Or.inr ⟨rfl, rfl⟩) rfl g284 g283 ?_
  refine x_nmH q286 ?_
  refine x_aload_n (q := 345) dX12_init_344 rfl rfl ?_
  refine x_iconst (q := 346) (v := (5 : Int32)) dX12_init_345 rfl (by decide) ?_
  replace H := kif H; obtain ⟨g287, H⟩ := H
  replace H := kle H; obtain ⟨h288, q289, H⟩ := H
  refine x_newa (q := 348) (kk := 22) dX12_init_346 rfl (Or.inr (Or.inr (Or.inl ⟨rfl, rfl⟩))) kwa_char g287 ?_
  refine x_nmH q289 ?_
  refine x_dup (q := 349) dX12_init_348 rfl rfl ?_
  refine x_iconst (q := 350) (v := (0 : Int32)) dX12_init_349 rfl (by decide) ?_
  refine x_bipush (q := 352) (v := (104 : Int32)) dX12_init_350 rfl (by decide) ?_
  replace H := kif H; obtain ⟨g290, H⟩ := H
  replace H := kif H; obtain ⟨g291, H⟩ := H
  replace H := kle H; obtain ⟨h292, q293, H⟩ := H
  refine x_cast (q := 353) dX12_init_352 rfl g290 (fun z => z.elim (by decide) g291) ?_
  refine x_nmH q293 ?_
  refine x_dup (q := 354) dX12_init_353 rfl rfl ?_
  refine x_iconst (q := 355) (v := (1 : Int32)) dX12_init_354 rfl (by decide) ?_
  refine x_bipush (q := 357) (v := (101 : Int32)) dX12_init_355 rfl (by decide) ?_
  replace H := kif H; obtain ⟨g294, H⟩ := H
  replace H := kif H; obtain ⟨g295, H⟩ := H
  replace H := kle H; obtain ⟨h296, q297, H⟩ := H
  refine x_cast (q := 358) dX12_init_357 rfl g294 (fun z => z.elim (by decide) g295) ?_
  refine x_nmH q297 ?_
  refine x_dup (q := 359) dX12_init_358 rfl rfl ?_
  refine x_iconst (q := 360) (v := (2 : Int32)) dX12_init_359 rfl (by decide) ?_
  refine x_bipush (q := 362) (v := (97 : Int32)) dX12_init_360 rfl (by decide) ?_
  replace H := kif H; obtain ⟨g298, H⟩ := H
  replace H := kif H; obtain ⟨g299, H⟩ := H
  replace H := kle H; obtain ⟨h300, q301, H⟩ := H
  refine x_cast (q := 363) dX12_init_362 rfl g298 (fun z => z.elim (by decide) g299) ?_
  refine x_nmH q301 ?_
  refine x_dup (q := 364) dX12_init_363 rfl rfl ?_
  refine x_iconst (q := 365) (v := (3 : Int32)) dX12_init_364 rfl (by decide) ?_
  refine x_bipush (q := 367) (v := (114 : Int32)) dX12_init_365 rfl (by decide) ?_
  replace H := kif H; obtain ⟨g302, H⟩ := H
  replace H := kif H; obtain ⟨g303, H⟩ := H
  replace H := kle H; obtain ⟨h304, q305, H⟩ := H
  refine x_cast (q := 368) dX12_init_367 rfl g302 (fun z => z.elim (by decide) g303) ?_
  refine x_nmH q305 ?_
  refine x_dup (q := 369) dX12_init_368 rfl rfl ?_
  refine x_iconst (q := 370) (v := (4 : Int32)) dX12_init_369 rfl (by decide) ?_
  refine x_bipush (q := 372) (v := (100 : Int32)) dX12_init_370 rfl (by decide) ?_
  replace H := kif H; obtain ⟨g306, H⟩ := H
  replace H := kif H; obtain ⟨g307, H⟩ := H
  replace H := kle H; obtain ⟨h308, q309, H⟩ := H
  refine x_cast (q := 373) dX12_init_372 rfl g306 (fun z => z.elim (by decide) g307) ?_
  refine x_nmH q309 ?_
  replace H := kif H; obtain ⟨g310, H⟩ := H
  replace H := kif H; obtain ⟨g311, H⟩ := H
  replace H := kle H; obtain ⟨h312, q313, H⟩ := H
  refine x_putR (q := 376) dX12_init_373 rfl kl_RX12_54 (Or.inr ⟨rfl, rfl⟩) rfl g311 g310 ?_
  refine x_nmH q313 ?_
  refine x_aload_n (q := 377) dX12_init_376 rfl rfl ?_
  refine x_iconst (q := 378) (v := (5 : Int32)) dX12_init_377 rfl (by decide) ?_
  replace H := kif H; obtain ⟨g314, H⟩ := H
  replace H := kle H; obtain ⟨h315, q316, H⟩ := H
  refine x_newa (q := 380) (kk := 22) dX12_init_378 rfl (Or.inr (Or.inr (Or.inl ⟨rfl, rfl⟩))) kwa_char g314 ?_
  refine x_nmH q316 ?_
  refine x_dup (q := 381) dX12_init_380 rfl rfl ?_
  refine x_iconst (q := 382) (v := (0 : Int32)) dX12_init_381 rfl (by decide) ?_
  refine x_bipush (q := 384) (v := (116 : Int32)) dX12_init_382 rfl (by decide) ?_
  replace H := kif H; obtain ⟨g317, H⟩ := H
  replace H := kif H; obtain ⟨g318, H⟩ := H
  replace H := kle H; obtain ⟨h319, q320, H⟩ := H
  refine x_cast (q := 385) dX12_init_384 rfl g317 (fun z => z.elim (by decide) g318) ?_
  refine x_nmH q320 ?_
  refine x_dup (q := 386) dX12_init_385 rfl rfl ?_
  refine x_iconst (q := 387) (v := (1 : Int32)) dX12_init_386 rfl (by decide) ?_
  refine x_bipush (q := 389) (v := (114 : Int32)) dX12_init_387 rfl (by decide) ?_
  replace H := kif H; obtain ⟨g321, H⟩ := H
  replace H := kif H; obtain ⟨g322, H⟩ := H
  replace H := kle H; obtain ⟨h323, q324, H⟩ := H
  refine x_cast (q := 390) dX12_init_389 rfl g321 (fun z => z.elim (by decide) g322) ?_
  refine x_nmH q324 ?_
  refine x_dup (q := 391) dX12_init_390 rfl rfl ?_
  refine x_iconst (q := 392) (v := (2 : Int32)) dX12_init_391 rfl (by decide) ?_
  refine x_bipush (q := 394) (v := (117 : Int32)) dX12_init_392 rfl (by decide) ?_
  replace H := kif H; obtain ⟨g325, H⟩ := H
  replace H := kif H; obtain ⟨g326, H⟩ := H
  replace H := kle H; obtain ⟨h327, q328, H⟩ := H
  refine x_cast (q := 395) dX12_init_394 rfl g325 (fun z => z.elim (by decide) g326) ?_
  refine x_nmH q328 ?_
  refine x_dup (q := 396) dX12_init_395 rfl rfl ?_
  refine x_iconst (q := 397) (v := (3 : Int32)) dX12_init_396 rfl (by decide) ?_
  refine x_bipush (q := 399) (v := (116 : Int32)) dX12_init_397 rfl (by decide) ?_
  replace H := kif H; obtain ⟨g329, H⟩ := H
  replace H := kif H; obtain ⟨g330, H⟩ := H
  replace H := kle H; obtain ⟨h331, q332, H⟩ := H
  refine x_cast (q := 400) dX12_init_399 rfl g329 (fun z => z.elim (by decide) g330) ?_
  refine x_nmH q332 ?_
  refine x_dup (q := 401) dX12_init_400 rfl rfl ?_
  refine x_iconst (q := 402) (v := (4 : Int32)) dX12_init_401 rfl (by decide) ?_
  refine x_bipush (q := 404) (v := (104 : Int32)) dX12_init_402 rfl (by decide) ?_
  replace H := kif H; obtain ⟨g333, H⟩ := H
  replace H := kif H; obtain ⟨g334, H⟩ := H
  replace H := kle H; obtain ⟨h335, q336, H⟩ := H
  refine x_cast (q := 405) dX12_init_404 rfl g333 (fun z => z.elim (by decide) g334) ?_
  refine x_nmH q336 ?_
  replace H := kif H; obtain ⟨g337, H⟩ := H
  replace H := kif H; obtain ⟨g338, H⟩ := H
  replace H := kle H; obtain ⟨h339, q340, H⟩ := H
  refine x_putR (q := 408) dX12_init_405 rfl kl_RX12_57 (Or.inr ⟨rfl, rfl⟩) rfl g338 g337 ?_
  refine x_nmH q340 ?_
  refine x_aload_n (q := 409) dX12_init_408 rfl rfl ?_
  refine x_bipush (q := 411) (v := (6 : Int32)) dX12_init_409 rfl (by decide) ?_
  replace H := kif H; obtain ⟨g341, H⟩ := H
  replace H := kle H; obtain ⟨h342, q343, H⟩ := H
  refine x_newa (q := 413) (kk := 22) dX12_init_411 rfl (Or.inr (Or.inr (Or.inl ⟨rfl, rfl⟩))) kwa_char g341 ?_
  refine x_nmH q343 ?_
  refine x_dup (q := 414) dX12_init_413 rfl rfl ?_
  refine x_iconst (q := 415) (v := (0 : Int32)) dX12_init_414 rfl (by decide) ?_
  refine x_bipush (q := 417) (v := (110 : Int32)) dX12_init_415 rfl (by decide) ?_
  replace H := kif H; obtain ⟨g344, H⟩ := H
  replace H := kif H; obtain ⟨g345, H⟩ := H
  replace H := kle H; obtain ⟨h346, q347, H⟩ := H
  refine x_cast (q := 418) dX12_init_417 rfl g344 (fun z => z.elim (by decide) g345) ?_
  refine x_nmH q347 ?_
  refine x_dup (q := 419) dX12_init_418 rfl rfl ?_
  refine x_iconst (q := 420) (v := (1 : Int32)) dX12_init_419 rfl (by decide) ?_
  refine x_bipush (q := 422) (v := (117 : Int32)) dX12_init_420 rfl (by decide) ?_
  replace H := kif H; obtain ⟨g348, H⟩ := H
  replace H := kif H; obtain ⟨g349, H⟩ := H
  replace H := kle H; obtain ⟨h350, q351, H⟩ := H
  refine x_cast (q := 423) dX12_init_422 rfl g348 (fun z => z.elim (by decide) g349) ?_
  refine x_nmH q351 ?_
  refine x_dup (q := 424) dX12_init_423 rfl rfl ?_
  refine x_iconst (q := 425) (v := (2 : Int32)) dX12_init_424 rfl (by decide) ?_
  refine x_bipush (q := 427) (v := (109 : Int32)) dX12_init_425 rfl (by decide) ?_
  replace H := kif H; obtain ⟨g352, H⟩ := H
  replace H := kif H; obtain ⟨g353, H⟩ := H
  replace H := kle H; obtain ⟨h354, q355, H⟩ := H
  refine x_cast (q := 428) dX12_init_427 rfl g352 (fun z => z.elim (by decide) g353) ?_
  refine x_nmH q355 ?_
  refine x_dup (q := 429) dX12_init_428 rfl rfl ?_
  refine x_iconst (q := 430) (v := (3 : Int32)) dX12_init_429 rfl (by decide) ?_
  refine x_bipush (q := 432) (v := (98 : Int32)) dX12_init_430 rfl (by decide) ?_
  replace H := kif H; obtain ⟨g356, H⟩ := H
  replace H := kif H; obtain ⟨g357, H⟩ := H
  replace H := kle H; obtain ⟨h358, q359, H⟩ := H
  refine x_cast (q := 433) dX12_init_432 rfl g356 (fun z => z.elim (by decide) g357) ?_
  refine x_nmH q359 ?_
  refine x_dup (q := 434) dX12_init_433 rfl rfl ?_
  refine x_iconst (q := 435) (v := (4 : Int32)) dX12_init_434 rfl (by decide) ?_
  refine x_bipush (q := 437) (v := (101 : Int32)) dX12_init_435 rfl (by decide) ?_
  replace H := kif H; obtain ⟨g360, H⟩ := H
  replace H := kif H; obtain ⟨g361, H⟩ := H
  replace H := kle H; obtain ⟨h362, q363, H⟩ := H
  refine x_cast (q := 438) dX12_init_437 rfl g360 (fun z => z.elim (by decide) g361) ?_
  refine x_nmH q363 ?_
  refine x_dup (q := 439) dX12_init_438 rfl rfl ?_
  refine x_iconst (q := 440) (v := (5 : Int32)) dX12_init_439 rfl (by decide) ?_
  refine x_bipush (q := 442) (v := (114 : Int32)) dX12_init_440 rfl (by decide) ?_
  replace H := kif H; obtain ⟨g364, H⟩ := H
  replace H := kif H; obtain ⟨g365, H⟩ := H
  replace H := kle H; obtain ⟨h366, q367, H⟩ := H
  refine x_cast (q := 443) dX12_init_442 rfl g364 (fun z => z.elim (by decide) g365) ?_
  refine x_nmH q367 ?_
  replace H := kif H; obtain ⟨g368, H⟩ := H
  replace H := kif H; obtain ⟨g369, H⟩ := H
  replace H := kle H; obtain ⟨h370, q371, H⟩ := H
  refine x_putR (q := 446) dX12_init_443 rfl kl_RX12_60 (Or.inr ⟨rfl, rfl⟩) rfl g369 g368 ?_
  refine x_nmH q371 ?_
  refine x_aload_n (q := 447) dX12_init_446 rfl rfl ?_
  refine x_iconst (q := 448) (v := (5 : Int32)) dX12_init_447 rfl (by decide) ?_
  replace H := kif H; obtain ⟨g372, H⟩ := H
  replace H := kle H; obtain ⟨h373, q374, H⟩ := H
  refine x_newa (q := 450) (kk := 22) dX12_init_448 rfl (Or.inr (Or.inr (Or.inl ⟨rfl, rfl⟩))) kwa_char g372 ?_
  refine x_nmH q374 ?_
  refine x_dup (q := 451) dX12_init_450 rfl rfl ?_
  refine x_iconst (q := 452) (v := (0 : Int32)) dX12_init_451 rfl (by decide) ?_
  refine x_bipush (q := 454) (v := (109 : Int32)) dX12_init_452 rfl (by decide) ?_
  replace H := kif H; obtain ⟨g375, H⟩ := H
  replace H := kif H; obtain ⟨g376, H⟩ := H
  replace H := kle H; obtain ⟨h377, q378, H⟩ := H
  refine x_cast (q := 455) dX12_init_454 rfl g375 (fun z => z.elim (by decide) g376) ?_
  refine x_nmH q378 ?_
  refine x_dup (q := 456) dX12_init_455 rfl rfl ?_
  refine x_iconst (q := 457) (v := (1 : Int32)) dX12_init_456 rfl (by decide) ?_
  refine x_bipush (q := 459) (v := (101 : Int32)) dX12_init_457 rfl (by decide) ?_
  replace H := kif H; obtain ⟨g379, H⟩ := H
  replace H := kif H; obtain ⟨g380, H⟩ := H
  replace H := kle H; obtain ⟨h381, q382, H⟩ := H
  refine x_cast (q := 460) dX12_init_459 rfl g379 (fun z => z.elim (by decide) g380) ?_
  refine x_nmH q382 ?_
  refine x_dup (q := 461) dX12_init_460 rfl rfl ?_
  refine x_iconst (q := 462) (v := (2 : Int32)) dX12_init_461 rfl (by decide) ?_
  refine x_bipush (q := 464) (v := (114 : Int32)) dX12_init_462 rfl (by decide) ?_
  replace H := kif H; obtain ⟨g383, H⟩ := H
  replace H := kif H; obtain ⟨g384, H⟩ := H
  replace H := kle H; obtain ⟨h385, q386, H⟩ := H
  refine x_cast (q := 465) dX12_init_464 rfl g383 (fun z => z.elim (by decide) g384) ?_
  refine x_nmH q386 ?_
  refine x_dup (q := 466) dX12_init_465 rfl rfl ?_
  refine x_iconst (q := 467) (v := (3 : Int32)) dX12_init_466 rfl (by decide) ?_
  refine x_bipush (q := 469) (v := (105 : Int32)) dX12_init_467 rfl (by decide) ?_
  replace H := kif H; obtain ⟨g387, H⟩ := H
  replace H := kif H; obtain ⟨g388, H⟩ := H
  replace H := kle H; obtain ⟨h389, q390, H⟩ := H
  refine x_cast (q := 470) dX12_init_469 rfl g387 (fun z => z.elim (by decide) g388) ?_
  refine x_nmH q390 ?_
  refine x_dup (q := 471) dX12_init_470 rfl rfl ?_
  refine x_iconst (q := 472) (v := (4 : Int32)) dX12_init_471 rfl (by decide) ?_
  refine x_bipush (q := 474) (v := (116 : Int32)) dX12_init_472 rfl (by decide) ?_
  replace H := kif H; obtain ⟨g391, H⟩ := H
  replace H := kif H; obtain ⟨g392, H⟩ := H
  replace H := kle H; obtain ⟨h393, q394, H⟩ := H
  refine x_cast (q := 475) dX12_init_474 rfl g391 (fun z => z.elim (by decide) g392) ?_
  refine x_nmH q394 ?_
  replace H := kif H; obtain ⟨g395, H⟩ := H
  replace H := kif H; obtain ⟨g396, H⟩ := H
  replace H := kle H; obtain ⟨h397, q398, H⟩ := H
  refine x_putR (q := 478) dX12_init_475 rfl kl_RX12_63 (Or.inr ⟨rfl, rfl⟩) rfl g396 g395 ?_
  refine x_nmH q398 ?_
  refine x_aload_n (q := 479) dX12_init_478 rfl rfl ?_
  refine x_iconst (q := 480) (v := (4 : Int32)) dX12_init_479 rfl (by decide) ?_
  replace H := kif H; obtain ⟨g399, H⟩ := H
  replace H := kle H; obtain ⟨h400, q401, H⟩ := H
  refine x_newa (q := 482) (kk := 22) dX12_init_480 rfl (Or.inr (Or.inr (Or.inl ⟨rfl, rfl⟩))) kwa_char g399 ?_
  refine x_nmH q401 ?_
  refine x_dup (q := 483) dX12_init_482 rfl rfl ?_
  refine x_iconst (q := 484) (v := (0 : Int32)) dX12_init_483 rfl (by decide) ?_
  refine x_bipush (q := 486) (v := (115 : Int32)) dX12_init_484 rfl (by decide) ?_
  replace H := kif H; obtain ⟨g402, H⟩ := H
  replace H := kif H; obtain ⟨g403, H⟩ := H
  replace H := kle H; obtain ⟨h404, q405, H⟩ := H
  refine x_cast (q := 487) dX12_init_486 rfl g402 (fun z => z.elim (by decide) g403) ?_
  refine x_nmH q405 ?_
  refine x_dup (q := 488) dX12_init_487 rfl rfl ?_
  refine x_iconst (q := 489) (v := (1 : Int32)) dX12_init_488 rfl (by decide) ?_
  refine x_bipush (q := 491) (v := (117 : Int32)) dX12_init_489 rfl (by decide) ?_
  replace H := kif H; obtain ⟨g406, H⟩ := H
  replace H := kif H; obtain ⟨g407, H⟩ := H
  replace H := kle H; obtain ⟨h408, q409, H⟩ := H
  refine x_cast (q := 492) dX12_init_491 rfl g406 (fun z => z.elim (by decide) g407) ?_
  refine x_nmH q409 ?_
  refine x_dup (q := 493) dX12_init_492 rfl rfl ?_
  refine x_iconst (q := 494) (v := (2 : Int32)) dX12_init_493 rfl (by decide) ?_
  refine x_bipush (q := 496) (v := (114 : Int32)) dX12_init_494 rfl (by decide) ?_
  replace H := kif H; obtain ⟨g410, H⟩ := H
  replace H := kif H; obtain ⟨g411, H⟩ := H
  replace H := kle H; obtain ⟨h412, q413, H⟩ := H
  refine x_cast (q := 497) dX12_init_496 rfl g410 (fun z => z.elim (by decide) g411) ?_
  refine x_nmH q413 ?_
  refine x_dup (q := 498) dX12_init_497 rfl rfl ?_
  refine x_iconst (q := 499) (v := (3 : Int32)) dX12_init_498 rfl (by decide) ?_
  refine x_bipush (q := 501) (v := (101 : Int32)) dX12_init_499 rfl (by decide) ?_
  replace H := kif H; obtain ⟨g414, H⟩ := H
  replace H := kif H; obtain ⟨g415, H⟩ := H
  replace H := kle H; obtain ⟨h416, q417, H⟩ := H
  refine x_cast (q := 502) dX12_init_501 rfl g414 (fun z => z.elim (by decide) g415) ?_
  refine x_nmH q417 ?_
  replace H := kif H; obtain ⟨g418, H⟩ := H
  replace H := kif H; obtain ⟨g419, H⟩ := H
  replace H := kle H; obtain ⟨h420, q421, H⟩ := H
  refine x_putR (q := 505) dX12_init_502 rfl kl_RX12_66 (Or.inr ⟨rfl, rfl⟩) rfl g419 g418 ?_
  refine x_nmH q421 ?_
  refine x_aload_n (q := 506) dX12_init_505 rfl rfl ?_
  refine x_iconst (q := 507) (v := (2 : Int32)) dX12_init_506 rfl (by decide) ?_
  replace H := kif H; obtain ⟨g422, H⟩ := H
  replace H := kle H; obtain ⟨h423, q424, H⟩ := H
  refine x_newa (q := 509) (kk := 22) dX12_init_507 rfl (Or.inr (Or.inr (Or.inl ⟨rfl, rfl⟩))) kwa_char g422 ?_
  refine x_nmH q424 ?_
  refine x_dup (q := 510) dX12_init_509 rfl rfl ?_
  refine x_iconst (q := 511) (v := (0 : Int32)) dX12_init_510 rfl (by decide) ?_
  refine x_bipush (q := 513) (v := (111 : Int32)) dX12_init_511 rfl (by decide) ?_
  replace H := kif H; obtain ⟨g425, H⟩ := H
  replace H := kif H; obtain ⟨g426, H⟩ := H
  replace H := kle H; obtain ⟨h427, q428, H⟩ := H
  refine x_cast (q := 514) dX12_init_513 rfl g425 (fun z => z.elim (by decide) g426) ?_
  refine x_nmH q428 ?_
  refine x_dup (q := 515) dX12_init_514 rfl rfl ?_
  refine x_iconst (q := 516) (v := (1 : Int32)) dX12_init_515 rfl (by decide) ?_
  refine x_bipush (q := 518) (v := (114 : Int32)) dX12_init_516 rfl (by decide) ?_
  replace H := kif H; obtain ⟨g429, H⟩ := H
  replace H := kif H; obtain ⟨g430, H⟩ := H
  replace H := kle H; obtain ⟨h431, q432, H⟩ := H
  refine x_cast (q := 519) dX12_init_518 rfl g429 (fun z => z.elim (by decide) g430) ?_
  refine x_nmH q432 ?_
  replace H := kif H; obtain ⟨g433, H⟩ := H
  replace H := kif H; obtain ⟨g434, H⟩ := H
  replace H := kle H; obtain ⟨h435, q436, H⟩ := H
  refine x_putR (q := 522) dX12_init_519 rfl kl_RX12_69 (Or.inr ⟨rfl, rfl⟩) rfl g434 g433 ?_
  refine x_nmH q436 ?_
  refine x_aload_n (q := 523) dX12_init_522 rfl rfl ?_
  refine x_iconst (q := 524) (v := (3 : Int32)) dX12_init_523 rfl (by decide) ?_
  replace H := kif H; obtain ⟨g437, H⟩ := H
  replace H := kle H; obtain ⟨h438, q439, H⟩ := H
  refine x_newa (q := 526) (kk := 22) dX12_init_524 rfl (Or.inr (Or.inr (Or.inl ⟨rfl, rfl⟩))) kwa_char g437 ?_
  refine x_nmH q439 ?_
  refine x_dup (q := 527) dX12_init_526 rfl rfl ?_
  refine x_iconst (q := 528) (v := (0 : Int32)) dX12_init_527 rfl (by decide) ?_
  refine x_bipush (q := 530) (v := (97 : Int32)) dX12_init_528 rfl (by decide) ?_
  replace H := kif H; obtain ⟨g440, H⟩ := H
  replace H := kif H; obtain ⟨g441, H⟩ := H
  replace H := kle H; obtain ⟨h442, q443, H⟩ := H
  refine x_cast (q := 531) dX12_init_530 rfl g440 (fun z => z.elim (by decide) g441) ?_
  refine x_nmH q443 ?_
  refine x_dup (q := 532) dX12_init_531 rfl rfl ?_
  refine x_iconst (q := 533) (v := (1 : Int32)) dX12_init_532 rfl (by decide) ?_
  refine x_bipush (q := 535) (v := (110 : Int32)) dX12_init_533 rfl (by decide) ?_
  replace H := kif H; obtain ⟨g444, H⟩ := H
  replace H := kif H; obtain ⟨g445, H⟩ := H
  replace H := kle H; obtain ⟨h446, q447, H⟩ := H
  refine x_cast (q := 536) dX12_init_535 rfl g444 (fun z => z.elim (by decide) g445) ?_
  refine x_nmH q447 ?_
  refine x_dup (q := 537) dX12_init_536 rfl rfl ?_
  refine x_iconst (q := 538) (v := (2 : Int32)) dX12_init_537 rfl (by decide) ?_
  refine x_bipush (q := 540) (v := (100 : Int32)) dX12_init_538 rfl (by decide) ?_
  replace H := kif H; obtain ⟨g448, H⟩ := H
  replace H := kif H; obtain ⟨g449, H⟩ := H
  replace H := kle H; obtain ⟨h450, q451, H⟩ := H
  refine x_cast (q := 541) dX12_init_540 rfl g448 (fun z => z.elim (by decide) g449) ?_
  refine x_nmH q451 ?_
  replace H := kif H; obtain ⟨g452, H⟩ := H
  replace H := kif H; obtain ⟨g453, H⟩ := H
  replace H := kle H; obtain ⟨h454, q455, H⟩ := H
  refine x_putR (q := 544) dX12_init_541 rfl kl_RX12_72 (Or.inr ⟨rfl, rfl⟩) rfl g453 g452 ?_
  refine x_nmH q455 ?_
  refine x_aload_n (q := 545) dX12_init_544 rfl rfl ?_
  refine x_iconst (q := 546) (v := (3 : Int32)) dX12_init_545 rfl (by decide) ?_
  replace H := kif H; obtain ⟨g456, H⟩ := H
  replace H := kle H; obtain ⟨h457, q458, H⟩ := H
  refine x_newa (q := 548) (kk := 22) dX12_init_546 rfl (Or.inr (Or.inr (Or.inl ⟨rfl, rfl⟩))) kwa_char g456 ?_
  refine x_nmH q458 ?_
  refine x_dup (q := 549) dX12_init_548 rfl rfl ?_
  refine x_iconst (q := 550) (v := (0 : Int32)) dX12_init_549 rfl (by decide) ?_
  refine x_bipush (q := 552) (v := (110 : Int32)) dX12_init_550 rfl (by decide) ?_
  replace H := kif H; obtain ⟨g459, H⟩ := H
  replace H := kif H; obtain ⟨g460, H⟩ := H
  replace H := kle H; obtain ⟨h461, q462, H⟩ := H
  refine x_cast (q := 553) dX12_init_552 rfl g459 (fun z => z.elim (by decide) g460) ?_
  refine x_nmH q462 ?_
  refine x_dup (q := 554) dX12_init_553 rfl rfl ?_
  refine x_iconst (q := 555) (v := (1 : Int32)) dX12_init_554 rfl (by decide) ?_
  refine x_bipush (q := 557) (v := (111 : Int32)) dX12_init_555 rfl (by decide) ?_
  replace H := kif H; obtain ⟨g463, H⟩ := H
  replace H := kif H; obtain ⟨g464, H⟩ := H
  replace H := kle H; obtain ⟨h465, q466, H⟩ := H
  refine x_cast (q := 558) dX12_init_557 rfl g463 (fun z => z.elim (by decide) g464) ?_
  refine x_nmH q466 ?_
  refine x_dup (q := 559) dX12_init_558 rfl rfl ?_
  refine x_iconst (q := 560) (v := (2 : Int32)) dX12_init_559 rfl (by decide) ?_
  refine x_bipush (q := 562) (v := (116 : Int32)) dX12_init_560 rfl (by decide) ?_
  replace H := kif H; obtain ⟨g467, H⟩ := H
  replace H := kif H; obtain ⟨g468, H⟩ := H
  replace H := kle H; obtain ⟨h469, q470, H⟩ := H
  refine x_cast (q := 563) dX12_init_562 rfl g467 (fun z => z.elim (by decide) g468) ?_
  refine x_nmH q470 ?_
  replace H := kif H; obtain ⟨g471, H⟩ := H
  replace H := kif H; obtain ⟨g472, H⟩ := H
  replace H := kle H; obtain ⟨h473, q474, H⟩ := H
  refine x_putR (q := 566) dX12_init_563 rfl kl_RX12_75 (Or.inr ⟨rfl, rfl⟩) rfl g472 g471 ?_
  refine x_nmH q474 ?_
  refine x_aload_n (q := 567) dX12_init_566 rfl rfl ?_
  refine x_iconst (q := 568) (v := (3 : Int32)) dX12_init_567 rfl (by decide) ?_
  replace H := kif H; obtain ⟨g475, H⟩ := H
  replace H := kle H; obtain ⟨h476, q477, H⟩ := H
  refine x_newa (q := 570) (kk := 22) dX12_init_568 rfl (Or.inr (Or.inr (Or.inl ⟨rfl, rfl⟩))) kwa_char g475 ?_
  refine x_nmH q477 ?_
  refine x_dup (q := 571) dX12_init_570 rfl rfl ?_
  refine x_iconst (q := 572) (v := (0 : Int32)) dX12_init_571 rfl (by decide) ?_
  refine x_bipush (q := 574) (v := (97 : Int32)) dX12_init_572 rfl (by decide) ?_
  replace H := kif H; obtain ⟨g478, H⟩ := H
  replace H := kif H; obtain ⟨g479, H⟩ := H
  replace H := kle H; obtain ⟨h480, q481, H⟩ := H
  refine x_cast (q := 575) dX12_init_574 rfl g478 (fun z => z.elim (by decide) g479) ?_
  refine x_nmH q481 ?_
  refine x_dup (q := 576) dX12_init_575 rfl rfl ?_
  refine x_iconst (q := 577) (v := (1 : Int32)) dX12_init_576 rfl (by decide) ?_
  refine x_bipush (q := 579) (v := (108 : Int32)) dX12_init_577 rfl (by decide) ?_
  replace H := kif H; obtain ⟨g482, H⟩ := H
  replace H := kif H; obtain ⟨g483, H⟩ := H
  replace H := kle H; obtain ⟨h484, q485, H⟩ := H
  refine x_cast (q := 580) dX12_init_579 rfl g482 (fun z => z.elim (by decide) g483) ?_
  refine x_nmH q485 ?_
  refine x_dup (q := 581) dX12_init_580 rfl rfl ?_
  refine x_iconst (q := 582) (v := (2 : Int32)) dX12_init_581 rfl (by decide) ?_
  refine x_bipush (q := 584) (v := (108 : Int32)) dX12_init_582 rfl (by decide) ?_
  replace H := kif H; obtain ⟨g486, H⟩ := H
  replace H := kif H; obtain ⟨g487, H⟩ := H
  replace H := kle H; obtain ⟨h488, q489, H⟩ := H
  refine x_cast (q := 585) dX12_init_584 rfl g486 (fun z => z.elim (by decide) g487) ?_
  refine x_nmH q489 ?_
  replace H := kif H; obtain ⟨g490, H⟩ := H
  replace H := kif H; obtain ⟨g491, H⟩ := H
  replace H := kle H; obtain ⟨h492, q493, H⟩ := H
  refine x_putR (q := 588) dX12_init_585 rfl kl_RX12_78 (Or.inr ⟨rfl, rfl⟩) rfl g491 g490 ?_
  refine x_nmH q493 ?_
  refine x_aload_n (q := 589) dX12_init_588 rfl rfl ?_
  refine x_iconst (q := 590) (v := (3 : Int32)) dX12_init_589 rfl (by decide) ?_
  replace H := kif H; obtain ⟨g494, H⟩ := H
  replace H := kle H; obtain ⟨h495, q496, H⟩ := H
  refine x_newa (q := 592) (kk := 22) dX12_init_590 rfl (Or.inr (Or.inr (Or.inl ⟨rfl, rfl⟩))) kwa_char g494 ?_
  refine x_nmH q496 ?_
  refine x_dup (q := 593) dX12_init_592 rfl rfl ?_
  refine x_iconst (q := 594) (v := (0 : Int32)) dX12_init_593 rfl (by decide) ?_
  refine x_bipush (q := 596) (v := (109 : Int32)) dX12_init_594 rfl (by decide) ?_
  replace H := kif H; obtain ⟨g497, H⟩ := H
  replace H := kif H; obtain ⟨g498, H⟩ := H
  replace H := kle H; obtain ⟨h499, q500, H⟩ := H
  refine x_cast (q := 597) dX12_init_596 rfl g497 (fun z => z.elim (by decide) g498) ?_
  refine x_nmH q500 ?_
  refine x_dup (q := 598) dX12_init_597 rfl rfl ?_
  refine x_iconst (q := 599) (v := (1 : Int32)) dX12_init_598 rfl (by decide) ?_
  refine x_bipush (q := 601) (v := (105 : Int32)) dX12_init_599 rfl (by decide) ?_
  replace H := kif H; obtain ⟨g501, H⟩ := H
  replace H := kif H; obtain ⟨g502, H⟩ := H
  replace H := kle H; obtain ⟨h503, q504, H⟩ := H
  refine x_cast (q := 602) dX12_init_601 rfl g501 (fun z => z.elim (by decide) g502) ?_
  refine x_nmH q504 ?_
  refine x_dup (q := 603) dX12_init_602 rfl rfl ?_
  refine x_iconst (q := 604) (v := (2 : Int32)) dX12_init_603 rfl (by decide) ?_
  refine x_bipush (q := 606) (v := (110 : Int32)) dX12_init_604 rfl (by decide) ?_
  replace H := kif H; obtain ⟨g505, H⟩ := H
  replace H := kif H; obtain ⟨g506, H⟩ := H
  replace H := kle H; obtain ⟨h507, q508, H⟩ := H
  refine x_cast (q := 607) dX12_init_606 rfl g505 (fun z => z.elim (by decide) g506) ?_
  refine x_nmH q508 ?_
  replace H := kif H; obtain ⟨g509, H⟩ := H
  replace H := kif H; obtain ⟨g510, H⟩ := H
  replace H := kle H; obtain ⟨h511, q512, H⟩ := H
  refine x_putR (q := 610) dX12_init_607 rfl kl_RX12_81 (Or.inr ⟨rfl, rfl⟩) rfl g510 g509 ?_
  refine x_nmH q512 ?_
  refine x_aload_n (q := 611) dX12_init_610 rfl rfl ?_
  refine x_iconst (q := 612) (v := (3 : Int32)) dX12_init_611 rfl (by decide) ?_
  replace H := kif H; obtain ⟨g513, H⟩ := H
  replace H := kle H; obtain ⟨h514, q515, H⟩ := H
  refine x_newa (q := 614) (kk := 22) dX12_init_612 rfl (Or.inr (Or.inr (Or.inl ⟨rfl, rfl⟩))) kwa_char g513 ?_
  refine x_nmH q515 ?_
  refine x_dup (q := 615) dX12_init_614 rfl rfl ?_
  refine x_iconst (q := 616) (v := (0 : Int32)) dX12_init_615 rfl (by decide) ?_
  refine x_bipush (q := 618) (v := (109 : Int32)) dX12_init_616 rfl (by decide) ?_
  replace H := kif H; obtain ⟨g516, H⟩ := H
  replace H := kif H; obtain ⟨g517, H⟩ := H
  replace H := kle H; obtain ⟨h518, q519, H⟩ := H
  refine x_cast (q := 619) dX12_init_618 rfl g516 (fun z => z.elim (by decide) g517) ?_
  refine x_nmH q519 ?_
  refine x_dup (q := 620) dX12_init_619 rfl rfl ?_
  refine x_iconst (q := 621) (v := (1 : Int32)) dX12_init_620 rfl (by decide) ?_
  refine x_bipush (q := 623) (v := (97 : Int32)) dX12_init_621 rfl (by decide) ?_
  replace H := kif H; obtain ⟨g520, H⟩ := H
  replace H := kif H; obtain ⟨g521, H⟩ := H
  replace H := kle H; obtain ⟨h522, q523, H⟩ := H
  refine x_cast (q := 624) dX12_init_623 rfl g520 (fun z => z.elim (by decide) g521) ?_
  refine x_nmH q523 ?_
  refine x_dup (q := 625) dX12_init_624 rfl rfl ?_
  refine x_iconst (q := 626) (v := (2 : Int32)) dX12_init_625 rfl (by decide) ?_
  refine x_bipush (q := 628) (v := (120 : Int32)) dX12_init_626 rfl (by decide) ?_
  replace H := kif H; obtain ⟨g524, H⟩ := H
  replace H := kif H; obtain ⟨g525, H⟩ := H
  replace H := kle H; obtain ⟨h526, q527, H⟩ := H
  refine x_cast (q := 629) dX12_init_628 rfl g524 (fun z => z.elim (by decide) g525) ?_
  refine x_nmH q527 ?_
  replace H := kif H; obtain ⟨g528, H⟩ := H
  replace H := kif H; obtain ⟨g529, H⟩ := H
  replace H := kle H; obtain ⟨h530, q531, H⟩ := H
  refine x_putR (q := 632) dX12_init_629 rfl kl_RX12_84 (Or.inr ⟨rfl, rfl⟩) rfl g529 g528 ?_
  refine x_nmH q531 ?_
  refine x_aload_n (q := 633) dX12_init_632 rfl rfl ?_
  refine x_bipush (q := 635) (v := (6 : Int32)) dX12_init_633 rfl (by decide) ?_
  replace H := kif H; obtain ⟨g532, H⟩ := H
  replace H := kle H; obtain ⟨h533, q534, H⟩ := H
  refine x_newa (q := 637) (kk := 20) dX12_init_635 rfl (Or.inl ⟨rfl, rfl⟩) kwa_int g532 ?_
  refine x_nmH q534 ?_
  replace H := kif H; obtain ⟨g535, H⟩ := H
  replace H := kif H; obtain ⟨g536, H⟩ := H
  replace H := kle H; obtain ⟨h537, q538, H⟩ := H
  refine x_putR (q := 640) dX12_init_637 rfl kl_RX12_87 (Or.inr ⟨rfl, rfl⟩) rfl g536 g535 ?_
  refine x_nmH q538 ?_
  refine x_aload_n (q := 641) dX12_init_640 rfl rfl ?_
  refine x_bipush (q := 643) (v := (36 : Int32)) dX12_init_641 rfl (by decide) ?_
  replace H := kif H; obtain ⟨g539, H⟩ := H
  replace H := kle H; obtain ⟨h540, q541, H⟩ := H
  refine x_newa (q := 645) (kk := 21) dX12_init_643 rfl (Or.inr (Or.inl ⟨rfl, rfl⟩)) kwa_long g539 ?_
  refine x_nmH q541 ?_
  replace H := kif H; obtain ⟨g542, H⟩ := H
  replace H := kif H; obtain ⟨g543, H⟩ := H
  replace H := kle H; obtain ⟨h544, q545, H⟩ := H
  refine x_putR (q := 648) dX12_init_645 rfl kl_RX12_90 (Or.inr ⟨rfl, rfl⟩) rfl g543 g542 ?_
  refine x_nmH q545 ?_
  refine x_aload_n (q := 649) dX12_init_648 rfl rfl ?_
  refine x_bipush (q := 651) (v := (48 : Int32)) dX12_init_649 rfl (by decide) ?_
  replace H := kif H; obtain ⟨g546, H⟩ := H
  replace H := kle H; obtain ⟨h547, q548, H⟩ := H
  refine x_newa (q := 653) (kk := 20) dX12_init_651 rfl (Or.inl ⟨rfl, rfl⟩) kwa_int g546 ?_
  refine x_nmH q548 ?_
  replace H := kif H; obtain ⟨g549, H⟩ := H
  replace H := kif H; obtain ⟨g550, H⟩ := H
  replace H := kle H; obtain ⟨h551, q552, H⟩ := H
  refine x_putR (q := 656) dX12_init_653 rfl kl_RX12_94 (Or.inr ⟨rfl, rfl⟩) rfl g550 g549 ?_
  refine x_nmH q552 ?_
  refine x_aload_n (q := 657) dX12_init_656 rfl rfl ?_
  refine x_bipush (q := 659) (v := (12 : Int32)) dX12_init_657 rfl (by decide) ?_
  replace H := kif H; obtain ⟨g553, H⟩ := H
  replace H := kle H; obtain ⟨h554, q555, H⟩ := H
  refine x_newa (q := 661) (kk := 20) dX12_init_659 rfl (Or.inl ⟨rfl, rfl⟩) kwa_int g553 ?_
  refine x_nmH q555 ?_
  replace H := kif H; obtain ⟨g556, H⟩ := H
  replace H := kif H; obtain ⟨g557, H⟩ := H
  replace H := kle H; obtain ⟨h558, q559, H⟩ := H
  refine x_putR (q := 664) dX12_init_661 rfl kl_RX12_97 (Or.inr ⟨rfl, rfl⟩) rfl g557 g556 ?_
  refine x_nmH q559 ?_
  refine x_aload_n (q := 665) dX12_init_664 rfl rfl ?_
  refine x_bipush (q := 667) (v := (20 : Int32)) dX12_init_665 rfl (by decide) ?_
  replace H := kif H; obtain ⟨g560, H⟩ := H
  replace H := kle H; obtain ⟨h561, q562, H⟩ := H
  refine x_newa (q := 669) (kk := 20) dX12_init_667 rfl (Or.inl ⟨rfl, rfl⟩) kwa_int g560 ?_
  refine x_nmH q562 ?_
  replace H := kif H; obtain ⟨g563, H⟩ := H
  replace H := kif H; obtain ⟨g564, H⟩ := H
  replace H := kle H; obtain ⟨h565, q566, H⟩ := H
  refine x_putR (q := 672) dX12_init_669 rfl kl_RX12_100 (Or.inr ⟨rfl, rfl⟩) rfl g564 g563 ?_
  refine x_nmH q566 ?_
  refine x_aload_n (q := 673) dX12_init_672 rfl rfl ?_
  refine x_iconst (q := 674) (v := (4 : Int32)) dX12_init_673 rfl (by decide) ?_
  replace H := kif H; obtain ⟨g567, H⟩ := H
  replace H := kle H; obtain ⟨h568, q569, H⟩ := H
  refine x_newa (q := 676) (kk := 20) dX12_init_674 rfl (Or.inl ⟨rfl, rfl⟩) kwa_int g567 ?_
  refine x_nmH q569 ?_
  refine x_dup (q := 677) dX12_init_676 rfl rfl ?_
  refine x_iconst (q := 678) (v := (0 : Int32)) dX12_init_677 rfl (by decide) ?_
  refine x_bipush (q := 680) (v := (50 : Int32)) dX12_init_678 rfl (by decide) ?_
  replace H := kif H; obtain ⟨g570, H⟩ := H
  replace H := kifn H; obtain ⟨g571, H⟩ := H
  replace H := kle H; obtain ⟨h572, q573, H⟩ := H
  refine x_iast (q := 681) dX12_init_680 rfl g570 (fun z => z.elim (by decide) g571) ?_
  refine x_nmH q573 ?_
  refine x_dup (q := 682) dX12_init_681 rfl rfl ?_
  refine x_iconst (q := 683) (v := (1 : Int32)) dX12_init_682 rfl (by decide) ?_
  refine x_sipush (q := 686) (v := (1000 : Int32)) dX12_init_683 rfl (by decide) ?_
  replace H := kif H; obtain ⟨g574, H⟩ := H
  replace H := kifn H; obtain ⟨g575, H⟩ := H
  replace H := kle H; obtain ⟨h576, q577, H⟩ := H
  refine x_iast (q := 687) dX12_init_686 rfl g574 (fun z => z.elim (by decide) g575) ?_
  refine x_nmH q577 ?_
  refine x_dup (q := 688) dX12_init_687 rfl rfl ?_
  refine x_iconst (q := 689) (v := (2 : Int32)) dX12_init_688 rfl (by decide) ?_
  refine x_bipush (q := 691) (v := (50 : Int32)) dX12_init_689 rfl (by decide) ?_
  replace H := kif H; obtain ⟨g578, H⟩ := H
  replace H := kifn H; obtain ⟨g579, H⟩ := H
  replace H := kle H; obtain ⟨h580, q581, H⟩ := H
  refine x_iast (q := 692) dX12_init_691 rfl g578 (fun z => z.elim (by decide) g579) ?_
  refine x_nmH q581 ?_
  refine x_dup (q := 693) dX12_init_692 rfl rfl ?_
  refine x_iconst (q := 694) (v := (3 : Int32)) dX12_init_693 rfl (by decide) ?_
  refine x_sipush (q := 697) (v := (1000 : Int32)) dX12_init_694 rfl (by decide) ?_
  replace H := kif H; obtain ⟨g582, H⟩ := H
  replace H := kifn H; obtain ⟨g583, H⟩ := H
  replace H := kle H; obtain ⟨h584, q585, H⟩ := H
  refine x_iast (q := 698) dX12_init_697 rfl g582 (fun z => z.elim (by decide) g583) ?_
  refine x_nmH q585 ?_
  replace H := kif H; obtain ⟨g586, H⟩ := H
  replace H := kif H; obtain ⟨g587, H⟩ := H
  replace H := kle H; obtain ⟨h588, q589, H⟩ := H
  refine x_putR (q := 701) dX12_init_698 rfl kl_RX12_103 (Or.inr ⟨rfl, rfl⟩) rfl g587 g586 ?_
  refine x_nmH q589 ?_
  refine x_aload_n (q := 702) dX12_init_701 rfl rfl ?_
  refine x_iconst (q := 703) (v := (2 : Int32)) dX12_init_702 rfl (by decide) ?_
  replace H := kif H; obtain ⟨g590, H⟩ := H
  replace H := kle H; obtain ⟨h591, q592, H⟩ := H
  refine x_newa (q := 705) (kk := 20) dX12_init_703 rfl (Or.inl ⟨rfl, rfl⟩) kwa_int g590 ?_
  refine x_nmH q592 ?_
  refine x_dup (q := 706) dX12_init_705 rfl rfl ?_
  refine x_iconst (q := 707) (v := (0 : Int32)) dX12_init_706 rfl (by decide) ?_
  refine x_iconst (q := 708) (v := (-1 : Int32)) dX12_init_707 rfl (by decide) ?_
  replace H := kif H; obtain ⟨g593, H⟩ := H
  replace H := kifn H; obtain ⟨g594, H⟩ := H
  replace H := kle H; obtain ⟨h595, q596, H⟩ := H
  refine x_iast (q := 709) dX12_init_708 rfl g593 (fun z => z.elim (by decide) g594) ?_
  refine x_nmH q596 ?_
  refine x_dup (q := 710) dX12_init_709 rfl rfl ?_
  refine x_iconst (q := 711) (v := (1 : Int32)) dX12_init_710 rfl (by decide) ?_
  refine x_iconst (q := 712) (v := (-1 : Int32)) dX12_init_711 rfl (by decide) ?_
  replace H := kif H; obtain ⟨g597, H⟩ := H
  replace H := kifn H; obtain ⟨g598, H⟩ := H
  replace H := kle H; obtain ⟨h599, q600, H⟩ := H
  refine x_iast (q := 713) dX12_init_712 rfl g597 (fun z => z.elim (by decide) g598) ?_
  refine x_nmH q600 ?_
  replace H := kif H; obtain ⟨g601, H⟩ := H
  replace H := kif H; obtain ⟨g602, H⟩ := H
  replace H := kle H; obtain ⟨h603, q604, H⟩ := H
  refine x_putR (q := 716) dX12_init_713 rfl kl_RX12_106 (Or.inr ⟨rfl, rfl⟩) rfl g602 g601 ?_
  refine x_nmH q604 ?_
  refine x_aload_n (q := 717) dX12_init_716 rfl rfl ?_
  refine x_iconst (q := 718) (v := (2 : Int32)) dX12_init_717 rfl (by decide) ?_
  replace H := kif H; obtain ⟨g605, H⟩ := H
  replace H := kle H; obtain ⟨h606, q607, H⟩ := H
  refine x_newa (q := 720) (kk := 20) dX12_init_718 rfl (Or.inl ⟨rfl, rfl⟩) kwa_int g605 ?_
  refine x_nmH q607 ?_
  replace H := kif H; obtain ⟨g608, H⟩ := H
  replace H := kif H; obtain ⟨g609, H⟩ := H
  replace H := kle H; obtain ⟨h610, q611, H⟩ := H
  refine x_putR (q := 723) dX12_init_720 rfl kl_RX12_109 (Or.inr ⟨rfl, rfl⟩) rfl g609 g608 ?_
  refine x_nmH q611 ?_
  refine x_aload_n (q := 724) dX12_init_723 rfl rfl ?_
  refine x_sipush (q := 727) (v := (3200 : Int32)) dX12_init_724 rfl (by decide) ?_
  replace H := kif H; obtain ⟨g612, H⟩ := H
  replace H := kle H; obtain ⟨h613, q614, H⟩ := H
  refine x_newa (q := 729) (kk := 20) dX12_init_727 rfl (Or.inl ⟨rfl, rfl⟩) kwa_int g612 ?_
  refine x_nmH q614 ?_
  replace H := kif H; obtain ⟨g615, H⟩ := H
  replace H := kif H; obtain ⟨g616, H⟩ := H
  replace H := kle H; obtain ⟨h617, q618, H⟩ := H
  refine x_putR (q := 732) dX12_init_729 rfl kl_RX12_112 (Or.inr ⟨rfl, rfl⟩) rfl g616 g615 ?_
  refine x_nmH q618 ?_
  refine x_aload_n (q := 733) dX12_init_732 rfl rfl ?_
  refine x_sipush (q := 736) (v := (185 : Int32)) dX12_init_733 rfl (by decide) ?_
  replace H := kif H; obtain ⟨g619, H⟩ := H
  replace H := kle H; obtain ⟨h620, q621, H⟩ := H
  refine x_newa (q := 738) (kk := 20) dX12_init_736 rfl (Or.inl ⟨rfl, rfl⟩) kwa_int g619 ?_
  refine x_nmH q621 ?_
  replace H := kif H; obtain ⟨g622, H⟩ := H
  replace H := kif H; obtain ⟨g623, H⟩ := H
  replace H := kle H; obtain ⟨h624, q625, H⟩ := H
  refine x_putR (q := 741) dX12_init_738 rfl kl_RX12_115 (Or.inr ⟨rfl, rfl⟩) rfl g623 g622 ?_
  refine x_nmH q625 ?_
  refine x_aload_n (q := 742) dX12_init_741 rfl rfl ?_
  refine x_bipush (q := 744) (v := (24 : Int32)) dX12_init_742 rfl (by decide) ?_
  replace H := kif H; obtain ⟨g626, H⟩ := H
  replace H := kle H; obtain ⟨h627, q628, H⟩ := H
  refine x_newa (q := 746) (kk := 20) dX12_init_744 rfl (Or.inl ⟨rfl, rfl⟩) kwa_int g626 ?_
  refine x_nmH q628 ?_
  replace H := kif H; obtain ⟨g629, H⟩ := H
  replace H := kif H; obtain ⟨g630, H⟩ := H
  replace H := kle H; obtain ⟨h631, q632, H⟩ := H
  refine x_putR (q := 749) dX12_init_746 rfl kl_RX12_118 (Or.inr ⟨rfl, rfl⟩) rfl g630 g629 ?_
  refine x_nmH q632 ?_
  refine x_aload_n (q := 750) dX12_init_749 rfl rfl ?_
  refine x_bipush (q := 752) (v := (72 : Int32)) dX12_init_750 rfl (by decide) ?_
  replace H := kif H; obtain ⟨g633, H⟩ := H
  replace H := kle H; obtain ⟨h634, q635, H⟩ := H
  refine x_newa (q := 754) (kk := 20) dX12_init_752 rfl (Or.inl ⟨rfl, rfl⟩) kwa_int g633 ?_
  refine x_nmH q635 ?_
  replace H := kif H; obtain ⟨g636, H⟩ := H
  replace H := kif H; obtain ⟨g637, H⟩ := H
  replace H := kle H; obtain ⟨h638, q639, H⟩ := H
  refine x_putR (q := 757) dX12_init_754 rfl kl_RX12_121 (Or.inr ⟨rfl, rfl⟩) rfl g637 g636 ?_
  refine x_nmH q639 ?_
  refine x_aload_n (q := 758) dX12_init_757 rfl rfl ?_
  refine x_bipush (q := 760) (v := (36 : Int32)) dX12_init_758 rfl (by decide) ?_
  replace H := kif H; obtain ⟨g640, H⟩ := H
  replace H := kle H; obtain ⟨h641, q642, H⟩ := H
  refine x_newa (q := 762) (kk := 20) dX12_init_760 rfl (Or.inl ⟨rfl, rfl⟩) kwa_int g640 ?_
  refine x_nmH q642 ?_
  replace H := kif H; obtain ⟨g643, H⟩ := H
  replace H := kif H; obtain ⟨g644, H⟩ := H
  replace H := kle H; obtain ⟨h645, q646, H⟩ := H
  refine x_putR (q := 765) dX12_init_762 rfl kl_RX12_124 (Or.inr ⟨rfl, rfl⟩) rfl g644 g643 ?_
  refine x_nmH q646 ?_
  refine x_aload_n (q := 766) dX12_init_765 rfl rfl ?_
  refine x_bipush (q := 768) (v := (6 : Int32)) dX12_init_766 rfl (by decide) ?_
  replace H := kif H; obtain ⟨g647, H⟩ := H
  replace H := kle H; obtain ⟨h648, q649, H⟩ := H
  refine x_newa (q := 770) (kk := 21) dX12_init_768 rfl (Or.inr (Or.inl ⟨rfl, rfl⟩)) kwa_long g647 ?_
  refine x_nmH q649 ?_
  replace H := kif H; obtain ⟨g650, H⟩ := H
  replace H := kif H; obtain ⟨g651, H⟩ := H
  replace H := kle H; obtain ⟨h652, q653, H⟩ := H
  refine x_putR (q := 773) dX12_init_770 rfl kl_RX12_127 (Or.inr ⟨rfl, rfl⟩) rfl g651 g650 ?_
  refine x_nmH q653 ?_
  refine x_aload_n (q := 774) dX12_init_773 rfl rfl ?_
  refine x_bipush (q := 776) (v := (6 : Int32)) dX12_init_774 rfl (by decide) ?_
  replace H := kif H; obtain ⟨g654, H⟩ := H
  replace H := kle H; obtain ⟨h655, q656, H⟩ := H
  refine x_newa (q := 778) (kk := 20) dX12_init_776 rfl (Or.inl ⟨rfl, rfl⟩) kwa_int g654 ?_
  refine x_nmH q656 ?_
  replace H := kif H; obtain ⟨g657, H⟩ := H
  replace H := kif H; obtain ⟨g658, H⟩ := H
  replace H := kle H; obtain ⟨h659, q660, H⟩ := H
  refine x_putR (q := 781) dX12_init_778 rfl kl_RX12_130 (Or.inr ⟨rfl, rfl⟩) rfl g658 g657 ?_
  refine x_nmH q660 ?_
  refine x_aload_n (q := 782) dX12_init_781 rfl rfl ?_
  refine x_bipush (q := 784) (v := (72 : Int32)) dX12_init_782 rfl (by decide) ?_
  replace H := kif H; obtain ⟨g661, H⟩ := H
  replace H := kle H; obtain ⟨h662, q663, H⟩ := H
  refine x_newa (q := 786) (kk := 21) dX12_init_784 rfl (Or.inr (Or.inl ⟨rfl, rfl⟩)) kwa_long g661 ?_
  refine x_nmH q663 ?_
  replace H := kif H; obtain ⟨g664, H⟩ := H
  replace H := kif H; obtain ⟨g665, H⟩ := H
  replace H := kle H; obtain ⟨h666, q667, H⟩ := H
  refine x_putR (q := 789) dX12_init_786 rfl kl_RX12_133 (Or.inr ⟨rfl, rfl⟩) rfl g665 g664 ?_
  refine x_nmH q667 ?_
  refine x_aload_n (q := 790) dX12_init_789 rfl rfl ?_
  refine x_bipush (q := 792) (v := (72 : Int32)) dX12_init_790 rfl (by decide) ?_
  replace H := kif H; obtain ⟨g668, H⟩ := H
  replace H := kle H; obtain ⟨h669, q670, H⟩ := H
  refine x_newa (q := 794) (kk := 20) dX12_init_792 rfl (Or.inl ⟨rfl, rfl⟩) kwa_int g668 ?_
  refine x_nmH q670 ?_
  replace H := kif H; obtain ⟨g671, H⟩ := H
  replace H := kif H; obtain ⟨g672, H⟩ := H
  replace H := kle H; obtain ⟨h673, q674, H⟩ := H
  refine x_putR (q := 797) dX12_init_794 rfl kl_RX12_136 (Or.inr ⟨rfl, rfl⟩) rfl g672 g671 ?_
  refine x_nmH q674 ?_
  refine x_aload_n (q := 798) dX12_init_797 rfl rfl ?_
  refine x_sipush (q := 801) (v := (8192 : Int32)) dX12_init_798 rfl (by decide) ?_
  replace H := kif H; obtain ⟨g675, H⟩ := H
  replace H := kle H; obtain ⟨h676, q677, H⟩ := H
  refine x_newa (q := 803) (kk := 21) dX12_init_801 rfl (Or.inr (Or.inl ⟨rfl, rfl⟩)) kwa_long g675 ?_
  refine x_nmH q677 ?_
  replace H := kif H; obtain ⟨g678, H⟩ := H
  replace H := kif H; obtain ⟨g679, H⟩ := H
  replace H := kle H; obtain ⟨h680, q681, H⟩ := H
  refine x_putR (q := 806) dX12_init_803 rfl kl_RX12_139 (Or.inr ⟨rfl, rfl⟩) rfl g679 g678 ?_
  refine x_nmH q681 ?_
  refine x_aload_n (q := 807) dX12_init_806 rfl rfl ?_
  refine x_bipush (q := 809) (v := (64 : Int32)) dX12_init_807 rfl (by decide) ?_
  replace H := kif H; obtain ⟨g682, H⟩ := H
  replace H := kle H; obtain ⟨h683, q684, H⟩ := H
  refine x_newa (q := 811) (kk := 20) dX12_init_809 rfl (Or.inl ⟨rfl, rfl⟩) kwa_int g682 ?_
  refine x_nmH q684 ?_
  replace H := kif H; obtain ⟨g685, H⟩ := H
  replace H := kif H; obtain ⟨g686, H⟩ := H
  replace H := kle H; obtain ⟨h687, q688, H⟩ := H
  refine x_putR (q := 814) dX12_init_811 rfl kl_RX12_142 (Or.inr ⟨rfl, rfl⟩) rfl g686 g685 ?_
  refine x_nmH q688 ?_
  refine x_aload_n (q := 815) dX12_init_814 rfl rfl ?_
  refine x_sipush (q := 818) (v := (3700 : Int32)) dX12_init_815 rfl (by decide) ?_
  replace H := kif H; obtain ⟨g689, H⟩ := H
  replace H := kle H; obtain ⟨h690, q691, H⟩ := H
  refine x_newa (q := 820) (kk := 20) dX12_init_818 rfl (Or.inl ⟨rfl, rfl⟩) kwa_int g689 ?_
  refine x_nmH q691 ?_
  replace H := kif H; obtain ⟨g692, H⟩ := H
  replace H := kif H; obtain ⟨g693, H⟩ := H
  replace H := kle H; obtain ⟨h694, q695, H⟩ := H
  refine x_putR (q := 823) dX12_init_820 rfl kl_RX12_145 (Or.inr ⟨rfl, rfl⟩) rfl g693 g692 ?_
  refine x_nmH q695 ?_
  refine x_aload_n (q := 824) dX12_init_823 rfl rfl ?_
  refine x_lconst (q := 825) (v := (1 : Int64)) dX12_init_824 rfl (by decide) ?_
  replace H := kif H; obtain ⟨g696, H⟩ := H
  replace H := kle H; obtain ⟨h697, q698, H⟩ := H
  refine x_putL (q := 828) dX12_init_825 rfl kl_RX12_148 (Or.inl rfl) rfl g696 ?_
  refine x_nmH q698 ?_
  refine x_aload_n (q := 829) dX12_init_828 rfl rfl ?_
  refine x_iconst (q := 830) (v := (5 : Int32)) dX12_init_829 rfl (by decide) ?_
  replace H := kif H; obtain ⟨g699, H⟩ := H
  replace H := kle H; obtain ⟨h700, q701, H⟩ := H
  refine x_newa (q := 832) (kk := 22) dX12_init_830 rfl (Or.inr (Or.inr (Or.inl ⟨rfl, rfl⟩))) kwa_char g699 ?_
  refine x_nmH q701 ?_
  refine x_dup (q := 833) dX12_init_832 rfl rfl ?_
  refine x_iconst (q := 834) (v := (0 : Int32)) dX12_init_833 rfl (by decide) ?_
  refine x_bipush (q := 836) (v := (102 : Int32)) dX12_init_834 rfl (by decide) ?_
  replace H := kif H; obtain ⟨g702, H⟩ := H
  replace H := kif H; obtain ⟨g703, H⟩ := H
  replace H := kle H; obtain ⟨h704, q705, H⟩ := H
  refine x_cast (q := 837) dX12_init_836 rfl g702 (fun z => z.elim (by decide) g703) ?_
  refine x_nmH q705 ?_
  refine x_dup (q := 838) dX12_init_837 rfl rfl ?_
  refine x_iconst (q := 839) (v := (1 : Int32)) dX12_init_838 rfl (by decide) ?_
  refine x_bipush (q := 841) (v := (105 : Int32)) dX12_init_839 rfl (by decide) ?_
  replace H := kif H; obtain ⟨g706, H⟩ := H
  replace H := kif H; obtain ⟨g707, H⟩ := H
  replace H := kle H; obtain ⟨h708, q709, H⟩ := H
  refine x_cast (q := 842) dX12_init_841 rfl g706 (fun z => z.elim (by decide) g707) ?_
  refine x_nmH q709 ?_
  refine x_dup (q := 843) dX12_init_842 rfl rfl ?_
  refine x_iconst (q := 844) (v := (2 : Int32)) dX12_init_843 rfl (by decide) ?_
  refine x_bipush (q := 846) (v := (114 : Int32)) dX12_init_844 rfl (by decide) ?_
  replace H := kif H; obtain ⟨g710, H⟩ := H
  replace H := kif H; obtain ⟨g711, H⟩ := H
  replace H := kle H; obtain ⟨h712, q713, H⟩ := H
  refine x_cast (q := 847) dX12_init_846 rfl g710 (fun z => z.elim (by decide) g711) ?_
  refine x_nmH q713 ?_
  refine x_dup (q := 848) dX12_init_847 rfl rfl ?_
  refine x_iconst (q := 849) (v := (3 : Int32)) dX12_init_848 rfl (by decide) ?_
  refine x_bipush (q := 851) (v := (115 : Int32)) dX12_init_849 rfl (by decide) ?_
  replace H := kif H; obtain ⟨g714, H⟩ := H
  replace H := kif H; obtain ⟨g715, H⟩ := H
  replace H := kle H; obtain ⟨h716, q717, H⟩ := H
  refine x_cast (q := 852) dX12_init_851 rfl g714 (fun z => z.elim (by decide) g715) ?_
  refine x_nmH q717 ?_
  refine x_dup (q := 853) dX12_init_852 rfl rfl ?_
  refine x_iconst (q := 854) (v := (4 : Int32)) dX12_init_853 rfl (by decide) ?_
  refine x_bipush (q := 856) (v := (116 : Int32)) dX12_init_854 rfl (by decide) ?_
  replace H := kif H; obtain ⟨g718, H⟩ := H
  replace H := kif H; obtain ⟨g719, H⟩ := H
  replace H := kle H; obtain ⟨h720, q721, H⟩ := H
  refine x_cast (q := 857) dX12_init_856 rfl g718 (fun z => z.elim (by decide) g719) ?_
  refine x_nmH q721 ?_
  replace H := kif H; obtain ⟨g722, H⟩ := H
  replace H := kif H; obtain ⟨g723, H⟩ := H
  replace H := kle H; obtain ⟨h724, q725, H⟩ := H
  refine x_putR (q := 860) dX12_init_857 rfl kl_RX12_152 (Or.inr ⟨rfl, rfl⟩) rfl g723 g722 ?_
  refine x_nmH q725 ?_
  refine x_aload_n (q := 861) dX12_init_860 rfl rfl ?_
  refine x_iconst (q := 862) (v := (4 : Int32)) dX12_init_861 rfl (by decide) ?_
  replace H := kif H; obtain ⟨g726, H⟩ := H
  replace H := kle H; obtain ⟨h727, q728, H⟩ := H
  refine x_newa (q := 864) (kk := 22) dX12_init_862 rfl (Or.inr (Or.inr (Or.inl ⟨rfl, rfl⟩))) kwa_char g726 ?_
  refine x_nmH q728 ?_
  refine x_dup (q := 865) dX12_init_864 rfl rfl ?_
  refine x_iconst (q := 866) (v := (0 : Int32)) dX12_init_865 rfl (by decide) ?_
  refine x_bipush (q := 868) (v := (108 : Int32)) dX12_init_866 rfl (by decide) ?_
  replace H := kif H; obtain ⟨g729, H⟩ := H
  replace H := kif H; obtain ⟨g730, H⟩ := H
  replace H := kle H; obtain ⟨h731, q732, H⟩ := H
  refine x_cast (q := 869) dX12_init_868 rfl g729 (fun z => z.elim (by decide) g730) ?_
  refine x_nmH q732 ?_
  refine x_dup (q := 870) dX12_init_869 rfl rfl ?_
  refine x_iconst (q := 871) (v := (1 : Int32)) dX12_init_870 rfl (by decide) ?_
  refine x_bipush (q := 873) (v := (97 : Int32)) dX12_init_871 rfl (by decide) ?_
  replace H := kif H; obtain ⟨g733, H⟩ := H
  replace H := kif H; obtain ⟨g734, H⟩ := H
  replace H := kle H; obtain ⟨h735, q736, H⟩ := H
  refine x_cast (q := 874) dX12_init_873 rfl g733 (fun z => z.elim (by decide) g734) ?_
  refine x_nmH q736 ?_
  refine x_dup (q := 875) dX12_init_874 rfl rfl ?_
  refine x_iconst (q := 876) (v := (2 : Int32)) dX12_init_875 rfl (by decide) ?_
  refine x_bipush (q := 878) (v := (115 : Int32)) dX12_init_876 rfl (by decide) ?_
  replace H := kif H; obtain ⟨g737, H⟩ := H
  replace H := kif H; obtain ⟨g738, H⟩ := H
  replace H := kle H; obtain ⟨h739, q740, H⟩ := H
  refine x_cast (q := 879) dX12_init_878 rfl g737 (fun z => z.elim (by decide) g738) ?_
  refine x_nmH q740 ?_
  refine x_dup (q := 880) dX12_init_879 rfl rfl ?_
  refine x_iconst (q := 881) (v := (3 : Int32)) dX12_init_880 rfl (by decide) ?_
  refine x_bipush (q := 883) (v := (116 : Int32)) dX12_init_881 rfl (by decide) ?_
  replace H := kif H; obtain ⟨g741, H⟩ := H
  replace H := kif H; obtain ⟨g742, H⟩ := H
  replace H := kle H; obtain ⟨h743, q744, H⟩ := H
  refine x_cast (q := 884) dX12_init_883 rfl g741 (fun z => z.elim (by decide) g742) ?_
  refine x_nmH q744 ?_
  replace H := kif H; obtain ⟨g745, H⟩ := H
  replace H := kif H; obtain ⟨g746, H⟩ := H
  replace H := kle H; obtain ⟨h747, q748, H⟩ := H
  refine x_putR (q := 887) dX12_init_884 rfl kl_RX12_155 (Or.inr ⟨rfl, rfl⟩) rfl g746 g745 ?_
  refine x_nmH q748 ?_
  refine x_aload_n (q := 888) dX12_init_887 rfl rfl ?_
  refine x_iconst (q := 889) (v := (5 : Int32)) dX12_init_888 rfl (by decide) ?_
  replace H := kif H; obtain ⟨g749, H⟩ := H
  replace H := kle H; obtain ⟨h750, q751, H⟩ := H
  refine x_newa (q := 891) (kk := 22) dX12_init_889 rfl (Or.inr (Or.inr (Or.inl ⟨rfl, rfl⟩))) kwa_char g749 ?_
  refine x_nmH q751 ?_
  refine x_dup (q := 892) dX12_init_891 rfl rfl ?_
  refine x_iconst (q := 893) (v := (0 : Int32)) dX12_init_892 rfl (by decide) ?_
  refine x_bipush (q := 895) (v := (111 : Int32)) dX12_init_893 rfl (by decide) ?_
  replace H := kif H; obtain ⟨g752, H⟩ := H
  replace H := kif H; obtain ⟨g753, H⟩ := H
  replace H := kle H; obtain ⟨h754, q755, H⟩ := H
  refine x_cast (q := 896) dX12_init_895 rfl g752 (fun z => z.elim (by decide) g753) ?_
  refine x_nmH q755 ?_
  refine x_dup (q := 897) dX12_init_896 rfl rfl ?_
  refine x_iconst (q := 898) (v := (1 : Int32)) dX12_init_897 rfl (by decide) ?_
  refine x_bipush (q := 900) (v := (102 : Int32)) dX12_init_898 rfl (by decide) ?_
  replace H := kif H; obtain ⟨g756, H⟩ := H
  replace H := kif H; obtain ⟨g757, H⟩ := H
  replace H := kle H; obtain ⟨h758, q759, H⟩ := H
  refine x_cast (q := 901) dX12_init_900 rfl g756 (fun z => z.elim (by decide) g757) ?_
  refine x_nmH q759 ?_
  refine x_dup (q := 902) dX12_init_901 rfl rfl ?_
  refine x_iconst (q := 903) (v := (2 : Int32)) dX12_init_902 rfl (by decide) ?_
  refine x_bipush (q := 905) (v := (116 : Int32)) dX12_init_903 rfl (by decide) ?_
  replace H := kif H; obtain ⟨g760, H⟩ := H
  replace H := kif H; obtain ⟨g761, H⟩ := H
  replace H := kle H; obtain ⟨h762, q763, H⟩ := H
  refine x_cast (q := 906) dX12_init_905 rfl g760 (fun z => z.elim (by decide) g761) ?_
  refine x_nmH q763 ?_
  refine x_dup (q := 907) dX12_init_906 rfl rfl ?_
  refine x_iconst (q := 908) (v := (3 : Int32)) dX12_init_907 rfl (by decide) ?_
  refine x_bipush (q := 910) (v := (101 : Int32)) dX12_init_908 rfl (by decide) ?_
  replace H := kif H; obtain ⟨g764, H⟩ := H
  replace H := kif H; obtain ⟨g765, H⟩ := H
  replace H := kle H; obtain ⟨h766, q767, H⟩ := H
  refine x_cast (q := 911) dX12_init_910 rfl g764 (fun z => z.elim (by decide) g765) ?_
  refine x_nmH q767 ?_
  refine x_dup (q := 912) dX12_init_911 rfl rfl ?_
  refine x_iconst (q := 913) (v := (4 : Int32)) dX12_init_912 rfl (by decide) ?_
  refine x_bipush (q := 915) (v := (110 : Int32)) dX12_init_913 rfl (by decide) ?_
  replace H := kif H; obtain ⟨g768, H⟩ := H
  replace H := kif H; obtain ⟨g769, H⟩ := H
  replace H := kle H; obtain ⟨h770, q771, H⟩ := H
  refine x_cast (q := 916) dX12_init_915 rfl g768 (fun z => z.elim (by decide) g769) ?_
  refine x_nmH q771 ?_
  replace H := kif H; obtain ⟨g772, H⟩ := H
  replace H := kif H; obtain ⟨g773, H⟩ := H
  replace H := kle H; obtain ⟨h774, q775, H⟩ := H
  refine x_putR (q := 919) dX12_init_916 rfl kl_RX12_158 (Or.inr ⟨rfl, rfl⟩) rfl g773 g772 ?_
  refine x_nmH q775 ?_
  refine x_aload_n (q := 920) dX12_init_919 rfl rfl ?_
  refine x_iconst (q := 921) (v := (5 : Int32)) dX12_init_920 rfl (by decide) ?_
  replace H := kif H; obtain ⟨g776, H⟩ := H
  replace H := kle H; obtain ⟨h777, q778, H⟩ := H
  refine x_newa (q := 923) (kk := 22) dX12_init_921 rfl (Or.inr (Or.inr (Or.inl ⟨rfl, rfl⟩))) kwa_char g776 ?_
  refine x_nmH q778 ?_
  refine x_dup (q := 924) dX12_init_923 rfl rfl ?_
  refine x_iconst (q := 925) (v := (0 : Int32)) dX12_init_924 rfl (by decide) ?_
  refine x_bipush (q := 927) (v := (116 : Int32)) dX12_init_925 rfl (by decide) ?_
  replace H := kif H; obtain ⟨g779, H⟩ := H
  replace H := kif H; obtain ⟨g780, H⟩ := H
  replace H := kle H; obtain ⟨h781, q782, H⟩ := H
  refine x_cast (q := 928) dX12_init_927 rfl g779 (fun z => z.elim (by decide) g780) ?_
  refine x_nmH q782 ?_
  refine x_dup (q := 929) dX12_init_928 rfl rfl ?_
  refine x_iconst (q := 930) (v := (1 : Int32)) dX12_init_929 rfl (by decide) ?_
  refine x_bipush (q := 932) (v := (111 : Int32)) dX12_init_930 rfl (by decide) ?_
  replace H := kif H; obtain ⟨g783, H⟩ := H
  replace H := kif H; obtain ⟨g784, H⟩ := H
  replace H := kle H; obtain ⟨h785, q786, H⟩ := H
  refine x_cast (q := 933) dX12_init_932 rfl g783 (fun z => z.elim (by decide) g784) ?_
  refine x_nmH q786 ?_
  refine x_dup (q := 934) dX12_init_933 rfl rfl ?_
  refine x_iconst (q := 935) (v := (2 : Int32)) dX12_init_934 rfl (by decide) ?_
  refine x_bipush (q := 937) (v := (116 : Int32)) dX12_init_935 rfl (by decide) ?_
  replace H := kif H; obtain ⟨g787, H⟩ := H
  replace H := kif H; obtain ⟨g788, H⟩ := H
  replace H := kle H; obtain ⟨h789, q790, H⟩ := H
  refine x_cast (q := 938) dX12_init_937 rfl g787 (fun z => z.elim (by decide) g788) ?_
  refine x_nmH q790 ?_
  refine x_dup (q := 939) dX12_init_938 rfl rfl ?_
  refine x_iconst (q := 940) (v := (3 : Int32)) dX12_init_939 rfl (by decide) ?_
  refine x_bipush (q := 942) (v := (97 : Int32)) dX12_init_940 rfl (by decide) ?_
  replace H := kif H; obtain ⟨g791, H⟩ := H
  replace H := kif H; obtain ⟨g792, H⟩ := H
  replace H := kle H; obtain ⟨h793, q794, H⟩ := H
  refine x_cast (q := 943) dX12_init_942 rfl g791 (fun z => z.elim (by decide) g792) ?_
  refine x_nmH q794 ?_
  refine x_dup (q := 944) dX12_init_943 rfl rfl ?_
  refine x_iconst (q := 945) (v := (4 : Int32)) dX12_init_944 rfl (by decide) ?_
  refine x_bipush (q := 947) (v := (108 : Int32)) dX12_init_945 rfl (by decide) ?_
  replace H := kif H; obtain ⟨g795, H⟩ := H
  replace H := kif H; obtain ⟨g796, H⟩ := H
  replace H := kle H; obtain ⟨h797, q798, H⟩ := H
  refine x_cast (q := 948) dX12_init_947 rfl g795 (fun z => z.elim (by decide) g796) ?_
  refine x_nmH q798 ?_
  replace H := kif H; obtain ⟨g799, H⟩ := H
  replace H := kif H; obtain ⟨g800, H⟩ := H
  replace H := kle H; obtain ⟨h801, q802, H⟩ := H
  refine x_putR (q := 951) dX12_init_948 rfl kl_RX12_161 (Or.inr ⟨rfl, rfl⟩) rfl g800 g799 ?_
  refine x_nmH q802 ?_
  refine x_aload_n (q := 952) dX12_init_951 rfl rfl ?_
  refine x_iconst (q := 953) (v := (4 : Int32)) dX12_init_952 rfl (by decide) ?_
  replace H := kif H; obtain ⟨g803, H⟩ := H
  replace H := kle H; obtain ⟨h804, q805, H⟩ := H
  refine x_newa (q := 955) (kk := 22) dX12_init_953 rfl (Or.inr (Or.inr (Or.inl ⟨rfl, rfl⟩))) kwa_char g803 ?_
  refine x_nmH q805 ?_
  refine x_dup (q := 956) dX12_init_955 rfl rfl ?_
  refine x_iconst (q := 957) (v := (0 : Int32)) dX12_init_956 rfl (by decide) ?_
  refine x_bipush (q := 959) (v := (109 : Int32)) dX12_init_957 rfl (by decide) ?_
  replace H := kif H; obtain ⟨g806, H⟩ := H
  replace H := kif H; obtain ⟨g807, H⟩ := H
  replace H := kle H; obtain ⟨h808, q809, H⟩ := H
  refine x_cast (q := 960) dX12_init_959 rfl g806 (fun z => z.elim (by decide) g807) ?_
  refine x_nmH q809 ?_
  refine x_dup (q := 961) dX12_init_960 rfl rfl ?_
  refine x_iconst (q := 962) (v := (1 : Int32)) dX12_init_961 rfl (by decide) ?_
  refine x_bipush (q := 964) (v := (111 : Int32)) dX12_init_962 rfl (by decide) ?_
  replace H := kif H; obtain ⟨g810, H⟩ := H
  replace H := kif H; obtain ⟨g811, H⟩ := H
  replace H := kle H; obtain ⟨h812, q813, H⟩ := H
  refine x_cast (q := 965) dX12_init_964 rfl g810 (fun z => z.elim (by decide) g811) ?_
  refine x_nmH q813 ?_
  refine x_dup (q := 966) dX12_init_965 rfl rfl ?_
  refine x_iconst (q := 967) (v := (2 : Int32)) dX12_init_966 rfl (by decide) ?_
  refine x_bipush (q := 969) (v := (115 : Int32)) dX12_init_967 rfl (by decide) ?_
  replace H := kif H; obtain ⟨g814, H⟩ := H
  replace H := kif H; obtain ⟨g815, H⟩ := H
  replace H := kle H; obtain ⟨h816, q817, H⟩ := H
  refine x_cast (q := 970) dX12_init_969 rfl g814 (fun z => z.elim (by decide) g815) ?_
  refine x_nmH q817 ?_
  refine x_dup (q := 971) dX12_init_970 rfl rfl ?_
  refine x_iconst (q := 972) (v := (3 : Int32)) dX12_init_971 rfl (by decide) ?_
  refine x_bipush (q := 974) (v := (116 : Int32)) dX12_init_972 rfl (by decide) ?_
  replace H := kif H; obtain ⟨g818, H⟩ := H
  replace H := kif H; obtain ⟨g819, H⟩ := H
  replace H := kle H; obtain ⟨h820, q821, H⟩ := H
  refine x_cast (q := 975) dX12_init_974 rfl g818 (fun z => z.elim (by decide) g819) ?_
  refine x_nmH q821 ?_
  replace H := kif H; obtain ⟨g822, H⟩ := H
  replace H := kif H; obtain ⟨g823, H⟩ := H
  replace H := kle H; obtain ⟨h824, q825, H⟩ := H
  refine x_putR (q := 978) dX12_init_975 rfl kl_RX12_164 (Or.inr ⟨rfl, rfl⟩) rfl g823 g822 ?_
  refine x_nmH q825 ?_
  refine x_aload_n (q := 979) dX12_init_978 rfl rfl ?_
  refine x_iconst (q := 980) (v := (5 : Int32)) dX12_init_979 rfl (by decide) ?_
  replace H := kif H; obtain ⟨g826, H⟩ := H
  replace H := kle H; obtain ⟨h827, q828, H⟩ := H
  refine x_newa (q := 982) (kk := 22) dX12_init_980 rfl (Or.inr (Or.inr (Or.inl ⟨rfl, rfl⟩))) kwa_char g826 ?_
  refine x_nmH q828 ?_
  refine x_dup (q := 983) dX12_init_982 rfl rfl ?_
  refine x_iconst (q := 984) (v := (0 : Int32)) dX12_init_983 rfl (by decide) ?_
  refine x_bipush (q := 986) (v := (108 : Int32)) dX12_init_984 rfl (by decide) ?_
  replace H := kif H; obtain ⟨g829, H⟩ := H
  replace H := kif H; obtain ⟨g830, H⟩ := H
  replace H := kle H; obtain ⟨h831, q832, H⟩ := H
  refine x_cast (q := 987) dX12_init_986 rfl g829 (fun z => z.elim (by decide) g830) ?_
  refine x_nmH q832 ?_
  refine x_dup (q := 988) dX12_init_987 rfl rfl ?_
  refine x_iconst (q := 989) (v := (1 : Int32)) dX12_init_988 rfl (by decide) ?_
  refine x_bipush (q := 991) (v := (101 : Int32)) dX12_init_989 rfl (by decide) ?_
  replace H := kif H; obtain ⟨g833, H⟩ := H
  replace H := kif H; obtain ⟨g834, H⟩ := H
  replace H := kle H; obtain ⟨h835, q836, H⟩ := H
  refine x_cast (q := 992) dX12_init_991 rfl g833 (fun z => z.elim (by decide) g834) ?_
  refine x_nmH q836 ?_
  refine x_dup (q := 993) dX12_init_992 rfl rfl ?_
  refine x_iconst (q := 994) (v := (2 : Int32)) dX12_init_993 rfl (by decide) ?_
  refine x_bipush (q := 996) (v := (97 : Int32)) dX12_init_994 rfl (by decide) ?_
  replace H := kif H; obtain ⟨g837, H⟩ := H
  replace H := kif H; obtain ⟨g838, H⟩ := H
  replace H := kle H; obtain ⟨h839, q840, H⟩ := H
  refine x_cast (q := 997) dX12_init_996 rfl g837 (fun z => z.elim (by decide) g838) ?_
  refine x_nmH q840 ?_
  refine x_dup (q := 998) dX12_init_997 rfl rfl ?_
  refine x_iconst (q := 999) (v := (3 : Int32)) dX12_init_998 rfl (by decide) ?_
  refine x_bipush (q := 1001) (v := (115 : Int32)) dX12_init_999 rfl (by decide) ?_
  replace H := kif H; obtain ⟨g841, H⟩ := H
  replace H := kif H; obtain ⟨g842, H⟩ := H
  replace H := kle H; obtain ⟨h843, q844, H⟩ := H
  refine x_cast (q := 1002) dX12_init_1001 rfl g841 (fun z => z.elim (by decide) g842) ?_
  refine x_nmH q844 ?_
  refine x_dup (q := 1003) dX12_init_1002 rfl rfl ?_
  refine x_iconst (q := 1004) (v := (4 : Int32)) dX12_init_1003 rfl (by decide) ?_
  refine x_bipush (q := 1006) (v := (116 : Int32)) dX12_init_1004 rfl (by decide) ?_
  replace H := kif H; obtain ⟨g845, H⟩ := H
  replace H := kif H; obtain ⟨g846, H⟩ := H
  replace H := kle H; obtain ⟨h847, q848, H⟩ := H
  refine x_cast (q := 1007) dX12_init_1006 rfl g845 (fun z => z.elim (by decide) g846) ?_
  refine x_nmH q848 ?_
  replace H := kif H; obtain ⟨g849, H⟩ := H
  replace H := kif H; obtain ⟨g850, H⟩ := H
  replace H := kle H; obtain ⟨h851, q852, H⟩ := H
  refine x_putR (q := 1010) dX12_init_1007 rfl kl_RX12_167 (Or.inr ⟨rfl, rfl⟩) rfl g850 g849 ?_
  refine x_nmH q852 ?_
  refine x_aload_n (q := 1011) dX12_init_1010 rfl rfl ?_
  refine x_iconst (q := 1012) (v := (3 : Int32)) dX12_init_1011 rfl (by decide) ?_
  replace H := kif H; obtain ⟨g853, H⟩ := H
  replace H := kle H; obtain ⟨h854, q855, H⟩ := H
  refine x_newa (q := 1014) (kk := 22) dX12_init_1012 rfl (Or.inr (Or.inr (Or.inl ⟨rfl, rfl⟩))) kwa_char g853 ?_
  refine x_nmH q855 ?_
  refine x_dup (q := 1015) dX12_init_1014 rfl rfl ?_
  refine x_iconst (q := 1016) (v := (0 : Int32)) dX12_init_1015 rfl (by decide) ?_
  refine x_bipush (q := 1018) (v := (110 : Int32)) dX12_init_1016 rfl (by decide) ?_
  replace H := kif H; obtain ⟨g856, H⟩ := H
  replace H := kif H; obtain ⟨g857, H⟩ := H
  replace H := kle H; obtain ⟨h858, q859, H⟩ := H
  refine x_cast (q := 1019) dX12_init_1018 rfl g856 (fun z => z.elim (by decide) g857) ?_
  refine x_nmH q859 ?_
  refine x_dup (q := 1020) dX12_init_1019 rfl rfl ?_
  refine x_iconst (q := 1021) (v := (1 : Int32)) dX12_init_1020 rfl (by decide) ?_
  refine x_bipush (q := 1023) (v := (111 : Int32)) dX12_init_1021 rfl (by decide) ?_
  replace H := kif H; obtain ⟨g860, H⟩ := H
  replace H := kif H; obtain ⟨g861, H⟩ := H
  replace H := kle H; obtain ⟨h862, q863, H⟩ := H
  refine x_cast (q := 1024) dX12_init_1023 rfl g860 (fun z => z.elim (by decide) g861) ?_
  refine x_nmH q863 ?_
  refine x_dup (q := 1025) dX12_init_1024 rfl rfl ?_
  refine x_iconst (q := 1026) (v := (2 : Int32)) dX12_init_1025 rfl (by decide) ?_
  refine x_bipush (q := 1028) (v := (116 : Int32)) dX12_init_1026 rfl (by decide) ?_
  replace H := kif H; obtain ⟨g864, H⟩ := H
  replace H := kif H; obtain ⟨g865, H⟩ := H
  replace H := kle H; obtain ⟨h866, q867, H⟩ := H
  refine x_cast (q := 1029) dX12_init_1028 rfl g864 (fun z => z.elim (by decide) g865) ?_
  refine x_nmH q867 ?_
  replace H := kif H; obtain ⟨g868, H⟩ := H
  replace H := kif H; obtain ⟨g869, H⟩ := H
  replace H := kle H; obtain ⟨h870, q871, H⟩ := H
  refine x_putR (q := 1032) dX12_init_1029 rfl kl_RX12_170 (Or.inr ⟨rfl, rfl⟩) rfl g869 g868 ?_
  refine x_nmH q871 ?_
  refine x_aload_n (q := 1033) dX12_init_1032 rfl rfl ?_
  refine x_iconst (q := 1034) (v := (3 : Int32)) dX12_init_1033 rfl (by decide) ?_
  replace H := kif H; obtain ⟨g872, H⟩ := H
  replace H := kle H; obtain ⟨h873, q874, H⟩ := H
  refine x_newa (q := 1036) (kk := 22) dX12_init_1034 rfl (Or.inr (Or.inr (Or.inl ⟨rfl, rfl⟩))) kwa_char g872 ?_
  refine x_nmH q874 ?_
  refine x_dup (q := 1037) dX12_init_1036 rfl rfl ?_
  refine x_iconst (q := 1038) (v := (0 : Int32)) dX12_init_1037 rfl (by decide) ?_
  refine x_bipush (q := 1040) (v := (97 : Int32)) dX12_init_1038 rfl (by decide) ?_
  replace H := kif H; obtain ⟨g875, H⟩ := H
  replace H := kif H; obtain ⟨g876, H⟩ := H
  replace H := kle H; obtain ⟨h877, q878, H⟩ := H
  refine x_cast (q := 1041) dX12_init_1040 rfl g875 (fun z => z.elim (by decide) g876) ?_
  refine x_nmH q878 ?_
  refine x_dup (q := 1042) dX12_init_1041 rfl rfl ?_
  refine x_iconst (q := 1043) (v := (1 : Int32)) dX12_init_1042 rfl (by decide) ?_
  refine x_bipush (q := 1045) (v := (110 : Int32)) dX12_init_1043 rfl (by decide) ?_
  replace H := kif H; obtain ⟨g879, H⟩ := H
  replace H := kif H; obtain ⟨g880, H⟩ := H
  replace H := kle H; obtain ⟨h881, q882, H⟩ := H
  refine x_cast (q := 1046) dX12_init_1045 rfl g879 (fun z => z.elim (by decide) g880) ?_
  refine x_nmH q882 ?_
  refine x_dup (q := 1047) dX12_init_1046 rfl rfl ?_
  refine x_iconst (q := 1048) (v := (2 : Int32)) dX12_init_1047 rfl (by decide) ?_
  refine x_bipush (q := 1050) (v := (100 : Int32)) dX12_init_1048 rfl (by decide) ?_
  replace H := kif H; obtain ⟨g883, H⟩ := H
  replace H := kif H; obtain ⟨g884, H⟩ := H
  replace H := kle H; obtain ⟨h885, q886, H⟩ := H
  refine x_cast (q := 1051) dX12_init_1050 rfl g883 (fun z => z.elim (by decide) g884) ?_
  refine x_nmH q886 ?_
  replace H := kif H; obtain ⟨g887, H⟩ := H
  replace H := kif H; obtain ⟨g888, H⟩ := H
  replace H := kle H; obtain ⟨h889, q890, H⟩ := H
  refine x_putR (q := 1054) dX12_init_1051 rfl kl_RX12_173 (Or.inr ⟨rfl, rfl⟩) rfl g888 g887 ?_
  refine x_nmH q890 ?_
  refine x_aload_n (q := 1055) dX12_init_1054 rfl rfl ?_
  refine x_iconst (q := 1056) (v := (2 : Int32)) dX12_init_1055 rfl (by decide) ?_
  replace H := kif H; obtain ⟨g891, H⟩ := H
  replace H := kle H; obtain ⟨h892, q893, H⟩ := H
  refine x_newa (q := 1058) (kk := 22) dX12_init_1056 rfl (Or.inr (Or.inr (Or.inl ⟨rfl, rfl⟩))) kwa_char g891 ?_
  refine x_nmH q893 ?_
  refine x_dup (q := 1059) dX12_init_1058 rfl rfl ?_
  refine x_iconst (q := 1060) (v := (0 : Int32)) dX12_init_1059 rfl (by decide) ?_
  refine x_bipush (q := 1062) (v := (111 : Int32)) dX12_init_1060 rfl (by decide) ?_
  replace H := kif H; obtain ⟨g894, H⟩ := H
  replace H := kif H; obtain ⟨g895, H⟩ := H
  replace H := kle H; obtain ⟨h896, q897, H⟩ := H
  refine x_cast (q := 1063) dX12_init_1062 rfl g894 (fun z => z.elim (by decide) g895) ?_
  refine x_nmH q897 ?_
  refine x_dup (q := 1064) dX12_init_1063 rfl rfl ?_
  refine x_iconst (q := 1065) (v := (1 : Int32)) dX12_init_1064 rfl (by decide) ?_
  refine x_bipush (q := 1067) (v := (114 : Int32)) dX12_init_1065 rfl (by decide) ?_
  replace H := kif H; obtain ⟨g898, H⟩ := H
  replace H := kif H; obtain ⟨g899, H⟩ := H
  replace H := kle H; obtain ⟨h900, q901, H⟩ := H
  refine x_cast (q := 1068) dX12_init_1067 rfl g898 (fun z => z.elim (by decide) g899) ?_
  refine x_nmH q901 ?_
  replace H := kif H; obtain ⟨g902, H⟩ := H
  replace H := kif H; obtain ⟨g903, H⟩ := H
  replace H := kle H; obtain ⟨h904, q905, H⟩ := H
  refine x_putR (q := 1071) dX12_init_1068 rfl kl_RX12_176 (Or.inr ⟨rfl, rfl⟩) rfl g903 g902 ?_
  refine x_nmH q905 ?_
  refine x_aload_n (q := 1072) dX12_init_1071 rfl rfl ?_
  refine x_iconst (q := 1073) (v := (3 : Int32)) dX12_init_1072 rfl (by decide) ?_
  replace H := kif H; obtain ⟨g906, H⟩ := H
  replace H := kle H; obtain ⟨h907, q908, H⟩ := H
  refine x_newa (q := 1075) (kk := 22) dX12_init_1073 rfl (Or.inr (Or.inr (Or.inl ⟨rfl, rfl⟩))) kwa_char g906 ?_
  refine x_nmH q908 ?_
  refine x_dup (q := 1076) dX12_init_1075 rfl rfl ?_
  refine x_iconst (q := 1077) (v := (0 : Int32)) dX12_init_1076 rfl (by decide) ?_
  refine x_bipush (q := 1079) (v := (97 : Int32)) dX12_init_1077 rfl (by decide) ?_
  replace H := kif H; obtain ⟨g909, H⟩ := H
  replace H := kif H; obtain ⟨g910, H⟩ := H
  replace H := kle H; obtain ⟨h911, q912, H⟩ := H
  refine x_cast (q := 1080) dX12_init_1079 rfl g909 (fun z => z.elim (by decide) g910) ?_
  refine x_nmH q912 ?_
  refine x_dup (q := 1081) dX12_init_1080 rfl rfl ?_
  refine x_iconst (q := 1082) (v := (1 : Int32)) dX12_init_1081 rfl (by decide) ?_
  refine x_bipush (q := 1084) (v := (108 : Int32)) dX12_init_1082 rfl (by decide) ?_
  replace H := kif H; obtain ⟨g913, H⟩ := H
  replace H := kif H; obtain ⟨g914, H⟩ := H
  replace H := kle H; obtain ⟨h915, q916, H⟩ := H
  refine x_cast (q := 1085) dX12_init_1084 rfl g913 (fun z => z.elim (by decide) g914) ?_
  refine x_nmH q916 ?_
  refine x_dup (q := 1086) dX12_init_1085 rfl rfl ?_
  refine x_iconst (q := 1087) (v := (2 : Int32)) dX12_init_1086 rfl (by decide) ?_
  refine x_bipush (q := 1089) (v := (108 : Int32)) dX12_init_1087 rfl (by decide) ?_
  replace H := kif H; obtain ⟨g917, H⟩ := H
  replace H := kif H; obtain ⟨g918, H⟩ := H
  replace H := kle H; obtain ⟨h919, q920, H⟩ := H
  refine x_cast (q := 1090) dX12_init_1089 rfl g917 (fun z => z.elim (by decide) g918) ?_
  refine x_nmH q920 ?_
  replace H := kif H; obtain ⟨g921, H⟩ := H
  replace H := kif H; obtain ⟨g922, H⟩ := H
  replace H := kle H; obtain ⟨h923, q924, H⟩ := H
  refine x_putR (q := 1093) dX12_init_1090 rfl kl_RX12_179 (Or.inr ⟨rfl, rfl⟩) rfl g922 g921 ?_
  refine x_nmH q924 ?_
  refine x_aload_n (q := 1094) dX12_init_1093 rfl rfl ?_
  refine x_iconst (q := 1095) (v := (3 : Int32)) dX12_init_1094 rfl (by decide) ?_
  replace H := kif H; obtain ⟨g925, H⟩ := H
  replace H := kle H; obtain ⟨h926, q927, H⟩ := H
  refine x_newa (q := 1097) (kk := 22) dX12_init_1095 rfl (Or.inr (Or.inr (Or.inl ⟨rfl, rfl⟩))) kwa_char g925 ?_
  refine x_nmH q927 ?_
  refine x_dup (q := 1098) dX12_init_1097 rfl rfl ?_
  refine x_iconst (q := 1099) (v := (0 : Int32)) dX12_init_1098 rfl (by decide) ?_
  refine x_bipush (q := 1101) (v := (109 : Int32)) dX12_init_1099 rfl (by decide) ?_
  replace H := kif H; obtain ⟨g928, H⟩ := H
  replace H := kif H; obtain ⟨g929, H⟩ := H
  replace H := kle H; obtain ⟨h930, q931, H⟩ := H
  refine x_cast (q := 1102) dX12_init_1101 rfl g928 (fun z => z.elim (by decide) g929) ?_
  refine x_nmH q931 ?_
  refine x_dup (q := 1103) dX12_init_1102 rfl rfl ?_
  refine x_iconst (q := 1104) (v := (1 : Int32)) dX12_init_1103 rfl (by decide) ?_
  refine x_bipush (q := 1106) (v := (105 : Int32)) dX12_init_1104 rfl (by decide) ?_
  replace H := kif H; obtain ⟨g932, H⟩ := H
  replace H := kif H; obtain ⟨g933, H⟩ := H
  replace H := kle H; obtain ⟨h934, q935, H⟩ := H
  refine x_cast (q := 1107) dX12_init_1106 rfl g932 (fun z => z.elim (by decide) g933) ?_
  refine x_nmH q935 ?_
  refine x_dup (q := 1108) dX12_init_1107 rfl rfl ?_
  refine x_iconst (q := 1109) (v := (2 : Int32)) dX12_init_1108 rfl (by decide) ?_
  refine x_bipush (q := 1111) (v := (110 : Int32)) dX12_init_1109 rfl (by decide) ?_
  replace H := kif H; obtain ⟨g936, H⟩ := H
  replace H := kif H; obtain ⟨g937, H⟩ := H
  replace H := kle H; obtain ⟨h938, q939, H⟩ := H
  refine x_cast (q := 1112) dX12_init_1111 rfl g936 (fun z => z.elim (by decide) g937) ?_
  refine x_nmH q939 ?_
  replace H := kif H; obtain ⟨g940, H⟩ := H
  replace H := kif H; obtain ⟨g941, H⟩ := H
  replace H := kle H; obtain ⟨h942, q943, H⟩ := H
  refine x_putR (q := 1115) dX12_init_1112 rfl kl_RX12_182 (Or.inr ⟨rfl, rfl⟩) rfl g941 g940 ?_
  refine x_nmH q943 ?_
  refine x_aload_n (q := 1116) dX12_init_1115 rfl rfl ?_
  refine x_iconst (q := 1117) (v := (3 : Int32)) dX12_init_1116 rfl (by decide) ?_
  replace H := kif H; obtain ⟨g944, H⟩ := H
  replace H := kle H; obtain ⟨h945, q946, H⟩ := H
  refine x_newa (q := 1119) (kk := 22) dX12_init_1117 rfl (Or.inr (Or.inr (Or.inl ⟨rfl, rfl⟩))) kwa_char g944 ?_
  refine x_nmH q946 ?_
  refine x_dup (q := 1120) dX12_init_1119 rfl rfl ?_
  refine x_iconst (q := 1121) (v := (0 : Int32)) dX12_init_1120 rfl (by decide) ?_
  refine x_bipush (q := 1123) (v := (109 : Int32)) dX12_init_1121 rfl (by decide) ?_
  replace H := kif H; obtain ⟨g947, H⟩ := H
  replace H := kif H; obtain ⟨g948, H⟩ := H
  replace H := kle H; obtain ⟨h949, q950, H⟩ := H
  refine x_cast (q := 1124) dX12_init_1123 rfl g947 (fun z => z.elim (by decide) g948) ?_
  refine x_nmH q950 ?_
  refine x_dup (q := 1125) dX12_init_1124 rfl rfl ?_
  refine x_iconst (q := 1126) (v := (1 : Int32)) dX12_init_1125 rfl (by decide) ?_
  refine x_bipush (q := 1128) (v := (97 : Int32)) dX12_init_1126 rfl (by decide) ?_
  replace H := kif H; obtain ⟨g951, H⟩ := H
  replace H := kif H; obtain ⟨g952, H⟩ := H
  replace H := kle H; obtain ⟨h953, q954, H⟩ := H
  refine x_cast (q := 1129) dX12_init_1128 rfl g951 (fun z => z.elim (by decide) g952) ?_
  refine x_nmH q954 ?_
  refine x_dup (q := 1130) dX12_init_1129 rfl rfl ?_
  refine x_iconst (q := 1131) (v := (2 : Int32)) dX12_init_1130 rfl (by decide) ?_
  refine x_bipush (q := 1133) (v := (120 : Int32)) dX12_init_1131 rfl (by decide) ?_
  replace H := kif H; obtain ⟨g955, H⟩ := H
  replace H := kif H; obtain ⟨g956, H⟩ := H
  replace H := kle H; obtain ⟨h957, q958, H⟩ := H
  refine x_cast (q := 1134) dX12_init_1133 rfl g955 (fun z => z.elim (by decide) g956) ?_
  refine x_nmH q958 ?_
  replace H := kif H; obtain ⟨g959, H⟩ := H
  replace H := kif H; obtain ⟨g960, H⟩ := H
  replace H := kle H; obtain ⟨h961, q962, H⟩ := H
  refine x_putR (q := 1137) dX12_init_1134 rfl kl_RX12_185 (Or.inr ⟨rfl, rfl⟩) rfl g960 g959 ?_
  refine x_nmH q962 ?_
  refine x_aload_n (q := 1138) dX12_init_1137 rfl rfl ?_
  refine x_iconst (q := 1139) (v := (4 : Int32)) dX12_init_1138 rfl (by decide) ?_
  replace H := kif H; obtain ⟨g963, H⟩ := H
  replace H := kle H; obtain ⟨h964, q965, H⟩ := H
  refine x_newa (q := 1141) (kk := 22) dX12_init_1139 rfl (Or.inr (Or.inr (Or.inl ⟨rfl, rfl⟩))) kwa_char g963 ?_
  refine x_nmH q965 ?_
  refine x_dup (q := 1142) dX12_init_1141 rfl rfl ?_
  refine x_iconst (q := 1143) (v := (0 : Int32)) dX12_init_1142 rfl (by decide) ?_
  refine x_bipush (q := 1145) (v := (108 : Int32)) dX12_init_1143 rfl (by decide) ?_
  replace H := kif H; obtain ⟨g966, H⟩ := H
  replace H := kif H; obtain ⟨g967, H⟩ := H
  replace H := kle H; obtain ⟨h968, q969, H⟩ := H
  refine x_cast (q := 1146) dX12_init_1145 rfl g966 (fun z => z.elim (by decide) g967) ?_
  refine x_nmH q969 ?_
  refine x_dup (q := 1147) dX12_init_1146 rfl rfl ?_
  refine x_iconst (q := 1148) (v := (1 : Int32)) dX12_init_1147 rfl (by decide) ?_
  refine x_bipush (q := 1150) (v := (111 : Int32)) dX12_init_1148 rfl (by decide) ?_
  replace H := kif H; obtain ⟨g970, H⟩ := H
  replace H := kif H; obtain ⟨g971, H⟩ := H
  replace H := kle H; obtain ⟨h972, q973, H⟩ := H
  refine x_cast (q := 1151) dX12_init_1150 rfl g970 (fun z => z.elim (by decide) g971) ?_
  refine x_nmH q973 ?_
  refine x_dup (q := 1152) dX12_init_1151 rfl rfl ?_
  refine x_iconst (q := 1153) (v := (2 : Int32)) dX12_init_1152 rfl (by decide) ?_
  refine x_bipush (q := 1155) (v := (118 : Int32)) dX12_init_1153 rfl (by decide) ?_
  replace H := kif H; obtain ⟨g974, H⟩ := H
  replace H := kif H; obtain ⟨g975, H⟩ := H
  replace H := kle H; obtain ⟨h976, q977, H⟩ := H
  refine x_cast (q := 1156) dX12_init_1155 rfl g974 (fun z => z.elim (by decide) g975) ?_
  refine x_nmH q977 ?_
  refine x_dup (q := 1157) dX12_init_1156 rfl rfl ?_
  refine x_iconst (q := 1158) (v := (3 : Int32)) dX12_init_1157 rfl (by decide) ?_
  refine x_bipush (q := 1160) (v := (101 : Int32)) dX12_init_1158 rfl (by decide) ?_
  replace H := kif H; obtain ⟨g978, H⟩ := H
  replace H := kif H; obtain ⟨g979, H⟩ := H
  replace H := kle H; obtain ⟨h980, q981, H⟩ := H
  refine x_cast (q := 1161) dX12_init_1160 rfl g978 (fun z => z.elim (by decide) g979) ?_
  refine x_nmH q981 ?_
  replace H := kif H; obtain ⟨g982, H⟩ := H
  replace H := kif H; obtain ⟨g983, H⟩ := H
  replace H := kle H; obtain ⟨h984, q985, H⟩ := H
  refine x_putR (q := 1164) dX12_init_1161 rfl kl_RX12_188 (Or.inr ⟨rfl, rfl⟩) rfl g983 g982 ?_
  refine x_nmH q985 ?_
  refine x_aload_n (q := 1165) dX12_init_1164 rfl rfl ?_
  refine x_iconst (q := 1166) (v := (3 : Int32)) dX12_init_1165 rfl (by decide) ?_
  replace H := kif H; obtain ⟨g986, H⟩ := H
  replace H := kle H; obtain ⟨h987, q988, H⟩ := H
  refine x_newa (q := 1168) (kk := 22) dX12_init_1166 rfl (Or.inr (Or.inr (Or.inl ⟨rfl, rfl⟩))) kwa_char g986 ?_
  refine x_nmH q988 ?_
  refine x_dup (q := 1169) dX12_init_1168 rfl rfl ?_
  refine x_iconst (q := 1170) (v := (0 : Int32)) dX12_init_1169 rfl (by decide) ?_
  refine x_bipush (q := 1172) (v := (119 : Int32)) dX12_init_1170 rfl (by decide) ?_
  replace H := kif H; obtain ⟨g989, H⟩ := H
  replace H := kif H; obtain ⟨g990, H⟩ := H
  replace H := kle H; obtain ⟨h991, q992, H⟩ := H
  refine x_cast (q := 1173) dX12_init_1172 rfl g989 (fun z => z.elim (by decide) g990) ?_
  refine x_nmH q992 ?_
  refine x_dup (q := 1174) dX12_init_1173 rfl rfl ?_
  refine x_iconst (q := 1175) (v := (1 : Int32)) dX12_init_1174 rfl (by decide) ?_
  refine x_bipush (q := 1177) (v := (105 : Int32)) dX12_init_1175 rfl (by decide) ?_
  replace H := kif H; obtain ⟨g993, H⟩ := H
  replace H := kif H; obtain ⟨g994, H⟩ := H
  replace H := kle H; obtain ⟨h995, q996, H⟩ := H
  refine x_cast (q := 1178) dX12_init_1177 rfl g993 (fun z => z.elim (by decide) g994) ?_
  refine x_nmH q996 ?_
  refine x_dup (q := 1179) dX12_init_1178 rfl rfl ?_
  refine x_iconst (q := 1180) (v := (2 : Int32)) dX12_init_1179 rfl (by decide) ?_
  refine x_bipush (q := 1182) (v := (116 : Int32)) dX12_init_1180 rfl (by decide) ?_
  replace H := kif H; obtain ⟨g997, H⟩ := H
  replace H := kif H; obtain ⟨g998, H⟩ := H
  replace H := kle H; obtain ⟨h999, q1000, H⟩ := H
  refine x_cast (q := 1183) dX12_init_1182 rfl g997 (fun z => z.elim (by decide) g998) ?_
  refine x_nmH q1000 ?_
  replace H := kif H; obtain ⟨g1001, H⟩ := H
  replace H := kif H; obtain ⟨g1002, H⟩ := H
  replace H := kle H; obtain ⟨h1003, q1004, H⟩ := H
  refine x_putR (q := 1186) dX12_init_1183 rfl kl_RX12_191 (Or.inr ⟨rfl, rfl⟩) rfl g1002 g1001 ?_
  refine x_nmH q1004 ?_
  refine x_aload_n (q := 1187) dX12_init_1186 rfl rfl ?_
  refine x_iconst (q := 1188) (v := (4 : Int32)) dX12_init_1187 rfl (by decide) ?_
  replace H := kif H; obtain ⟨g1005, H⟩ := H
  replace H := kle H; obtain ⟨h1006, q1007, H⟩ := H
  refine x_newa (q := 1190) (kk := 22) dX12_init_1188 rfl (Or.inr (Or.inr (Or.inl ⟨rfl, rfl⟩))) kwa_char g1005 ?_
  refine x_nmH q1007 ?_
  refine x_dup (q := 1191) dX12_init_1190 rfl rfl ?_
  refine x_iconst (q := 1192) (v := (0 : Int32)) dX12_init_1191 rfl (by decide) ?_
  refine x_bipush (q := 1194) (v := (104 : Int32)) dX12_init_1192 rfl (by decide) ?_
  replace H := kif H; obtain ⟨g1008, H⟩ := H
  replace H := kif H; obtain ⟨g1009, H⟩ := H
  replace H := kle H; obtain ⟨h1010, q1011, H⟩ := H
  refine x_cast (q := 1195) dX12_init_1194 rfl g1008 (fun z => z.elim (by decide) g1009) ?_
  refine x_nmH q1011 ?_
  refine x_dup (q := 1196) dX12_init_1195 rfl rfl ?_
  refine x_iconst (q := 1197) (v := (1 : Int32)) dX12_init_1196 rfl (by decide) ?_
  refine x_bipush (q := 1199) (v := (97 : Int32)) dX12_init_1197 rfl (by decide) ?_
  replace H := kif H; obtain ⟨g1012, H⟩ := H
  replace H := kif H; obtain ⟨g1013, H⟩ := H
  replace H := kle H; obtain ⟨h1014, q1015, H⟩ := H
  refine x_cast (q := 1200) dX12_init_1199 rfl g1012 (fun z => z.elim (by decide) g1013) ?_
  refine x_nmH q1015 ?_
  refine x_dup (q := 1201) dX12_init_1200 rfl rfl ?_
  refine x_iconst (q := 1202) (v := (2 : Int32)) dX12_init_1201 rfl (by decide) ?_
  refine x_bipush (q := 1204) (v := (114 : Int32)) dX12_init_1202 rfl (by decide) ?_
  replace H := kif H; obtain ⟨g1016, H⟩ := H
  replace H := kif H; obtain ⟨g1017, H⟩ := H
  replace H := kle H; obtain ⟨h1018, q1019, H⟩ := H
  refine x_cast (q := 1205) dX12_init_1204 rfl g1016 (fun z => z.elim (by decide) g1017) ?_
  refine x_nmH q1019 ?_
  refine x_dup (q := 1206) dX12_init_1205 rfl rfl ?_
  refine x_iconst (q := 1207) (v := (3 : Int32)) dX12_init_1206 rfl (by decide) ?_
  refine x_bipush (q := 1209) (v := (109 : Int32)) dX12_init_1207 rfl (by decide) ?_
  replace H := kif H; obtain ⟨g1020, H⟩ := H
  replace H := kif H; obtain ⟨g1021, H⟩ := H
  replace H := kle H; obtain ⟨h1022, q1023, H⟩ := H
  refine x_cast (q := 1210) dX12_init_1209 rfl g1020 (fun z => z.elim (by decide) g1021) ?_
  refine x_nmH q1023 ?_
  replace H := kif H; obtain ⟨g1024, H⟩ := H
  replace H := kif H; obtain ⟨g1025, H⟩ := H
  replace H := kle H; obtain ⟨h1026, q1027, H⟩ := H
  refine x_putR (q := 1213) dX12_init_1210 rfl kl_RX12_194 (Or.inr ⟨rfl, rfl⟩) rfl g1025 g1024 ?_
  refine x_nmH q1027 ?_
  refine x_aload_n (q := 1214) dX12_init_1213 rfl rfl ?_
  refine x_iconst (q := 1215) (v := (5 : Int32)) dX12_init_1214 rfl (by decide) ?_
  replace H := kif H; obtain ⟨g1028, H⟩ := H
  replace H := kle H; obtain ⟨h1029, q1030, H⟩ := H
  refine x_newa (q := 1217) (kk := 22) dX12_init_1215 rfl (Or.inr (Or.inr (Or.inl ⟨rfl, rfl⟩))) kwa_char g1028 ?_
  refine x_nmH q1030 ?_
  refine x_dup (q := 1218) dX12_init_1217 rfl rfl ?_
  refine x_iconst (q := 1219) (v := (0 : Int32)) dX12_init_1218 rfl (by decide) ?_
  refine x_bipush (q := 1221) (v := (104 : Int32)) dX12_init_1219 rfl (by decide) ?_
  replace H := kif H; obtain ⟨g1031, H⟩ := H
  replace H := kif H; obtain ⟨g1032, H⟩ := H
  replace H := kle H; obtain ⟨h1033, q1034, H⟩ := H
  refine x_cast (q := 1222) dX12_init_1221 rfl g1031 (fun z => z.elim (by decide) g1032) ?_
  refine x_nmH q1034 ?_
  refine x_dup (q := 1223) dX12_init_1222 rfl rfl ?_
  refine x_iconst (q := 1224) (v := (1 : Int32)) dX12_init_1223 rfl (by decide) ?_
  refine x_bipush (q := 1226) (v := (101 : Int32)) dX12_init_1224 rfl (by decide) ?_
  replace H := kif H; obtain ⟨g1035, H⟩ := H
  replace H := kif H; obtain ⟨g1036, H⟩ := H
  replace H := kle H; obtain ⟨h1037, q1038, H⟩ := H
  refine x_cast (q := 1227) dX12_init_1226 rfl g1035 (fun z => z.elim (by decide) g1036) ?_
  refine x_nmH q1038 ?_
  refine x_dup (q := 1228) dX12_init_1227 rfl rfl ?_
  refine x_iconst (q := 1229) (v := (2 : Int32)) dX12_init_1228 rfl (by decide) ?_
  refine x_bipush (q := 1231) (v := (97 : Int32)) dX12_init_1229 rfl (by decide) ?_
  replace H := kif H; obtain ⟨g1039, H⟩ := H
  replace H := kif H; obtain ⟨g1040, H⟩ := H
  replace H := kle H; obtain ⟨h1041, q1042, H⟩ := H
  refine x_cast (q := 1232) dX12_init_1231 rfl g1039 (fun z => z.elim (by decide) g1040) ?_
  refine x_nmH q1042 ?_
  refine x_dup (q := 1233) dX12_init_1232 rfl rfl ?_
  refine x_iconst (q := 1234) (v := (3 : Int32)) dX12_init_1233 rfl (by decide) ?_
  refine x_bipush (q := 1236) (v := (114 : Int32)) dX12_init_1234 rfl (by decide) ?_
  replace H := kif H; obtain ⟨g1043, H⟩ := H
  replace H := kif H; obtain ⟨g1044, H⟩ := H
  replace H := kle H; obtain ⟨h1045, q1046, H⟩ := H
  refine x_cast (q := 1237) dX12_init_1236 rfl g1043 (fun z => z.elim (by decide) g1044) ?_
  refine x_nmH q1046 ?_
  refine x_dup (q := 1238) dX12_init_1237 rfl rfl ?_
  refine x_iconst (q := 1239) (v := (4 : Int32)) dX12_init_1238 rfl (by decide) ?_
  refine x_bipush (q := 1241) (v := (100 : Int32)) dX12_init_1239 rfl (by decide) ?_
  replace H := kif H; obtain ⟨g1047, H⟩ := H
  replace H := kif H; obtain ⟨g1048, H⟩ := H
  replace H := kle H; obtain ⟨h1049, q1050, H⟩ := H
  refine x_cast (q := 1242) dX12_init_1241 rfl g1047 (fun z => z.elim (by decide) g1048) ?_
  refine x_nmH q1050 ?_
  replace H := kif H; obtain ⟨g1051, H⟩ := H
  replace H := kif H; obtain ⟨g1052, H⟩ := H
  replace H := kle H; obtain ⟨h1053, q1054, H⟩ := H
  refine x_putR (q := 1245) dX12_init_1242 rfl kl_RX12_197 (Or.inr ⟨rfl, rfl⟩) rfl g1052 g1051 ?_
  refine x_nmH q1054 ?_
  refine x_aload_n (q := 1246) dX12_init_1245 rfl rfl ?_
  refine x_iconst (q := 1247) (v := (5 : Int32)) dX12_init_1246 rfl (by decide) ?_
  replace H := kif H; obtain ⟨g1055, H⟩ := H
  replace H := kle H; obtain ⟨h1056, q1057, H⟩ := H
  refine x_newa (q := 1249) (kk := 22) dX12_init_1247 rfl (Or.inr (Or.inr (Or.inl ⟨rfl, rfl⟩))) kwa_char g1055 ?_
  refine x_nmH q1057 ?_
  refine x_dup (q := 1250) dX12_init_1249 rfl rfl ?_
  refine x_iconst (q := 1251) (v := (0 : Int32)) dX12_init_1250 rfl (by decide) ?_
  refine x_bipush (q := 1253) (v := (116 : Int32)) dX12_init_1251 rfl (by decide) ?_
  replace H := kif H; obtain ⟨g1058, H⟩ := H
  replace H := kif H; obtain ⟨g1059, H⟩ := H
  replace H := kle H; obtain ⟨h1060, q1061, H⟩ := H
  refine x_cast (q := 1254) dX12_init_1253 rfl g1058 (fun z => z.elim (by decide) g1059) ?_
  refine x_nmH q1061 ?_
  refine x_dup (q := 1255) dX12_init_1254 rfl rfl ?_
  refine x_iconst (q := 1256) (v := (1 : Int32)) dX12_init_1255 rfl (by decide) ?_
  refine x_bipush (q := 1258) (v := (114 : Int32)) dX12_init_1256 rfl (by decide) ?_
  replace H := kif H; obtain ⟨g1062, H⟩ := H
  replace H := kif H; obtain ⟨g1063, H⟩ := H
  replace H := kle H; obtain ⟨h1064, q1065, H⟩ := H
  refine x_cast (q := 1259) dX12_init_1258 rfl g1062 (fun z => z.elim (by decide) g1063) ?_
  refine x_nmH q1065 ?_
  refine x_dup (q := 1260) dX12_init_1259 rfl rfl ?_
  refine x_iconst (q := 1261) (v := (2 : Int32)) dX12_init_1260 rfl (by decide) ?_
  refine x_bipush (q := 1263) (v := (117 : Int32)) dX12_init_1261 rfl (by decide) ?_
  replace H := kif H; obtain ⟨g1066, H⟩ := H
  replace H := kif H; obtain ⟨g1067, H⟩ := H
  replace H := kle H; obtain ⟨h1068, q1069, H⟩ := H
  refine x_cast (q := 1264) dX12_init_1263 rfl g1066 (fun z => z.elim (by decide) g1067) ?_
  refine x_nmH q1069 ?_
  refine x_dup (q := 1265) dX12_init_1264 rfl rfl ?_
  refine x_iconst (q := 1266) (v := (3 : Int32)) dX12_init_1265 rfl (by decide) ?_
  refine x_bipush (q := 1268) (v := (116 : Int32)) dX12_init_1266 rfl (by decide) ?_
  replace H := kif H; obtain ⟨g1070, H⟩ := H
  replace H := kif H; obtain ⟨g1071, H⟩ := H
  replace H := kle H; obtain ⟨h1072, q1073, H⟩ := H
  refine x_cast (q := 1269) dX12_init_1268 rfl g1070 (fun z => z.elim (by decide) g1071) ?_
  refine x_nmH q1073 ?_
  refine x_dup (q := 1270) dX12_init_1269 rfl rfl ?_
  refine x_iconst (q := 1271) (v := (4 : Int32)) dX12_init_1270 rfl (by decide) ?_
  refine x_bipush (q := 1273) (v := (104 : Int32)) dX12_init_1271 rfl (by decide) ?_
  replace H := kif H; obtain ⟨g1074, H⟩ := H
  replace H := kif H; obtain ⟨g1075, H⟩ := H
  replace H := kle H; obtain ⟨h1076, q1077, H⟩ := H
  refine x_cast (q := 1274) dX12_init_1273 rfl g1074 (fun z => z.elim (by decide) g1075) ?_
  refine x_nmH q1077 ?_
  replace H := kif H; obtain ⟨g1078, H⟩ := H
  replace H := kif H; obtain ⟨g1079, H⟩ := H
  replace H := kle H; obtain ⟨h1080, q1081, H⟩ := H
  refine x_putR (q := 1277) dX12_init_1274 rfl kl_RX12_200 (Or.inr ⟨rfl, rfl⟩) rfl g1079 g1078 ?_
  refine x_nmH q1081 ?_
  refine x_aload_n (q := 1278) dX12_init_1277 rfl rfl ?_
  refine x_bipush (q := 1280) (v := (6 : Int32)) dX12_init_1278 rfl (by decide) ?_
  replace H := kif H; obtain ⟨g1082, H⟩ := H
  replace H := kle H; obtain ⟨h1083, q1084, H⟩ := H
  refine x_newa (q := 1282) (kk := 22) dX12_init_1280 rfl (Or.inr (Or.inr (Or.inl ⟨rfl, rfl⟩))) kwa_char g1082 ?_
  refine x_nmH q1084 ?_
  refine x_dup (q := 1283) dX12_init_1282 rfl rfl ?_
  refine x_iconst (q := 1284) (v := (0 : Int32)) dX12_init_1283 rfl (by decide) ?_
  refine x_bipush (q := 1286) (v := (110 : Int32)) dX12_init_1284 rfl (by decide) ?_
  replace H := kif H; obtain ⟨g1085, H⟩ := H
  replace H := kif H; obtain ⟨g1086, H⟩ := H
  replace H := kle H; obtain ⟨h1087, q1088, H⟩ := H
  refine x_cast (q := 1287) dX12_init_1286 rfl g1085 (fun z => z.elim (by decide) g1086) ?_
  refine x_nmH q1088 ?_
  refine x_dup (q := 1288) dX12_init_1287 rfl rfl ?_
  refine x_iconst (q := 1289) (v := (1 : Int32)) dX12_init_1288 rfl (by decide) ?_
  refine x_bipush (q := 1291) (v := (117 : Int32)) dX12_init_1289 rfl (by decide) ?_
  replace H := kif H; obtain ⟨g1089, H⟩ := H
  replace H := kif H; obtain ⟨g1090, H⟩ := H
  replace H := kle H; obtain ⟨h1091, q1092, H⟩ := H
  refine x_cast (q := 1292) dX12_init_1291 rfl g1089 (fun z => z.elim (by decide) g1090) ?_
  refine x_nmH q1092 ?_
  refine x_dup (q := 1293) dX12_init_1292 rfl rfl ?_
  refine x_iconst (q := 1294) (v := (2 : Int32)) dX12_init_1293 rfl (by decide) ?_
  refine x_bipush (q := 1296) (v := (109 : Int32)) dX12_init_1294 rfl (by decide) ?_
  replace H := kif H; obtain ⟨g1093, H⟩ := H
  replace H := kif H; obtain ⟨g1094, H⟩ := H
  replace H := kle H; obtain ⟨h1095, q1096, H⟩ := H
  refine x_cast (q := 1297) dX12_init_1296 rfl g1093 (fun z => z.elim (by decide) g1094) ?_
  refine x_nmH q1096 ?_
  refine x_dup (q := 1298) dX12_init_1297 rfl rfl ?_
  refine x_iconst (q := 1299) (v := (3 : Int32)) dX12_init_1298 rfl (by decide) ?_
  refine x_bipush (q := 1301) (v := (98 : Int32)) dX12_init_1299 rfl (by decide) ?_
  replace H := kif H; obtain ⟨g1097, H⟩ := H
  replace H := kif H; obtain ⟨g1098, H⟩ := H
  replace H := kle H; obtain ⟨h1099, q1100, H⟩ := H
  refine x_cast (q := 1302) dX12_init_1301 rfl g1097 (fun z => z.elim (by decide) g1098) ?_
  refine x_nmH q1100 ?_
  refine x_dup (q := 1303) dX12_init_1302 rfl rfl ?_
  refine x_iconst (q := 1304) (v := (4 : Int32)) dX12_init_1303 rfl (by decide) ?_
  refine x_bipush (q := 1306) (v := (101 : Int32)) dX12_init_1304 rfl (by decide) ?_
  replace H := kif H; obtain ⟨g1101, H⟩ := H
  replace H := kif H; obtain ⟨g1102, H⟩ := H
  replace H := kle H; obtain ⟨h1103, q1104, H⟩ := H
  refine x_cast (q := 1307) dX12_init_1306 rfl g1101 (fun z => z.elim (by decide) g1102) ?_
  refine x_nmH q1104 ?_
  refine x_dup (q := 1308) dX12_init_1307 rfl rfl ?_
  refine x_iconst (q := 1309) (v := (5 : Int32)) dX12_init_1308 rfl (by decide) ?_
  refine x_bipush (q := 1311) (v := (114 : Int32)) dX12_init_1309 rfl (by decide) ?_
  replace H := kif H; obtain ⟨g1105, H⟩ := H
  replace H := kif H; obtain ⟨g1106, H⟩ := H
  replace H := kle H; obtain ⟨h1107, q1108, H⟩ := H
  refine x_cast (q := 1312) dX12_init_1311 rfl g1105 (fun z => z.elim (by decide) g1106) ?_
  refine x_nmH q1108 ?_
  replace H := kif H; obtain ⟨g1109, H⟩ := H
  replace H := kif H; obtain ⟨g1110, H⟩ := H
  replace H := kle H; obtain ⟨h1111, q1112, H⟩ := H
  refine x_putR (q := 1315) dX12_init_1312 rfl kl_RX12_203 (Or.inr ⟨rfl, rfl⟩) rfl g1110 g1109 ?_
  refine x_nmH q1112 ?_
  refine x_aload_n (q := 1316) dX12_init_1315 rfl rfl ?_
  refine x_iconst (q := 1317) (v := (5 : Int32)) dX12_init_1316 rfl (by decide) ?_
  replace H := kif H; obtain ⟨g1113, H⟩ := H
  replace H := kle H; obtain ⟨h1114, q1115, H⟩ := H
  refine x_newa (q := 1319) (kk := 22) dX12_init_1317 rfl (Or.inr (Or.inr (Or.inl ⟨rfl, rfl⟩))) kwa_char g1113 ?_
  refine x_nmH q1115 ?_
  refine x_dup (q := 1320) dX12_init_1319 rfl rfl ?_
  refine x_iconst (q := 1321) (v := (0 : Int32)) dX12_init_1320 rfl (by decide) ?_
  refine x_bipush (q := 1323) (v := (109 : Int32)) dX12_init_1321 rfl (by decide) ?_
  replace H := kif H; obtain ⟨g1116, H⟩ := H
  replace H := kif H; obtain ⟨g1117, H⟩ := H
  replace H := kle H; obtain ⟨h1118, q1119, H⟩ := H
  refine x_cast (q := 1324) dX12_init_1323 rfl g1116 (fun z => z.elim (by decide) g1117) ?_
  refine x_nmH q1119 ?_
  refine x_dup (q := 1325) dX12_init_1324 rfl rfl ?_
  refine x_iconst (q := 1326) (v := (1 : Int32)) dX12_init_1325 rfl (by decide) ?_
  refine x_bipush (q := 1328) (v := (101 : Int32)) dX12_init_1326 rfl (by decide) ?_
  replace H := kif H; obtain ⟨g1120, H⟩ := H
  replace H := kif H; obtain ⟨g1121, H⟩ := H
  replace H := kle H; obtain ⟨h1122, q1123, H⟩ := H
  refine x_cast (q := 1329) dX12_init_1328 rfl g1120 (fun z => z.elim (by decide) g1121) ?_
  refine x_nmH q1123 ?_
  refine x_dup (q := 1330) dX12_init_1329 rfl rfl ?_
  refine x_iconst (q := 1331) (v := (2 : Int32)) dX12_init_1330 rfl (by decide) ?_
  refine x_bipush (q := 1333) (v := (114 : Int32)) dX12_init_1331 rfl (by decide) ?_
  replace H := kif H; obtain ⟨g1124, H⟩ := H
  replace H := kif H; obtain ⟨g1125, H⟩ := H
  replace H := kle H; obtain ⟨h1126, q1127, H⟩ := H
  refine x_cast (q := 1334) dX12_init_1333 rfl g1124 (fun z => z.elim (by decide) g1125) ?_
  refine x_nmH q1127 ?_
  refine x_dup (q := 1335) dX12_init_1334 rfl rfl ?_
  refine x_iconst (q := 1336) (v := (3 : Int32)) dX12_init_1335 rfl (by decide) ?_
  refine x_bipush (q := 1338) (v := (105 : Int32)) dX12_init_1336 rfl (by decide) ?_
  replace H := kif H; obtain ⟨g1128, H⟩ := H
  replace H := kif H; obtain ⟨g1129, H⟩ := H
  replace H := kle H; obtain ⟨h1130, q1131, H⟩ := H
  refine x_cast (q := 1339) dX12_init_1338 rfl g1128 (fun z => z.elim (by decide) g1129) ?_
  refine x_nmH q1131 ?_
  refine x_dup (q := 1340) dX12_init_1339 rfl rfl ?_
  refine x_iconst (q := 1341) (v := (4 : Int32)) dX12_init_1340 rfl (by decide) ?_
  refine x_bipush (q := 1343) (v := (116 : Int32)) dX12_init_1341 rfl (by decide) ?_
  replace H := kif H; obtain ⟨g1132, H⟩ := H
  replace H := kif H; obtain ⟨g1133, H⟩ := H
  replace H := kle H; obtain ⟨h1134, q1135, H⟩ := H
  refine x_cast (q := 1344) dX12_init_1343 rfl g1132 (fun z => z.elim (by decide) g1133) ?_
  refine x_nmH q1135 ?_
  replace H := kif H; obtain ⟨g1136, H⟩ := H
  replace H := kif H; obtain ⟨g1137, H⟩ := H
  replace H := kle H; obtain ⟨h1138, q1139, H⟩ := H
  refine x_putR (q := 1347) dX12_init_1344 rfl kl_RX12_206 (Or.inr ⟨rfl, rfl⟩) rfl g1137 g1136 ?_
  refine x_nmH q1139 ?_
  refine x_aload_n (q := 1348) dX12_init_1347 rfl rfl ?_
  refine x_iconst (q := 1349) (v := (4 : Int32)) dX12_init_1348 rfl (by decide) ?_
  replace H := kif H; obtain ⟨g1140, H⟩ := H
  replace H := kle H; obtain ⟨h1141, q1142, H⟩ := H
  refine x_newa (q := 1351) (kk := 22) dX12_init_1349 rfl (Or.inr (Or.inr (Or.inl ⟨rfl, rfl⟩))) kwa_char g1140 ?_
  refine x_nmH q1142 ?_
  refine x_dup (q := 1352) dX12_init_1351 rfl rfl ?_
  refine x_iconst (q := 1353) (v := (0 : Int32)) dX12_init_1352 rfl (by decide) ?_
  refine x_bipush (q := 1355) (v := (115 : Int32)) dX12_init_1353 rfl (by decide) ?_
  replace H := kif H; obtain ⟨g1143, H⟩ := H
  replace H := kif H; obtain ⟨g1144, H⟩ := H
  replace H := kle H; obtain ⟨h1145, q1146, H⟩ := H
  refine x_cast (q := 1356) dX12_init_1355 rfl g1143 (fun z => z.elim (by decide) g1144) ?_
  refine x_nmH q1146 ?_
  refine x_dup (q := 1357) dX12_init_1356 rfl rfl ?_
  refine x_iconst (q := 1358) (v := (1 : Int32)) dX12_init_1357 rfl (by decide) ?_
  refine x_bipush (q := 1360) (v := (117 : Int32)) dX12_init_1358 rfl (by decide) ?_
  replace H := kif H; obtain ⟨g1147, H⟩ := H
  replace H := kif H; obtain ⟨g1148, H⟩ := H
  replace H := kle H; obtain ⟨h1149, q1150, H⟩ := H
  refine x_cast (q := 1361) dX12_init_1360 rfl g1147 (fun z => z.elim (by decide) g1148) ?_
  refine x_nmH q1150 ?_
  refine x_dup (q := 1362) dX12_init_1361 rfl rfl ?_
  refine x_iconst (q := 1363) (v := (2 : Int32)) dX12_init_1362 rfl (by decide) ?_
  refine x_bipush (q := 1365) (v := (114 : Int32)) dX12_init_1363 rfl (by decide) ?_
  replace H := kif H; obtain ⟨g1151, H⟩ := H
  replace H := kif H; obtain ⟨g1152, H⟩ := H
  replace H := kle H; obtain ⟨h1153, q1154, H⟩ := H
  refine x_cast (q := 1366) dX12_init_1365 rfl g1151 (fun z => z.elim (by decide) g1152) ?_
  refine x_nmH q1154 ?_
  refine x_dup (q := 1367) dX12_init_1366 rfl rfl ?_
  refine x_iconst (q := 1368) (v := (3 : Int32)) dX12_init_1367 rfl (by decide) ?_
  refine x_bipush (q := 1370) (v := (101 : Int32)) dX12_init_1368 rfl (by decide) ?_
  replace H := kif H; obtain ⟨g1155, H⟩ := H
  replace H := kif H; obtain ⟨g1156, H⟩ := H
  replace H := kle H; obtain ⟨h1157, q1158, H⟩ := H
  refine x_cast (q := 1371) dX12_init_1370 rfl g1155 (fun z => z.elim (by decide) g1156) ?_
  refine x_nmH q1158 ?_
  replace H := kif H; obtain ⟨g1159, H⟩ := H
  replace H := kif H; obtain ⟨g1160, H⟩ := H
  replace H := kle H; obtain ⟨h1161, q1162, H⟩ := H
  refine x_putR (q := 1374) dX12_init_1371 rfl kl_RX12_209 (Or.inr ⟨rfl, rfl⟩) rfl g1160 g1159 ?_
  refine x_nmH q1162 ?_
  refine x_aload_n (q := 1375) dX12_init_1374 rfl rfl ?_
  refine x_bipush (q := 1377) (v := (6 : Int32)) dX12_init_1375 rfl (by decide) ?_
  replace H := kif H; obtain ⟨g1163, H⟩ := H
  replace H := kle H; obtain ⟨h1164, q1165, H⟩ := H
  refine x_newa (q := 1379) (kk := 22) dX12_init_1377 rfl (Or.inr (Or.inr (Or.inl ⟨rfl, rfl⟩))) kwa_char g1163 ?_
  refine x_nmH q1165 ?_
  refine x_dup (q := 1380) dX12_init_1379 rfl rfl ?_
  refine x_iconst (q := 1381) (v := (0 : Int32)) dX12_init_1380 rfl (by decide) ?_
  refine x_bipush (q := 1383) (v := (121 : Int32)) dX12_init_1381 rfl (by decide) ?_
  replace H := kif H; obtain ⟨g1166, H⟩ := H
  replace H := kif H; obtain ⟨g1167, H⟩ := H
  replace H := kle H; obtain ⟨h1168, q1169, H⟩ := H
  refine x_cast (q := 1384) dX12_init_1383 rfl g1166 (fun z => z.elim (by decide) g1167) ?_
  refine x_nmH q1169 ?_
  refine x_dup (q := 1385) dX12_init_1384 rfl rfl ?_
  refine x_iconst (q := 1386) (v := (1 : Int32)) dX12_init_1385 rfl (by decide) ?_
  refine x_bipush (q := 1388) (v := (105 : Int32)) dX12_init_1386 rfl (by decide) ?_
  replace H := kif H; obtain ⟨g1170, H⟩ := H
  replace H := kif H; obtain ⟨g1171, H⟩ := H
  replace H := kle H; obtain ⟨h1172, q1173, H⟩ := H
  refine x_cast (q := 1389) dX12_init_1388 rfl g1170 (fun z => z.elim (by decide) g1171) ?_
  refine x_nmH q1173 ?_
  refine x_dup (q := 1390) dX12_init_1389 rfl rfl ?_
  refine x_iconst (q := 1391) (v := (2 : Int32)) dX12_init_1390 rfl (by decide) ?_
  refine x_bipush (q := 1393) (v := (101 : Int32)) dX12_init_1391 rfl (by decide) ?_
  replace H := kif H; obtain ⟨g1174, H⟩ := H
  replace H := kif H; obtain ⟨g1175, H⟩ := H
  replace H := kle H; obtain ⟨h1176, q1177, H⟩ := H
  refine x_cast (q := 1394) dX12_init_1393 rfl g1174 (fun z => z.elim (by decide) g1175) ?_
  refine x_nmH q1177 ?_
  refine x_dup (q := 1395) dX12_init_1394 rfl rfl ?_
  refine x_iconst (q := 1396) (v := (3 : Int32)) dX12_init_1395 rfl (by decide) ?_
  refine x_bipush (q := 1398) (v := (108 : Int32)) dX12_init_1396 rfl (by decide) ?_
  replace H := kif H; obtain ⟨g1178, H⟩ := H
  replace H := kif H; obtain ⟨g1179, H⟩ := H
  replace H := kle H; obtain ⟨h1180, q1181, H⟩ := H
  refine x_cast (q := 1399) dX12_init_1398 rfl g1178 (fun z => z.elim (by decide) g1179) ?_
  refine x_nmH q1181 ?_
  refine x_dup (q := 1400) dX12_init_1399 rfl rfl ?_
  refine x_iconst (q := 1401) (v := (4 : Int32)) dX12_init_1400 rfl (by decide) ?_
  refine x_bipush (q := 1403) (v := (100 : Int32)) dX12_init_1401 rfl (by decide) ?_
  replace H := kif H; obtain ⟨g1182, H⟩ := H
  replace H := kif H; obtain ⟨g1183, H⟩ := H
  replace H := kle H; obtain ⟨h1184, q1185, H⟩ := H
  refine x_cast (q := 1404) dX12_init_1403 rfl g1182 (fun z => z.elim (by decide) g1183) ?_
  refine x_nmH q1185 ?_
  refine x_dup (q := 1405) dX12_init_1404 rfl rfl ?_
  refine x_iconst (q := 1406) (v := (5 : Int32)) dX12_init_1405 rfl (by decide) ?_
  refine x_bipush (q := 1408) (v := (115 : Int32)) dX12_init_1406 rfl (by decide) ?_
  replace H := kif H; obtain ⟨g1186, H⟩ := H
  replace H := kif H; obtain ⟨g1187, H⟩ := H
  replace H := kle H; obtain ⟨h1188, q1189, H⟩ := H
  refine x_cast (q := 1409) dX12_init_1408 rfl g1186 (fun z => z.elim (by decide) g1187) ?_
  refine x_nmH q1189 ?_
  replace H := kif H; obtain ⟨g1190, H⟩ := H
  replace H := kif H; obtain ⟨g1191, H⟩ := H
  replace H := kle H; obtain ⟨h1192, q1193, H⟩ := H
  refine x_putR (q := 1412) dX12_init_1409 rfl kl_RX12_212 (Or.inr ⟨rfl, rfl⟩) rfl g1191 g1190 ?_
  refine x_nmH q1193 ?_
  refine x_aload_n (q := 1413) dX12_init_1412 rfl rfl ?_
  refine x_sipush (q := 1416) (v := (1700 : Int32)) dX12_init_1413 rfl (by decide) ?_
  replace H := kif H; obtain ⟨g1194, H⟩ := H
  replace H := kle H; obtain ⟨h1195, q1196, H⟩ := H
  refine x_newa (q := 1418) (kk := 20) dX12_init_1416 rfl (Or.inl ⟨rfl, rfl⟩) kwa_int g1194 ?_
  refine x_nmH q1196 ?_
  replace H := kif H; obtain ⟨g1197, H⟩ := H
  replace H := kif H; obtain ⟨g1198, H⟩ := H
  replace H := kle H; obtain ⟨h1199, q1200, H⟩ := H
  refine x_putR (q := 1421) dX12_init_1418 rfl kl_RX12_215 (Or.inr ⟨rfl, rfl⟩) rfl g1198 g1197 ?_
  refine x_nmH q1200 ?_
  refine x_aload_n (q := 1422) dX12_init_1421 rfl rfl ?_
  refine x_sipush (q := 1425) (v := (1700 : Int32)) dX12_init_1422 rfl (by decide) ?_
  replace H := kif H; obtain ⟨g1201, H⟩ := H
  replace H := kle H; obtain ⟨h1202, q1203, H⟩ := H
  refine x_newa (q := 1427) (kk := 20) dX12_init_1425 rfl (Or.inl ⟨rfl, rfl⟩) kwa_int g1201 ?_
  refine x_nmH q1203 ?_
  replace H := kif H; obtain ⟨g1204, H⟩ := H
  replace H := kif H; obtain ⟨g1205, H⟩ := H
  replace H := kle H; obtain ⟨h1206, q1207, H⟩ := H
  refine x_putR (q := 1430) dX12_init_1427 rfl kl_RX12_218 (Or.inr ⟨rfl, rfl⟩) rfl g1205 g1204 ?_
  refine x_nmH q1207 ?_
  refine x_aload_n (q := 1431) dX12_init_1430 rfl rfl ?_
  refine x_sipush (q := 1434) (v := (1700 : Int32)) dX12_init_1431 rfl (by decide) ?_
  replace H := kif H; obtain ⟨g1208, H⟩ := H
  replace H := kle H; obtain ⟨h1209, q1210, H⟩ := H
  refine x_newa (q := 1436) (kk := 21) dX12_init_1434 rfl (Or.inr (Or.inl ⟨rfl, rfl⟩)) kwa_long g1208 ?_
  refine x_nmH q1210 ?_
  replace H := kif H; obtain ⟨g1211, H⟩ := H
  replace H := kif H; obtain ⟨g1212, H⟩ := H
  replace H := kle H; obtain ⟨h1213, q1214, H⟩ := H
  refine x_putR (q := 1439) dX12_init_1436 rfl kl_RX12_221 (Or.inr ⟨rfl, rfl⟩) rfl g1212 g1211 ?_
  refine x_nmH q1214 ?_
  refine x_aload_n (q := 1440) dX12_init_1439 rfl rfl ?_
  refine x_bipush (q := 1442) (v := (27 : Int32)) dX12_init_1440 rfl (by decide) ?_
  replace H := kif H; obtain ⟨g1215, H⟩ := H
  replace H := kle H; obtain ⟨h1216, q1217, H⟩ := H
  refine x_newa (q := 1444) (kk := 20) dX12_init_1442 rfl (Or.inl ⟨rfl, rfl⟩) kwa_int g1215 ?_
  refine x_nmH q1217 ?_
  replace H := kif H; obtain ⟨g1218, H⟩ := H
  replace H := kif H; obtain ⟨g1219, H⟩ := H
  replace H := kle H; obtain ⟨h1220, q1221, H⟩ := H
  refine x_putR (q := 1447) dX12_init_1444 rfl kl_RX12_224 (Or.inr ⟨rfl, rfl⟩) rfl g1219 g1218 ?_
  refine x_nmH q1221 ?_
  cases H
  exact x_end ⟨dX12_init_1447, rfl, rfl⟩
theorem s_iX12_init {xs : Nat → Int32} {L : Nat} (h : KH) (v0 : Nat) {t : KH} (H : f_iX12_init h v0 = some t) : KM (KZs xs L) yX12_init cX12_init 1 none 2 [.ref v0] h none t :=
  kx_v (own := RX12) (ini := true) (by decide +kernel) (by decide +kernel) rfl (Nat.le_of_ble_eq_true rfl) (s0_iX12_init h v0 H)
