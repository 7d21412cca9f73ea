theorem dX12_init_0 : decode cX12_init 0 = .ok (.aload_n 0, 1) := by decide +kernel
theorem dX12_init_1 : decode cX12_init 1 = .ok (.invokespecial 1, 3) := by decide +kernel
theorem dX12_init_4 : decode cX12_init 4 = .ok (.aload_n 0, 1) := by decide +kernel
theorem dX12_init_5 : decode cX12_init 5 = .ok (.sipush 601, 3) := by decide +kernel
theorem dX12_init_8 : decode cX12_init 8 = .ok (.newarray .int, 2) := by decide +kernel
theorem dX12_init_10 : decode cX12_init 10 = .ok (.putfield 7, 3) := by decide +kernel
theorem dX12_init_13 : decode cX12_init 13 = .ok (.aload_n 0, 1) := by decide +kernel
theorem dX12_init_14 : decode cX12_init 14 = .ok (.bipush 96, 2) := by decide +kernel
theorem dX12_init_16 : decode cX12_init 16 = .ok (.newarray .int, 2) := by decide +kernel
theorem dX12_init_18 : decode cX12_init 18 = .ok (.putfield 13, 3) := by decide +kernel
theorem dX12_init_21 : decode cX12_init 21 = .ok (.aload_n 0, 1) := by decide +kernel
theorem dX12_init_22 : decode cX12_init 22 = .ok (.iconst 4, 1) := by decide +kernel
theorem dX12_init_23 : decode cX12_init 23 = .ok (.newarray .int, 2) := by decide +kernel
theorem dX12_init_25 : decode cX12_init 25 = .ok (.putfield 16, 3) := by decide +kernel
theorem dX12_init_28 : decode cX12_init 28 = .ok (.aload_n 0, 1) := by decide +kernel
theorem dX12_init_29 : decode cX12_init 29 = .ok (.iconst 4, 1) := by decide +kernel
theorem dX12_init_30 : decode cX12_init 30 = .ok (.newarray .int, 2) := by decide +kernel
theorem dX12_init_32 : decode cX12_init 32 = .ok (.putfield 19, 3) := by decide +kernel
theorem dX12_init_35 : decode cX12_init 35 = .ok (.aload_n 0, 1) := by decide +kernel
theorem dX12_init_36 : decode cX12_init 36 = .ok (.iconst 4, 1) := by decide +kernel
theorem dX12_init_37 : decode cX12_init 37 = .ok (.newarray .int, 2) := by decide +kernel
theorem dX12_init_39 : decode cX12_init 39 = .ok (.putfield 22, 3) := by decide +kernel
theorem dX12_init_42 : decode cX12_init 42 = .ok (.aload_n 0, 1) := by decide +kernel
theorem dX12_init_43 : decode cX12_init 43 = .ok (.sipush 2400, 3) := by decide +kernel
theorem dX12_init_46 : decode cX12_init 46 = .ok (.newarray .int, 2) := by decide +kernel
theorem dX12_init_48 : decode cX12_init 48 = .ok (.putfield 25, 3) := by decide +kernel
theorem dX12_init_51 : decode cX12_init 51 = .ok (.aload_n 0, 1) := by decide +kernel
theorem dX12_init_52 : decode cX12_init 52 = .ok (.iconst 4, 1) := by decide +kernel
theorem dX12_init_53 : decode cX12_init 53 = .ok (.newarray .int, 2) := by decide +kernel
theorem dX12_init_55 : decode cX12_init 55 = .ok (.putfield 28, 3) := by decide +kernel
theorem dX12_init_58 : decode cX12_init 58 = .ok (.aload_n 0, 1) := by decide +kernel
theorem dX12_init_59 : decode cX12_init 59 = .ok (.bipush 8, 2) := by decide +kernel
theorem dX12_init_61 : decode cX12_init 61 = .ok (.newarray .int, 2) := by decide +kernel
theorem dX12_init_63 : decode cX12_init 63 = .ok (.putfield 31, 3) := by decide +kernel
theorem dX12_init_66 : decode cX12_init 66 = .ok (.aload_n 0, 1) := by decide +kernel
theorem dX12_init_67 : decode cX12_init 67 = .ok (.iconst 4, 1) := by decide +kernel
theorem dX12_init_68 : decode cX12_init 68 = .ok (.newarray .int, 2) := by decide +kernel
theorem dX12_init_70 : decode cX12_init 70 = .ok (.putfield 34, 3) := by decide +kernel
theorem dX12_init_73 : decode cX12_init 73 = .ok (.aload_n 0, 1) := by decide +kernel
theorem dX12_init_74 : decode cX12_init 74 = .ok (.iconst 4, 1) := by decide +kernel
theorem dX12_init_75 : decode cX12_init 75 = .ok (.newarray .int, 2) := by decide +kernel
theorem dX12_init_77 : decode cX12_init 77 = .ok (.putfield 37, 3) := by decide +kernel
theorem dX12_init_80 : decode cX12_init 80 = .ok (.aload_n 0, 1) := by decide +kernel
theorem dX12_init_81 : decode cX12_init 81 = .ok (.iconst 4, 1) := by decide +kernel
theorem dX12_init_82 : decode cX12_init 82 = .ok (.newarray .int, 2) := by decide +kernel
theorem dX12_init_84 : decode cX12_init 84 = .ok (.putfield 40, 3) := by decide +kernel
theorem dX12_init_87 : decode cX12_init 87 = .ok (.aload_n 0, 1) := by decide +kernel
theorem dX12_init_88 : decode cX12_init 88 = .ok (.iconst 4, 1) := by decide +kernel
theorem dX12_init_89 : decode cX12_init 89 = .ok (.newarray .int, 2) := by decide +kernel
theorem dX12_init_91 : decode cX12_init 91 = .ok (.putfield 43, 3) := by decide +kernel
theorem dX12_init_94 : decode cX12_init 94 = .ok (.aload_n 0, 1) := by decide +kernel
theorem dX12_init_95 : decode cX12_init 95 = .ok (.iconst 4, 1) := by decide +kernel
theorem dX12_init_96 : decode cX12_init 96 = .ok (.newarray .int, 2) := by decide +kernel
theorem dX12_init_98 : decode cX12_init 98 = .ok (.putfield 46, 3) := by decide +kernel
theorem dX12_init_101 : decode cX12_init 101 = .ok (.aload_n 0, 1) := by decide +kernel
theorem dX12_init_102 : decode cX12_init 102 = .ok (.bipush 24, 2) := by decide +kernel
theorem dX12_init_104 : decode cX12_init 104 = .ok (.newarray .int, 2) := by decide +kernel
theorem dX12_init_106 : decode cX12_init 106 = .ok (.putfield 49, 3) := by decide +kernel
theorem dX12_init_109 : decode cX12_init 109 = .ok (.aload_n 0, 1) := by decide +kernel
theorem dX12_init_110 : decode cX12_init 110 = .ok (.sipush 192, 3) := by decide +kernel
theorem dX12_init_113 : decode cX12_init 113 = .ok (.newarray .int, 2) := by decide +kernel
theorem dX12_init_115 : decode cX12_init 115 = .ok (.putfield 52, 3) := by decide +kernel
theorem dX12_init_118 : decode cX12_init 118 = .ok (.aload_n 0, 1) := by decide +kernel
theorem dX12_init_119 : decode cX12_init 119 = .ok (.iconst 2, 1) := by decide +kernel
theorem dX12_init_120 : decode cX12_init 120 = .ok (.newarray .boolean, 2) := by decide +kernel
theorem dX12_init_122 : decode cX12_init 122 = .ok (.putfield 55, 3) := by decide +kernel
theorem dX12_init_125 : decode cX12_init 125 = .ok (.aload_n 0, 1) := by decide +kernel
theorem dX12_init_126 : decode cX12_init 126 = .ok (.bipush 48, 2) := by decide +kernel
theorem dX12_init_128 : decode cX12_init 128 = .ok (.newarray .int, 2) := by decide +kernel
theorem dX12_init_130 : decode cX12_init 130 = .ok (.putfield 59, 3) := by decide +kernel
theorem dX12_init_133 : decode cX12_init 133 = .ok (.aload_n 0, 1) := by decide +kernel
theorem dX12_init_134 : decode cX12_init 134 = .ok (.sipush 600, 3) := by decide +kernel
theorem dX12_init_137 : decode cX12_init 137 = .ok (.newarray .int, 2) := by decide +kernel
theorem dX12_init_139 : decode cX12_init 139 = .ok (.putfield 62, 3) := by decide +kernel
theorem dX12_init_142 : decode cX12_init 142 = .ok (.aload_n 0, 1) := by decide +kernel
theorem dX12_init_143 : decode cX12_init 143 = .ok (.sipush 600, 3) := by decide +kernel
theorem dX12_init_146 : decode cX12_init 146 = .ok (.newarray .int, 2) := by decide +kernel
theorem dX12_init_148 : decode cX12_init 148 = .ok (.putfield 65, 3) := by decide +kernel
theorem dX12_init_151 : decode cX12_init 151 = .ok (.aload_n 0, 1) := by decide +kernel
theorem dX12_init_152 : decode cX12_init 152 = .ok (.iconst 4, 1) := by decide +kernel
theorem dX12_init_153 : decode cX12_init 153 = .ok (.newarray .int, 2) := by decide +kernel
theorem dX12_init_155 : decode cX12_init 155 = .ok (.putfield 68, 3) := by decide +kernel
theorem dX12_init_158 : decode cX12_init 158 = .ok (.aload_n 0, 1) := by decide +kernel
theorem dX12_init_159 : decode cX12_init 159 = .ok (.iconst 4, 1) := by decide +kernel
theorem dX12_init_160 : decode cX12_init 160 = .ok (.newarray .int, 2) := by decide +kernel
theorem dX12_init_162 : decode cX12_init 162 = .ok (.putfield 71, 3) := by decide +kernel
theorem dX12_init_165 : decode cX12_init 165 = .ok (.aload_n 0, 1) := by decide +kernel
theorem dX12_init_166 : decode cX12_init 166 = .ok (.iconst 4, 1) := by decide +kernel
theorem dX12_init_167 : decode cX12_init 167 = .ok (.newarray .int, 2) := by decide +kernel
theorem dX12_init_169 : decode cX12_init 169 = .ok (.putfield 74, 3) := by decide +kernel
theorem dX12_init_172 : decode cX12_init 172 = .ok (.aload_n 0, 1) := by decide +kernel
theorem dX12_init_173 : decode cX12_init 173 = .ok (.iconst 4, 1) := by decide +kernel
theorem dX12_init_174 : decode cX12_init 174 = .ok (.newarray .int, 2) := by decide +kernel
theorem dX12_init_176 : decode cX12_init 176 = .ok (.putfield 77, 3) := by decide +kernel
theorem dX12_init_179 : decode cX12_init 179 = .ok (.aload_n 0, 1) := by decide +kernel
theorem dX12_init_180 : decode cX12_init 180 = .ok (.sipush 200, 3) := by decide +kernel
theorem dX12_init_183 : decode cX12_init 183 = .ok (.newarray .int, 2) := by decide +kernel
theorem dX12_init_185 : decode cX12_init 185 = .ok (.putfield 80, 3) := by decide +kernel
theorem dX12_init_188 : decode cX12_init 188 = .ok (.aload_n 0, 1) := by decide +kernel
theorem dX12_init_189 : decode cX12_init 189 = .ok (.bipush 24, 2) := by decide +kernel
theorem dX12_init_191 : decode cX12_init 191 = .ok (.newarray .int, 2) := by decide +kernel
theorem dX12_init_193 : decode cX12_init 193 = .ok (.putfield 83, 3) := by decide +kernel
theorem dX12_init_196 : decode cX12_init 196 = .ok (.aload_n 0, 1) := by decide +kernel
theorem dX12_init_197 : decode cX12_init 197 = .ok (.bipush 120, 2) := by decide +kernel
theorem dX12_init_199 : decode cX12_init 199 = .ok (.newarray .int, 2) := by decide +kernel
theorem dX12_init_201 : decode cX12_init 201 = .ok (.putfield 86, 3) := by decide +kernel
theorem dX12_init_204 : decode cX12_init 204 = .ok (.aload_n 0, 1) := by decide +kernel
theorem dX12_init_205 : decode cX12_init 205 = .ok (.iconst 3, 1) := by decide +kernel
theorem dX12_init_206 : decode cX12_init 206 = .ok (.newarray .int, 2) := by decide +kernel
theorem dX12_init_208 : decode cX12_init 208 = .ok (.putfield 89, 3) := by decide +kernel
theorem dX12_init_211 : decode cX12_init 211 = .ok (.aload_n 0, 1) := by decide +kernel
theorem dX12_init_212 : decode cX12_init 212 = .ok (.bipush 18, 2) := by decide +kernel
theorem dX12_init_214 : decode cX12_init 214 = .ok (.newarray .int, 2) := by decide +kernel
theorem dX12_init_216 : decode cX12_init 216 = .ok (.putfield 92, 3) := by decide +kernel
theorem dX12_init_219 : decode cX12_init 219 = .ok (.iconst 0, 1) := by decide +kernel
theorem dX12_init_220 : decode cX12_init 220 = .ok (.istore_n 1, 1) := by decide +kernel
theorem dX12_init_221 : decode cX12_init 221 = .ok (.iload_n 1, 1) := by decide +kernel
theorem dX12_init_222 : decode cX12_init 222 = .ok (.sipush 601, 3) := by decide +kernel
theorem dX12_init_225 : decode cX12_init 225 = .ok (.if_icmp .ge 16, 3) := by decide +kernel
theorem dX12_init_228 : decode cX12_init 228 = .ok (.aload_n 0, 1) := by decide +kernel
theorem dX12_init_229 : decode cX12_init 229 = .ok (.getfield 7, 3) := by decide +kernel
theorem dX12_init_232 : decode cX12_init 232 = .ok (.iload_n 1, 1) := by decide +kernel
theorem dX12_init_233 : decode cX12_init 233 = .ok (.iconst (-1), 1) := by decide +kernel
theorem dX12_init_234 : decode cX12_init 234 = .ok (.iastore, 1) := by decide +kernel
theorem dX12_init_235 : decode cX12_init 235 = .ok (.iinc 1 1, 3) := by decide +kernel
theorem dX12_init_238 : decode cX12_init 238 = .ok (.goto (-17), 3) := by decide +kernel
theorem dX12_init_241 : decode cX12_init 241 = .ok (.iconst 0, 1) := by decide +kernel
theorem dX12_init_242 : decode cX12_init 242 = .ok (.istore_n 1, 1) := by decide +kernel
theorem dX12_init_243 : decode cX12_init 243 = .ok (.iload_n 1, 1) := by decide +kernel
theorem dX12_init_244 : decode cX12_init 244 = .ok (.bipush 25, 2) := by decide +kernel
theorem dX12_init_246 : decode cX12_init 246 = .ok (.if_icmp .ge 18, 3) := by decide +kernel
theorem dX12_init_249 : decode cX12_init 249 = .ok (.aload_n 0, 1) := by decide +kernel
theorem dX12_init_250 : decode cX12_init 250 = .ok (.getfield 7, 3) := by decide +kernel
theorem dX12_init_253 : decode cX12_init 253 = .ok (.iload_n 1, 1) := by decide +kernel
theorem dX12_init_254 : decode cX12_init 254 = .ok (.iload_n 1, 1) := by decide +kernel
theorem dX12_init_255 : decode cX12_init 255 = .ok (.imul, 1) := by decide +kernel
theorem dX12_init_256 : decode cX12_init 256 = .ok (.iload_n 1, 1) := by decide +kernel
theorem dX12_init_257 : decode cX12_init 257 = .ok (.iastore, 1) := by decide +kernel
theorem dX12_init_258 : decode cX12_init 258 = .ok (.iinc 1 1, 3) := by decide +kernel
theorem dX12_init_261 : decode cX12_init 261 = .ok (.goto (-18), 3) := by decide +kernel
theorem dX12_init_264 : decode cX12_init 264 = .ok (.aload_n 0, 1) := by decide +kernel
theorem dX12_init_265 : decode cX12_init 265 = .ok (.iconst 0, 1) := by decide +kernel
theorem dX12_init_266 : decode cX12_init 266 = .ok (.putfield 95, 3) := by decide +kernel
theorem dX12_init_269 : decode cX12_init 269 = .ok (.aload_n 0, 1) := by decide +kernel
theorem dX12_init_270 : decode cX12_init 270 = .ok (.iconst 1, 1) := by decide +kernel
theorem dX12_init_271 : decode cX12_init 271 = .ok (.iconst 0, 1) := by decide +kernel
theorem dX12_init_272 : decode cX12_init 272 = .ok (.iconst 0, 1) := by decide +kernel
theorem dX12_init_273 : decode cX12_init 273 = .ok (.iconst 0, 1) := by decide +kernel
theorem dX12_init_274 : decode cX12_init 274 = .ok (.bipush 24, 2) := by decide +kernel
theorem dX12_init_276 : decode cX12_init 276 = .ok (.invokevirtual 99, 3) := by decide +kernel
theorem dX12_init_279 : decode cX12_init 279 = .ok (.iconst 0, 1) := by decide +kernel
theorem dX12_init_280 : decode cX12_init 280 = .ok (.istore_n 1, 1) := by decide +kernel
theorem dX12_init_281 : decode cX12_init 281 = .ok (.iload_n 1, 1) := by decide +kernel
theorem dX12_init_282 : decode cX12_init 282 = .ok (.bipush 96, 2) := by decide +kernel
theorem dX12_init_284 : decode cX12_init 284 = .ok (.if_icmp .ge 21, 3) := by decide +kernel
theorem dX12_init_287 : decode cX12_init 287 = .ok (.aload_n 0, 1) := by decide +kernel
theorem dX12_init_288 : decode cX12_init 288 = .ok (.getfield 13, 3) := by decide +kernel
theorem dX12_init_291 : decode cX12_init 291 = .ok (.iload_n 1, 1) := by decide +kernel
theorem dX12_init_292 : decode cX12_init 292 = .ok (.aload_n 0, 1) := by decide +kernel
theorem dX12_init_293 : decode cX12_init 293 = .ok (.getfield 25, 3) := by decide +kernel
theorem dX12_init_296 : decode cX12_init 296 = .ok (.iload_n 1, 1) := by decide +kernel
theorem dX12_init_297 : decode cX12_init 297 = .ok (.iaload, 1) := by decide +kernel
theorem dX12_init_298 : decode cX12_init 298 = .ok (.iastore, 1) := by decide +kernel
theorem dX12_init_299 : decode cX12_init 299 = .ok (.iinc 1 1, 3) := by decide +kernel
theorem dX12_init_302 : decode cX12_init 302 = .ok (.goto (-21), 3) := by decide +kernel
theorem dX12_init_305 : decode cX12_init 305 = .ok (.iconst 0, 1) := by decide +kernel
theorem dX12_init_306 : decode cX12_init 306 = .ok (.istore_n 1, 1) := by decide +kernel
theorem dX12_init_307 : decode cX12_init 307 = .ok (.iload_n 1, 1) := by decide +kernel
theorem dX12_init_308 : decode cX12_init 308 = .ok (.iconst 3, 1) := by decide +kernel
theorem dX12_init_309 : decode cX12_init 309 = .ok (.if_icmp .ge 16, 3) := by decide +kernel
theorem dX12_init_312 : decode cX12_init 312 = .ok (.aload_n 0, 1) := by decide +kernel
theorem dX12_init_313 : decode cX12_init 313 = .ok (.getfield 89, 3) := by decide +kernel
theorem dX12_init_316 : decode cX12_init 316 = .ok (.iload_n 1, 1) := by decide +kernel
theorem dX12_init_317 : decode cX12_init 317 = .ok (.iconst (-1), 1) := by decide +kernel
theorem dX12_init_318 : decode cX12_init 318 = .ok (.iastore, 1) := by decide +kernel
theorem dX12_init_319 : decode cX12_init 319 = .ok (.iinc 1 1, 3) := by decide +kernel
theorem dX12_init_322 : decode cX12_init 322 = .ok (.goto (-15), 3) := by decide +kernel
theorem dX12_init_325 : decode cX12_init 325 = .ok (.return_, 1) := by decide +kernel
theorem dX12_in_0 : decode cX12_in 0 = .ok (.iload_n 0, 1) := by decide +kernel
theorem dX12_in_1 : decode cX12_in 1 = .ok (.iload_n 1, 1) := by decide +kernel
theorem dX12_in_2 : decode cX12_in 2 = .ok (.if_icmp .lt 12, 3) := by decide +kernel
theorem dX12_in_5 : decode cX12_in 5 = .ok (.iload_n 0, 1) := by decide +kernel
theorem dX12_in_6 : decode cX12_in 6 = .ok (.iload_n 2, 1) := by decide +kernel
theorem dX12_in_7 : decode cX12_in 7 = .ok (.if_icmp .gt 7, 3) := by decide +kernel
theorem dX12_in_10 : decode cX12_in 10 = .ok (.iconst 1, 1) := by decide +kernel
theorem dX12_in_11 : decode cX12_in 11 = .ok (.goto 4, 3) := by decide +kernel
theorem dX12_in_14 : decode cX12_in 14 = .ok (.iconst 0, 1) := by decide +kernel
theorem dX12_in_15 : decode cX12_in 15 = .ok (.ireturn, 1) := by decide +kernel
theorem dX12_normOf_0 : decode cX12_normOf 0 = .ok (.aload_n 0, 1) := by decide +kernel
theorem dX12_normOf_1 : decode cX12_normOf 1 = .ok (.iload_n 1, 1) := by decide +kernel
theorem dX12_normOf_2 : decode cX12_normOf 2 = .ok (.iaload, 1) := by decide +kernel
theorem dX12_normOf_3 : decode cX12_normOf 3 = .ok (.aload_n 0, 1) := by decide +kernel
theorem dX12_normOf_4 : decode cX12_normOf 4 = .ok (.iload_n 1, 1) := by decide +kernel
theorem dX12_normOf_5 : decode cX12_normOf 5 = .ok (.iaload, 1) := by decide +kernel
theorem dX12_normOf_6 : decode cX12_normOf 6 = .ok (.imul, 1) := by decide +kernel
theorem dX12_normOf_7 : decode cX12_normOf 7 = .ok (.aload_n 0, 1) := by decide +kernel
theorem dX12_normOf_8 : decode cX12_normOf 8 = .ok (.iload_n 1, 1) := by decide +kernel
theorem dX12_normOf_9 : decode cX12_normOf 9 = .ok (.iconst 1, 1) := by decide +kernel
theorem dX12_normOf_10 : decode cX12_normOf 10 = .ok (.iadd, 1) := by decide +kernel
theorem dX12_normOf_11 : decode cX12_normOf 11 = .ok (.iaload, 1) := by decide +kernel
theorem dX12_normOf_12 : decode cX12_normOf 12 = .ok (.aload_n 0, 1) := by decide +kernel
theorem dX12_normOf_13 : decode cX12_normOf 13 = .ok (.iload_n 1, 1) := by decide +kernel
theorem dX12_normOf_14 : decode cX12_normOf 14 = .ok (.iconst 1, 1) := by decide +kernel
theorem dX12_normOf_15 : decode cX12_normOf 15 = .ok (.iadd, 1) := by decide +kernel
theorem dX12_normOf_16 : decode cX12_normOf 16 = .ok (.iaload, 1) := by decide +kernel
theorem dX12_normOf_17 : decode cX12_normOf 17 = .ok (.imul, 1) := by decide +kernel
theorem dX12_normOf_18 : decode cX12_normOf 18 = .ok (.iadd, 1) := by decide +kernel
theorem dX12_normOf_19 : decode cX12_normOf 19 = .ok (.aload_n 0, 1) := by decide +kernel
theorem dX12_normOf_20 : decode cX12_normOf 20 = .ok (.iload_n 1, 1) := by decide +kernel
theorem dX12_normOf_21 : decode cX12_normOf 21 = .ok (.iconst 2, 1) := by decide +kernel
theorem dX12_normOf_22 : decode cX12_normOf 22 = .ok (.iadd, 1) := by decide +kernel
theorem dX12_normOf_23 : decode cX12_normOf 23 = .ok (.iaload, 1) := by decide +kernel
theorem dX12_normOf_24 : decode cX12_normOf 24 = .ok (.aload_n 0, 1) := by decide +kernel
theorem dX12_normOf_25 : decode cX12_normOf 25 = .ok (.iload_n 1, 1) := by decide +kernel
theorem dX12_normOf_26 : decode cX12_normOf 26 = .ok (.iconst 2, 1) := by decide +kernel
theorem dX12_normOf_27 : decode cX12_normOf 27 = .ok (.iadd, 1) := by decide +kernel
theorem dX12_normOf_28 : decode cX12_normOf 28 = .ok (.iaload, 1) := by decide +kernel
theorem dX12_normOf_29 : decode cX12_normOf 29 = .ok (.imul, 1) := by decide +kernel
theorem dX12_normOf_30 : decode cX12_normOf 30 = .ok (.iadd, 1) := by decide +kernel
theorem dX12_normOf_31 : decode cX12_normOf 31 = .ok (.aload_n 0, 1) := by decide +kernel
theorem dX12_normOf_32 : decode cX12_normOf 32 = .ok (.iload_n 1, 1) := by decide +kernel
theorem dX12_normOf_33 : decode cX12_normOf 33 = .ok (.iconst 3, 1) := by decide +kernel
theorem dX12_normOf_34 : decode cX12_normOf 34 = .ok (.iadd, 1) := by decide +kernel
theorem dX12_normOf_35 : decode cX12_normOf 35 = .ok (.iaload, 1) := by decide +kernel
theorem dX12_normOf_36 : decode cX12_normOf 36 = .ok (.aload_n 0, 1) := by decide +kernel
theorem dX12_normOf_37 : decode cX12_normOf 37 = .ok (.iload_n 1, 1) := by decide +kernel
theorem dX12_normOf_38 : decode cX12_normOf 38 = .ok (.iconst 3, 1) := by decide +kernel
theorem dX12_normOf_39 : decode cX12_normOf 39 = .ok (.iadd, 1) := by decide +kernel
theorem dX12_normOf_40 : decode cX12_normOf 40 = .ok (.iaload, 1) := by decide +kernel
theorem dX12_normOf_41 : decode cX12_normOf 41 = .ok (.imul, 1) := by decide +kernel
theorem dX12_normOf_42 : decode cX12_normOf 42 = .ok (.iadd, 1) := by decide +kernel
theorem dX12_normOf_43 : decode cX12_normOf 43 = .ok (.iconst 4, 1) := by decide +kernel
theorem dX12_normOf_44 : decode cX12_normOf 44 = .ok (.idiv, 1) := by decide +kernel
theorem dX12_normOf_45 : decode cX12_normOf 45 = .ok (.ireturn, 1) := by decide +kernel
theorem dX12_copies_0 : decode cX12_copies 0 = .ok (.iconst 0, 1) := by decide +kernel
theorem dX12_copies_1 : decode cX12_copies 1 = .ok (.istore 4, 2) := by decide +kernel
theorem dX12_copies_3 : decode cX12_copies 3 = .ok (.iload 4, 2) := by decide +kernel
theorem dX12_copies_5 : decode cX12_copies 5 = .ok (.iconst 4, 1) := by decide +kernel
theorem dX12_copies_6 : decode cX12_copies 6 = .ok (.if_icmp .ge 21, 3) := by decide +kernel
theorem dX12_copies_9 : decode cX12_copies 9 = .ok (.aload_n 2, 1) := by decide +kernel
theorem dX12_copies_10 : decode cX12_copies 10 = .ok (.iload_n 3, 1) := by decide +kernel
theorem dX12_copies_11 : decode cX12_copies 11 = .ok (.iload 4, 2) := by decide +kernel
theorem dX12_copies_13 : decode cX12_copies 13 = .ok (.iadd, 1) := by decide +kernel
theorem dX12_copies_14 : decode cX12_copies 14 = .ok (.aload_n 0, 1) := by decide +kernel
theorem dX12_copies_15 : decode cX12_copies 15 = .ok (.iload_n 1, 1) := by decide +kernel
theorem dX12_copies_16 : decode cX12_copies 16 = .ok (.iload 4, 2) := by decide +kernel
theorem dX12_copies_18 : decode cX12_copies 18 = .ok (.iadd, 1) := by decide +kernel
theorem dX12_copies_19 : decode cX12_copies 19 = .ok (.iaload, 1) := by decide +kernel
theorem dX12_copies_20 : decode cX12_copies 20 = .ok (.iastore, 1) := by decide +kernel
theorem dX12_copies_21 : decode cX12_copies 21 = .ok (.iinc 4 1, 3) := by decide +kernel
theorem dX12_copies_24 : decode cX12_copies 24 = .ok (.goto (-21), 3) := by decide +kernel
theorem dX12_copies_27 : decode cX12_copies 27 = .ok (.return_, 1) := by decide +kernel
theorem dX12_conjugates_0 : decode cX12_conjugates 0 = .ok (.aload_n 2, 1) := by decide +kernel
theorem dX12_conjugates_1 : decode cX12_conjugates 1 = .ok (.iconst 0, 1) := by decide +kernel
theorem dX12_conjugates_2 : decode cX12_conjugates 2 = .ok (.aload_n 0, 1) := by decide +kernel
theorem dX12_conjugates_3 : decode cX12_conjugates 3 = .ok (.iload_n 1, 1) := by decide +kernel
theorem dX12_conjugates_4 : decode cX12_conjugates 4 = .ok (.iaload, 1) := by decide +kernel
theorem dX12_conjugates_5 : decode cX12_conjugates 5 = .ok (.iastore, 1) := by decide +kernel
theorem dX12_conjugates_6 : decode cX12_conjugates 6 = .ok (.aload_n 2, 1) := by decide +kernel
theorem dX12_conjugates_7 : decode cX12_conjugates 7 = .ok (.iconst 1, 1) := by decide +kernel
theorem dX12_conjugates_8 : decode cX12_conjugates 8 = .ok (.aload_n 0, 1) := by decide +kernel
theorem dX12_conjugates_9 : decode cX12_conjugates 9 = .ok (.iload_n 1, 1) := by decide +kernel
theorem dX12_conjugates_10 : decode cX12_conjugates 10 = .ok (.iconst 1, 1) := by decide +kernel
theorem dX12_conjugates_11 : decode cX12_conjugates 11 = .ok (.iadd, 1) := by decide +kernel
theorem dX12_conjugates_12 : decode cX12_conjugates 12 = .ok (.iaload, 1) := by decide +kernel
theorem dX12_conjugates_13 : decode cX12_conjugates 13 = .ok (.ineg, 1) := by decide +kernel
theorem dX12_conjugates_14 : decode cX12_conjugates 14 = .ok (.iastore, 1) := by decide +kernel
theorem dX12_conjugates_15 : decode cX12_conjugates 15 = .ok (.aload_n 2, 1) := by decide +kernel
theorem dX12_conjugates_16 : decode cX12_conjugates 16 = .ok (.iconst 2, 1) := by decide +kernel
theorem dX12_conjugates_17 : decode cX12_conjugates 17 = .ok (.aload_n 0, 1) := by decide +kernel
theorem dX12_conjugates_18 : decode cX12_conjugates 18 = .ok (.iload_n 1, 1) := by decide +kernel
theorem dX12_conjugates_19 : decode cX12_conjugates 19 = .ok (.iconst 2, 1) := by decide +kernel
theorem dX12_conjugates_20 : decode cX12_conjugates 20 = .ok (.iadd, 1) := by decide +kernel
theorem dX12_conjugates_21 : decode cX12_conjugates 21 = .ok (.iaload, 1) := by decide +kernel
theorem dX12_conjugates_22 : decode cX12_conjugates 22 = .ok (.ineg, 1) := by decide +kernel
theorem dX12_conjugates_23 : decode cX12_conjugates 23 = .ok (.iastore, 1) := by decide +kernel
theorem dX12_conjugates_24 : decode cX12_conjugates 24 = .ok (.aload_n 2, 1) := by decide +kernel
theorem dX12_conjugates_25 : decode cX12_conjugates 25 = .ok (.iconst 3, 1) := by decide +kernel
theorem dX12_conjugates_26 : decode cX12_conjugates 26 = .ok (.aload_n 0, 1) := by decide +kernel
theorem dX12_conjugates_27 : decode cX12_conjugates 27 = .ok (.iload_n 1, 1) := by decide +kernel
theorem dX12_conjugates_28 : decode cX12_conjugates 28 = .ok (.iconst 3, 1) := by decide +kernel
theorem dX12_conjugates_29 : decode cX12_conjugates 29 = .ok (.iadd, 1) := by decide +kernel
theorem dX12_conjugates_30 : decode cX12_conjugates 30 = .ok (.iaload, 1) := by decide +kernel
theorem dX12_conjugates_31 : decode cX12_conjugates 31 = .ok (.ineg, 1) := by decide +kernel
theorem dX12_conjugates_32 : decode cX12_conjugates 32 = .ok (.iastore, 1) := by decide +kernel
theorem dX12_conjugates_33 : decode cX12_conjugates 33 = .ok (.return_, 1) := by decide +kernel
theorem dX12_product_0 : decode cX12_product 0 = .ok (.aload_n 0, 1) := by decide +kernel
theorem dX12_product_1 : decode cX12_product 1 = .ok (.iload_n 1, 1) := by decide +kernel
theorem dX12_product_2 : decode cX12_product 2 = .ok (.iaload, 1) := by decide +kernel
theorem dX12_product_3 : decode cX12_product 3 = .ok (.istore 5, 2) := by decide +kernel
theorem dX12_product_5 : decode cX12_product 5 = .ok (.aload_n 0, 1) := by decide +kernel
theorem dX12_product_6 : decode cX12_product 6 = .ok (.iload_n 1, 1) := by decide +kernel
theorem dX12_product_7 : decode cX12_product 7 = .ok (.iconst 1, 1) := by decide +kernel
theorem dX12_product_8 : decode cX12_product 8 = .ok (.iadd, 1) := by decide +kernel
theorem dX12_product_9 : decode cX12_product 9 = .ok (.iaload, 1) := by decide +kernel
theorem dX12_product_10 : decode cX12_product 10 = .ok (.istore 6, 2) := by decide +kernel
theorem dX12_product_12 : decode cX12_product 12 = .ok (.aload_n 0, 1) := by decide +kernel
theorem dX12_product_13 : decode cX12_product 13 = .ok (.iload_n 1, 1) := by decide +kernel
theorem dX12_product_14 : decode cX12_product 14 = .ok (.iconst 2, 1) := by decide +kernel
theorem dX12_product_15 : decode cX12_product 15 = .ok (.iadd, 1) := by decide +kernel
theorem dX12_product_16 : decode cX12_product 16 = .ok (.iaload, 1) := by decide +kernel
theorem dX12_product_17 : decode cX12_product 17 = .ok (.istore 7, 2) := by decide +kernel
theorem dX12_product_19 : decode cX12_product 19 = .ok (.aload_n 0, 1) := by decide +kernel
theorem dX12_product_20 : decode cX12_product 20 = .ok (.iload_n 1, 1) := by decide +kernel
theorem dX12_product_21 : decode cX12_product 21 = .ok (.iconst 3, 1) := by decide +kernel
theorem dX12_product_22 : decode cX12_product 22 = .ok (.iadd, 1) := by decide +kernel
theorem dX12_product_23 : decode cX12_product 23 = .ok (.iaload, 1) := by decide +kernel
theorem dX12_product_24 : decode cX12_product 24 = .ok (.istore 8, 2) := by decide +kernel
theorem dX12_product_26 : decode cX12_product 26 = .ok (.aload_n 2, 1) := by decide +kernel
theorem dX12_product_27 : decode cX12_product 27 = .ok (.iload_n 3, 1) := by decide +kernel
theorem dX12_product_28 : decode cX12_product 28 = .ok (.iaload, 1) := by decide +kernel
theorem dX12_product_29 : decode cX12_product 29 = .ok (.istore 9, 2) := by decide +kernel
theorem dX12_product_31 : decode cX12_product 31 = .ok (.aload_n 2, 1) := by decide +kernel
theorem dX12_product_32 : decode cX12_product 32 = .ok (.iload_n 3, 1) := by decide +kernel
theorem dX12_product_33 : decode cX12_product 33 = .ok (.iconst 1, 1) := by decide +kernel
theorem dX12_product_34 : decode cX12_product 34 = .ok (.iadd, 1) := by decide +kernel
theorem dX12_product_35 : decode cX12_product 35 = .ok (.iaload, 1) := by decide +kernel
theorem dX12_product_36 : decode cX12_product 36 = .ok (.istore 10, 2) := by decide +kernel
theorem dX12_product_38 : decode cX12_product 38 = .ok (.aload_n 2, 1) := by decide +kernel
theorem dX12_product_39 : decode cX12_product 39 = .ok (.iload_n 3, 1) := by decide +kernel
theorem dX12_product_40 : decode cX12_product 40 = .ok (.iconst 2, 1) := by decide +kernel
theorem dX12_product_41 : decode cX12_product 41 = .ok (.iadd, 1) := by decide +kernel
theorem dX12_product_42 : decode cX12_product 42 = .ok (.iaload, 1) := by decide +kernel
theorem dX12_product_43 : decode cX12_product 43 = .ok (.istore 11, 2) := by decide +kernel
theorem dX12_product_45 : decode cX12_product 45 = .ok (.aload_n 2, 1) := by decide +kernel
theorem dX12_product_46 : decode cX12_product 46 = .ok (.iload_n 3, 1) := by decide +kernel
theorem dX12_product_47 : decode cX12_product 47 = .ok (.iconst 3, 1) := by decide +kernel
theorem dX12_product_48 : decode cX12_product 48 = .ok (.iadd, 1) := by decide +kernel
theorem dX12_product_49 : decode cX12_product 49 = .ok (.iaload, 1) := by decide +kernel
theorem dX12_product_50 : decode cX12_product 50 = .ok (.istore 12, 2) := by decide +kernel
theorem dX12_product_52 : decode cX12_product 52 = .ok (.aload 4, 2) := by decide +kernel
theorem dX12_product_54 : decode cX12_product 54 = .ok (.iconst 0, 1) := by decide +kernel
theorem dX12_product_55 : decode cX12_product 55 = .ok (.iload 5, 2) := by decide +kernel
theorem dX12_product_57 : decode cX12_product 57 = .ok (.iload 9, 2) := by decide +kernel
theorem dX12_product_59 : decode cX12_product 59 = .ok (.imul, 1) := by decide +kernel
theorem dX12_product_60 : decode cX12_product 60 = .ok (.iload 6, 2) := by decide +kernel
theorem dX12_product_62 : decode cX12_product 62 = .ok (.iload 10, 2) := by decide +kernel
theorem dX12_product_64 : decode cX12_product 64 = .ok (.imul, 1) := by decide +kernel
theorem dX12_product_65 : decode cX12_product 65 = .ok (.isub, 1) := by decide +kernel
theorem dX12_product_66 : decode cX12_product 66 = .ok (.iload 7, 2) := by decide +kernel
theorem dX12_product_68 : decode cX12_product 68 = .ok (.iload 11, 2) := by decide +kernel
theorem dX12_product_70 : decode cX12_product 70 = .ok (.imul, 1) := by decide +kernel
theorem dX12_product_71 : decode cX12_product 71 = .ok (.isub, 1) := by decide +kernel
theorem dX12_product_72 : decode cX12_product 72 = .ok (.iload 8, 2) := by decide +kernel
theorem dX12_product_74 : decode cX12_product 74 = .ok (.iload 12, 2) := by decide +kernel
theorem dX12_product_76 : decode cX12_product 76 = .ok (.imul, 1) := by decide +kernel
theorem dX12_product_77 : decode cX12_product 77 = .ok (.isub, 1) := by decide +kernel
theorem dX12_product_78 : decode cX12_product 78 = .ok (.iconst 2, 1) := by decide +kernel
theorem dX12_product_79 : decode cX12_product 79 = .ok (.idiv, 1) := by decide +kernel
theorem dX12_product_80 : decode cX12_product 80 = .ok (.iastore, 1) := by decide +kernel
theorem dX12_product_81 : decode cX12_product 81 = .ok (.aload 4, 2) := by decide +kernel
theorem dX12_product_83 : decode cX12_product 83 = .ok (.iconst 1, 1) := by decide +kernel
theorem dX12_product_84 : decode cX12_product 84 = .ok (.iload 5, 2) := by decide +kernel
theorem dX12_product_86 : decode cX12_product 86 = .ok (.iload 10, 2) := by decide +kernel
theorem dX12_product_88 : decode cX12_product 88 = .ok (.imul, 1) := by decide +kernel
theorem dX12_product_89 : decode cX12_product 89 = .ok (.iload 6, 2) := by decide +kernel
theorem dX12_product_91 : decode cX12_product 91 = .ok (.iload 9, 2) := by decide +kernel
theorem dX12_product_93 : decode cX12_product 93 = .ok (.imul, 1) := by decide +kernel
theorem dX12_product_94 : decode cX12_product 94 = .ok (.iadd, 1) := by decide +kernel
theorem dX12_product_95 : decode cX12_product 95 = .ok (.iload 7, 2) := by decide +kernel
theorem dX12_product_97 : decode cX12_product 97 = .ok (.iload 12, 2) := by decide +kernel
theorem dX12_product_99 : decode cX12_product 99 = .ok (.imul, 1) := by decide +kernel
theorem dX12_product_100 : decode cX12_product 100 = .ok (.iadd, 1) := by decide +kernel
theorem dX12_product_101 : decode cX12_product 101 = .ok (.iload 8, 2) := by decide +kernel
theorem dX12_product_103 : decode cX12_product 103 = .ok (.iload 11, 2) := by decide +kernel
theorem dX12_product_105 : decode cX12_product 105 = .ok (.imul, 1) := by decide +kernel
theorem dX12_product_106 : decode cX12_product 106 = .ok (.isub, 1) := by decide +kernel
theorem dX12_product_107 : decode cX12_product 107 = .ok (.iconst 2, 1) := by decide +kernel
theorem dX12_product_108 : decode cX12_product 108 = .ok (.idiv, 1) := by decide +kernel
theorem dX12_product_109 : decode cX12_product 109 = .ok (.iastore, 1) := by decide +kernel
theorem dX12_product_110 : decode cX12_product 110 = .ok (.aload 4, 2) := by decide +kernel
theorem dX12_product_112 : decode cX12_product 112 = .ok (.iconst 2, 1) := by decide +kernel
theorem dX12_product_113 : decode cX12_product 113 = .ok (.iload 5, 2) := by decide +kernel
theorem dX12_product_115 : decode cX12_product 115 = .ok (.iload 11, 2) := by decide +kernel
theorem dX12_product_117 : decode cX12_product 117 = .ok (.imul, 1) := by decide +kernel
theorem dX12_product_118 : decode cX12_product 118 = .ok (.iload 6, 2) := by decide +kernel
theorem dX12_product_120 : decode cX12_product 120 = .ok (.iload 12, 2) := by decide +kernel
theorem dX12_product_122 : decode cX12_product 122 = .ok (.imul, 1) := by decide +kernel
theorem dX12_product_123 : decode cX12_product 123 = .ok (.isub, 1) := by decide +kernel
theorem dX12_product_124 : decode cX12_product 124 = .ok (.iload 7, 2) := by decide +kernel
theorem dX12_product_126 : decode cX12_product 126 = .ok (.iload 9, 2) := by decide +kernel
theorem dX12_product_128 : decode cX12_product 128 = .ok (.imul, 1) := by decide +kernel
theorem dX12_product_129 : decode cX12_product 129 = .ok (.iadd, 1) := by decide +kernel
theorem dX12_product_130 : decode cX12_product 130 = .ok (.iload 8, 2) := by decide +kernel
theorem dX12_product_132 : decode cX12_product 132 = .ok (.iload 10, 2) := by decide +kernel
theorem dX12_product_134 : decode cX12_product 134 = .ok (.imul, 1) := by decide +kernel
theorem dX12_product_135 : decode cX12_product 135 = .ok (.iadd, 1) := by decide +kernel
theorem dX12_product_136 : decode cX12_product 136 = .ok (.iconst 2, 1) := by decide +kernel
theorem dX12_product_137 : decode cX12_product 137 = .ok (.idiv, 1) := by decide +kernel
theorem dX12_product_138 : decode cX12_product 138 = .ok (.iastore, 1) := by decide +kernel
theorem dX12_product_139 : decode cX12_product 139 = .ok (.aload 4, 2) := by decide +kernel
theorem dX12_product_141 : decode cX12_product 141 = .ok (.iconst 3, 1) := by decide +kernel
theorem dX12_product_142 : decode cX12_product 142 = .ok (.iload 5, 2) := by decide +kernel
theorem dX12_product_144 : decode cX12_product 144 = .ok (.iload 12, 2) := by decide +kernel
theorem dX12_product_146 : decode cX12_product 146 = .ok (.imul, 1) := by decide +kernel
theorem dX12_product_147 : decode cX12_product 147 = .ok (.iload 6, 2) := by decide +kernel
theorem dX12_product_149 : decode cX12_product 149 = .ok (.iload 11, 2) := by decide +kernel
theorem dX12_product_151 : decode cX12_product 151 = .ok (.imul, 1) := by decide +kernel
theorem dX12_product_152 : decode cX12_product 152 = .ok (.iadd, 1) := by decide +kernel
theorem dX12_product_153 : decode cX12_product 153 = .ok (.iload 7, 2) := by decide +kernel
theorem dX12_product_155 : decode cX12_product 155 = .ok (.iload 10, 2) := by decide +kernel
theorem dX12_product_157 : decode cX12_product 157 = .ok (.imul, 1) := by decide +kernel
theorem dX12_product_158 : decode cX12_product 158 = .ok (.isub, 1) := by decide +kernel
theorem dX12_product_159 : decode cX12_product 159 = .ok (.iload 8, 2) := by decide +kernel
theorem dX12_product_161 : decode cX12_product 161 = .ok (.iload 9, 2) := by decide +kernel
theorem dX12_product_163 : decode cX12_product 163 = .ok (.imul, 1) := by decide +kernel
theorem dX12_product_164 : decode cX12_product 164 = .ok (.iadd, 1) := by decide +kernel
theorem dX12_product_165 : decode cX12_product 165 = .ok (.iconst 2, 1) := by decide +kernel
theorem dX12_product_166 : decode cX12_product 166 = .ok (.idiv, 1) := by decide +kernel
theorem dX12_product_167 : decode cX12_product 167 = .ok (.iastore, 1) := by decide +kernel
theorem dX12_product_168 : decode cX12_product 168 = .ok (.return_, 1) := by decide +kernel
theorem dX12_makes_0 : decode cX12_makes 0 = .ok (.iload 4, 2) := by decide +kernel
theorem dX12_makes_2 : decode cX12_makes 2 = .ok (.ifCond .ne 15, 3) := by decide +kernel
theorem dX12_makes_5 : decode cX12_makes 5 = .ok (.aload_n 0, 1) := by decide +kernel
theorem dX12_makes_6 : decode cX12_makes 6 = .ok (.iload_n 1, 1) := by decide +kernel
theorem dX12_makes_7 : decode cX12_makes 7 = .ok (.aload_n 2, 1) := by decide +kernel
theorem dX12_makes_8 : decode cX12_makes 8 = .ok (.iload_n 3, 1) := by decide +kernel
theorem dX12_makes_9 : decode cX12_makes 9 = .ok (.aload 5, 2) := by decide +kernel
theorem dX12_makes_11 : decode cX12_makes 11 = .ok (.invokestatic 103, 3) := by decide +kernel
theorem dX12_makes_14 : decode cX12_makes 14 = .ok (.goto 12, 3) := by decide +kernel
theorem dX12_makes_17 : decode cX12_makes 17 = .ok (.aload_n 2, 1) := by decide +kernel
theorem dX12_makes_18 : decode cX12_makes 18 = .ok (.iload_n 3, 1) := by decide +kernel
theorem dX12_makes_19 : decode cX12_makes 19 = .ok (.aload_n 0, 1) := by decide +kernel
theorem dX12_makes_20 : decode cX12_makes 20 = .ok (.iload_n 1, 1) := by decide +kernel
theorem dX12_makes_21 : decode cX12_makes 21 = .ok (.aload 5, 2) := by decide +kernel
theorem dX12_makes_23 : decode cX12_makes 23 = .ok (.invokestatic 103, 3) := by decide +kernel
theorem dX12_makes_26 : decode cX12_makes 26 = .ok (.return_, 1) := by decide +kernel
theorem dX12_isGreater_0 : decode cX12_isGreater 0 = .ok (.iconst 0, 1) := by decide +kernel
theorem dX12_isGreater_1 : decode cX12_isGreater 1 = .ok (.istore 4, 2) := by decide +kernel
theorem dX12_isGreater_3 : decode cX12_isGreater 3 = .ok (.iload 4, 2) := by decide +kernel
theorem dX12_isGreater_5 : decode cX12_isGreater 5 = .ok (.iconst 3, 1) := by decide +kernel
theorem dX12_isGreater_6 : decode cX12_isGreater 6 = .ok (.if_icmp .ge 24, 3) := by decide +kernel
theorem dX12_isGreater_9 : decode cX12_isGreater 9 = .ok (.aload_n 0, 1) := by decide +kernel
theorem dX12_isGreater_10 : decode cX12_isGreater 10 = .ok (.iload_n 1, 1) := by decide +kernel
theorem dX12_isGreater_11 : decode cX12_isGreater 11 = .ok (.iload 4, 2) := by decide +kernel
theorem dX12_isGreater_13 : decode cX12_isGreater 13 = .ok (.iadd, 1) := by decide +kernel
theorem dX12_isGreater_14 : decode cX12_isGreater 14 = .ok (.iaload, 1) := by decide +kernel
theorem dX12_isGreater_15 : decode cX12_isGreater 15 = .ok (.aload_n 2, 1) := by decide +kernel
theorem dX12_isGreater_16 : decode cX12_isGreater 16 = .ok (.iload_n 3, 1) := by decide +kernel
theorem dX12_isGreater_17 : decode cX12_isGreater 17 = .ok (.iload 4, 2) := by decide +kernel
theorem dX12_isGreater_19 : decode cX12_isGreater 19 = .ok (.iadd, 1) := by decide +kernel
theorem dX12_isGreater_20 : decode cX12_isGreater 20 = .ok (.iaload, 1) := by decide +kernel
theorem dX12_isGreater_21 : decode cX12_isGreater 21 = .ok (.if_icmp .ne 9, 3) := by decide +kernel
theorem dX12_isGreater_24 : decode cX12_isGreater 24 = .ok (.iinc 4 1, 3) := by decide +kernel
theorem dX12_isGreater_27 : decode cX12_isGreater 27 = .ok (.goto (-24), 3) := by decide +kernel
theorem dX12_isGreater_30 : decode cX12_isGreater 30 = .ok (.aload_n 0, 1) := by decide +kernel
theorem dX12_isGreater_31 : decode cX12_isGreater 31 = .ok (.iload_n 1, 1) := by decide +kernel
theorem dX12_isGreater_32 : decode cX12_isGreater 32 = .ok (.iload 4, 2) := by decide +kernel
theorem dX12_isGreater_34 : decode cX12_isGreater 34 = .ok (.iadd, 1) := by decide +kernel
theorem dX12_isGreater_35 : decode cX12_isGreater 35 = .ok (.iaload, 1) := by decide +kernel
theorem dX12_isGreater_36 : decode cX12_isGreater 36 = .ok (.aload_n 2, 1) := by decide +kernel
theorem dX12_isGreater_37 : decode cX12_isGreater 37 = .ok (.iload_n 3, 1) := by decide +kernel
theorem dX12_isGreater_38 : decode cX12_isGreater 38 = .ok (.iload 4, 2) := by decide +kernel
theorem dX12_isGreater_40 : decode cX12_isGreater 40 = .ok (.iadd, 1) := by decide +kernel
theorem dX12_isGreater_41 : decode cX12_isGreater 41 = .ok (.iaload, 1) := by decide +kernel
theorem dX12_isGreater_42 : decode cX12_isGreater 42 = .ok (.if_icmp .le 7, 3) := by decide +kernel
theorem dX12_isGreater_45 : decode cX12_isGreater 45 = .ok (.iconst 1, 1) := by decide +kernel
theorem dX12_isGreater_46 : decode cX12_isGreater 46 = .ok (.goto 4, 3) := by decide +kernel
theorem dX12_isGreater_49 : decode cX12_isGreater 49 = .ok (.iconst 0, 1) := by decide +kernel
theorem dX12_isGreater_50 : decode cX12_isGreater 50 = .ok (.ireturn, 1) := by decide +kernel
theorem dX12_areLike_0 : decode cX12_areLike 0 = .ok (.iload_n 0, 1) := by decide +kernel
theorem dX12_areLike_1 : decode cX12_areLike 1 = .ok (.iload_n 1, 1) := by decide +kernel
theorem dX12_areLike_2 : decode cX12_areLike 2 = .ok (.isub, 1) := by decide +kernel
theorem dX12_areLike_3 : decode cX12_areLike 3 = .ok (.iconst 2, 1) := by decide +kernel
theorem dX12_areLike_4 : decode cX12_areLike 4 = .ok (.irem, 1) := by decide +kernel
theorem dX12_areLike_5 : decode cX12_areLike 5 = .ok (.ifCond .ne 23, 3) := by decide +kernel
theorem dX12_areLike_8 : decode cX12_areLike 8 = .ok (.iload_n 0, 1) := by decide +kernel
theorem dX12_areLike_9 : decode cX12_areLike 9 = .ok (.iload_n 2, 1) := by decide +kernel
theorem dX12_areLike_10 : decode cX12_areLike 10 = .ok (.isub, 1) := by decide +kernel
theorem dX12_areLike_11 : decode cX12_areLike 11 = .ok (.iconst 2, 1) := by decide +kernel
theorem dX12_areLike_12 : decode cX12_areLike 12 = .ok (.irem, 1) := by decide +kernel
theorem dX12_areLike_13 : decode cX12_areLike 13 = .ok (.ifCond .ne 15, 3) := by decide +kernel
theorem dX12_areLike_16 : decode cX12_areLike 16 = .ok (.iload_n 0, 1) := by decide +kernel
theorem dX12_areLike_17 : decode cX12_areLike 17 = .ok (.iload_n 3, 1) := by decide +kernel
theorem dX12_areLike_18 : decode cX12_areLike 18 = .ok (.isub, 1) := by decide +kernel
theorem dX12_areLike_19 : decode cX12_areLike 19 = .ok (.iconst 2, 1) := by decide +kernel
theorem dX12_areLike_20 : decode cX12_areLike 20 = .ok (.irem, 1) := by decide +kernel
theorem dX12_areLike_21 : decode cX12_areLike 21 = .ok (.ifCond .ne 7, 3) := by decide +kernel
theorem dX12_areLike_24 : decode cX12_areLike 24 = .ok (.iconst 1, 1) := by decide +kernel
theorem dX12_areLike_25 : decode cX12_areLike 25 = .ok (.goto 4, 3) := by decide +kernel
theorem dX12_areLike_28 : decode cX12_areLike 28 = .ok (.iconst 0, 1) := by decide +kernel
theorem dX12_areLike_29 : decode cX12_areLike 29 = .ok (.ireturn, 1) := by decide +kernel
theorem dX12_isNought_0 : decode cX12_isNought 0 = .ok (.aload_n 0, 1) := by decide +kernel
theorem dX12_isNought_1 : decode cX12_isNought 1 = .ok (.iload_n 1, 1) := by decide +kernel
theorem dX12_isNought_2 : decode cX12_isNought 2 = .ok (.iaload, 1) := by decide +kernel
theorem dX12_isNought_3 : decode cX12_isNought 3 = .ok (.ifCond .ne 31, 3) := by decide +kernel
theorem dX12_isNought_6 : decode cX12_isNought 6 = .ok (.aload_n 0, 1) := by decide +kernel
theorem dX12_isNought_7 : decode cX12_isNought 7 = .ok (.iload_n 1, 1) := by decide +kernel
theorem dX12_isNought_8 : decode cX12_isNought 8 = .ok (.iconst 1, 1) := by decide +kernel
theorem dX12_isNought_9 : decode cX12_isNought 9 = .ok (.iadd, 1) := by decide +kernel
theorem dX12_isNought_10 : decode cX12_isNought 10 = .ok (.iaload, 1) := by decide +kernel
theorem dX12_isNought_11 : decode cX12_isNought 11 = .ok (.ifCond .ne 23, 3) := by decide +kernel
theorem dX12_isNought_14 : decode cX12_isNought 14 = .ok (.aload_n 0, 1) := by decide +kernel
theorem dX12_isNought_15 : decode cX12_isNought 15 = .ok (.iload_n 1, 1) := by decide +kernel
theorem dX12_isNought_16 : decode cX12_isNought 16 = .ok (.iconst 2, 1) := by decide +kernel
theorem dX12_isNought_17 : decode cX12_isNought 17 = .ok (.iadd, 1) := by decide +kernel
theorem dX12_isNought_18 : decode cX12_isNought 18 = .ok (.iaload, 1) := by decide +kernel
theorem dX12_isNought_19 : decode cX12_isNought 19 = .ok (.ifCond .ne 15, 3) := by decide +kernel
theorem dX12_isNought_22 : decode cX12_isNought 22 = .ok (.aload_n 0, 1) := by decide +kernel
theorem dX12_isNought_23 : decode cX12_isNought 23 = .ok (.iload_n 1, 1) := by decide +kernel
theorem dX12_isNought_24 : decode cX12_isNought 24 = .ok (.iconst 3, 1) := by decide +kernel
theorem dX12_isNought_25 : decode cX12_isNought 25 = .ok (.iadd, 1) := by decide +kernel
theorem dX12_isNought_26 : decode cX12_isNought 26 = .ok (.iaload, 1) := by decide +kernel
theorem dX12_isNought_27 : decode cX12_isNought 27 = .ok (.ifCond .ne 7, 3) := by decide +kernel
theorem dX12_isNought_30 : decode cX12_isNought 30 = .ok (.iconst 1, 1) := by decide +kernel
theorem dX12_isNought_31 : decode cX12_isNought 31 = .ok (.goto 4, 3) := by decide +kernel
theorem dX12_isNought_34 : decode cX12_isNought 34 = .ok (.iconst 0, 1) := by decide +kernel
theorem dX12_isNought_35 : decode cX12_isNought 35 = .ok (.ireturn, 1) := by decide +kernel
theorem dX12_isDivisor_0 : decode cX12_isDivisor 0 = .ok (.aload_n 1, 1) := by decide +kernel
theorem dX12_isDivisor_1 : decode cX12_isDivisor 1 = .ok (.iload_n 2, 1) := by decide +kernel
theorem dX12_isDivisor_2 : decode cX12_isDivisor 2 = .ok (.invokestatic 107, 3) := by decide +kernel
theorem dX12_isDivisor_5 : decode cX12_isDivisor 5 = .ok (.istore 6, 2) := by decide +kernel
theorem dX12_isDivisor_7 : decode cX12_isDivisor 7 = .ok (.aload_n 1, 1) := by decide +kernel
theorem dX12_isDivisor_8 : decode cX12_isDivisor 8 = .ok (.iload_n 2, 1) := by decide +kernel
theorem dX12_isDivisor_9 : decode cX12_isDivisor 9 = .ok (.aload_n 0, 1) := by decide +kernel
theorem dX12_isDivisor_10 : decode cX12_isDivisor 10 = .ok (.getfield 16, 3) := by decide +kernel
theorem dX12_isDivisor_13 : decode cX12_isDivisor 13 = .ok (.invokestatic 111, 3) := by decide +kernel
theorem dX12_isDivisor_16 : decode cX12_isDivisor 16 = .ok (.aload_n 0, 1) := by decide +kernel
theorem dX12_isDivisor_17 : decode cX12_isDivisor 17 = .ok (.getfield 16, 3) := by decide +kernel
theorem dX12_isDivisor_20 : decode cX12_isDivisor 20 = .ok (.iconst 0, 1) := by decide +kernel
theorem dX12_isDivisor_21 : decode cX12_isDivisor 21 = .ok (.aload_n 3, 1) := by decide +kernel
theorem dX12_isDivisor_22 : decode cX12_isDivisor 22 = .ok (.iload 4, 2) := by decide +kernel
theorem dX12_isDivisor_24 : decode cX12_isDivisor 24 = .ok (.iload 5, 2) := by decide +kernel
theorem dX12_isDivisor_26 : decode cX12_isDivisor 26 = .ok (.aload_n 0, 1) := by decide +kernel
theorem dX12_isDivisor_27 : decode cX12_isDivisor 27 = .ok (.getfield 19, 3) := by decide +kernel
theorem dX12_isDivisor_30 : decode cX12_isDivisor 30 = .ok (.invokestatic 115, 3) := by decide +kernel
theorem dX12_isDivisor_33 : decode cX12_isDivisor 33 = .ok (.iconst 1, 1) := by decide +kernel
theorem dX12_isDivisor_34 : decode cX12_isDivisor 34 = .ok (.istore 7, 2) := by decide +kernel
theorem dX12_isDivisor_36 : decode cX12_isDivisor 36 = .ok (.iconst 0, 1) := by decide +kernel
theorem dX12_isDivisor_37 : decode cX12_isDivisor 37 = .ok (.istore 8, 2) := by decide +kernel
theorem dX12_isDivisor_39 : decode cX12_isDivisor 39 = .ok (.iload 8, 2) := by decide +kernel
theorem dX12_isDivisor_41 : decode cX12_isDivisor 41 = .ok (.iconst 4, 1) := by decide +kernel
theorem dX12_isDivisor_42 : decode cX12_isDivisor 42 = .ok (.if_icmp .ge 46, 3) := by decide +kernel
theorem dX12_isDivisor_45 : decode cX12_isDivisor 45 = .ok (.iload 7, 2) := by decide +kernel
theorem dX12_isDivisor_47 : decode cX12_isDivisor 47 = .ok (.ifCond .eq 20, 3) := by decide +kernel
theorem dX12_isDivisor_50 : decode cX12_isDivisor 50 = .ok (.aload_n 0, 1) := by decide +kernel
theorem dX12_isDivisor_51 : decode cX12_isDivisor 51 = .ok (.getfield 19, 3) := by decide +kernel
theorem dX12_isDivisor_54 : decode cX12_isDivisor 54 = .ok (.iload 8, 2) := by decide +kernel
theorem dX12_isDivisor_56 : decode cX12_isDivisor 56 = .ok (.iaload, 1) := by decide +kernel
theorem dX12_isDivisor_57 : decode cX12_isDivisor 57 = .ok (.iload 6, 2) := by decide +kernel
theorem dX12_isDivisor_59 : decode cX12_isDivisor 59 = .ok (.irem, 1) := by decide +kernel
theorem dX12_isDivisor_60 : decode cX12_isDivisor 60 = .ok (.ifCond .ne 7, 3) := by decide +kernel
theorem dX12_isDivisor_63 : decode cX12_isDivisor 63 = .ok (.iconst 1, 1) := by decide +kernel
theorem dX12_isDivisor_64 : decode cX12_isDivisor 64 = .ok (.goto 4, 3) := by decide +kernel
theorem dX12_isDivisor_67 : decode cX12_isDivisor 67 = .ok (.iconst 0, 1) := by decide +kernel
theorem dX12_isDivisor_68 : decode cX12_isDivisor 68 = .ok (.istore 7, 2) := by decide +kernel
theorem dX12_isDivisor_70 : decode cX12_isDivisor 70 = .ok (.aload_n 0, 1) := by decide +kernel
theorem dX12_isDivisor_71 : decode cX12_isDivisor 71 = .ok (.getfield 19, 3) := by decide +kernel
theorem dX12_isDivisor_74 : decode cX12_isDivisor 74 = .ok (.iload 8, 2) := by decide +kernel
theorem dX12_isDivisor_76 : decode cX12_isDivisor 76 = .ok (.dup2, 1) := by decide +kernel
theorem dX12_isDivisor_77 : decode cX12_isDivisor 77 = .ok (.iaload, 1) := by decide +kernel
theorem dX12_isDivisor_78 : decode cX12_isDivisor 78 = .ok (.iload 6, 2) := by decide +kernel
theorem dX12_isDivisor_80 : decode cX12_isDivisor 80 = .ok (.idiv, 1) := by decide +kernel
theorem dX12_isDivisor_81 : decode cX12_isDivisor 81 = .ok (.iastore, 1) := by decide +kernel
theorem dX12_isDivisor_82 : decode cX12_isDivisor 82 = .ok (.iinc 8 1, 3) := by decide +kernel
theorem dX12_isDivisor_85 : decode cX12_isDivisor 85 = .ok (.goto (-46), 3) := by decide +kernel
theorem dX12_isDivisor_88 : decode cX12_isDivisor 88 = .ok (.iload 7, 2) := by decide +kernel
theorem dX12_isDivisor_90 : decode cX12_isDivisor 90 = .ok (.ifCond .eq 37, 3) := by decide +kernel
theorem dX12_isDivisor_93 : decode cX12_isDivisor 93 = .ok (.aload_n 0, 1) := by decide +kernel
theorem dX12_isDivisor_94 : decode cX12_isDivisor 94 = .ok (.getfield 19, 3) := by decide +kernel
theorem dX12_isDivisor_97 : decode cX12_isDivisor 97 = .ok (.iconst 0, 1) := by decide +kernel
theorem dX12_isDivisor_98 : decode cX12_isDivisor 98 = .ok (.iaload, 1) := by decide +kernel
theorem dX12_isDivisor_99 : decode cX12_isDivisor 99 = .ok (.aload_n 0, 1) := by decide +kernel
theorem dX12_isDivisor_100 : decode cX12_isDivisor 100 = .ok (.getfield 19, 3) := by decide +kernel
theorem dX12_isDivisor_103 : decode cX12_isDivisor 103 = .ok (.iconst 1, 1) := by decide +kernel
theorem dX12_isDivisor_104 : decode cX12_isDivisor 104 = .ok (.iaload, 1) := by decide +kernel
theorem dX12_isDivisor_105 : decode cX12_isDivisor 105 = .ok (.aload_n 0, 1) := by decide +kernel
theorem dX12_isDivisor_106 : decode cX12_isDivisor 106 = .ok (.getfield 19, 3) := by decide +kernel
theorem dX12_isDivisor_109 : decode cX12_isDivisor 109 = .ok (.iconst 2, 1) := by decide +kernel
theorem dX12_isDivisor_110 : decode cX12_isDivisor 110 = .ok (.iaload, 1) := by decide +kernel
theorem dX12_isDivisor_111 : decode cX12_isDivisor 111 = .ok (.aload_n 0, 1) := by decide +kernel
theorem dX12_isDivisor_112 : decode cX12_isDivisor 112 = .ok (.getfield 19, 3) := by decide +kernel
theorem dX12_isDivisor_115 : decode cX12_isDivisor 115 = .ok (.iconst 3, 1) := by decide +kernel
theorem dX12_isDivisor_116 : decode cX12_isDivisor 116 = .ok (.iaload, 1) := by decide +kernel
theorem dX12_isDivisor_117 : decode cX12_isDivisor 117 = .ok (.invokestatic 119, 3) := by decide +kernel
theorem dX12_isDivisor_120 : decode cX12_isDivisor 120 = .ok (.ifCond .eq 7, 3) := by decide +kernel
theorem dX12_isDivisor_123 : decode cX12_isDivisor 123 = .ok (.iconst 1, 1) := by decide +kernel
theorem dX12_isDivisor_124 : decode cX12_isDivisor 124 = .ok (.goto 4, 3) := by decide +kernel
theorem dX12_isDivisor_127 : decode cX12_isDivisor 127 = .ok (.iconst 0, 1) := by decide +kernel
theorem dX12_isDivisor_128 : decode cX12_isDivisor 128 = .ok (.ireturn, 1) := by decide +kernel
theorem dX12_isHead_0 : decode cX12_isHead 0 = .ok (.iconst 1, 1) := by decide +kernel
theorem dX12_isHead_1 : decode cX12_isHead 1 = .ok (.istore 4, 2) := by decide +kernel
theorem dX12_isHead_3 : decode cX12_isHead 3 = .ok (.iconst 0, 1) := by decide +kernel
theorem dX12_isHead_4 : decode cX12_isHead 4 = .ok (.istore 5, 2) := by decide +kernel
theorem dX12_isHead_6 : decode cX12_isHead 6 = .ok (.iload 5, 2) := by decide +kernel
theorem dX12_isHead_8 : decode cX12_isHead 8 = .ok (.bipush 24, 2) := by decide +kernel
theorem dX12_isHead_10 : decode cX12_isHead 10 = .ok (.if_icmp .ge 52, 3) := by decide +kernel
theorem dX12_isHead_13 : decode cX12_isHead 13 = .ok (.iload 4, 2) := by decide +kernel
theorem dX12_isHead_15 : decode cX12_isHead 15 = .ok (.ifCond .eq 47, 3) := by decide +kernel
theorem dX12_isHead_18 : decode cX12_isHead 18 = .ok (.aload_n 1, 1) := by decide +kernel
theorem dX12_isHead_19 : decode cX12_isHead 19 = .ok (.iload_n 2, 1) := by decide +kernel
theorem dX12_isHead_20 : decode cX12_isHead 20 = .ok (.aload_n 0, 1) := by decide +kernel
theorem dX12_isHead_21 : decode cX12_isHead 21 = .ok (.getfield 13, 3) := by decide +kernel
theorem dX12_isHead_24 : decode cX12_isHead 24 = .ok (.iconst 4, 1) := by decide +kernel
theorem dX12_isHead_25 : decode cX12_isHead 25 = .ok (.iload 5, 2) := by decide +kernel
theorem dX12_isHead_27 : decode cX12_isHead 27 = .ok (.imul, 1) := by decide +kernel
theorem dX12_isHead_28 : decode cX12_isHead 28 = .ok (.iload_n 3, 1) := by decide +kernel
theorem dX12_isHead_29 : decode cX12_isHead 29 = .ok (.aload_n 0, 1) := by decide +kernel
theorem dX12_isHead_30 : decode cX12_isHead 30 = .ok (.getfield 22, 3) := by decide +kernel
theorem dX12_isHead_33 : decode cX12_isHead 33 = .ok (.invokestatic 115, 3) := by decide +kernel
theorem dX12_isHead_36 : decode cX12_isHead 36 = .ok (.aload_n 0, 1) := by decide +kernel
theorem dX12_isHead_37 : decode cX12_isHead 37 = .ok (.getfield 22, 3) := by decide +kernel
theorem dX12_isHead_40 : decode cX12_isHead 40 = .ok (.iconst 0, 1) := by decide +kernel
theorem dX12_isHead_41 : decode cX12_isHead 41 = .ok (.aload_n 1, 1) := by decide +kernel
theorem dX12_isHead_42 : decode cX12_isHead 42 = .ok (.iload_n 2, 1) := by decide +kernel
theorem dX12_isHead_43 : decode cX12_isHead 43 = .ok (.invokestatic 123, 3) := by decide +kernel
theorem dX12_isHead_46 : decode cX12_isHead 46 = .ok (.ifCond .ne 7, 3) := by decide +kernel
theorem dX12_isHead_49 : decode cX12_isHead 49 = .ok (.iconst 1, 1) := by decide +kernel
theorem dX12_isHead_50 : decode cX12_isHead 50 = .ok (.goto 4, 3) := by decide +kernel
theorem dX12_isHead_53 : decode cX12_isHead 53 = .ok (.iconst 0, 1) := by decide +kernel
theorem dX12_isHead_54 : decode cX12_isHead 54 = .ok (.istore 4, 2) := by decide +kernel
theorem dX12_isHead_56 : decode cX12_isHead 56 = .ok (.iinc 5 1, 3) := by decide +kernel
theorem dX12_isHead_59 : decode cX12_isHead 59 = .ok (.goto (-53), 3) := by decide +kernel
theorem dX12_isHead_62 : decode cX12_isHead 62 = .ok (.iload 4, 2) := by decide +kernel
theorem dX12_isHead_64 : decode cX12_isHead 64 = .ok (.ireturn, 1) := by decide +kernel
theorem dX12_tries_0 : decode cX12_tries 0 = .ok (.iload_n 3, 1) := by decide +kernel
theorem dX12_tries_1 : decode cX12_tries 1 = .ok (.iconst 1, 1) := by decide +kernel
theorem dX12_tries_2 : decode cX12_tries 2 = .ok (.if_icmp .lt 21, 3) := by decide +kernel
theorem dX12_tries_5 : decode cX12_tries 5 = .ok (.aload_n 0, 1) := by decide +kernel
theorem dX12_tries_6 : decode cX12_tries 6 = .ok (.aload_n 0, 1) := by decide +kernel
theorem dX12_tries_7 : decode cX12_tries 7 = .ok (.getfield 28, 3) := by decide +kernel
theorem dX12_tries_10 : decode cX12_tries 10 = .ok (.iconst 0, 1) := by decide +kernel
theorem dX12_tries_11 : decode cX12_tries 11 = .ok (.aload_n 0, 1) := by decide +kernel
theorem dX12_tries_12 : decode cX12_tries 12 = .ok (.getfield 31, 3) := by decide +kernel
theorem dX12_tries_15 : decode cX12_tries 15 = .ok (.iconst 0, 1) := by decide +kernel
theorem dX12_tries_16 : decode cX12_tries 16 = .ok (.iload_n 1, 1) := by decide +kernel
theorem dX12_tries_17 : decode cX12_tries 17 = .ok (.invokevirtual 127, 3) := by decide +kernel
theorem dX12_tries_20 : decode cX12_tries 20 = .ok (.ifCond .eq 7, 3) := by decide +kernel
theorem dX12_tries_23 : decode cX12_tries 23 = .ok (.iconst 1, 1) := by decide +kernel
theorem dX12_tries_24 : decode cX12_tries 24 = .ok (.goto 4, 3) := by decide +kernel
theorem dX12_tries_27 : decode cX12_tries 27 = .ok (.iconst 0, 1) := by decide +kernel
theorem dX12_tries_28 : decode cX12_tries 28 = .ok (.istore 4, 2) := by decide +kernel
theorem dX12_tries_30 : decode cX12_tries 30 = .ok (.iload 4, 2) := by decide +kernel
theorem dX12_tries_32 : decode cX12_tries 32 = .ok (.ifCond .eq 30, 3) := by decide +kernel
theorem dX12_tries_35 : decode cX12_tries 35 = .ok (.iload_n 3, 1) := by decide +kernel
theorem dX12_tries_36 : decode cX12_tries 36 = .ok (.iconst 2, 1) := by decide +kernel
theorem dX12_tries_37 : decode cX12_tries 37 = .ok (.if_icmp .lt 21, 3) := by decide +kernel
theorem dX12_tries_40 : decode cX12_tries 40 = .ok (.aload_n 0, 1) := by decide +kernel
theorem dX12_tries_41 : decode cX12_tries 41 = .ok (.aload_n 0, 1) := by decide +kernel
theorem dX12_tries_42 : decode cX12_tries 42 = .ok (.getfield 28, 3) := by decide +kernel
theorem dX12_tries_45 : decode cX12_tries 45 = .ok (.iconst 0, 1) := by decide +kernel
theorem dX12_tries_46 : decode cX12_tries 46 = .ok (.aload_n 0, 1) := by decide +kernel
theorem dX12_tries_47 : decode cX12_tries 47 = .ok (.getfield 31, 3) := by decide +kernel
theorem dX12_tries_50 : decode cX12_tries 50 = .ok (.iconst 4, 1) := by decide +kernel
theorem dX12_tries_51 : decode cX12_tries 51 = .ok (.iload_n 1, 1) := by decide +kernel
theorem dX12_tries_52 : decode cX12_tries 52 = .ok (.invokevirtual 127, 3) := by decide +kernel
theorem dX12_tries_55 : decode cX12_tries 55 = .ok (.ifCond .eq 7, 3) := by decide +kernel
theorem dX12_tries_58 : decode cX12_tries 58 = .ok (.iconst 1, 1) := by decide +kernel
theorem dX12_tries_59 : decode cX12_tries 59 = .ok (.goto 4, 3) := by decide +kernel
theorem dX12_tries_62 : decode cX12_tries 62 = .ok (.iconst 0, 1) := by decide +kernel
theorem dX12_tries_63 : decode cX12_tries 63 = .ok (.istore 4, 2) := by decide +kernel
theorem dX12_tries_65 : decode cX12_tries 65 = .ok (.iload 4, 2) := by decide +kernel
theorem dX12_tries_67 : decode cX12_tries 67 = .ok (.ifCond .eq 48, 3) := by decide +kernel
theorem dX12_tries_70 : decode cX12_tries 70 = .ok (.iload_n 2, 1) := by decide +kernel
theorem dX12_tries_71 : decode cX12_tries 71 = .ok (.ifCond .eq 16, 3) := by decide +kernel
theorem dX12_tries_74 : decode cX12_tries 74 = .ok (.aload_n 0, 1) := by decide +kernel
theorem dX12_tries_75 : decode cX12_tries 75 = .ok (.aload_n 0, 1) := by decide +kernel
theorem dX12_tries_76 : decode cX12_tries 76 = .ok (.getfield 28, 3) := by decide +kernel
theorem dX12_tries_79 : decode cX12_tries 79 = .ok (.iconst 0, 1) := by decide +kernel
theorem dX12_tries_80 : decode cX12_tries 80 = .ok (.iload_n 1, 1) := by decide +kernel
theorem dX12_tries_81 : decode cX12_tries 81 = .ok (.invokevirtual 131, 3) := by decide +kernel
theorem dX12_tries_84 : decode cX12_tries 84 = .ok (.ifCond .eq 31, 3) := by decide +kernel
theorem dX12_tries_87 : decode cX12_tries 87 = .ok (.aload_n 0, 1) := by decide +kernel
theorem dX12_tries_88 : decode cX12_tries 88 = .ok (.getfield 28, 3) := by decide +kernel
theorem dX12_tries_91 : decode cX12_tries 91 = .ok (.iconst 0, 1) := by decide +kernel
theorem dX12_tries_92 : decode cX12_tries 92 = .ok (.aload_n 0, 1) := by decide +kernel
theorem dX12_tries_93 : decode cX12_tries 93 = .ok (.getfield 25, 3) := by decide +kernel
theorem dX12_tries_96 : decode cX12_tries 96 = .ok (.iconst 4, 1) := by decide +kernel
theorem dX12_tries_97 : decode cX12_tries 97 = .ok (.aload_n 0, 1) := by decide +kernel
theorem dX12_tries_98 : decode cX12_tries 98 = .ok (.getfield 95, 3) := by decide +kernel
theorem dX12_tries_101 : decode cX12_tries 101 = .ok (.imul, 1) := by decide +kernel
theorem dX12_tries_102 : decode cX12_tries 102 = .ok (.invokestatic 135, 3) := by decide +kernel
theorem dX12_tries_105 : decode cX12_tries 105 = .ok (.aload_n 0, 1) := by decide +kernel
theorem dX12_tries_106 : decode cX12_tries 106 = .ok (.dup, 1) := by decide +kernel
theorem dX12_tries_107 : decode cX12_tries 107 = .ok (.getfield 95, 3) := by decide +kernel
theorem dX12_tries_110 : decode cX12_tries 110 = .ok (.iconst 1, 1) := by decide +kernel
theorem dX12_tries_111 : decode cX12_tries 111 = .ok (.iadd, 1) := by decide +kernel
theorem dX12_tries_112 : decode cX12_tries 112 = .ok (.putfield 95, 3) := by decide +kernel
theorem dX12_tries_115 : decode cX12_tries 115 = .ok (.return_, 1) := by decide +kernel
theorem dX12_triesLast_0 : decode cX12_triesLast 0 = .ok (.aload_n 0, 1) := by decide +kernel
theorem dX12_triesLast_1 : decode cX12_triesLast 1 = .ok (.getfield 28, 3) := by decide +kernel
theorem dX12_triesLast_4 : decode cX12_triesLast 4 = .ok (.iconst 3, 1) := by decide +kernel
theorem dX12_triesLast_5 : decode cX12_triesLast 5 = .ok (.iload_n 1, 1) := by decide +kernel
theorem dX12_triesLast_6 : decode cX12_triesLast 6 = .ok (.iastore, 1) := by decide +kernel
theorem dX12_triesLast_7 : decode cX12_triesLast 7 = .ok (.aload_n 0, 1) := by decide +kernel
theorem dX12_triesLast_8 : decode cX12_triesLast 8 = .ok (.getfield 28, 3) := by decide +kernel
theorem dX12_triesLast_11 : decode cX12_triesLast 11 = .ok (.iconst 0, 1) := by decide +kernel
theorem dX12_triesLast_12 : decode cX12_triesLast 12 = .ok (.iaload, 1) := by decide +kernel
theorem dX12_triesLast_13 : decode cX12_triesLast 13 = .ok (.aload_n 0, 1) := by decide +kernel
theorem dX12_triesLast_14 : decode cX12_triesLast 14 = .ok (.getfield 28, 3) := by decide +kernel
theorem dX12_triesLast_17 : decode cX12_triesLast 17 = .ok (.iconst 1, 1) := by decide +kernel
theorem dX12_triesLast_18 : decode cX12_triesLast 18 = .ok (.iaload, 1) := by decide +kernel
theorem dX12_triesLast_19 : decode cX12_triesLast 19 = .ok (.aload_n 0, 1) := by decide +kernel
theorem dX12_triesLast_20 : decode cX12_triesLast 20 = .ok (.getfield 28, 3) := by decide +kernel
theorem dX12_triesLast_23 : decode cX12_triesLast 23 = .ok (.iconst 2, 1) := by decide +kernel
theorem dX12_triesLast_24 : decode cX12_triesLast 24 = .ok (.iaload, 1) := by decide +kernel
theorem dX12_triesLast_25 : decode cX12_triesLast 25 = .ok (.iload_n 1, 1) := by decide +kernel
theorem dX12_triesLast_26 : decode cX12_triesLast 26 = .ok (.invokestatic 119, 3) := by decide +kernel
theorem dX12_triesLast_29 : decode cX12_triesLast 29 = .ok (.ifCond .eq 11, 3) := by decide +kernel
theorem dX12_triesLast_32 : decode cX12_triesLast 32 = .ok (.aload_n 0, 1) := by decide +kernel
theorem dX12_triesLast_33 : decode cX12_triesLast 33 = .ok (.iload_n 2, 1) := by decide +kernel
theorem dX12_triesLast_34 : decode cX12_triesLast 34 = .ok (.iload_n 3, 1) := by decide +kernel
theorem dX12_triesLast_35 : decode cX12_triesLast 35 = .ok (.iload 4, 2) := by decide +kernel
theorem dX12_triesLast_37 : decode cX12_triesLast 37 = .ok (.invokevirtual 139, 3) := by decide +kernel
theorem dX12_triesLast_40 : decode cX12_triesLast 40 = .ok (.return_, 1) := by decide +kernel
theorem dX12_gathers_0 : decode cX12_gathers 0 = .ok (.iconst 0, 1) := by decide +kernel
theorem dX12_gathers_1 : decode cX12_gathers 1 = .ok (.istore 6, 2) := by decide +kernel
theorem dX12_gathers_3 : decode cX12_gathers 3 = .ok (.iload 6, 2) := by decide +kernel
theorem dX12_gathers_5 : decode cX12_gathers 5 = .ok (.iconst 1, 1) := by decide +kernel
theorem dX12_gathers_6 : decode cX12_gathers 6 = .ok (.iadd, 1) := by decide +kernel
theorem dX12_gathers_7 : decode cX12_gathers 7 = .ok (.iload 6, 2) := by decide +kernel
theorem dX12_gathers_9 : decode cX12_gathers 9 = .ok (.iconst 1, 1) := by decide +kernel
theorem dX12_gathers_10 : decode cX12_gathers 10 = .ok (.iadd, 1) := by decide +kernel
theorem dX12_gathers_11 : decode cX12_gathers 11 = .ok (.imul, 1) := by decide +kernel
theorem dX12_gathers_12 : decode cX12_gathers 12 = .ok (.iconst 4, 1) := by decide +kernel
theorem dX12_gathers_13 : decode cX12_gathers 13 = .ok (.iload_n 1, 1) := by decide +kernel
theorem dX12_gathers_14 : decode cX12_gathers 14 = .ok (.imul, 1) := by decide +kernel
theorem dX12_gathers_15 : decode cX12_gathers 15 = .ok (.if_icmp .gt 9, 3) := by decide +kernel
theorem dX12_gathers_18 : decode cX12_gathers 18 = .ok (.iinc 6 1, 3) := by decide +kernel
theorem dX12_gathers_21 : decode cX12_gathers 21 = .ok (.goto (-18), 3) := by decide +kernel
theorem dX12_gathers_24 : decode cX12_gathers 24 = .ok (.iload 6, 2) := by decide +kernel
theorem dX12_gathers_26 : decode cX12_gathers 26 = .ok (.istore 7, 2) := by decide +kernel
theorem dX12_gathers_28 : decode cX12_gathers 28 = .ok (.iload 7, 2) := by decide +kernel
theorem dX12_gathers_30 : decode cX12_gathers 30 = .ok (.iload 6, 2) := by decide +kernel
theorem dX12_gathers_32 : decode cX12_gathers 32 = .ok (.ineg, 1) := by decide +kernel
theorem dX12_gathers_33 : decode cX12_gathers 33 = .ok (.if_icmp .lt 177, 3) := by decide +kernel
theorem dX12_gathers_36 : decode cX12_gathers 36 = .ok (.aload_n 0, 1) := by decide +kernel
theorem dX12_gathers_37 : decode cX12_gathers 37 = .ok (.getfield 95, 3) := by decide +kernel
theorem dX12_gathers_40 : decode cX12_gathers 40 = .ok (.iload 5, 2) := by decide +kernel
theorem dX12_gathers_42 : decode cX12_gathers 42 = .ok (.if_icmp .ge 168, 3) := by decide +kernel
theorem dX12_gathers_45 : decode cX12_gathers 45 = .ok (.iload 6, 2) := by decide +kernel
theorem dX12_gathers_47 : decode cX12_gathers 47 = .ok (.istore 8, 2) := by decide +kernel
theorem dX12_gathers_49 : decode cX12_gathers 49 = .ok (.iload 8, 2) := by decide +kernel
theorem dX12_gathers_51 : decode cX12_gathers 51 = .ok (.iload 6, 2) := by decide +kernel
theorem dX12_gathers_53 : decode cX12_gathers 53 = .ok (.ineg, 1) := by decide +kernel
theorem dX12_gathers_54 : decode cX12_gathers 54 = .ok (.if_icmp .lt 150, 3) := by decide +kernel
theorem dX12_gathers_57 : decode cX12_gathers 57 = .ok (.aload_n 0, 1) := by decide +kernel
theorem dX12_gathers_58 : decode cX12_gathers 58 = .ok (.getfield 95, 3) := by decide +kernel
theorem dX12_gathers_61 : decode cX12_gathers 61 = .ok (.iload 5, 2) := by decide +kernel
theorem dX12_gathers_63 : decode cX12_gathers 63 = .ok (.if_icmp .ge 141, 3) := by decide +kernel
theorem dX12_gathers_66 : decode cX12_gathers 66 = .ok (.iload 6, 2) := by decide +kernel
theorem dX12_gathers_68 : decode cX12_gathers 68 = .ok (.istore 9, 2) := by decide +kernel
theorem dX12_gathers_70 : decode cX12_gathers 70 = .ok (.iload 9, 2) := by decide +kernel
theorem dX12_gathers_72 : decode cX12_gathers 72 = .ok (.iload 6, 2) := by decide +kernel
theorem dX12_gathers_74 : decode cX12_gathers 74 = .ok (.ineg, 1) := by decide +kernel
theorem dX12_gathers_75 : decode cX12_gathers 75 = .ok (.if_icmp .lt 123, 3) := by decide +kernel
theorem dX12_gathers_78 : decode cX12_gathers 78 = .ok (.aload_n 0, 1) := by decide +kernel
theorem dX12_gathers_79 : decode cX12_gathers 79 = .ok (.getfield 95, 3) := by decide +kernel
theorem dX12_gathers_82 : decode cX12_gathers 82 = .ok (.iload 5, 2) := by decide +kernel
theorem dX12_gathers_84 : decode cX12_gathers 84 = .ok (.if_icmp .ge 114, 3) := by decide +kernel
theorem dX12_gathers_87 : decode cX12_gathers 87 = .ok (.iconst 4, 1) := by decide +kernel
theorem dX12_gathers_88 : decode cX12_gathers 88 = .ok (.iload_n 1, 1) := by decide +kernel
theorem dX12_gathers_89 : decode cX12_gathers 89 = .ok (.imul, 1) := by decide +kernel
theorem dX12_gathers_90 : decode cX12_gathers 90 = .ok (.iload 7, 2) := by decide +kernel
theorem dX12_gathers_92 : decode cX12_gathers 92 = .ok (.iload 7, 2) := by decide +kernel
theorem dX12_gathers_94 : decode cX12_gathers 94 = .ok (.imul, 1) := by decide +kernel
theorem dX12_gathers_95 : decode cX12_gathers 95 = .ok (.isub, 1) := by decide +kernel
theorem dX12_gathers_96 : decode cX12_gathers 96 = .ok (.iload 8, 2) := by decide +kernel
theorem dX12_gathers_98 : decode cX12_gathers 98 = .ok (.iload 8, 2) := by decide +kernel
theorem dX12_gathers_100 : decode cX12_gathers 100 = .ok (.imul, 1) := by decide +kernel
theorem dX12_gathers_101 : decode cX12_gathers 101 = .ok (.isub, 1) := by decide +kernel
theorem dX12_gathers_102 : decode cX12_gathers 102 = .ok (.iload 9, 2) := by decide +kernel
theorem dX12_gathers_104 : decode cX12_gathers 104 = .ok (.iload 9, 2) := by decide +kernel
theorem dX12_gathers_106 : decode cX12_gathers 106 = .ok (.imul, 1) := by decide +kernel
theorem dX12_gathers_107 : decode cX12_gathers 107 = .ok (.isub, 1) := by decide +kernel
theorem dX12_gathers_108 : decode cX12_gathers 108 = .ok (.istore 10, 2) := by decide +kernel
theorem dX12_gathers_110 : decode cX12_gathers 110 = .ok (.iload 10, 2) := by decide +kernel
theorem dX12_gathers_112 : decode cX12_gathers 112 = .ok (.ifCond .ge 7, 3) := by decide +kernel
theorem dX12_gathers_115 : decode cX12_gathers 115 = .ok (.iconst (-1), 1) := by decide +kernel
theorem dX12_gathers_116 : decode cX12_gathers 116 = .ok (.goto 10, 3) := by decide +kernel
theorem dX12_gathers_119 : decode cX12_gathers 119 = .ok (.aload_n 0, 1) := by decide +kernel
theorem dX12_gathers_120 : decode cX12_gathers 120 = .ok (.getfield 7, 3) := by decide +kernel
theorem dX12_gathers_123 : decode cX12_gathers 123 = .ok (.iload 10, 2) := by decide +kernel
theorem dX12_gathers_125 : decode cX12_gathers 125 = .ok (.iaload, 1) := by decide +kernel
theorem dX12_gathers_126 : decode cX12_gathers 126 = .ok (.istore 11, 2) := by decide +kernel
theorem dX12_gathers_128 : decode cX12_gathers 128 = .ok (.aload_n 0, 1) := by decide +kernel
theorem dX12_gathers_129 : decode cX12_gathers 129 = .ok (.getfield 28, 3) := by decide +kernel
theorem dX12_gathers_132 : decode cX12_gathers 132 = .ok (.iconst 0, 1) := by decide +kernel
theorem dX12_gathers_133 : decode cX12_gathers 133 = .ok (.iload 7, 2) := by decide +kernel
theorem dX12_gathers_135 : decode cX12_gathers 135 = .ok (.iastore, 1) := by decide +kernel
theorem dX12_gathers_136 : decode cX12_gathers 136 = .ok (.aload_n 0, 1) := by decide +kernel
theorem dX12_gathers_137 : decode cX12_gathers 137 = .ok (.getfield 28, 3) := by decide +kernel
theorem dX12_gathers_140 : decode cX12_gathers 140 = .ok (.iconst 1, 1) := by decide +kernel
theorem dX12_gathers_141 : decode cX12_gathers 141 = .ok (.iload 8, 2) := by decide +kernel
theorem dX12_gathers_143 : decode cX12_gathers 143 = .ok (.iastore, 1) := by decide +kernel
theorem dX12_gathers_144 : decode cX12_gathers 144 = .ok (.aload_n 0, 1) := by decide +kernel
theorem dX12_gathers_145 : decode cX12_gathers 145 = .ok (.getfield 28, 3) := by decide +kernel
theorem dX12_gathers_148 : decode cX12_gathers 148 = .ok (.iconst 2, 1) := by decide +kernel
theorem dX12_gathers_149 : decode cX12_gathers 149 = .ok (.iload 9, 2) := by decide +kernel
theorem dX12_gathers_151 : decode cX12_gathers 151 = .ok (.iastore, 1) := by decide +kernel
theorem dX12_gathers_152 : decode cX12_gathers 152 = .ok (.iload 11, 2) := by decide +kernel
theorem dX12_gathers_154 : decode cX12_gathers 154 = .ok (.ifCond .lt 13, 3) := by decide +kernel
theorem dX12_gathers_157 : decode cX12_gathers 157 = .ok (.aload_n 0, 1) := by decide +kernel
theorem dX12_gathers_158 : decode cX12_gathers 158 = .ok (.iload 11, 2) := by decide +kernel
theorem dX12_gathers_160 : decode cX12_gathers 160 = .ok (.iload_n 2, 1) := by decide +kernel
theorem dX12_gathers_161 : decode cX12_gathers 161 = .ok (.iload_n 3, 1) := by decide +kernel
theorem dX12_gathers_162 : decode cX12_gathers 162 = .ok (.iload 4, 2) := by decide +kernel
theorem dX12_gathers_164 : decode cX12_gathers 164 = .ok (.invokevirtual 143, 3) := by decide +kernel
theorem dX12_gathers_167 : decode cX12_gathers 167 = .ok (.iload 11, 2) := by decide +kernel
theorem dX12_gathers_169 : decode cX12_gathers 169 = .ok (.ifCond .le 23, 3) := by decide +kernel
theorem dX12_gathers_172 : decode cX12_gathers 172 = .ok (.aload_n 0, 1) := by decide +kernel
theorem dX12_gathers_173 : decode cX12_gathers 173 = .ok (.getfield 95, 3) := by decide +kernel
theorem dX12_gathers_176 : decode cX12_gathers 176 = .ok (.iload 5, 2) := by decide +kernel
theorem dX12_gathers_178 : decode cX12_gathers 178 = .ok (.if_icmp .ge 14, 3) := by decide +kernel
theorem dX12_gathers_181 : decode cX12_gathers 181 = .ok (.aload_n 0, 1) := by decide +kernel
theorem dX12_gathers_182 : decode cX12_gathers 182 = .ok (.iload 11, 2) := by decide +kernel
theorem dX12_gathers_184 : decode cX12_gathers 184 = .ok (.ineg, 1) := by decide +kernel
theorem dX12_gathers_185 : decode cX12_gathers 185 = .ok (.iload_n 2, 1) := by decide +kernel
theorem dX12_gathers_186 : decode cX12_gathers 186 = .ok (.iload_n 3, 1) := by decide +kernel
theorem dX12_gathers_187 : decode cX12_gathers 187 = .ok (.iload 4, 2) := by decide +kernel
theorem dX12_gathers_189 : decode cX12_gathers 189 = .ok (.invokevirtual 143, 3) := by decide +kernel
theorem dX12_gathers_192 : decode cX12_gathers 192 = .ok (.iinc 9 (-1), 3) := by decide +kernel
theorem dX12_gathers_195 : decode cX12_gathers 195 = .ok (.goto (-125), 3) := by decide +kernel
theorem dX12_gathers_198 : decode cX12_gathers 198 = .ok (.iinc 8 (-1), 3) := by decide +kernel
theorem dX12_gathers_201 : decode cX12_gathers 201 = .ok (.goto (-152), 3) := by decide +kernel
theorem dX12_gathers_204 : decode cX12_gathers 204 = .ok (.iinc 7 (-1), 3) := by decide +kernel
theorem dX12_gathers_207 : decode cX12_gathers 207 = .ok (.goto (-179), 3) := by decide +kernel
theorem dX12_gathers_210 : decode cX12_gathers 210 = .ok (.return_, 1) := by decide +kernel
theorem dX12_isPrime_0 : decode cX12_isPrime 0 = .ok (.iload_n 0, 1) := by decide +kernel
theorem dX12_isPrime_1 : decode cX12_isPrime 1 = .ok (.iconst 1, 1) := by decide +kernel
theorem dX12_isPrime_2 : decode cX12_isPrime 2 = .ok (.if_icmp .le 7, 3) := by decide +kernel
theorem dX12_isPrime_5 : decode cX12_isPrime 5 = .ok (.iconst 1, 1) := by decide +kernel
theorem dX12_isPrime_6 : decode cX12_isPrime 6 = .ok (.goto 4, 3) := by decide +kernel
theorem dX12_isPrime_9 : decode cX12_isPrime 9 = .ok (.iconst 0, 1) := by decide +kernel
theorem dX12_isPrime_10 : decode cX12_isPrime 10 = .ok (.istore_n 1, 1) := by decide +kernel
theorem dX12_isPrime_11 : decode cX12_isPrime 11 = .ok (.iconst 2, 1) := by decide +kernel
theorem dX12_isPrime_12 : decode cX12_isPrime 12 = .ok (.istore_n 2, 1) := by decide +kernel
theorem dX12_isPrime_13 : decode cX12_isPrime 13 = .ok (.iload_n 2, 1) := by decide +kernel
theorem dX12_isPrime_14 : decode cX12_isPrime 14 = .ok (.iload_n 2, 1) := by decide +kernel
theorem dX12_isPrime_15 : decode cX12_isPrime 15 = .ok (.imul, 1) := by decide +kernel
theorem dX12_isPrime_16 : decode cX12_isPrime 16 = .ok (.iload_n 0, 1) := by decide +kernel
theorem dX12_isPrime_17 : decode cX12_isPrime 17 = .ok (.if_icmp .gt 25, 3) := by decide +kernel
theorem dX12_isPrime_20 : decode cX12_isPrime 20 = .ok (.iload_n 1, 1) := by decide +kernel
theorem dX12_isPrime_21 : decode cX12_isPrime 21 = .ok (.ifCond .eq 13, 3) := by decide +kernel
theorem dX12_isPrime_24 : decode cX12_isPrime 24 = .ok (.iload_n 0, 1) := by decide +kernel
theorem dX12_isPrime_25 : decode cX12_isPrime 25 = .ok (.iload_n 2, 1) := by decide +kernel
theorem dX12_isPrime_26 : decode cX12_isPrime 26 = .ok (.irem, 1) := by decide +kernel
theorem dX12_isPrime_27 : decode cX12_isPrime 27 = .ok (.ifCond .eq 7, 3) := by decide +kernel
theorem dX12_isPrime_30 : decode cX12_isPrime 30 = .ok (.iconst 1, 1) := by decide +kernel
theorem dX12_isPrime_31 : decode cX12_isPrime 31 = .ok (.goto 4, 3) := by decide +kernel
theorem dX12_isPrime_34 : decode cX12_isPrime 34 = .ok (.iconst 0, 1) := by decide +kernel
theorem dX12_isPrime_35 : decode cX12_isPrime 35 = .ok (.istore_n 1, 1) := by decide +kernel
theorem dX12_isPrime_36 : decode cX12_isPrime 36 = .ok (.iinc 2 1, 3) := by decide +kernel
theorem dX12_isPrime_39 : decode cX12_isPrime 39 = .ok (.goto (-26), 3) := by decide +kernel
theorem dX12_isPrime_42 : decode cX12_isPrime 42 = .ok (.iload_n 1, 1) := by decide +kernel
theorem dX12_isPrime_43 : decode cX12_isPrime 43 = .ok (.ireturn, 1) := by decide +kernel
theorem dX12_down_0 : decode cX12_down 0 = .ok (.iload_n 0, 1) := by decide +kernel
theorem dX12_down_1 : decode cX12_down 1 = .ok (.ifCond .lt 9, 3) := by decide +kernel
theorem dX12_down_4 : decode cX12_down 4 = .ok (.iload_n 0, 1) := by decide +kernel
theorem dX12_down_5 : decode cX12_down 5 = .ok (.iload_n 1, 1) := by decide +kernel
theorem dX12_down_6 : decode cX12_down 6 = .ok (.idiv, 1) := by decide +kernel
theorem dX12_down_7 : decode cX12_down 7 = .ok (.goto 11, 3) := by decide +kernel
theorem dX12_down_10 : decode cX12_down 10 = .ok (.iload_n 1, 1) := by decide +kernel
theorem dX12_down_11 : decode cX12_down 11 = .ok (.iconst 1, 1) := by decide +kernel
theorem dX12_down_12 : decode cX12_down 12 = .ok (.isub, 1) := by decide +kernel
theorem dX12_down_13 : decode cX12_down 13 = .ok (.iload_n 0, 1) := by decide +kernel
theorem dX12_down_14 : decode cX12_down 14 = .ok (.isub, 1) := by decide +kernel
theorem dX12_down_15 : decode cX12_down 15 = .ok (.iload_n 1, 1) := by decide +kernel
theorem dX12_down_16 : decode cX12_down 16 = .ok (.idiv, 1) := by decide +kernel
theorem dX12_down_17 : decode cX12_down 17 = .ok (.ineg, 1) := by decide +kernel
theorem dX12_down_18 : decode cX12_down 18 = .ok (.ireturn, 1) := by decide +kernel
theorem dX12_triesNearest_0 : decode cX12_triesNearest 0 = .ok (.aload_n 0, 1) := by decide +kernel
theorem dX12_triesNearest_1 : decode cX12_triesNearest 1 = .ok (.getfield 40, 3) := by decide +kernel
theorem dX12_triesNearest_4 : decode cX12_triesNearest 4 = .ok (.iconst 0, 1) := by decide +kernel
theorem dX12_triesNearest_5 : decode cX12_triesNearest 5 = .ok (.iaload, 1) := by decide +kernel
theorem dX12_triesNearest_6 : decode cX12_triesNearest 6 = .ok (.aload_n 0, 1) := by decide +kernel
theorem dX12_triesNearest_7 : decode cX12_triesNearest 7 = .ok (.getfield 40, 3) := by decide +kernel
theorem dX12_triesNearest_10 : decode cX12_triesNearest 10 = .ok (.iconst 1, 1) := by decide +kernel
theorem dX12_triesNearest_11 : decode cX12_triesNearest 11 = .ok (.iaload, 1) := by decide +kernel
theorem dX12_triesNearest_12 : decode cX12_triesNearest 12 = .ok (.aload_n 0, 1) := by decide +kernel
theorem dX12_triesNearest_13 : decode cX12_triesNearest 13 = .ok (.getfield 40, 3) := by decide +kernel
theorem dX12_triesNearest_16 : decode cX12_triesNearest 16 = .ok (.iconst 2, 1) := by decide +kernel
theorem dX12_triesNearest_17 : decode cX12_triesNearest 17 = .ok (.iaload, 1) := by decide +kernel
theorem dX12_triesNearest_18 : decode cX12_triesNearest 18 = .ok (.aload_n 0, 1) := by decide +kernel
theorem dX12_triesNearest_19 : decode cX12_triesNearest 19 = .ok (.getfield 40, 3) := by decide +kernel
theorem dX12_triesNearest_22 : decode cX12_triesNearest 22 = .ok (.iconst 3, 1) := by decide +kernel
theorem dX12_triesNearest_23 : decode cX12_triesNearest 23 = .ok (.iaload, 1) := by decide +kernel
theorem dX12_triesNearest_24 : decode cX12_triesNearest 24 = .ok (.invokestatic 119, 3) := by decide +kernel
theorem dX12_triesNearest_27 : decode cX12_triesNearest 27 = .ok (.ifCond .ne 4, 3) := by decide +kernel
theorem dX12_triesNearest_30 : decode cX12_triesNearest 30 = .ok (.return_, 1) := by decide +kernel
theorem dX12_triesNearest_31 : decode cX12_triesNearest 31 = .ok (.aload_n 3, 1) := by decide +kernel
theorem dX12_triesNearest_32 : decode cX12_triesNearest 32 = .ok (.iload 4, 2) := by decide +kernel
theorem dX12_triesNearest_34 : decode cX12_triesNearest 34 = .ok (.aload_n 0, 1) := by decide +kernel
theorem dX12_triesNearest_35 : decode cX12_triesNearest 35 = .ok (.getfield 40, 3) := by decide +kernel
theorem dX12_triesNearest_38 : decode cX12_triesNearest 38 = .ok (.iconst 0, 1) := by decide +kernel
theorem dX12_triesNearest_39 : decode cX12_triesNearest 39 = .ok (.iload 5, 2) := by decide +kernel
theorem dX12_triesNearest_41 : decode cX12_triesNearest 41 = .ok (.aload_n 0, 1) := by decide +kernel
theorem dX12_triesNearest_42 : decode cX12_triesNearest 42 = .ok (.getfield 43, 3) := by decide +kernel
theorem dX12_triesNearest_45 : decode cX12_triesNearest 45 = .ok (.invokestatic 115, 3) := by decide +kernel
theorem dX12_triesNearest_48 : decode cX12_triesNearest 48 = .ok (.iconst 0, 1) := by decide +kernel
theorem dX12_triesNearest_49 : decode cX12_triesNearest 49 = .ok (.istore 7, 2) := by decide +kernel
theorem dX12_triesNearest_51 : decode cX12_triesNearest 51 = .ok (.iload 7, 2) := by decide +kernel
theorem dX12_triesNearest_53 : decode cX12_triesNearest 53 = .ok (.iconst 4, 1) := by decide +kernel
theorem dX12_triesNearest_54 : decode cX12_triesNearest 54 = .ok (.if_icmp .ge 30, 3) := by decide +kernel
theorem dX12_triesNearest_57 : decode cX12_triesNearest 57 = .ok (.aload_n 0, 1) := by decide +kernel
theorem dX12_triesNearest_58 : decode cX12_triesNearest 58 = .ok (.getfield 43, 3) := by decide +kernel
theorem dX12_triesNearest_61 : decode cX12_triesNearest 61 = .ok (.iload 7, 2) := by decide +kernel
theorem dX12_triesNearest_63 : decode cX12_triesNearest 63 = .ok (.aload_n 1, 1) := by decide +kernel
theorem dX12_triesNearest_64 : decode cX12_triesNearest 64 = .ok (.iload_n 2, 1) := by decide +kernel
theorem dX12_triesNearest_65 : decode cX12_triesNearest 65 = .ok (.iload 7, 2) := by decide +kernel
theorem dX12_triesNearest_67 : decode cX12_triesNearest 67 = .ok (.iadd, 1) := by decide +kernel
theorem dX12_triesNearest_68 : decode cX12_triesNearest 68 = .ok (.iaload, 1) := by decide +kernel
theorem dX12_triesNearest_69 : decode cX12_triesNearest 69 = .ok (.aload_n 0, 1) := by decide +kernel
theorem dX12_triesNearest_70 : decode cX12_triesNearest 70 = .ok (.getfield 43, 3) := by decide +kernel
theorem dX12_triesNearest_73 : decode cX12_triesNearest 73 = .ok (.iload 7, 2) := by decide +kernel
theorem dX12_triesNearest_75 : decode cX12_triesNearest 75 = .ok (.iaload, 1) := by decide +kernel
theorem dX12_triesNearest_76 : decode cX12_triesNearest 76 = .ok (.isub, 1) := by decide +kernel
theorem dX12_triesNearest_77 : decode cX12_triesNearest 77 = .ok (.iastore, 1) := by decide +kernel
theorem dX12_triesNearest_78 : decode cX12_triesNearest 78 = .ok (.iinc 7 1, 3) := by decide +kernel
theorem dX12_triesNearest_81 : decode cX12_triesNearest 81 = .ok (.goto (-30), 3) := by decide +kernel
theorem dX12_triesNearest_84 : decode cX12_triesNearest 84 = .ok (.aload_n 0, 1) := by decide +kernel
theorem dX12_triesNearest_85 : decode cX12_triesNearest 85 = .ok (.getfield 43, 3) := by decide +kernel
theorem dX12_triesNearest_88 : decode cX12_triesNearest 88 = .ok (.iconst 0, 1) := by decide +kernel
theorem dX12_triesNearest_89 : decode cX12_triesNearest 89 = .ok (.invokestatic 107, 3) := by decide +kernel
theorem dX12_triesNearest_92 : decode cX12_triesNearest 92 = .ok (.istore 7, 2) := by decide +kernel
theorem dX12_triesNearest_94 : decode cX12_triesNearest 94 = .ok (.aload_n 0, 1) := by decide +kernel
theorem dX12_triesNearest_95 : decode cX12_triesNearest 95 = .ok (.getfield 37, 3) := by decide +kernel
theorem dX12_triesNearest_98 : decode cX12_triesNearest 98 = .ok (.iconst 0, 1) := by decide +kernel
theorem dX12_triesNearest_99 : decode cX12_triesNearest 99 = .ok (.invokestatic 107, 3) := by decide +kernel
theorem dX12_triesNearest_102 : decode cX12_triesNearest 102 = .ok (.istore 8, 2) := by decide +kernel
theorem dX12_triesNearest_104 : decode cX12_triesNearest 104 = .ok (.iload 6, 2) := by decide +kernel
theorem dX12_triesNearest_106 : decode cX12_triesNearest 106 = .ok (.ifCond .ne 33, 3) := by decide +kernel
theorem dX12_triesNearest_109 : decode cX12_triesNearest 109 = .ok (.iload 7, 2) := by decide +kernel
theorem dX12_triesNearest_111 : decode cX12_triesNearest 111 = .ok (.iload 8, 2) := by decide +kernel
theorem dX12_triesNearest_113 : decode cX12_triesNearest 113 = .ok (.if_icmp .lt 26, 3) := by decide +kernel
theorem dX12_triesNearest_116 : decode cX12_triesNearest 116 = .ok (.iload 7, 2) := by decide +kernel
theorem dX12_triesNearest_118 : decode cX12_triesNearest 118 = .ok (.iload 8, 2) := by decide +kernel
theorem dX12_triesNearest_120 : decode cX12_triesNearest 120 = .ok (.if_icmp .ne 45, 3) := by decide +kernel
theorem dX12_triesNearest_123 : decode cX12_triesNearest 123 = .ok (.aload_n 0, 1) := by decide +kernel
theorem dX12_triesNearest_124 : decode cX12_triesNearest 124 = .ok (.getfield 40, 3) := by decide +kernel
theorem dX12_triesNearest_127 : decode cX12_triesNearest 127 = .ok (.iconst 0, 1) := by decide +kernel
theorem dX12_triesNearest_128 : decode cX12_triesNearest 128 = .ok (.aload_n 0, 1) := by decide +kernel
theorem dX12_triesNearest_129 : decode cX12_triesNearest 129 = .ok (.getfield 34, 3) := by decide +kernel
theorem dX12_triesNearest_132 : decode cX12_triesNearest 132 = .ok (.iconst 0, 1) := by decide +kernel
theorem dX12_triesNearest_133 : decode cX12_triesNearest 133 = .ok (.invokestatic 123, 3) := by decide +kernel
theorem dX12_triesNearest_136 : decode cX12_triesNearest 136 = .ok (.ifCond .eq 29, 3) := by decide +kernel
theorem dX12_triesNearest_139 : decode cX12_triesNearest 139 = .ok (.aload_n 0, 1) := by decide +kernel
theorem dX12_triesNearest_140 : decode cX12_triesNearest 140 = .ok (.getfield 40, 3) := by decide +kernel
theorem dX12_triesNearest_143 : decode cX12_triesNearest 143 = .ok (.iconst 0, 1) := by decide +kernel
theorem dX12_triesNearest_144 : decode cX12_triesNearest 144 = .ok (.aload_n 0, 1) := by decide +kernel
theorem dX12_triesNearest_145 : decode cX12_triesNearest 145 = .ok (.getfield 34, 3) := by decide +kernel
theorem dX12_triesNearest_148 : decode cX12_triesNearest 148 = .ok (.iconst 0, 1) := by decide +kernel
theorem dX12_triesNearest_149 : decode cX12_triesNearest 149 = .ok (.invokestatic 135, 3) := by decide +kernel
theorem dX12_triesNearest_152 : decode cX12_triesNearest 152 = .ok (.aload_n 0, 1) := by decide +kernel
theorem dX12_triesNearest_153 : decode cX12_triesNearest 153 = .ok (.getfield 43, 3) := by decide +kernel
theorem dX12_triesNearest_156 : decode cX12_triesNearest 156 = .ok (.iconst 0, 1) := by decide +kernel
theorem dX12_triesNearest_157 : decode cX12_triesNearest 157 = .ok (.aload_n 0, 1) := by decide +kernel
theorem dX12_triesNearest_158 : decode cX12_triesNearest 158 = .ok (.getfield 37, 3) := by decide +kernel
theorem dX12_triesNearest_161 : decode cX12_triesNearest 161 = .ok (.iconst 0, 1) := by decide +kernel
theorem dX12_triesNearest_162 : decode cX12_triesNearest 162 = .ok (.invokestatic 135, 3) := by decide +kernel
theorem dX12_triesNearest_165 : decode cX12_triesNearest 165 = .ok (.return_, 1) := by decide +kernel
theorem dX12_laysNearest_0 : decode cX12_laysNearest 0 = .ok (.aload_n 3, 1) := by decide +kernel
theorem dX12_laysNearest_1 : decode cX12_laysNearest 1 = .ok (.iload 4, 2) := by decide +kernel
theorem dX12_laysNearest_3 : decode cX12_laysNearest 3 = .ok (.invokestatic 107, 3) := by decide +kernel
theorem dX12_laysNearest_6 : decode cX12_laysNearest 6 = .ok (.istore 6, 2) := by decide +kernel
theorem dX12_laysNearest_8 : decode cX12_laysNearest 8 = .ok (.aload_n 3, 1) := by decide +kernel
theorem dX12_laysNearest_9 : decode cX12_laysNearest 9 = .ok (.iload 4, 2) := by decide +kernel
theorem dX12_laysNearest_11 : decode cX12_laysNearest 11 = .ok (.aload_n 0, 1) := by decide +kernel
theorem dX12_laysNearest_12 : decode cX12_laysNearest 12 = .ok (.getfield 16, 3) := by decide +kernel
theorem dX12_laysNearest_15 : decode cX12_laysNearest 15 = .ok (.invokestatic 111, 3) := by decide +kernel
theorem dX12_laysNearest_18 : decode cX12_laysNearest 18 = .ok (.aload_n 0, 1) := by decide +kernel
theorem dX12_laysNearest_19 : decode cX12_laysNearest 19 = .ok (.getfield 16, 3) := by decide +kernel
theorem dX12_laysNearest_22 : decode cX12_laysNearest 22 = .ok (.iconst 0, 1) := by decide +kernel
theorem dX12_laysNearest_23 : decode cX12_laysNearest 23 = .ok (.aload_n 1, 1) := by decide +kernel
theorem dX12_laysNearest_24 : decode cX12_laysNearest 24 = .ok (.iload_n 2, 1) := by decide +kernel
theorem dX12_laysNearest_25 : decode cX12_laysNearest 25 = .ok (.iload 5, 2) := by decide +kernel
theorem dX12_laysNearest_27 : decode cX12_laysNearest 27 = .ok (.aload_n 0, 1) := by decide +kernel
theorem dX12_laysNearest_28 : decode cX12_laysNearest 28 = .ok (.getfield 46, 3) := by decide +kernel
theorem dX12_laysNearest_31 : decode cX12_laysNearest 31 = .ok (.invokestatic 115, 3) := by decide +kernel
theorem dX12_laysNearest_34 : decode cX12_laysNearest 34 = .ok (.iconst 1, 1) := by decide +kernel
theorem dX12_laysNearest_35 : decode cX12_laysNearest 35 = .ok (.istore 7, 2) := by decide +kernel
theorem dX12_laysNearest_37 : decode cX12_laysNearest 37 = .ok (.iconst 0, 1) := by decide +kernel
theorem dX12_laysNearest_38 : decode cX12_laysNearest 38 = .ok (.istore 8, 2) := by decide +kernel
theorem dX12_laysNearest_40 : decode cX12_laysNearest 40 = .ok (.iload 8, 2) := by decide +kernel
theorem dX12_laysNearest_42 : decode cX12_laysNearest 42 = .ok (.sipush 1296, 3) := by decide +kernel
theorem dX12_laysNearest_45 : decode cX12_laysNearest 45 = .ok (.if_icmp .ge 108, 3) := by decide +kernel
theorem dX12_laysNearest_48 : decode cX12_laysNearest 48 = .ok (.iload 8, 2) := by decide +kernel
theorem dX12_laysNearest_50 : decode cX12_laysNearest 50 = .ok (.istore 9, 2) := by decide +kernel
theorem dX12_laysNearest_52 : decode cX12_laysNearest 52 = .ok (.iconst 0, 1) := by decide +kernel
theorem dX12_laysNearest_53 : decode cX12_laysNearest 53 = .ok (.istore 10, 2) := by decide +kernel
theorem dX12_laysNearest_55 : decode cX12_laysNearest 55 = .ok (.iload 10, 2) := by decide +kernel
theorem dX12_laysNearest_57 : decode cX12_laysNearest 57 = .ok (.iconst 4, 1) := by decide +kernel
theorem dX12_laysNearest_58 : decode cX12_laysNearest 58 = .ok (.if_icmp .ge 43, 3) := by decide +kernel
theorem dX12_laysNearest_61 : decode cX12_laysNearest 61 = .ok (.aload_n 0, 1) := by decide +kernel
theorem dX12_laysNearest_62 : decode cX12_laysNearest 62 = .ok (.getfield 40, 3) := by decide +kernel
theorem dX12_laysNearest_65 : decode cX12_laysNearest 65 = .ok (.iload 10, 2) := by decide +kernel
theorem dX12_laysNearest_67 : decode cX12_laysNearest 67 = .ok (.aload_n 0, 1) := by decide +kernel
theorem dX12_laysNearest_68 : decode cX12_laysNearest 68 = .ok (.getfield 46, 3) := by decide +kernel
theorem dX12_laysNearest_71 : decode cX12_laysNearest 71 = .ok (.iload 10, 2) := by decide +kernel
theorem dX12_laysNearest_73 : decode cX12_laysNearest 73 = .ok (.iaload, 1) := by decide +kernel
theorem dX12_laysNearest_74 : decode cX12_laysNearest 74 = .ok (.iload 6, 2) := by decide +kernel
theorem dX12_laysNearest_76 : decode cX12_laysNearest 76 = .ok (.invokestatic 147, 3) := by decide +kernel
theorem dX12_laysNearest_79 : decode cX12_laysNearest 79 = .ok (.iconst 3, 1) := by decide +kernel
theorem dX12_laysNearest_80 : decode cX12_laysNearest 80 = .ok (.iadd, 1) := by decide +kernel
theorem dX12_laysNearest_81 : decode cX12_laysNearest 81 = .ok (.iload 9, 2) := by decide +kernel
theorem dX12_laysNearest_83 : decode cX12_laysNearest 83 = .ok (.bipush 6, 2) := by decide +kernel
theorem dX12_laysNearest_85 : decode cX12_laysNearest 85 = .ok (.irem, 1) := by decide +kernel
theorem dX12_laysNearest_86 : decode cX12_laysNearest 86 = .ok (.isub, 1) := by decide +kernel
theorem dX12_laysNearest_87 : decode cX12_laysNearest 87 = .ok (.iastore, 1) := by decide +kernel
theorem dX12_laysNearest_88 : decode cX12_laysNearest 88 = .ok (.iload 9, 2) := by decide +kernel
theorem dX12_laysNearest_90 : decode cX12_laysNearest 90 = .ok (.bipush 6, 2) := by decide +kernel
theorem dX12_laysNearest_92 : decode cX12_laysNearest 92 = .ok (.idiv, 1) := by decide +kernel
theorem dX12_laysNearest_93 : decode cX12_laysNearest 93 = .ok (.istore 9, 2) := by decide +kernel
theorem dX12_laysNearest_95 : decode cX12_laysNearest 95 = .ok (.iinc 10 1, 3) := by decide +kernel
theorem dX12_laysNearest_98 : decode cX12_laysNearest 98 = .ok (.goto (-43), 3) := by decide +kernel
theorem dX12_laysNearest_101 : decode cX12_laysNearest 101 = .ok (.aload_n 0, 1) := by decide +kernel
theorem dX12_laysNearest_102 : decode cX12_laysNearest 102 = .ok (.getfield 40, 3) := by decide +kernel
theorem dX12_laysNearest_105 : decode cX12_laysNearest 105 = .ok (.iconst 0, 1) := by decide +kernel
theorem dX12_laysNearest_106 : decode cX12_laysNearest 106 = .ok (.iaload, 1) := by decide +kernel
theorem dX12_laysNearest_107 : decode cX12_laysNearest 107 = .ok (.aload_n 0, 1) := by decide +kernel
theorem dX12_laysNearest_108 : decode cX12_laysNearest 108 = .ok (.getfield 40, 3) := by decide +kernel
theorem dX12_laysNearest_111 : decode cX12_laysNearest 111 = .ok (.iconst 1, 1) := by decide +kernel
theorem dX12_laysNearest_112 : decode cX12_laysNearest 112 = .ok (.iaload, 1) := by decide +kernel
theorem dX12_laysNearest_113 : decode cX12_laysNearest 113 = .ok (.aload_n 0, 1) := by decide +kernel
theorem dX12_laysNearest_114 : decode cX12_laysNearest 114 = .ok (.getfield 40, 3) := by decide +kernel
theorem dX12_laysNearest_117 : decode cX12_laysNearest 117 = .ok (.iconst 2, 1) := by decide +kernel
theorem dX12_laysNearest_118 : decode cX12_laysNearest 118 = .ok (.iaload, 1) := by decide +kernel
theorem dX12_laysNearest_119 : decode cX12_laysNearest 119 = .ok (.aload_n 0, 1) := by decide +kernel
theorem dX12_laysNearest_120 : decode cX12_laysNearest 120 = .ok (.getfield 40, 3) := by decide +kernel
theorem dX12_laysNearest_123 : decode cX12_laysNearest 123 = .ok (.iconst 3, 1) := by decide +kernel
theorem dX12_laysNearest_124 : decode cX12_laysNearest 124 = .ok (.iaload, 1) := by decide +kernel
theorem dX12_laysNearest_125 : decode cX12_laysNearest 125 = .ok (.invokestatic 119, 3) := by decide +kernel
theorem dX12_laysNearest_128 : decode cX12_laysNearest 128 = .ok (.ifCond .eq 19, 3) := by decide +kernel
theorem dX12_laysNearest_131 : decode cX12_laysNearest 131 = .ok (.aload_n 0, 1) := by decide +kernel
theorem dX12_laysNearest_132 : decode cX12_laysNearest 132 = .ok (.aload_n 1, 1) := by decide +kernel
theorem dX12_laysNearest_133 : decode cX12_laysNearest 133 = .ok (.iload_n 2, 1) := by decide +kernel
theorem dX12_laysNearest_134 : decode cX12_laysNearest 134 = .ok (.aload_n 3, 1) := by decide +kernel
theorem dX12_laysNearest_135 : decode cX12_laysNearest 135 = .ok (.iload 4, 2) := by decide +kernel
theorem dX12_laysNearest_137 : decode cX12_laysNearest 137 = .ok (.iload 5, 2) := by decide +kernel
theorem dX12_laysNearest_139 : decode cX12_laysNearest 139 = .ok (.iload 7, 2) := by decide +kernel
theorem dX12_laysNearest_141 : decode cX12_laysNearest 141 = .ok (.invokevirtual 151, 3) := by decide +kernel
theorem dX12_laysNearest_144 : decode cX12_laysNearest 144 = .ok (.iconst 0, 1) := by decide +kernel
theorem dX12_laysNearest_145 : decode cX12_laysNearest 145 = .ok (.istore 7, 2) := by decide +kernel
theorem dX12_laysNearest_147 : decode cX12_laysNearest 147 = .ok (.iinc 8 1, 3) := by decide +kernel
theorem dX12_laysNearest_150 : decode cX12_laysNearest 150 = .ok (.goto (-110), 3) := by decide +kernel
theorem dX12_laysNearest_153 : decode cX12_laysNearest 153 = .ok (.return_, 1) := by decide +kernel
theorem dX12_isSlot_0 : decode cX12_isSlot 0 = .ok (.iload_n 0, 1) := by decide +kernel
theorem dX12_isSlot_1 : decode cX12_isSlot 1 = .ok (.iconst 0, 1) := by decide +kernel
theorem dX12_isSlot_2 : decode cX12_isSlot 2 = .ok (.iconst 5, 1) := by decide +kernel
theorem dX12_isSlot_3 : decode cX12_isSlot 3 = .ok (.invokestatic 155, 3) := by decide +kernel
theorem dX12_isSlot_6 : decode cX12_isSlot 6 = .ok (.ireturn, 1) := by decide +kernel
theorem dX12_norm_0 : decode cX12_norm 0 = .ok (.aload_n 0, 1) := by decide +kernel
theorem dX12_norm_1 : decode cX12_norm 1 = .ok (.getfield 49, 3) := by decide +kernel
theorem dX12_norm_4 : decode cX12_norm 4 = .ok (.iconst 4, 1) := by decide +kernel
theorem dX12_norm_5 : decode cX12_norm 5 = .ok (.iload_n 1, 1) := by decide +kernel
theorem dX12_norm_6 : decode cX12_norm 6 = .ok (.imul, 1) := by decide +kernel
theorem dX12_norm_7 : decode cX12_norm 7 = .ok (.invokestatic 107, 3) := by decide +kernel
theorem dX12_norm_10 : decode cX12_norm 10 = .ok (.ireturn, 1) := by decide +kernel
theorem dX12_isEmpty_0 : decode cX12_isEmpty 0 = .ok (.aload_n 0, 1) := by decide +kernel
theorem dX12_isEmpty_1 : decode cX12_isEmpty 1 = .ok (.getfield 49, 3) := by decide +kernel
theorem dX12_isEmpty_4 : decode cX12_isEmpty 4 = .ok (.iconst 4, 1) := by decide +kernel
theorem dX12_isEmpty_5 : decode cX12_isEmpty 5 = .ok (.iload_n 1, 1) := by decide +kernel
theorem dX12_isEmpty_6 : decode cX12_isEmpty 6 = .ok (.imul, 1) := by decide +kernel
theorem dX12_isEmpty_7 : decode cX12_isEmpty 7 = .ok (.invokestatic 159, 3) := by decide +kernel
theorem dX12_isEmpty_10 : decode cX12_isEmpty 10 = .ok (.ireturn, 1) := by decide +kernel
theorem dX12_filled_0 : decode cX12_filled 0 = .ok (.iconst 0, 1) := by decide +kernel
theorem dX12_filled_1 : decode cX12_filled 1 = .ok (.istore_n 1, 1) := by decide +kernel
theorem dX12_filled_2 : decode cX12_filled 2 = .ok (.iconst 0, 1) := by decide +kernel
theorem dX12_filled_3 : decode cX12_filled 3 = .ok (.istore_n 2, 1) := by decide +kernel
theorem dX12_filled_4 : decode cX12_filled 4 = .ok (.iload_n 2, 1) := by decide +kernel
theorem dX12_filled_5 : decode cX12_filled 5 = .ok (.bipush 6, 2) := by decide +kernel
theorem dX12_filled_7 : decode cX12_filled 7 = .ok (.if_icmp .ge 25, 3) := by decide +kernel
theorem dX12_filled_10 : decode cX12_filled 10 = .ok (.iload_n 1, 1) := by decide +kernel
theorem dX12_filled_11 : decode cX12_filled 11 = .ok (.aload_n 0, 1) := by decide +kernel
theorem dX12_filled_12 : decode cX12_filled 12 = .ok (.iload_n 2, 1) := by decide +kernel
theorem dX12_filled_13 : decode cX12_filled 13 = .ok (.invokevirtual 163, 3) := by decide +kernel
theorem dX12_filled_16 : decode cX12_filled 16 = .ok (.ifCond .eq 7, 3) := by decide +kernel
theorem dX12_filled_19 : decode cX12_filled 19 = .ok (.iconst 0, 1) := by decide +kernel
theorem dX12_filled_20 : decode cX12_filled 20 = .ok (.goto 4, 3) := by decide +kernel
theorem dX12_filled_23 : decode cX12_filled 23 = .ok (.iconst 1, 1) := by decide +kernel
theorem dX12_filled_24 : decode cX12_filled 24 = .ok (.iadd, 1) := by decide +kernel
theorem dX12_filled_25 : decode cX12_filled 25 = .ok (.istore_n 1, 1) := by decide +kernel
theorem dX12_filled_26 : decode cX12_filled 26 = .ok (.iinc 2 1, 3) := by decide +kernel
theorem dX12_filled_29 : decode cX12_filled 29 = .ok (.goto (-25), 3) := by decide +kernel
theorem dX12_filled_32 : decode cX12_filled 32 = .ok (.iload_n 1, 1) := by decide +kernel
theorem dX12_filled_33 : decode cX12_filled 33 = .ok (.ireturn, 1) := by decide +kernel
theorem dX12_marks_0 : decode cX12_marks 0 = .ok (.aload_n 0, 1) := by decide +kernel
theorem dX12_marks_1 : decode cX12_marks 1 = .ok (.getfield 167, 3) := by decide +kernel
theorem dX12_marks_4 : decode cX12_marks 4 = .ok (.bipush 8, 2) := by decide +kernel
theorem dX12_marks_6 : decode cX12_marks 6 = .ok (.if_icmp .ne 44, 3) := by decide +kernel
theorem dX12_marks_9 : decode cX12_marks 9 = .ok (.bipush 24, 2) := by decide +kernel
theorem dX12_marks_11 : decode cX12_marks 11 = .ok (.istore_n 1, 1) := by decide +kernel
theorem dX12_marks_12 : decode cX12_marks 12 = .ok (.iload_n 1, 1) := by decide +kernel
theorem dX12_marks_13 : decode cX12_marks 13 = .ok (.sipush 192, 3) := by decide +kernel
theorem dX12_marks_16 : decode cX12_marks 16 = .ok (.if_icmp .ge 24, 3) := by decide +kernel
theorem dX12_marks_19 : decode cX12_marks 19 = .ok (.aload_n 0, 1) := by decide +kernel
theorem dX12_marks_20 : decode cX12_marks 20 = .ok (.getfield 52, 3) := by decide +kernel
theorem dX12_marks_23 : decode cX12_marks 23 = .ok (.iload_n 1, 1) := by decide +kernel
theorem dX12_marks_24 : decode cX12_marks 24 = .ok (.bipush 24, 2) := by decide +kernel
theorem dX12_marks_26 : decode cX12_marks 26 = .ok (.isub, 1) := by decide +kernel
theorem dX12_marks_27 : decode cX12_marks 27 = .ok (.aload_n 0, 1) := by decide +kernel
theorem dX12_marks_28 : decode cX12_marks 28 = .ok (.getfield 52, 3) := by decide +kernel
theorem dX12_marks_31 : decode cX12_marks 31 = .ok (.iload_n 1, 1) := by decide +kernel
theorem dX12_marks_32 : decode cX12_marks 32 = .ok (.iaload, 1) := by decide +kernel
theorem dX12_marks_33 : decode cX12_marks 33 = .ok (.iastore, 1) := by decide +kernel
theorem dX12_marks_34 : decode cX12_marks 34 = .ok (.iinc 1 1, 3) := by decide +kernel
theorem dX12_marks_37 : decode cX12_marks 37 = .ok (.goto (-25), 3) := by decide +kernel
theorem dX12_marks_40 : decode cX12_marks 40 = .ok (.aload_n 0, 1) := by decide +kernel
theorem dX12_marks_41 : decode cX12_marks 41 = .ok (.dup, 1) := by decide +kernel
theorem dX12_marks_42 : decode cX12_marks 42 = .ok (.getfield 167, 3) := by decide +kernel
theorem dX12_marks_45 : decode cX12_marks 45 = .ok (.iconst 1, 1) := by decide +kernel
theorem dX12_marks_46 : decode cX12_marks 46 = .ok (.isub, 1) := by decide +kernel
theorem dX12_marks_47 : decode cX12_marks 47 = .ok (.putfield 167, 3) := by decide +kernel
theorem dX12_marks_50 : decode cX12_marks 50 = .ok (.iconst 0, 1) := by decide +kernel
theorem dX12_marks_51 : decode cX12_marks 51 = .ok (.istore_n 1, 1) := by decide +kernel
theorem dX12_marks_52 : decode cX12_marks 52 = .ok (.iload_n 1, 1) := by decide +kernel
theorem dX12_marks_53 : decode cX12_marks 53 = .ok (.bipush 24, 2) := by decide +kernel
theorem dX12_marks_55 : decode cX12_marks 55 = .ok (.if_icmp .ge 29, 3) := by decide +kernel
theorem dX12_marks_58 : decode cX12_marks 58 = .ok (.aload_n 0, 1) := by decide +kernel
theorem dX12_marks_59 : decode cX12_marks 59 = .ok (.getfield 52, 3) := by decide +kernel
theorem dX12_marks_62 : decode cX12_marks 62 = .ok (.bipush 24, 2) := by decide +kernel
theorem dX12_marks_64 : decode cX12_marks 64 = .ok (.aload_n 0, 1) := by decide +kernel
theorem dX12_marks_65 : decode cX12_marks 65 = .ok (.getfield 167, 3) := by decide +kernel
theorem dX12_marks_68 : decode cX12_marks 68 = .ok (.imul, 1) := by decide +kernel
theorem dX12_marks_69 : decode cX12_marks 69 = .ok (.iload_n 1, 1) := by decide +kernel
theorem dX12_marks_70 : decode cX12_marks 70 = .ok (.iadd, 1) := by decide +kernel
theorem dX12_marks_71 : decode cX12_marks 71 = .ok (.aload_n 0, 1) := by decide +kernel
theorem dX12_marks_72 : decode cX12_marks 72 = .ok (.getfield 49, 3) := by decide +kernel
theorem dX12_marks_75 : decode cX12_marks 75 = .ok (.iload_n 1, 1) := by decide +kernel
theorem dX12_marks_76 : decode cX12_marks 76 = .ok (.iaload, 1) := by decide +kernel
theorem dX12_marks_77 : decode cX12_marks 77 = .ok (.iastore, 1) := by decide +kernel
theorem dX12_marks_78 : decode cX12_marks 78 = .ok (.iinc 1 1, 3) := by decide +kernel
theorem dX12_marks_81 : decode cX12_marks 81 = .ok (.goto (-29), 3) := by decide +kernel
theorem dX12_marks_84 : decode cX12_marks 84 = .ok (.aload_n 0, 1) := by decide +kernel
theorem dX12_marks_85 : decode cX12_marks 85 = .ok (.dup, 1) := by decide +kernel
theorem dX12_marks_86 : decode cX12_marks 86 = .ok (.getfield 167, 3) := by decide +kernel
theorem dX12_marks_89 : decode cX12_marks 89 = .ok (.iconst 1, 1) := by decide +kernel
theorem dX12_marks_90 : decode cX12_marks 90 = .ok (.iadd, 1) := by decide +kernel
theorem dX12_marks_91 : decode cX12_marks 91 = .ok (.putfield 167, 3) := by decide +kernel
theorem dX12_marks_94 : decode cX12_marks 94 = .ok (.return_, 1) := by decide +kernel
theorem dX12_becomes_0 : decode cX12_becomes 0 = .ok (.aload_n 0, 1) := by decide +kernel
theorem dX12_becomes_1 : decode cX12_becomes 1 = .ok (.invokevirtual 170, 3) := by decide +kernel
theorem dX12_becomes_4 : decode cX12_becomes 4 = .ok (.aload_n 2, 1) := by decide +kernel
theorem dX12_becomes_5 : decode cX12_becomes 5 = .ok (.iload_n 3, 1) := by decide +kernel
theorem dX12_becomes_6 : decode cX12_becomes 6 = .ok (.aload_n 0, 1) := by decide +kernel
theorem dX12_becomes_7 : decode cX12_becomes 7 = .ok (.getfield 49, 3) := by decide +kernel
theorem dX12_becomes_10 : decode cX12_becomes 10 = .ok (.iconst 4, 1) := by decide +kernel
theorem dX12_becomes_11 : decode cX12_becomes 11 = .ok (.iload_n 1, 1) := by decide +kernel
theorem dX12_becomes_12 : decode cX12_becomes 12 = .ok (.imul, 1) := by decide +kernel
theorem dX12_becomes_13 : decode cX12_becomes 13 = .ok (.invokestatic 135, 3) := by decide +kernel
theorem dX12_becomes_16 : decode cX12_becomes 16 = .ok (.aload_n 0, 1) := by decide +kernel
theorem dX12_becomes_17 : decode cX12_becomes 17 = .ok (.iload_n 1, 1) := by decide +kernel
theorem dX12_becomes_18 : decode cX12_becomes 18 = .ok (.invokevirtual 173, 3) := by decide +kernel
theorem dX12_becomes_21 : decode cX12_becomes 21 = .ok (.ireturn, 1) := by decide +kernel
theorem dX12_number_0 : decode cX12_number 0 = .ok (.iload_n 1, 1) := by decide +kernel
theorem dX12_number_1 : decode cX12_number 1 = .ok (.invokestatic 177, 3) := by decide +kernel
theorem dX12_number_4 : decode cX12_number 4 = .ok (.ifCond .ne 7, 3) := by decide +kernel
theorem dX12_number_7 : decode cX12_number 7 = .ok (.sipush (-1001), 3) := by decide +kernel
theorem dX12_number_10 : decode cX12_number 10 = .ok (.ireturn, 1) := by decide +kernel
theorem dX12_number_11 : decode cX12_number 11 = .ok (.iload_n 2, 1) := by decide +kernel
theorem dX12_number_12 : decode cX12_number 12 = .ok (.iconst 0, 1) := by decide +kernel
theorem dX12_number_13 : decode cX12_number 13 = .ok (.iconst 3, 1) := by decide +kernel
theorem dX12_number_14 : decode cX12_number 14 = .ok (.invokestatic 155, 3) := by decide +kernel
theorem dX12_number_17 : decode cX12_number 17 = .ok (.ifCond .eq 16, 3) := by decide +kernel
theorem dX12_number_20 : decode cX12_number 20 = .ok (.aload_n 0, 1) := by decide +kernel
theorem dX12_number_21 : decode cX12_number 21 = .ok (.getfield 49, 3) := by decide +kernel
theorem dX12_number_24 : decode cX12_number 24 = .ok (.iconst 4, 1) := by decide +kernel
theorem dX12_number_25 : decode cX12_number 25 = .ok (.iload_n 1, 1) := by decide +kernel
theorem dX12_number_26 : decode cX12_number 26 = .ok (.imul, 1) := by decide +kernel
theorem dX12_number_27 : decode cX12_number 27 = .ok (.iload_n 2, 1) := by decide +kernel
theorem dX12_number_28 : decode cX12_number 28 = .ok (.iadd, 1) := by decide +kernel
theorem dX12_number_29 : decode cX12_number 29 = .ok (.iaload, 1) := by decide +kernel
theorem dX12_number_30 : decode cX12_number 30 = .ok (.goto 6, 3) := by decide +kernel
theorem dX12_number_33 : decode cX12_number 33 = .ok (.sipush (-1002), 3) := by decide +kernel
theorem dX12_number_36 : decode cX12_number 36 = .ok (.ireturn, 1) := by decide +kernel
theorem dX12_unitOf_0 : decode cX12_unitOf 0 = .ok (.iconst 0, 1) := by decide +kernel
theorem dX12_unitOf_1 : decode cX12_unitOf 1 = .ok (.istore_n 2, 1) := by decide +kernel
theorem dX12_unitOf_2 : decode cX12_unitOf 2 = .ok (.iload_n 2, 1) := by decide +kernel
theorem dX12_unitOf_3 : decode cX12_unitOf 3 = .ok (.bipush 24, 2) := by decide +kernel
theorem dX12_unitOf_5 : decode cX12_unitOf 5 = .ok (.if_icmp .ge 51, 3) := by decide +kernel
theorem dX12_unitOf_8 : decode cX12_unitOf 8 = .ok (.aload_n 0, 1) := by decide +kernel
theorem dX12_unitOf_9 : decode cX12_unitOf 9 = .ok (.getfield 13, 3) := by decide +kernel
theorem dX12_unitOf_12 : decode cX12_unitOf 12 = .ok (.iconst 4, 1) := by decide +kernel
theorem dX12_unitOf_13 : decode cX12_unitOf 13 = .ok (.iload_n 2, 1) := by decide +kernel
theorem dX12_unitOf_14 : decode cX12_unitOf 14 = .ok (.imul, 1) := by decide +kernel
theorem dX12_unitOf_15 : decode cX12_unitOf 15 = .ok (.aload_n 0, 1) := by decide +kernel
theorem dX12_unitOf_16 : decode cX12_unitOf 16 = .ok (.getfield 49, 3) := by decide +kernel
theorem dX12_unitOf_19 : decode cX12_unitOf 19 = .ok (.iconst 4, 1) := by decide +kernel
theorem dX12_unitOf_20 : decode cX12_unitOf 20 = .ok (.iload_n 1, 1) := by decide +kernel
theorem dX12_unitOf_21 : decode cX12_unitOf 21 = .ok (.imul, 1) := by decide +kernel
theorem dX12_unitOf_22 : decode cX12_unitOf 22 = .ok (.invokestatic 123, 3) := by decide +kernel
theorem dX12_unitOf_25 : decode cX12_unitOf 25 = .ok (.ifCond .ne 25, 3) := by decide +kernel
theorem dX12_unitOf_28 : decode cX12_unitOf 28 = .ok (.aload_n 0, 1) := by decide +kernel
theorem dX12_unitOf_29 : decode cX12_unitOf 29 = .ok (.getfield 49, 3) := by decide +kernel
theorem dX12_unitOf_32 : decode cX12_unitOf 32 = .ok (.iconst 4, 1) := by decide +kernel
theorem dX12_unitOf_33 : decode cX12_unitOf 33 = .ok (.iload_n 1, 1) := by decide +kernel
theorem dX12_unitOf_34 : decode cX12_unitOf 34 = .ok (.imul, 1) := by decide +kernel
theorem dX12_unitOf_35 : decode cX12_unitOf 35 = .ok (.aload_n 0, 1) := by decide +kernel
theorem dX12_unitOf_36 : decode cX12_unitOf 36 = .ok (.getfield 13, 3) := by decide +kernel
theorem dX12_unitOf_39 : decode cX12_unitOf 39 = .ok (.iconst 4, 1) := by decide +kernel
theorem dX12_unitOf_40 : decode cX12_unitOf 40 = .ok (.iload_n 2, 1) := by decide +kernel
theorem dX12_unitOf_41 : decode cX12_unitOf 41 = .ok (.imul, 1) := by decide +kernel
theorem dX12_unitOf_42 : decode cX12_unitOf 42 = .ok (.invokestatic 123, 3) := by decide +kernel
theorem dX12_unitOf_45 : decode cX12_unitOf 45 = .ok (.ifCond .ne 5, 3) := by decide +kernel
theorem dX12_unitOf_48 : decode cX12_unitOf 48 = .ok (.iload_n 2, 1) := by decide +kernel
theorem dX12_unitOf_49 : decode cX12_unitOf 49 = .ok (.ireturn, 1) := by decide +kernel
theorem dX12_unitOf_50 : decode cX12_unitOf 50 = .ok (.iinc 2 1, 3) := by decide +kernel
theorem dX12_unitOf_53 : decode cX12_unitOf 53 = .ok (.goto (-51), 3) := by decide +kernel
theorem dX12_unitOf_56 : decode cX12_unitOf 56 = .ok (.iconst (-1), 1) := by decide +kernel
theorem dX12_unitOf_57 : decode cX12_unitOf 57 = .ok (.ireturn, 1) := by decide +kernel
theorem dX12_content_0 : decode cX12_content 0 = .ok (.iconst 1, 1) := by decide +kernel
theorem dX12_content_1 : decode cX12_content 1 = .ok (.istore_n 2, 1) := by decide +kernel
theorem dX12_content_2 : decode cX12_content 2 = .ok (.iconst 2, 1) := by decide +kernel
theorem dX12_content_3 : decode cX12_content 3 = .ok (.istore_n 3, 1) := by decide +kernel
theorem dX12_content_4 : decode cX12_content 4 = .ok (.iload_n 3, 1) := by decide +kernel
theorem dX12_content_5 : decode cX12_content 5 = .ok (.bipush 24, 2) := by decide +kernel
theorem dX12_content_7 : decode cX12_content 7 = .ok (.if_icmp .gt 119, 3) := by decide +kernel
theorem dX12_content_10 : decode cX12_content 10 = .ok (.iconst 1, 1) := by decide +kernel
theorem dX12_content_11 : decode cX12_content 11 = .ok (.istore 4, 2) := by decide +kernel
theorem dX12_content_13 : decode cX12_content 13 = .ok (.iconst 0, 1) := by decide +kernel
theorem dX12_content_14 : decode cX12_content 14 = .ok (.istore 5, 2) := by decide +kernel
theorem dX12_content_16 : decode cX12_content 16 = .ok (.iload 5, 2) := by decide +kernel
theorem dX12_content_18 : decode cX12_content 18 = .ok (.iconst 4, 1) := by decide +kernel
theorem dX12_content_19 : decode cX12_content 19 = .ok (.if_icmp .ge 37, 3) := by decide +kernel
theorem dX12_content_22 : decode cX12_content 22 = .ok (.iload 4, 2) := by decide +kernel
theorem dX12_content_24 : decode cX12_content 24 = .ok (.ifCond .eq 23, 3) := by decide +kernel
theorem dX12_content_27 : decode cX12_content 27 = .ok (.aload_n 0, 1) := by decide +kernel
theorem dX12_content_28 : decode cX12_content 28 = .ok (.getfield 49, 3) := by decide +kernel
theorem dX12_content_31 : decode cX12_content 31 = .ok (.iconst 4, 1) := by decide +kernel
theorem dX12_content_32 : decode cX12_content 32 = .ok (.iload_n 1, 1) := by decide +kernel
theorem dX12_content_33 : decode cX12_content 33 = .ok (.imul, 1) := by decide +kernel
theorem dX12_content_34 : decode cX12_content 34 = .ok (.iload 5, 2) := by decide +kernel
theorem dX12_content_36 : decode cX12_content 36 = .ok (.iadd, 1) := by decide +kernel
theorem dX12_content_37 : decode cX12_content 37 = .ok (.iaload, 1) := by decide +kernel
theorem dX12_content_38 : decode cX12_content 38 = .ok (.iload_n 3, 1) := by decide +kernel
theorem dX12_content_39 : decode cX12_content 39 = .ok (.irem, 1) := by decide +kernel
theorem dX12_content_40 : decode cX12_content 40 = .ok (.ifCond .ne 7, 3) := by decide +kernel
theorem dX12_content_43 : decode cX12_content 43 = .ok (.iconst 1, 1) := by decide +kernel
theorem dX12_content_44 : decode cX12_content 44 = .ok (.goto 4, 3) := by decide +kernel
theorem dX12_content_47 : decode cX12_content 47 = .ok (.iconst 0, 1) := by decide +kernel
theorem dX12_content_48 : decode cX12_content 48 = .ok (.istore 4, 2) := by decide +kernel
theorem dX12_content_50 : decode cX12_content 50 = .ok (.iinc 5 1, 3) := by decide +kernel
theorem dX12_content_53 : decode cX12_content 53 = .ok (.goto (-37), 3) := by decide +kernel
theorem dX12_content_56 : decode cX12_content 56 = .ok (.iconst 4, 1) := by decide +kernel
theorem dX12_content_57 : decode cX12_content 57 = .ok (.iload_n 1, 1) := by decide +kernel
theorem dX12_content_58 : decode cX12_content 58 = .ok (.imul, 1) := by decide +kernel
theorem dX12_content_59 : decode cX12_content 59 = .ok (.istore 5, 2) := by decide +kernel
theorem dX12_content_61 : decode cX12_content 61 = .ok (.iload 4, 2) := by decide +kernel
theorem dX12_content_63 : decode cX12_content 63 = .ok (.ifCond .eq 55, 3) := by decide +kernel
theorem dX12_content_66 : decode cX12_content 66 = .ok (.aload_n 0, 1) := by decide +kernel
theorem dX12_content_67 : decode cX12_content 67 = .ok (.getfield 49, 3) := by decide +kernel
theorem dX12_content_70 : decode cX12_content 70 = .ok (.iload 5, 2) := by decide +kernel
theorem dX12_content_72 : decode cX12_content 72 = .ok (.iaload, 1) := by decide +kernel
theorem dX12_content_73 : decode cX12_content 73 = .ok (.iload_n 3, 1) := by decide +kernel
theorem dX12_content_74 : decode cX12_content 74 = .ok (.idiv, 1) := by decide +kernel
theorem dX12_content_75 : decode cX12_content 75 = .ok (.aload_n 0, 1) := by decide +kernel
theorem dX12_content_76 : decode cX12_content 76 = .ok (.getfield 49, 3) := by decide +kernel
theorem dX12_content_79 : decode cX12_content 79 = .ok (.iload 5, 2) := by decide +kernel
theorem dX12_content_81 : decode cX12_content 81 = .ok (.iconst 1, 1) := by decide +kernel
theorem dX12_content_82 : decode cX12_content 82 = .ok (.iadd, 1) := by decide +kernel
theorem dX12_content_83 : decode cX12_content 83 = .ok (.iaload, 1) := by decide +kernel
theorem dX12_content_84 : decode cX12_content 84 = .ok (.iload_n 3, 1) := by decide +kernel
theorem dX12_content_85 : decode cX12_content 85 = .ok (.idiv, 1) := by decide +kernel
theorem dX12_content_86 : decode cX12_content 86 = .ok (.aload_n 0, 1) := by decide +kernel
theorem dX12_content_87 : decode cX12_content 87 = .ok (.getfield 49, 3) := by decide +kernel
theorem dX12_content_90 : decode cX12_content 90 = .ok (.iload 5, 2) := by decide +kernel
theorem dX12_content_92 : decode cX12_content 92 = .ok (.iconst 2, 1) := by decide +kernel
theorem dX12_content_93 : decode cX12_content 93 = .ok (.iadd, 1) := by decide +kernel
theorem dX12_content_94 : decode cX12_content 94 = .ok (.iaload, 1) := by decide +kernel
theorem dX12_content_95 : decode cX12_content 95 = .ok (.iload_n 3, 1) := by decide +kernel
theorem dX12_content_96 : decode cX12_content 96 = .ok (.idiv, 1) := by decide +kernel
theorem dX12_content_97 : decode cX12_content 97 = .ok (.aload_n 0, 1) := by decide +kernel
theorem dX12_content_98 : decode cX12_content 98 = .ok (.getfield 49, 3) := by decide +kernel
theorem dX12_content_101 : decode cX12_content 101 = .ok (.iload 5, 2) := by decide +kernel
theorem dX12_content_103 : decode cX12_content 103 = .ok (.iconst 3, 1) := by decide +kernel
theorem dX12_content_104 : decode cX12_content 104 = .ok (.iadd, 1) := by decide +kernel
theorem dX12_content_105 : decode cX12_content 105 = .ok (.iaload, 1) := by decide +kernel
theorem dX12_content_106 : decode cX12_content 106 = .ok (.iload_n 3, 1) := by decide +kernel
theorem dX12_content_107 : decode cX12_content 107 = .ok (.idiv, 1) := by decide +kernel
theorem dX12_content_108 : decode cX12_content 108 = .ok (.invokestatic 119, 3) := by decide +kernel
theorem dX12_content_111 : decode cX12_content 111 = .ok (.ifCond .eq 7, 3) := by decide +kernel
theorem dX12_content_114 : decode cX12_content 114 = .ok (.iload_n 3, 1) := by decide +kernel
theorem dX12_content_115 : decode cX12_content 115 = .ok (.goto 4, 3) := by decide +kernel
theorem dX12_content_118 : decode cX12_content 118 = .ok (.iload_n 2, 1) := by decide +kernel
theorem dX12_content_119 : decode cX12_content 119 = .ok (.istore_n 2, 1) := by decide +kernel
theorem dX12_content_120 : decode cX12_content 120 = .ok (.iinc 3 1, 3) := by decide +kernel
theorem dX12_content_123 : decode cX12_content 123 = .ok (.goto (-119), 3) := by decide +kernel
theorem dX12_content_126 : decode cX12_content 126 = .ok (.iload_n 2, 1) := by decide +kernel
theorem dX12_content_127 : decode cX12_content 127 = .ok (.ireturn, 1) := by decide +kernel
theorem dX12_primesIn_0 : decode cX12_primesIn 0 = .ok (.iload_n 1, 1) := by decide +kernel
theorem dX12_primesIn_1 : decode cX12_primesIn 1 = .ok (.istore_n 2, 1) := by decide +kernel
theorem dX12_primesIn_2 : decode cX12_primesIn 2 = .ok (.iconst 0, 1) := by decide +kernel
theorem dX12_primesIn_3 : decode cX12_primesIn 3 = .ok (.istore_n 3, 1) := by decide +kernel
theorem dX12_primesIn_4 : decode cX12_primesIn 4 = .ok (.iconst 2, 1) := by decide +kernel
theorem dX12_primesIn_5 : decode cX12_primesIn 5 = .ok (.istore 4, 2) := by decide +kernel
theorem dX12_primesIn_7 : decode cX12_primesIn 7 = .ok (.iload 4, 2) := by decide +kernel
theorem dX12_primesIn_9 : decode cX12_primesIn 9 = .ok (.iload_n 1, 1) := by decide +kernel
theorem dX12_primesIn_10 : decode cX12_primesIn 10 = .ok (.if_icmp .gt 27, 3) := by decide +kernel
theorem dX12_primesIn_13 : decode cX12_primesIn 13 = .ok (.iload_n 2, 1) := by decide +kernel
theorem dX12_primesIn_14 : decode cX12_primesIn 14 = .ok (.iload 4, 2) := by decide +kernel
theorem dX12_primesIn_16 : decode cX12_primesIn 16 = .ok (.irem, 1) := by decide +kernel
theorem dX12_primesIn_17 : decode cX12_primesIn 17 = .ok (.ifCond .ne 14, 3) := by decide +kernel
theorem dX12_primesIn_20 : decode cX12_primesIn 20 = .ok (.iload_n 2, 1) := by decide +kernel
theorem dX12_primesIn_21 : decode cX12_primesIn 21 = .ok (.iload 4, 2) := by decide +kernel
theorem dX12_primesIn_23 : decode cX12_primesIn 23 = .ok (.idiv, 1) := by decide +kernel
theorem dX12_primesIn_24 : decode cX12_primesIn 24 = .ok (.istore_n 2, 1) := by decide +kernel
theorem dX12_primesIn_25 : decode cX12_primesIn 25 = .ok (.iinc 3 1, 3) := by decide +kernel
theorem dX12_primesIn_28 : decode cX12_primesIn 28 = .ok (.goto (-15), 3) := by decide +kernel
theorem dX12_primesIn_31 : decode cX12_primesIn 31 = .ok (.iinc 4 1, 3) := by decide +kernel
theorem dX12_primesIn_34 : decode cX12_primesIn 34 = .ok (.goto (-27), 3) := by decide +kernel
theorem dX12_primesIn_37 : decode cX12_primesIn 37 = .ok (.iload_n 3, 1) := by decide +kernel
theorem dX12_primesIn_38 : decode cX12_primesIn 38 = .ok (.ireturn, 1) := by decide +kernel
theorem dX12_laysChain_0 : decode cX12_laysChain 0 = .ok (.aload_n 0, 1) := by decide +kernel
theorem dX12_laysChain_1 : decode cX12_laysChain 1 = .ok (.getfield 65, 3) := by decide +kernel
theorem dX12_laysChain_4 : decode cX12_laysChain 4 = .ok (.iload_n 1, 1) := by decide +kernel
theorem dX12_laysChain_5 : decode cX12_laysChain 5 = .ok (.aload_n 0, 1) := by decide +kernel
theorem dX12_laysChain_6 : decode cX12_laysChain 6 = .ok (.getfield 62, 3) := by decide +kernel
theorem dX12_laysChain_9 : decode cX12_laysChain 9 = .ok (.iload_n 1, 1) := by decide +kernel
theorem dX12_laysChain_10 : decode cX12_laysChain 10 = .ok (.iaload, 1) := by decide +kernel
theorem dX12_laysChain_11 : decode cX12_laysChain 11 = .ok (.iconst 1, 1) := by decide +kernel
theorem dX12_laysChain_12 : decode cX12_laysChain 12 = .ok (.if_icmp .ne 7, 3) := by decide +kernel
theorem dX12_laysChain_15 : decode cX12_laysChain 15 = .ok (.iconst 1, 1) := by decide +kernel
theorem dX12_laysChain_16 : decode cX12_laysChain 16 = .ok (.goto 4, 3) := by decide +kernel
theorem dX12_laysChain_19 : decode cX12_laysChain 19 = .ok (.iconst 0, 1) := by decide +kernel
theorem dX12_laysChain_20 : decode cX12_laysChain 20 = .ok (.iastore, 1) := by decide +kernel
theorem dX12_laysChain_21 : decode cX12_laysChain 21 = .ok (.aload_n 0, 1) := by decide +kernel
theorem dX12_laysChain_22 : decode cX12_laysChain 22 = .ok (.getfield 25, 3) := by decide +kernel
theorem dX12_laysChain_25 : decode cX12_laysChain 25 = .ok (.iconst 4, 1) := by decide +kernel
theorem dX12_laysChain_26 : decode cX12_laysChain 26 = .ok (.iload_n 1, 1) := by decide +kernel
theorem dX12_laysChain_27 : decode cX12_laysChain 27 = .ok (.imul, 1) := by decide +kernel
theorem dX12_laysChain_28 : decode cX12_laysChain 28 = .ok (.aload_n 0, 1) := by decide +kernel
theorem dX12_laysChain_29 : decode cX12_laysChain 29 = .ok (.getfield 71, 3) := by decide +kernel
theorem dX12_laysChain_32 : decode cX12_laysChain 32 = .ok (.iconst 0, 1) := by decide +kernel
theorem dX12_laysChain_33 : decode cX12_laysChain 33 = .ok (.invokestatic 135, 3) := by decide +kernel
theorem dX12_laysChain_36 : decode cX12_laysChain 36 = .ok (.iconst 0, 1) := by decide +kernel
theorem dX12_laysChain_37 : decode cX12_laysChain 37 = .ok (.istore_n 2, 1) := by decide +kernel
theorem dX12_laysChain_38 : decode cX12_laysChain 38 = .ok (.iload_n 2, 1) := by decide +kernel
theorem dX12_laysChain_39 : decode cX12_laysChain 39 = .ok (.iload_n 1, 1) := by decide +kernel
theorem dX12_laysChain_40 : decode cX12_laysChain 40 = .ok (.if_icmp .ge 106, 3) := by decide +kernel
theorem dX12_laysChain_43 : decode cX12_laysChain 43 = .ok (.aload_n 0, 1) := by decide +kernel
theorem dX12_laysChain_44 : decode cX12_laysChain 44 = .ok (.getfield 62, 3) := by decide +kernel
theorem dX12_laysChain_47 : decode cX12_laysChain 47 = .ok (.iload_n 1, 1) := by decide +kernel
theorem dX12_laysChain_48 : decode cX12_laysChain 48 = .ok (.iaload, 1) := by decide +kernel
theorem dX12_laysChain_49 : decode cX12_laysChain 49 = .ok (.aload_n 0, 1) := by decide +kernel
theorem dX12_laysChain_50 : decode cX12_laysChain 50 = .ok (.getfield 62, 3) := by decide +kernel
theorem dX12_laysChain_53 : decode cX12_laysChain 53 = .ok (.iload_n 2, 1) := by decide +kernel
theorem dX12_laysChain_54 : decode cX12_laysChain 54 = .ok (.iaload, 1) := by decide +kernel
theorem dX12_laysChain_55 : decode cX12_laysChain 55 = .ok (.irem, 1) := by decide +kernel
theorem dX12_laysChain_56 : decode cX12_laysChain 56 = .ok (.ifCond .ne 26, 3) := by decide +kernel
theorem dX12_laysChain_59 : decode cX12_laysChain 59 = .ok (.aload_n 0, 1) := by decide +kernel
theorem dX12_laysChain_60 : decode cX12_laysChain 60 = .ok (.getfield 62, 3) := by decide +kernel
theorem dX12_laysChain_63 : decode cX12_laysChain 63 = .ok (.iload_n 1, 1) := by decide +kernel
theorem dX12_laysChain_64 : decode cX12_laysChain 64 = .ok (.iaload, 1) := by decide +kernel
theorem dX12_laysChain_65 : decode cX12_laysChain 65 = .ok (.aload_n 0, 1) := by decide +kernel
theorem dX12_laysChain_66 : decode cX12_laysChain 66 = .ok (.getfield 62, 3) := by decide +kernel
theorem dX12_laysChain_69 : decode cX12_laysChain 69 = .ok (.iload_n 2, 1) := by decide +kernel
theorem dX12_laysChain_70 : decode cX12_laysChain 70 = .ok (.iaload, 1) := by decide +kernel
theorem dX12_laysChain_71 : decode cX12_laysChain 71 = .ok (.idiv, 1) := by decide +kernel
theorem dX12_laysChain_72 : decode cX12_laysChain 72 = .ok (.invokestatic 180, 3) := by decide +kernel
theorem dX12_laysChain_75 : decode cX12_laysChain 75 = .ok (.ifCond .eq 7, 3) := by decide +kernel
theorem dX12_laysChain_78 : decode cX12_laysChain 78 = .ok (.iconst 1, 1) := by decide +kernel
theorem dX12_laysChain_79 : decode cX12_laysChain 79 = .ok (.goto 4, 3) := by decide +kernel
theorem dX12_laysChain_82 : decode cX12_laysChain 82 = .ok (.iconst 0, 1) := by decide +kernel
theorem dX12_laysChain_83 : decode cX12_laysChain 83 = .ok (.istore_n 3, 1) := by decide +kernel
theorem dX12_laysChain_84 : decode cX12_laysChain 84 = .ok (.iload_n 3, 1) := by decide +kernel
theorem dX12_laysChain_85 : decode cX12_laysChain 85 = .ok (.ifCond .eq 55, 3) := by decide +kernel
theorem dX12_laysChain_88 : decode cX12_laysChain 88 = .ok (.aload_n 0, 1) := by decide +kernel
theorem dX12_laysChain_89 : decode cX12_laysChain 89 = .ok (.getfield 25, 3) := by decide +kernel
theorem dX12_laysChain_92 : decode cX12_laysChain 92 = .ok (.iconst 4, 1) := by decide +kernel
theorem dX12_laysChain_93 : decode cX12_laysChain 93 = .ok (.iload_n 2, 1) := by decide +kernel
theorem dX12_laysChain_94 : decode cX12_laysChain 94 = .ok (.imul, 1) := by decide +kernel
theorem dX12_laysChain_95 : decode cX12_laysChain 95 = .ok (.aload_n 0, 1) := by decide +kernel
theorem dX12_laysChain_96 : decode cX12_laysChain 96 = .ok (.getfield 68, 3) := by decide +kernel
theorem dX12_laysChain_99 : decode cX12_laysChain 99 = .ok (.iconst 0, 1) := by decide +kernel
theorem dX12_laysChain_100 : decode cX12_laysChain 100 = .ok (.invokestatic 135, 3) := by decide +kernel
theorem dX12_laysChain_103 : decode cX12_laysChain 103 = .ok (.aload_n 0, 1) := by decide +kernel
theorem dX12_laysChain_104 : decode cX12_laysChain 104 = .ok (.getfield 65, 3) := by decide +kernel
theorem dX12_laysChain_107 : decode cX12_laysChain 107 = .ok (.iload_n 1, 1) := by decide +kernel
theorem dX12_laysChain_108 : decode cX12_laysChain 108 = .ok (.dup2, 1) := by decide +kernel
theorem dX12_laysChain_109 : decode cX12_laysChain 109 = .ok (.iaload, 1) := by decide +kernel
theorem dX12_laysChain_110 : decode cX12_laysChain 110 = .ok (.aload_n 0, 1) := by decide +kernel
theorem dX12_laysChain_111 : decode cX12_laysChain 111 = .ok (.aload_n 0, 1) := by decide +kernel
theorem dX12_laysChain_112 : decode cX12_laysChain 112 = .ok (.getfield 68, 3) := by decide +kernel
theorem dX12_laysChain_115 : decode cX12_laysChain 115 = .ok (.iconst 0, 1) := by decide +kernel
theorem dX12_laysChain_116 : decode cX12_laysChain 116 = .ok (.aload_n 0, 1) := by decide +kernel
theorem dX12_laysChain_117 : decode cX12_laysChain 117 = .ok (.getfield 71, 3) := by decide +kernel
theorem dX12_laysChain_120 : decode cX12_laysChain 120 = .ok (.iconst 0, 1) := by decide +kernel
theorem dX12_laysChain_121 : decode cX12_laysChain 121 = .ok (.iconst 0, 1) := by decide +kernel
theorem dX12_laysChain_122 : decode cX12_laysChain 122 = .ok (.invokevirtual 127, 3) := by decide +kernel
theorem dX12_laysChain_125 : decode cX12_laysChain 125 = .ok (.ifCond .eq 12, 3) := by decide +kernel
theorem dX12_laysChain_128 : decode cX12_laysChain 128 = .ok (.aload_n 0, 1) := by decide +kernel
theorem dX12_laysChain_129 : decode cX12_laysChain 129 = .ok (.getfield 65, 3) := by decide +kernel
theorem dX12_laysChain_132 : decode cX12_laysChain 132 = .ok (.iload_n 2, 1) := by decide +kernel
theorem dX12_laysChain_133 : decode cX12_laysChain 133 = .ok (.iaload, 1) := by decide +kernel
theorem dX12_laysChain_134 : decode cX12_laysChain 134 = .ok (.goto 4, 3) := by decide +kernel
theorem dX12_laysChain_137 : decode cX12_laysChain 137 = .ok (.iconst 0, 1) := by decide +kernel
theorem dX12_laysChain_138 : decode cX12_laysChain 138 = .ok (.iadd, 1) := by decide +kernel
theorem dX12_laysChain_139 : decode cX12_laysChain 139 = .ok (.iastore, 1) := by decide +kernel
theorem dX12_laysChain_140 : decode cX12_laysChain 140 = .ok (.iinc 2 1, 3) := by decide +kernel
theorem dX12_laysChain_143 : decode cX12_laysChain 143 = .ok (.goto (-105), 3) := by decide +kernel
theorem dX12_laysChain_146 : decode cX12_laysChain 146 = .ok (.return_, 1) := by decide +kernel
theorem dX12_chainsOf_0 : decode cX12_chainsOf 0 = .ok (.aload_n 0, 1) := by decide +kernel
theorem dX12_chainsOf_1 : decode cX12_chainsOf 1 = .ok (.getfield 49, 3) := by decide +kernel
theorem dX12_chainsOf_4 : decode cX12_chainsOf 4 = .ok (.iconst 4, 1) := by decide +kernel
theorem dX12_chainsOf_5 : decode cX12_chainsOf 5 = .ok (.iload_n 1, 1) := by decide +kernel
theorem dX12_chainsOf_6 : decode cX12_chainsOf 6 = .ok (.imul, 1) := by decide +kernel
theorem dX12_chainsOf_7 : decode cX12_chainsOf 7 = .ok (.aload_n 0, 1) := by decide +kernel
theorem dX12_chainsOf_8 : decode cX12_chainsOf 8 = .ok (.getfield 31, 3) := by decide +kernel
theorem dX12_chainsOf_11 : decode cX12_chainsOf 11 = .ok (.iconst 0, 1) := by decide +kernel
theorem dX12_chainsOf_12 : decode cX12_chainsOf 12 = .ok (.invokestatic 135, 3) := by decide +kernel
theorem dX12_chainsOf_15 : decode cX12_chainsOf 15 = .ok (.aload_n 0, 1) := by decide +kernel
theorem dX12_chainsOf_16 : decode cX12_chainsOf 16 = .ok (.iconst 0, 1) := by decide +kernel
theorem dX12_chainsOf_17 : decode cX12_chainsOf 17 = .ok (.putfield 95, 3) := by decide +kernel
theorem dX12_chainsOf_20 : decode cX12_chainsOf 20 = .ok (.aload_n 0, 1) := by decide +kernel
theorem dX12_chainsOf_21 : decode cX12_chainsOf 21 = .ok (.iload_n 1, 1) := by decide +kernel
theorem dX12_chainsOf_22 : decode cX12_chainsOf 22 = .ok (.invokevirtual 173, 3) := by decide +kernel
theorem dX12_chainsOf_25 : decode cX12_chainsOf 25 = .ok (.istore_n 2, 1) := by decide +kernel
theorem dX12_chainsOf_26 : decode cX12_chainsOf 26 = .ok (.iconst 1, 1) := by decide +kernel
theorem dX12_chainsOf_27 : decode cX12_chainsOf 27 = .ok (.istore_n 3, 1) := by decide +kernel
theorem dX12_chainsOf_28 : decode cX12_chainsOf 28 = .ok (.iload_n 3, 1) := by decide +kernel
theorem dX12_chainsOf_29 : decode cX12_chainsOf 29 = .ok (.iload_n 2, 1) := by decide +kernel
theorem dX12_chainsOf_30 : decode cX12_chainsOf 30 = .ok (.if_icmp .gt 59, 3) := by decide +kernel
theorem dX12_chainsOf_33 : decode cX12_chainsOf 33 = .ok (.aload_n 0, 1) := by decide +kernel
theorem dX12_chainsOf_34 : decode cX12_chainsOf 34 = .ok (.getfield 95, 3) := by decide +kernel
theorem dX12_chainsOf_37 : decode cX12_chainsOf 37 = .ok (.istore 4, 2) := by decide +kernel
theorem dX12_chainsOf_39 : decode cX12_chainsOf 39 = .ok (.iload_n 2, 1) := by decide +kernel
theorem dX12_chainsOf_40 : decode cX12_chainsOf 40 = .ok (.iload_n 3, 1) := by decide +kernel
theorem dX12_chainsOf_41 : decode cX12_chainsOf 41 = .ok (.irem, 1) := by decide +kernel
theorem dX12_chainsOf_42 : decode cX12_chainsOf 42 = .ok (.ifCond .ne 14, 3) := by decide +kernel
theorem dX12_chainsOf_45 : decode cX12_chainsOf 45 = .ok (.aload_n 0, 1) := by decide +kernel
theorem dX12_chainsOf_46 : decode cX12_chainsOf 46 = .ok (.iload_n 3, 1) := by decide +kernel
theorem dX12_chainsOf_47 : decode cX12_chainsOf 47 = .ok (.iconst 0, 1) := by decide +kernel
theorem dX12_chainsOf_48 : decode cX12_chainsOf 48 = .ok (.iconst 1, 1) := by decide +kernel
theorem dX12_chainsOf_49 : decode cX12_chainsOf 49 = .ok (.iconst 1, 1) := by decide +kernel
theorem dX12_chainsOf_50 : decode cX12_chainsOf 50 = .ok (.sipush 600, 3) := by decide +kernel
theorem dX12_chainsOf_53 : decode cX12_chainsOf 53 = .ok (.invokevirtual 99, 3) := by decide +kernel
theorem dX12_chainsOf_56 : decode cX12_chainsOf 56 = .ok (.iload 4, 2) := by decide +kernel
theorem dX12_chainsOf_58 : decode cX12_chainsOf 58 = .ok (.istore 5, 2) := by decide +kernel
theorem dX12_chainsOf_60 : decode cX12_chainsOf 60 = .ok (.iload 5, 2) := by decide +kernel
theorem dX12_chainsOf_62 : decode cX12_chainsOf 62 = .ok (.aload_n 0, 1) := by decide +kernel
theorem dX12_chainsOf_63 : decode cX12_chainsOf 63 = .ok (.getfield 95, 3) := by decide +kernel
theorem dX12_chainsOf_66 : decode cX12_chainsOf 66 = .ok (.if_icmp .ge 17, 3) := by decide +kernel
theorem dX12_chainsOf_69 : decode cX12_chainsOf 69 = .ok (.aload_n 0, 1) := by decide +kernel
theorem dX12_chainsOf_70 : decode cX12_chainsOf 70 = .ok (.getfield 62, 3) := by decide +kernel
theorem dX12_chainsOf_73 : decode cX12_chainsOf 73 = .ok (.iload 5, 2) := by decide +kernel
theorem dX12_chainsOf_75 : decode cX12_chainsOf 75 = .ok (.iload_n 3, 1) := by decide +kernel
theorem dX12_chainsOf_76 : decode cX12_chainsOf 76 = .ok (.iastore, 1) := by decide +kernel
theorem dX12_chainsOf_77 : decode cX12_chainsOf 77 = .ok (.iinc 5 1, 3) := by decide +kernel
theorem dX12_chainsOf_80 : decode cX12_chainsOf 80 = .ok (.goto (-20), 3) := by decide +kernel
theorem dX12_chainsOf_83 : decode cX12_chainsOf 83 = .ok (.iinc 3 1, 3) := by decide +kernel
theorem dX12_chainsOf_86 : decode cX12_chainsOf 86 = .ok (.goto (-58), 3) := by decide +kernel
theorem dX12_chainsOf_89 : decode cX12_chainsOf 89 = .ok (.iconst 0, 1) := by decide +kernel
theorem dX12_chainsOf_90 : decode cX12_chainsOf 90 = .ok (.istore_n 3, 1) := by decide +kernel
theorem dX12_chainsOf_91 : decode cX12_chainsOf 91 = .ok (.iload_n 3, 1) := by decide +kernel
theorem dX12_chainsOf_92 : decode cX12_chainsOf 92 = .ok (.aload_n 0, 1) := by decide +kernel
theorem dX12_chainsOf_93 : decode cX12_chainsOf 93 = .ok (.getfield 95, 3) := by decide +kernel
theorem dX12_chainsOf_96 : decode cX12_chainsOf 96 = .ok (.if_icmp .ge 14, 3) := by decide +kernel
theorem dX12_chainsOf_99 : decode cX12_chainsOf 99 = .ok (.aload_n 0, 1) := by decide +kernel
theorem dX12_chainsOf_100 : decode cX12_chainsOf 100 = .ok (.iload_n 3, 1) := by decide +kernel
theorem dX12_chainsOf_101 : decode cX12_chainsOf 101 = .ok (.invokevirtual 183, 3) := by decide +kernel
theorem dX12_chainsOf_104 : decode cX12_chainsOf 104 = .ok (.iinc 3 1, 3) := by decide +kernel
theorem dX12_chainsOf_107 : decode cX12_chainsOf 107 = .ok (.goto (-16), 3) := by decide +kernel
theorem dX12_chainsOf_110 : decode cX12_chainsOf 110 = .ok (.aload_n 0, 1) := by decide +kernel
theorem dX12_chainsOf_111 : decode cX12_chainsOf 111 = .ok (.getfield 65, 3) := by decide +kernel
theorem dX12_chainsOf_114 : decode cX12_chainsOf 114 = .ok (.aload_n 0, 1) := by decide +kernel
theorem dX12_chainsOf_115 : decode cX12_chainsOf 115 = .ok (.getfield 95, 3) := by decide +kernel
theorem dX12_chainsOf_118 : decode cX12_chainsOf 118 = .ok (.iconst 1, 1) := by decide +kernel
theorem dX12_chainsOf_119 : decode cX12_chainsOf 119 = .ok (.isub, 1) := by decide +kernel
theorem dX12_chainsOf_120 : decode cX12_chainsOf 120 = .ok (.iaload, 1) := by decide +kernel
theorem dX12_chainsOf_121 : decode cX12_chainsOf 121 = .ok (.ireturn, 1) := by decide +kernel
theorem dX12_of_0 : decode cX12_of 0 = .ok (.iload_n 1, 1) := by decide +kernel
theorem dX12_of_1 : decode cX12_of 1 = .ok (.invokestatic 177, 3) := by decide +kernel
theorem dX12_of_4 : decode cX12_of 4 = .ok (.ifCond .ne 7, 3) := by decide +kernel
theorem dX12_of_7 : decode cX12_of 7 = .ok (.sipush (-1001), 3) := by decide +kernel
theorem dX12_of_10 : decode cX12_of 10 = .ok (.ireturn, 1) := by decide +kernel
theorem dX12_of_11 : decode cX12_of 11 = .ok (.iload_n 2, 1) := by decide +kernel
theorem dX12_of_12 : decode cX12_of 12 = .ok (.iconst 0, 1) := by decide +kernel
theorem dX12_of_13 : decode cX12_of 13 = .ok (.iconst 5, 1) := by decide +kernel
theorem dX12_of_14 : decode cX12_of 14 = .ok (.invokestatic 155, 3) := by decide +kernel
theorem dX12_of_17 : decode cX12_of 17 = .ok (.ifCond .ne 7, 3) := by decide +kernel
theorem dX12_of_20 : decode cX12_of 20 = .ok (.sipush (-1002), 3) := by decide +kernel
theorem dX12_of_23 : decode cX12_of 23 = .ok (.ireturn, 1) := by decide +kernel
theorem dX12_of_24 : decode cX12_of 24 = .ok (.iload_n 2, 1) := by decide +kernel
theorem dX12_of_25 : decode cX12_of 25 = .ok (.iconst 2, 1) := by decide +kernel
theorem dX12_of_26 : decode cX12_of 26 = .ok (.if_icmp .le 15, 3) := by decide +kernel
theorem dX12_of_29 : decode cX12_of 29 = .ok (.aload_n 0, 1) := by decide +kernel
theorem dX12_of_30 : decode cX12_of 30 = .ok (.iload_n 1, 1) := by decide +kernel
theorem dX12_of_31 : decode cX12_of 31 = .ok (.invokevirtual 163, 3) := by decide +kernel
theorem dX12_of_34 : decode cX12_of 34 = .ok (.ifCond .eq 7, 3) := by decide +kernel
theorem dX12_of_37 : decode cX12_of 37 = .ok (.sipush (-1003), 3) := by decide +kernel
theorem dX12_of_40 : decode cX12_of 40 = .ok (.ireturn, 1) := by decide +kernel
theorem dX12_of_41 : decode cX12_of 41 = .ok (.iload_n 2, 1) := by decide +kernel
theorem dX12_of_42 : decode cX12_of 42 = .ok (.tableswitch 81 0 4 #[34, 40, 46, 65, 71], 34) := by decide +kernel
theorem dX12_of_76 : decode cX12_of 76 = .ok (.aload_n 0, 1) := by decide +kernel
theorem dX12_of_77 : decode cX12_of 77 = .ok (.iload_n 1, 1) := by decide +kernel
theorem dX12_of_78 : decode cX12_of 78 = .ok (.invokevirtual 173, 3) := by decide +kernel
theorem dX12_of_81 : decode cX12_of 81 = .ok (.ireturn, 1) := by decide +kernel
theorem dX12_of_82 : decode cX12_of 82 = .ok (.aload_n 0, 1) := by decide +kernel
theorem dX12_of_83 : decode cX12_of 83 = .ok (.iload_n 1, 1) := by decide +kernel
theorem dX12_of_84 : decode cX12_of 84 = .ok (.invokevirtual 187, 3) := by decide +kernel
theorem dX12_of_87 : decode cX12_of 87 = .ok (.ireturn, 1) := by decide +kernel
theorem dX12_of_88 : decode cX12_of 88 = .ok (.aload_n 0, 1) := by decide +kernel
theorem dX12_of_89 : decode cX12_of 89 = .ok (.getfield 49, 3) := by decide +kernel
theorem dX12_of_92 : decode cX12_of 92 = .ok (.iconst 4, 1) := by decide +kernel
theorem dX12_of_93 : decode cX12_of 93 = .ok (.iload_n 1, 1) := by decide +kernel
theorem dX12_of_94 : decode cX12_of 94 = .ok (.imul, 1) := by decide +kernel
theorem dX12_of_95 : decode cX12_of 95 = .ok (.iaload, 1) := by decide +kernel
theorem dX12_of_96 : decode cX12_of 96 = .ok (.iconst 2, 1) := by decide +kernel
theorem dX12_of_97 : decode cX12_of 97 = .ok (.irem, 1) := by decide +kernel
theorem dX12_of_98 : decode cX12_of 98 = .ok (.ifCond .ne 7, 3) := by decide +kernel
theorem dX12_of_101 : decode cX12_of 101 = .ok (.iconst 1, 1) := by decide +kernel
theorem dX12_of_102 : decode cX12_of 102 = .ok (.goto 4, 3) := by decide +kernel
theorem dX12_of_105 : decode cX12_of 105 = .ok (.iconst 0, 1) := by decide +kernel
theorem dX12_of_106 : decode cX12_of 106 = .ok (.ireturn, 1) := by decide +kernel
theorem dX12_of_107 : decode cX12_of 107 = .ok (.aload_n 0, 1) := by decide +kernel
theorem dX12_of_108 : decode cX12_of 108 = .ok (.iload_n 1, 1) := by decide +kernel
theorem dX12_of_109 : decode cX12_of 109 = .ok (.invokevirtual 190, 3) := by decide +kernel
theorem dX12_of_112 : decode cX12_of 112 = .ok (.ireturn, 1) := by decide +kernel
theorem dX12_of_113 : decode cX12_of 113 = .ok (.aload_n 0, 1) := by decide +kernel
theorem dX12_of_114 : decode cX12_of 114 = .ok (.aload_n 0, 1) := by decide +kernel
theorem dX12_of_115 : decode cX12_of 115 = .ok (.iload_n 1, 1) := by decide +kernel
theorem dX12_of_116 : decode cX12_of 116 = .ok (.invokevirtual 173, 3) := by decide +kernel
theorem dX12_of_119 : decode cX12_of 119 = .ok (.invokevirtual 193, 3) := by decide +kernel
theorem dX12_of_122 : decode cX12_of 122 = .ok (.ireturn, 1) := by decide +kernel
theorem dX12_of_123 : decode cX12_of 123 = .ok (.aload_n 0, 1) := by decide +kernel
theorem dX12_of_124 : decode cX12_of 124 = .ok (.iload_n 1, 1) := by decide +kernel
theorem dX12_of_125 : decode cX12_of 125 = .ok (.invokevirtual 196, 3) := by decide +kernel
theorem dX12_of_128 : decode cX12_of 128 = .ok (.ireturn, 1) := by decide +kernel
theorem dX12_unit_0 : decode cX12_unit 0 = .ok (.iload_n 1, 1) := by decide +kernel
theorem dX12_unit_1 : decode cX12_unit 1 = .ok (.iconst 0, 1) := by decide +kernel
theorem dX12_unit_2 : decode cX12_unit 2 = .ok (.bipush 23, 2) := by decide +kernel
theorem dX12_unit_4 : decode cX12_unit 4 = .ok (.invokestatic 155, 3) := by decide +kernel
theorem dX12_unit_7 : decode cX12_unit 7 = .ok (.ifCond .ne 7, 3) := by decide +kernel
theorem dX12_unit_10 : decode cX12_unit 10 = .ok (.sipush (-1001), 3) := by decide +kernel
theorem dX12_unit_13 : decode cX12_unit 13 = .ok (.ireturn, 1) := by decide +kernel
theorem dX12_unit_14 : decode cX12_unit 14 = .ok (.iload_n 2, 1) := by decide +kernel
theorem dX12_unit_15 : decode cX12_unit 15 = .ok (.iconst 0, 1) := by decide +kernel
theorem dX12_unit_16 : decode cX12_unit 16 = .ok (.iconst 3, 1) := by decide +kernel
theorem dX12_unit_17 : decode cX12_unit 17 = .ok (.invokestatic 155, 3) := by decide +kernel
theorem dX12_unit_20 : decode cX12_unit 20 = .ok (.ifCond .eq 16, 3) := by decide +kernel
theorem dX12_unit_23 : decode cX12_unit 23 = .ok (.aload_n 0, 1) := by decide +kernel
theorem dX12_unit_24 : decode cX12_unit 24 = .ok (.getfield 13, 3) := by decide +kernel
theorem dX12_unit_27 : decode cX12_unit 27 = .ok (.iconst 4, 1) := by decide +kernel
theorem dX12_unit_28 : decode cX12_unit 28 = .ok (.iload_n 1, 1) := by decide +kernel
theorem dX12_unit_29 : decode cX12_unit 29 = .ok (.imul, 1) := by decide +kernel
theorem dX12_unit_30 : decode cX12_unit 30 = .ok (.iload_n 2, 1) := by decide +kernel
theorem dX12_unit_31 : decode cX12_unit 31 = .ok (.iadd, 1) := by decide +kernel
theorem dX12_unit_32 : decode cX12_unit 32 = .ok (.iaload, 1) := by decide +kernel
theorem dX12_unit_33 : decode cX12_unit 33 = .ok (.goto 6, 3) := by decide +kernel
theorem dX12_unit_36 : decode cX12_unit 36 = .ok (.sipush (-1002), 3) := by decide +kernel
theorem dX12_unit_39 : decode cX12_unit 39 = .ok (.ireturn, 1) := by decide +kernel
theorem dX12_isSmall_0 : decode cX12_isSmall 0 = .ok (.iconst 1, 1) := by decide +kernel
theorem dX12_isSmall_1 : decode cX12_isSmall 1 = .ok (.istore_n 1, 1) := by decide +kernel
theorem dX12_isSmall_2 : decode cX12_isSmall 2 = .ok (.iconst 0, 1) := by decide +kernel
theorem dX12_isSmall_3 : decode cX12_isSmall 3 = .ok (.istore_n 2, 1) := by decide +kernel
theorem dX12_isSmall_4 : decode cX12_isSmall 4 = .ok (.iload_n 2, 1) := by decide +kernel
theorem dX12_isSmall_5 : decode cX12_isSmall 5 = .ok (.iconst 4, 1) := by decide +kernel
theorem dX12_isSmall_6 : decode cX12_isSmall 6 = .ok (.if_icmp .ge 32, 3) := by decide +kernel
theorem dX12_isSmall_9 : decode cX12_isSmall 9 = .ok (.iload_n 1, 1) := by decide +kernel
theorem dX12_isSmall_10 : decode cX12_isSmall 10 = .ok (.ifCond .eq 20, 3) := by decide +kernel
theorem dX12_isSmall_13 : decode cX12_isSmall 13 = .ok (.aload_n 0, 1) := by decide +kernel
theorem dX12_isSmall_14 : decode cX12_isSmall 14 = .ok (.iload_n 2, 1) := by decide +kernel
theorem dX12_isSmall_15 : decode cX12_isSmall 15 = .ok (.iaload, 1) := by decide +kernel
theorem dX12_isSmall_16 : decode cX12_isSmall 16 = .ok (.bipush (-48), 2) := by decide +kernel
theorem dX12_isSmall_18 : decode cX12_isSmall 18 = .ok (.bipush 48, 2) := by decide +kernel
theorem dX12_isSmall_20 : decode cX12_isSmall 20 = .ok (.invokestatic 155, 3) := by decide +kernel
theorem dX12_isSmall_23 : decode cX12_isSmall 23 = .ok (.ifCond .eq 7, 3) := by decide +kernel
theorem dX12_isSmall_26 : decode cX12_isSmall 26 = .ok (.iconst 1, 1) := by decide +kernel
theorem dX12_isSmall_27 : decode cX12_isSmall 27 = .ok (.goto 4, 3) := by decide +kernel
theorem dX12_isSmall_30 : decode cX12_isSmall 30 = .ok (.iconst 0, 1) := by decide +kernel
theorem dX12_isSmall_31 : decode cX12_isSmall 31 = .ok (.istore_n 1, 1) := by decide +kernel
theorem dX12_isSmall_32 : decode cX12_isSmall 32 = .ok (.iinc 2 1, 3) := by decide +kernel
theorem dX12_isSmall_35 : decode cX12_isSmall 35 = .ok (.goto (-31), 3) := by decide +kernel
theorem dX12_isSmall_38 : decode cX12_isSmall 38 = .ok (.iload_n 1, 1) := by decide +kernel
theorem dX12_isSmall_39 : decode cX12_isSmall 39 = .ok (.ifCond .eq 18, 3) := by decide +kernel
theorem dX12_isSmall_42 : decode cX12_isSmall 42 = .ok (.aload_n 0, 1) := by decide +kernel
theorem dX12_isSmall_43 : decode cX12_isSmall 43 = .ok (.iconst 0, 1) := by decide +kernel
theorem dX12_isSmall_44 : decode cX12_isSmall 44 = .ok (.invokestatic 107, 3) := by decide +kernel
theorem dX12_isSmall_47 : decode cX12_isSmall 47 = .ok (.sipush 150, 3) := by decide +kernel
theorem dX12_isSmall_50 : decode cX12_isSmall 50 = .ok (.if_icmp .gt 7, 3) := by decide +kernel
theorem dX12_isSmall_53 : decode cX12_isSmall 53 = .ok (.iconst 1, 1) := by decide +kernel
theorem dX12_isSmall_54 : decode cX12_isSmall 54 = .ok (.goto 4, 3) := by decide +kernel
theorem dX12_isSmall_57 : decode cX12_isSmall 57 = .ok (.iconst 0, 1) := by decide +kernel
theorem dX12_isSmall_58 : decode cX12_isSmall 58 = .ok (.ireturn, 1) := by decide +kernel
theorem dX12_set_0 : decode cX12_set 0 = .ok (.iload_n 1, 1) := by decide +kernel
theorem dX12_set_1 : decode cX12_set 1 = .ok (.invokestatic 177, 3) := by decide +kernel
theorem dX12_set_4 : decode cX12_set 4 = .ok (.ifCond .ne 7, 3) := by decide +kernel
theorem dX12_set_7 : decode cX12_set 7 = .ok (.sipush (-1001), 3) := by decide +kernel
theorem dX12_set_10 : decode cX12_set 10 = .ok (.ireturn, 1) := by decide +kernel
theorem dX12_set_11 : decode cX12_set 11 = .ok (.aload_n 0, 1) := by decide +kernel
theorem dX12_set_12 : decode cX12_set 12 = .ok (.getfield 68, 3) := by decide +kernel
theorem dX12_set_15 : decode cX12_set 15 = .ok (.iconst 0, 1) := by decide +kernel
theorem dX12_set_16 : decode cX12_set 16 = .ok (.iload_n 2, 1) := by decide +kernel
theorem dX12_set_17 : decode cX12_set 17 = .ok (.iastore, 1) := by decide +kernel
theorem dX12_set_18 : decode cX12_set 18 = .ok (.aload_n 0, 1) := by decide +kernel
theorem dX12_set_19 : decode cX12_set 19 = .ok (.getfield 68, 3) := by decide +kernel
theorem dX12_set_22 : decode cX12_set 22 = .ok (.iconst 1, 1) := by decide +kernel
theorem dX12_set_23 : decode cX12_set 23 = .ok (.iload_n 3, 1) := by decide +kernel
theorem dX12_set_24 : decode cX12_set 24 = .ok (.iastore, 1) := by decide +kernel
theorem dX12_set_25 : decode cX12_set 25 = .ok (.aload_n 0, 1) := by decide +kernel
theorem dX12_set_26 : decode cX12_set 26 = .ok (.getfield 68, 3) := by decide +kernel
theorem dX12_set_29 : decode cX12_set 29 = .ok (.iconst 2, 1) := by decide +kernel
theorem dX12_set_30 : decode cX12_set 30 = .ok (.iload 4, 2) := by decide +kernel
theorem dX12_set_32 : decode cX12_set 32 = .ok (.iastore, 1) := by decide +kernel
theorem dX12_set_33 : decode cX12_set 33 = .ok (.aload_n 0, 1) := by decide +kernel
theorem dX12_set_34 : decode cX12_set 34 = .ok (.getfield 68, 3) := by decide +kernel
theorem dX12_set_37 : decode cX12_set 37 = .ok (.iconst 3, 1) := by decide +kernel
theorem dX12_set_38 : decode cX12_set 38 = .ok (.iload 5, 2) := by decide +kernel
theorem dX12_set_40 : decode cX12_set 40 = .ok (.iastore, 1) := by decide +kernel
theorem dX12_set_41 : decode cX12_set 41 = .ok (.aload_n 0, 1) := by decide +kernel
theorem dX12_set_42 : decode cX12_set 42 = .ok (.getfield 68, 3) := by decide +kernel
theorem dX12_set_45 : decode cX12_set 45 = .ok (.invokestatic 199, 3) := by decide +kernel
theorem dX12_set_48 : decode cX12_set 48 = .ok (.ifCond .eq 28, 3) := by decide +kernel
theorem dX12_set_51 : decode cX12_set 51 = .ok (.iload_n 2, 1) := by decide +kernel
theorem dX12_set_52 : decode cX12_set 52 = .ok (.iload_n 3, 1) := by decide +kernel
theorem dX12_set_53 : decode cX12_set 53 = .ok (.iload 4, 2) := by decide +kernel
theorem dX12_set_55 : decode cX12_set 55 = .ok (.iload 5, 2) := by decide +kernel
theorem dX12_set_57 : decode cX12_set 57 = .ok (.invokestatic 119, 3) := by decide +kernel
theorem dX12_set_60 : decode cX12_set 60 = .ok (.ifCond .eq 16, 3) := by decide +kernel
theorem dX12_set_63 : decode cX12_set 63 = .ok (.aload_n 0, 1) := by decide +kernel
theorem dX12_set_64 : decode cX12_set 64 = .ok (.iload_n 1, 1) := by decide +kernel
theorem dX12_set_65 : decode cX12_set 65 = .ok (.aload_n 0, 1) := by decide +kernel
theorem dX12_set_66 : decode cX12_set 66 = .ok (.getfield 68, 3) := by decide +kernel
theorem dX12_set_69 : decode cX12_set 69 = .ok (.iconst 0, 1) := by decide +kernel
theorem dX12_set_70 : decode cX12_set 70 = .ok (.invokevirtual 203, 3) := by decide +kernel
theorem dX12_set_73 : decode cX12_set 73 = .ok (.goto 6, 3) := by decide +kernel
theorem dX12_set_76 : decode cX12_set 76 = .ok (.sipush (-1002), 3) := by decide +kernel
theorem dX12_set_79 : decode cX12_set 79 = .ok (.ireturn, 1) := by decide +kernel
theorem dX12_add_0 : decode cX12_add 0 = .ok (.iload_n 1, 1) := by decide +kernel
theorem dX12_add_1 : decode cX12_add 1 = .ok (.invokestatic 177, 3) := by decide +kernel
theorem dX12_add_4 : decode cX12_add 4 = .ok (.ifCond .eq 10, 3) := by decide +kernel
theorem dX12_add_7 : decode cX12_add 7 = .ok (.iload_n 2, 1) := by decide +kernel
theorem dX12_add_8 : decode cX12_add 8 = .ok (.invokestatic 177, 3) := by decide +kernel
theorem dX12_add_11 : decode cX12_add 11 = .ok (.ifCond .ne 7, 3) := by decide +kernel
theorem dX12_add_14 : decode cX12_add 14 = .ok (.sipush (-1001), 3) := by decide +kernel
theorem dX12_add_17 : decode cX12_add 17 = .ok (.ireturn, 1) := by decide +kernel
theorem dX12_add_18 : decode cX12_add 18 = .ok (.iconst 0, 1) := by decide +kernel
theorem dX12_add_19 : decode cX12_add 19 = .ok (.istore_n 3, 1) := by decide +kernel
theorem dX12_add_20 : decode cX12_add 20 = .ok (.iload_n 3, 1) := by decide +kernel
theorem dX12_add_21 : decode cX12_add 21 = .ok (.iconst 4, 1) := by decide +kernel
theorem dX12_add_22 : decode cX12_add 22 = .ok (.if_icmp .ge 36, 3) := by decide +kernel
theorem dX12_add_25 : decode cX12_add 25 = .ok (.aload_n 0, 1) := by decide +kernel
theorem dX12_add_26 : decode cX12_add 26 = .ok (.getfield 68, 3) := by decide +kernel
theorem dX12_add_29 : decode cX12_add 29 = .ok (.iload_n 3, 1) := by decide +kernel
theorem dX12_add_30 : decode cX12_add 30 = .ok (.aload_n 0, 1) := by decide +kernel
theorem dX12_add_31 : decode cX12_add 31 = .ok (.getfield 49, 3) := by decide +kernel
theorem dX12_add_34 : decode cX12_add 34 = .ok (.iconst 4, 1) := by decide +kernel
theorem dX12_add_35 : decode cX12_add 35 = .ok (.iload_n 1, 1) := by decide +kernel
theorem dX12_add_36 : decode cX12_add 36 = .ok (.imul, 1) := by decide +kernel
theorem dX12_add_37 : decode cX12_add 37 = .ok (.iload_n 3, 1) := by decide +kernel
theorem dX12_add_38 : decode cX12_add 38 = .ok (.iadd, 1) := by decide +kernel
theorem dX12_add_39 : decode cX12_add 39 = .ok (.iaload, 1) := by decide +kernel
theorem dX12_add_40 : decode cX12_add 40 = .ok (.aload_n 0, 1) := by decide +kernel
theorem dX12_add_41 : decode cX12_add 41 = .ok (.getfield 49, 3) := by decide +kernel
theorem dX12_add_44 : decode cX12_add 44 = .ok (.iconst 4, 1) := by decide +kernel
theorem dX12_add_45 : decode cX12_add 45 = .ok (.iload_n 2, 1) := by decide +kernel
theorem dX12_add_46 : decode cX12_add 46 = .ok (.imul, 1) := by decide +kernel
theorem dX12_add_47 : decode cX12_add 47 = .ok (.iload_n 3, 1) := by decide +kernel
theorem dX12_add_48 : decode cX12_add 48 = .ok (.iadd, 1) := by decide +kernel
theorem dX12_add_49 : decode cX12_add 49 = .ok (.iaload, 1) := by decide +kernel
theorem dX12_add_50 : decode cX12_add 50 = .ok (.iadd, 1) := by decide +kernel
theorem dX12_add_51 : decode cX12_add 51 = .ok (.iastore, 1) := by decide +kernel
theorem dX12_add_52 : decode cX12_add 52 = .ok (.iinc 3 1, 3) := by decide +kernel
theorem dX12_add_55 : decode cX12_add 55 = .ok (.goto (-35), 3) := by decide +kernel
theorem dX12_add_58 : decode cX12_add 58 = .ok (.aload_n 0, 1) := by decide +kernel
theorem dX12_add_59 : decode cX12_add 59 = .ok (.getfield 68, 3) := by decide +kernel
theorem dX12_add_62 : decode cX12_add 62 = .ok (.invokestatic 199, 3) := by decide +kernel
theorem dX12_add_65 : decode cX12_add 65 = .ok (.ifCond .eq 16, 3) := by decide +kernel
theorem dX12_add_68 : decode cX12_add 68 = .ok (.aload_n 0, 1) := by decide +kernel
theorem dX12_add_69 : decode cX12_add 69 = .ok (.iload_n 1, 1) := by decide +kernel
theorem dX12_add_70 : decode cX12_add 70 = .ok (.aload_n 0, 1) := by decide +kernel
theorem dX12_add_71 : decode cX12_add 71 = .ok (.getfield 68, 3) := by decide +kernel
theorem dX12_add_74 : decode cX12_add 74 = .ok (.iconst 0, 1) := by decide +kernel
theorem dX12_add_75 : decode cX12_add 75 = .ok (.invokevirtual 203, 3) := by decide +kernel
theorem dX12_add_78 : decode cX12_add 78 = .ok (.goto 6, 3) := by decide +kernel
theorem dX12_add_81 : decode cX12_add 81 = .ok (.sipush (-1003), 3) := by decide +kernel
theorem dX12_add_84 : decode cX12_add 84 = .ok (.ireturn, 1) := by decide +kernel
theorem dX12_isSide_0 : decode cX12_isSide 0 = .ok (.iload_n 0, 1) := by decide +kernel
theorem dX12_isSide_1 : decode cX12_isSide 1 = .ok (.iconst 0, 1) := by decide +kernel
theorem dX12_isSide_2 : decode cX12_isSide 2 = .ok (.iconst 1, 1) := by decide +kernel
theorem dX12_isSide_3 : decode cX12_isSide 3 = .ok (.invokestatic 155, 3) := by decide +kernel
theorem dX12_isSide_6 : decode cX12_isSide 6 = .ok (.ireturn, 1) := by decide +kernel
theorem dX12_times_0 : decode cX12_times 0 = .ok (.iload_n 1, 1) := by decide +kernel
theorem dX12_times_1 : decode cX12_times 1 = .ok (.invokestatic 177, 3) := by decide +kernel
theorem dX12_times_4 : decode cX12_times 4 = .ok (.ifCond .eq 10, 3) := by decide +kernel
theorem dX12_times_7 : decode cX12_times 7 = .ok (.iload_n 2, 1) := by decide +kernel
theorem dX12_times_8 : decode cX12_times 8 = .ok (.invokestatic 177, 3) := by decide +kernel
theorem dX12_times_11 : decode cX12_times 11 = .ok (.ifCond .ne 7, 3) := by decide +kernel
theorem dX12_times_14 : decode cX12_times 14 = .ok (.sipush (-1001), 3) := by decide +kernel
theorem dX12_times_17 : decode cX12_times 17 = .ok (.ireturn, 1) := by decide +kernel
theorem dX12_times_18 : decode cX12_times 18 = .ok (.iload_n 3, 1) := by decide +kernel
theorem dX12_times_19 : decode cX12_times 19 = .ok (.invokestatic 207, 3) := by decide +kernel
theorem dX12_times_22 : decode cX12_times 22 = .ok (.ifCond .ne 7, 3) := by decide +kernel
theorem dX12_times_25 : decode cX12_times 25 = .ok (.sipush (-1002), 3) := by decide +kernel
theorem dX12_times_28 : decode cX12_times 28 = .ok (.ireturn, 1) := by decide +kernel
theorem dX12_times_29 : decode cX12_times 29 = .ok (.aload_n 0, 1) := by decide +kernel
theorem dX12_times_30 : decode cX12_times 30 = .ok (.getfield 49, 3) := by decide +kernel
theorem dX12_times_33 : decode cX12_times 33 = .ok (.iconst 4, 1) := by decide +kernel
theorem dX12_times_34 : decode cX12_times 34 = .ok (.iload_n 1, 1) := by decide +kernel
theorem dX12_times_35 : decode cX12_times 35 = .ok (.imul, 1) := by decide +kernel
theorem dX12_times_36 : decode cX12_times 36 = .ok (.aload_n 0, 1) := by decide +kernel
theorem dX12_times_37 : decode cX12_times 37 = .ok (.getfield 49, 3) := by decide +kernel
theorem dX12_times_40 : decode cX12_times 40 = .ok (.iconst 4, 1) := by decide +kernel
theorem dX12_times_41 : decode cX12_times 41 = .ok (.iload_n 2, 1) := by decide +kernel
theorem dX12_times_42 : decode cX12_times 42 = .ok (.imul, 1) := by decide +kernel
theorem dX12_times_43 : decode cX12_times 43 = .ok (.iload_n 3, 1) := by decide +kernel
theorem dX12_times_44 : decode cX12_times 44 = .ok (.aload_n 0, 1) := by decide +kernel
theorem dX12_times_45 : decode cX12_times 45 = .ok (.getfield 68, 3) := by decide +kernel
theorem dX12_times_48 : decode cX12_times 48 = .ok (.invokestatic 115, 3) := by decide +kernel
theorem dX12_times_51 : decode cX12_times 51 = .ok (.aload_n 0, 1) := by decide +kernel
theorem dX12_times_52 : decode cX12_times 52 = .ok (.iload_n 1, 1) := by decide +kernel
theorem dX12_times_53 : decode cX12_times 53 = .ok (.invokevirtual 173, 3) := by decide +kernel
theorem dX12_times_56 : decode cX12_times 56 = .ok (.aload_n 0, 1) := by decide +kernel
theorem dX12_times_57 : decode cX12_times 57 = .ok (.iload_n 2, 1) := by decide +kernel
theorem dX12_times_58 : decode cX12_times 58 = .ok (.invokevirtual 173, 3) := by decide +kernel
theorem dX12_times_61 : decode cX12_times 61 = .ok (.imul, 1) := by decide +kernel
theorem dX12_times_62 : decode cX12_times 62 = .ok (.sipush 150, 3) := by decide +kernel
theorem dX12_times_65 : decode cX12_times 65 = .ok (.if_icmp .gt 16, 3) := by decide +kernel
theorem dX12_times_68 : decode cX12_times 68 = .ok (.aload_n 0, 1) := by decide +kernel
theorem dX12_times_69 : decode cX12_times 69 = .ok (.iload_n 1, 1) := by decide +kernel
theorem dX12_times_70 : decode cX12_times 70 = .ok (.aload_n 0, 1) := by decide +kernel
theorem dX12_times_71 : decode cX12_times 71 = .ok (.getfield 68, 3) := by decide +kernel
theorem dX12_times_74 : decode cX12_times 74 = .ok (.iconst 0, 1) := by decide +kernel
theorem dX12_times_75 : decode cX12_times 75 = .ok (.invokevirtual 203, 3) := by decide +kernel
theorem dX12_times_78 : decode cX12_times 78 = .ok (.goto 6, 3) := by decide +kernel
theorem dX12_times_81 : decode cX12_times 81 = .ok (.sipush (-1003), 3) := by decide +kernel
theorem dX12_times_84 : decode cX12_times 84 = .ok (.ireturn, 1) := by decide +kernel
theorem dX12_heads_0 : decode cX12_heads 0 = .ok (.aload_n 0, 1) := by decide +kernel
theorem dX12_heads_1 : decode cX12_heads 1 = .ok (.getfield 49, 3) := by decide +kernel
theorem dX12_heads_4 : decode cX12_heads 4 = .ok (.iconst 4, 1) := by decide +kernel
theorem dX12_heads_5 : decode cX12_heads 5 = .ok (.iload_n 1, 1) := by decide +kernel
theorem dX12_heads_6 : decode cX12_heads 6 = .ok (.imul, 1) := by decide +kernel
theorem dX12_heads_7 : decode cX12_heads 7 = .ok (.aload_n 0, 1) := by decide +kernel
theorem dX12_heads_8 : decode cX12_heads 8 = .ok (.getfield 68, 3) := by decide +kernel
theorem dX12_heads_11 : decode cX12_heads 11 = .ok (.iconst 0, 1) := by decide +kernel
theorem dX12_heads_12 : decode cX12_heads 12 = .ok (.invokestatic 135, 3) := by decide +kernel
theorem dX12_heads_15 : decode cX12_heads 15 = .ok (.iconst 0, 1) := by decide +kernel
theorem dX12_heads_16 : decode cX12_heads 16 = .ok (.istore_n 3, 1) := by decide +kernel
theorem dX12_heads_17 : decode cX12_heads 17 = .ok (.iload_n 3, 1) := by decide +kernel
theorem dX12_heads_18 : decode cX12_heads 18 = .ok (.bipush 24, 2) := by decide +kernel
theorem dX12_heads_20 : decode cX12_heads 20 = .ok (.if_icmp .ge 60, 3) := by decide +kernel
theorem dX12_heads_23 : decode cX12_heads 23 = .ok (.aload_n 0, 1) := by decide +kernel
theorem dX12_heads_24 : decode cX12_heads 24 = .ok (.getfield 49, 3) := by decide +kernel
theorem dX12_heads_27 : decode cX12_heads 27 = .ok (.iconst 4, 1) := by decide +kernel
theorem dX12_heads_28 : decode cX12_heads 28 = .ok (.iload_n 1, 1) := by decide +kernel
theorem dX12_heads_29 : decode cX12_heads 29 = .ok (.imul, 1) := by decide +kernel
theorem dX12_heads_30 : decode cX12_heads 30 = .ok (.aload_n 0, 1) := by decide +kernel
theorem dX12_heads_31 : decode cX12_heads 31 = .ok (.getfield 13, 3) := by decide +kernel
theorem dX12_heads_34 : decode cX12_heads 34 = .ok (.iconst 4, 1) := by decide +kernel
theorem dX12_heads_35 : decode cX12_heads 35 = .ok (.iload_n 3, 1) := by decide +kernel
theorem dX12_heads_36 : decode cX12_heads 36 = .ok (.imul, 1) := by decide +kernel
theorem dX12_heads_37 : decode cX12_heads 37 = .ok (.iload_n 2, 1) := by decide +kernel
theorem dX12_heads_38 : decode cX12_heads 38 = .ok (.aload_n 0, 1) := by decide +kernel
theorem dX12_heads_39 : decode cX12_heads 39 = .ok (.getfield 22, 3) := by decide +kernel
theorem dX12_heads_42 : decode cX12_heads 42 = .ok (.invokestatic 115, 3) := by decide +kernel
theorem dX12_heads_45 : decode cX12_heads 45 = .ok (.aload_n 0, 1) := by decide +kernel
theorem dX12_heads_46 : decode cX12_heads 46 = .ok (.getfield 22, 3) := by decide +kernel
theorem dX12_heads_49 : decode cX12_heads 49 = .ok (.iconst 0, 1) := by decide +kernel
theorem dX12_heads_50 : decode cX12_heads 50 = .ok (.aload_n 0, 1) := by decide +kernel
theorem dX12_heads_51 : decode cX12_heads 51 = .ok (.getfield 68, 3) := by decide +kernel
theorem dX12_heads_54 : decode cX12_heads 54 = .ok (.iconst 0, 1) := by decide +kernel
theorem dX12_heads_55 : decode cX12_heads 55 = .ok (.invokestatic 123, 3) := by decide +kernel
theorem dX12_heads_58 : decode cX12_heads 58 = .ok (.ifCond .eq 16, 3) := by decide +kernel
theorem dX12_heads_61 : decode cX12_heads 61 = .ok (.aload_n 0, 1) := by decide +kernel
theorem dX12_heads_62 : decode cX12_heads 62 = .ok (.getfield 22, 3) := by decide +kernel
theorem dX12_heads_65 : decode cX12_heads 65 = .ok (.iconst 0, 1) := by decide +kernel
theorem dX12_heads_66 : decode cX12_heads 66 = .ok (.aload_n 0, 1) := by decide +kernel
theorem dX12_heads_67 : decode cX12_heads 67 = .ok (.getfield 68, 3) := by decide +kernel
theorem dX12_heads_70 : decode cX12_heads 70 = .ok (.iconst 0, 1) := by decide +kernel
theorem dX12_heads_71 : decode cX12_heads 71 = .ok (.invokestatic 135, 3) := by decide +kernel
theorem dX12_heads_74 : decode cX12_heads 74 = .ok (.iinc 3 1, 3) := by decide +kernel
theorem dX12_heads_77 : decode cX12_heads 77 = .ok (.goto (-60), 3) := by decide +kernel
theorem dX12_heads_80 : decode cX12_heads 80 = .ok (.return_, 1) := by decide +kernel
theorem dX12_turn_0 : decode cX12_turn 0 = .ok (.iload_n 1, 1) := by decide +kernel
theorem dX12_turn_1 : decode cX12_turn 1 = .ok (.invokestatic 177, 3) := by decide +kernel
theorem dX12_turn_4 : decode cX12_turn 4 = .ok (.ifCond .ne 7, 3) := by decide +kernel
theorem dX12_turn_7 : decode cX12_turn 7 = .ok (.sipush (-1001), 3) := by decide +kernel
theorem dX12_turn_10 : decode cX12_turn 10 = .ok (.ireturn, 1) := by decide +kernel
theorem dX12_turn_11 : decode cX12_turn 11 = .ok (.iload_n 2, 1) := by decide +kernel
theorem dX12_turn_12 : decode cX12_turn 12 = .ok (.tableswitch 93 0 3 #[32, 49, 49, 60], 32) := by decide +kernel
theorem dX12_turn_44 : decode cX12_turn 44 = .ok (.aload_n 0, 1) := by decide +kernel
theorem dX12_turn_45 : decode cX12_turn 45 = .ok (.getfield 49, 3) := by decide +kernel
theorem dX12_turn_48 : decode cX12_turn 48 = .ok (.iconst 4, 1) := by decide +kernel
theorem dX12_turn_49 : decode cX12_turn 49 = .ok (.iload_n 1, 1) := by decide +kernel
theorem dX12_turn_50 : decode cX12_turn 50 = .ok (.imul, 1) := by decide +kernel
theorem dX12_turn_51 : decode cX12_turn 51 = .ok (.aload_n 0, 1) := by decide +kernel
theorem dX12_turn_52 : decode cX12_turn 52 = .ok (.getfield 68, 3) := by decide +kernel
theorem dX12_turn_55 : decode cX12_turn 55 = .ok (.invokestatic 111, 3) := by decide +kernel
theorem dX12_turn_58 : decode cX12_turn 58 = .ok (.goto 51, 3) := by decide +kernel
theorem dX12_turn_61 : decode cX12_turn 61 = .ok (.aload_n 0, 1) := by decide +kernel
theorem dX12_turn_62 : decode cX12_turn 62 = .ok (.iload_n 1, 1) := by decide +kernel
theorem dX12_turn_63 : decode cX12_turn 63 = .ok (.iload_n 2, 1) := by decide +kernel
theorem dX12_turn_64 : decode cX12_turn 64 = .ok (.iconst 1, 1) := by decide +kernel
theorem dX12_turn_65 : decode cX12_turn 65 = .ok (.isub, 1) := by decide +kernel
theorem dX12_turn_66 : decode cX12_turn 66 = .ok (.invokevirtual 210, 3) := by decide +kernel
theorem dX12_turn_69 : decode cX12_turn 69 = .ok (.goto 40, 3) := by decide +kernel
theorem dX12_turn_72 : decode cX12_turn 72 = .ok (.iconst 0, 1) := by decide +kernel
theorem dX12_turn_73 : decode cX12_turn 73 = .ok (.istore_n 3, 1) := by decide +kernel
theorem dX12_turn_74 : decode cX12_turn 74 = .ok (.iload_n 3, 1) := by decide +kernel
theorem dX12_turn_75 : decode cX12_turn 75 = .ok (.iconst 4, 1) := by decide +kernel
theorem dX12_turn_76 : decode cX12_turn 76 = .ok (.if_icmp .ge 26, 3) := by decide +kernel
theorem dX12_turn_79 : decode cX12_turn 79 = .ok (.aload_n 0, 1) := by decide +kernel
theorem dX12_turn_80 : decode cX12_turn 80 = .ok (.getfield 68, 3) := by decide +kernel
theorem dX12_turn_83 : decode cX12_turn 83 = .ok (.iload_n 3, 1) := by decide +kernel
theorem dX12_turn_84 : decode cX12_turn 84 = .ok (.aload_n 0, 1) := by decide +kernel
theorem dX12_turn_85 : decode cX12_turn 85 = .ok (.getfield 49, 3) := by decide +kernel
theorem dX12_turn_88 : decode cX12_turn 88 = .ok (.iconst 4, 1) := by decide +kernel
theorem dX12_turn_89 : decode cX12_turn 89 = .ok (.iload_n 1, 1) := by decide +kernel
theorem dX12_turn_90 : decode cX12_turn 90 = .ok (.imul, 1) := by decide +kernel
theorem dX12_turn_91 : decode cX12_turn 91 = .ok (.iload_n 3, 1) := by decide +kernel
theorem dX12_turn_92 : decode cX12_turn 92 = .ok (.iadd, 1) := by decide +kernel
theorem dX12_turn_93 : decode cX12_turn 93 = .ok (.iaload, 1) := by decide +kernel
theorem dX12_turn_94 : decode cX12_turn 94 = .ok (.ineg, 1) := by decide +kernel
theorem dX12_turn_95 : decode cX12_turn 95 = .ok (.iastore, 1) := by decide +kernel
theorem dX12_turn_96 : decode cX12_turn 96 = .ok (.iinc 3 1, 3) := by decide +kernel
theorem dX12_turn_99 : decode cX12_turn 99 = .ok (.goto (-25), 3) := by decide +kernel
theorem dX12_turn_102 : decode cX12_turn 102 = .ok (.goto 7, 3) := by decide +kernel
theorem dX12_turn_105 : decode cX12_turn 105 = .ok (.sipush (-1002), 3) := by decide +kernel
theorem dX12_turn_108 : decode cX12_turn 108 = .ok (.ireturn, 1) := by decide +kernel
theorem dX12_turn_109 : decode cX12_turn 109 = .ok (.aload_n 0, 1) := by decide +kernel
theorem dX12_turn_110 : decode cX12_turn 110 = .ok (.iload_n 1, 1) := by decide +kernel
theorem dX12_turn_111 : decode cX12_turn 111 = .ok (.aload_n 0, 1) := by decide +kernel
theorem dX12_turn_112 : decode cX12_turn 112 = .ok (.getfield 68, 3) := by decide +kernel
theorem dX12_turn_115 : decode cX12_turn 115 = .ok (.iconst 0, 1) := by decide +kernel
theorem dX12_turn_116 : decode cX12_turn 116 = .ok (.invokevirtual 203, 3) := by decide +kernel
theorem dX12_turn_119 : decode cX12_turn 119 = .ok (.ireturn, 1) := by decide +kernel
theorem dX12_divide_0 : decode cX12_divide 0 = .ok (.iload_n 1, 1) := by decide +kernel
theorem dX12_divide_1 : decode cX12_divide 1 = .ok (.invokestatic 177, 3) := by decide +kernel
theorem dX12_divide_4 : decode cX12_divide 4 = .ok (.ifCond .eq 10, 3) := by decide +kernel
theorem dX12_divide_7 : decode cX12_divide 7 = .ok (.iload_n 2, 1) := by decide +kernel
theorem dX12_divide_8 : decode cX12_divide 8 = .ok (.invokestatic 177, 3) := by decide +kernel
theorem dX12_divide_11 : decode cX12_divide 11 = .ok (.ifCond .ne 7, 3) := by decide +kernel
theorem dX12_divide_14 : decode cX12_divide 14 = .ok (.sipush (-1001), 3) := by decide +kernel
theorem dX12_divide_17 : decode cX12_divide 17 = .ok (.ireturn, 1) := by decide +kernel
theorem dX12_divide_18 : decode cX12_divide 18 = .ok (.iload_n 3, 1) := by decide +kernel
theorem dX12_divide_19 : decode cX12_divide 19 = .ok (.iconst 0, 1) := by decide +kernel
theorem dX12_divide_20 : decode cX12_divide 20 = .ok (.iconst 1, 1) := by decide +kernel
theorem dX12_divide_21 : decode cX12_divide 21 = .ok (.invokestatic 155, 3) := by decide +kernel
theorem dX12_divide_24 : decode cX12_divide 24 = .ok (.ifCond .eq 11, 3) := by decide +kernel
theorem dX12_divide_27 : decode cX12_divide 27 = .ok (.iload 4, 2) := by decide +kernel
theorem dX12_divide_29 : decode cX12_divide 29 = .ok (.invokestatic 207, 3) := by decide +kernel
theorem dX12_divide_32 : decode cX12_divide 32 = .ok (.ifCond .ne 7, 3) := by decide +kernel
theorem dX12_divide_35 : decode cX12_divide 35 = .ok (.sipush (-1002), 3) := by decide +kernel
theorem dX12_divide_38 : decode cX12_divide 38 = .ok (.ireturn, 1) := by decide +kernel
theorem dX12_divide_39 : decode cX12_divide 39 = .ok (.aload_n 0, 1) := by decide +kernel
theorem dX12_divide_40 : decode cX12_divide 40 = .ok (.iload_n 2, 1) := by decide +kernel
theorem dX12_divide_41 : decode cX12_divide 41 = .ok (.invokevirtual 163, 3) := by decide +kernel
theorem dX12_divide_44 : decode cX12_divide 44 = .ok (.ifCond .eq 7, 3) := by decide +kernel
theorem dX12_divide_47 : decode cX12_divide 47 = .ok (.sipush (-1003), 3) := by decide +kernel
theorem dX12_divide_50 : decode cX12_divide 50 = .ok (.ireturn, 1) := by decide +kernel
theorem dX12_divide_51 : decode cX12_divide 51 = .ok (.aload_n 0, 1) := by decide +kernel
theorem dX12_divide_52 : decode cX12_divide 52 = .ok (.aload_n 0, 1) := by decide +kernel
theorem dX12_divide_53 : decode cX12_divide 53 = .ok (.getfield 49, 3) := by decide +kernel
theorem dX12_divide_56 : decode cX12_divide 56 = .ok (.iconst 4, 1) := by decide +kernel
theorem dX12_divide_57 : decode cX12_divide 57 = .ok (.iload_n 1, 1) := by decide +kernel
theorem dX12_divide_58 : decode cX12_divide 58 = .ok (.imul, 1) := by decide +kernel
theorem dX12_divide_59 : decode cX12_divide 59 = .ok (.aload_n 0, 1) := by decide +kernel
theorem dX12_divide_60 : decode cX12_divide 60 = .ok (.getfield 49, 3) := by decide +kernel
theorem dX12_divide_63 : decode cX12_divide 63 = .ok (.iconst 4, 1) := by decide +kernel
theorem dX12_divide_64 : decode cX12_divide 64 = .ok (.iload_n 2, 1) := by decide +kernel
theorem dX12_divide_65 : decode cX12_divide 65 = .ok (.imul, 1) := by decide +kernel
theorem dX12_divide_66 : decode cX12_divide 66 = .ok (.iload 4, 2) := by decide +kernel
theorem dX12_divide_68 : decode cX12_divide 68 = .ok (.invokevirtual 214, 3) := by decide +kernel
theorem dX12_divide_71 : decode cX12_divide 71 = .ok (.iload_n 3, 1) := by decide +kernel
theorem dX12_divide_72 : decode cX12_divide 72 = .ok (.ifCond .ne 16, 3) := by decide +kernel
theorem dX12_divide_75 : decode cX12_divide 75 = .ok (.aload_n 0, 1) := by decide +kernel
theorem dX12_divide_76 : decode cX12_divide 76 = .ok (.iload_n 1, 1) := by decide +kernel
theorem dX12_divide_77 : decode cX12_divide 77 = .ok (.aload_n 0, 1) := by decide +kernel
theorem dX12_divide_78 : decode cX12_divide 78 = .ok (.getfield 34, 3) := by decide +kernel
theorem dX12_divide_81 : decode cX12_divide 81 = .ok (.iconst 0, 1) := by decide +kernel
