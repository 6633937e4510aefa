theorem dX12_makes_4 : decode cX12_makes 4 = .ok (.imul, 1) := by decide +kernel
theorem dX12_makes_5 : decode cX12_makes 5 = .ok (.istore_n 2, 1) := by decide +kernel
theorem dX12_makes_6 : decode cX12_makes 6 = .ok (.aload_n 0, 1) := by decide +kernel
theorem dX12_makes_7 : decode cX12_makes 7 = .ok (.getfield 34, 3) := by decide +kernel
theorem dX12_makes_10 : decode cX12_makes 10 = .ok (.iload_n 1, 1) := by decide +kernel
theorem dX12_makes_11 : decode cX12_makes 11 = .ok (.iaload, 1) := by decide +kernel
theorem dX12_makes_12 : decode cX12_makes 12 = .ok (.iconst 5, 1) := by decide +kernel
theorem dX12_makes_13 : decode cX12_makes 13 = .ok (.if_icmp .ne 23, 3) := by decide +kernel
theorem dX12_makes_16 : decode cX12_makes 16 = .ok (.aload_n 0, 1) := by decide +kernel
theorem dX12_makes_17 : decode cX12_makes 17 = .ok (.sipush 4096, 3) := by decide +kernel
theorem dX12_makes_20 : decode cX12_makes 20 = .ok (.aload_n 0, 1) := by decide +kernel
theorem dX12_makes_21 : decode cX12_makes 21 = .ok (.getfield 37, 3) := by decide +kernel
theorem dX12_makes_24 : decode cX12_makes 24 = .ok (.iload_n 1, 1) := by decide +kernel
theorem dX12_makes_25 : decode cX12_makes 25 = .ok (.iaload, 1) := by decide +kernel
theorem dX12_makes_26 : decode cX12_makes 26 = .ok (.imul, 1) := by decide +kernel
theorem dX12_makes_27 : decode cX12_makes 27 = .ok (.aload_n 0, 1) := by decide +kernel
theorem dX12_makes_28 : decode cX12_makes 28 = .ok (.getfield 37, 3) := by decide +kernel
theorem dX12_makes_31 : decode cX12_makes 31 = .ok (.iload_n 1, 1) := by decide +kernel
theorem dX12_makes_32 : decode cX12_makes 32 = .ok (.iaload, 1) := by decide +kernel
theorem dX12_makes_33 : decode cX12_makes 33 = .ok (.invokevirtual 281, 3) := by decide +kernel
theorem dX12_makes_36 : decode cX12_makes 36 = .ok (.iconst 0, 1) := by decide +kernel
theorem dX12_makes_37 : decode cX12_makes 37 = .ok (.istore_n 3, 1) := by decide +kernel
theorem dX12_makes_38 : decode cX12_makes 38 = .ok (.iload_n 3, 1) := by decide +kernel
theorem dX12_makes_39 : decode cX12_makes 39 = .ok (.sipush 4096, 3) := by decide +kernel
theorem dX12_makes_42 : decode cX12_makes 42 = .ok (.if_icmp .ge 277, 3) := by decide +kernel
theorem dX12_makes_45 : decode cX12_makes 45 = .ok (.aload_n 0, 1) := by decide +kernel
theorem dX12_makes_46 : decode cX12_makes 46 = .ok (.getfield 34, 3) := by decide +kernel
theorem dX12_makes_49 : decode cX12_makes 49 = .ok (.iload_n 1, 1) := by decide +kernel
theorem dX12_makes_50 : decode cX12_makes 50 = .ok (.iaload, 1) := by decide +kernel
theorem dX12_makes_51 : decode cX12_makes 51 = .ok (.ifCond .lt 27, 3) := by decide +kernel
theorem dX12_makes_54 : decode cX12_makes 54 = .ok (.aload_n 0, 1) := by decide +kernel
theorem dX12_makes_55 : decode cX12_makes 55 = .ok (.getfield 64, 3) := by decide +kernel
theorem dX12_makes_58 : decode cX12_makes 58 = .ok (.sipush 4096, 3) := by decide +kernel
theorem dX12_makes_61 : decode cX12_makes 61 = .ok (.aload_n 0, 1) := by decide +kernel
theorem dX12_makes_62 : decode cX12_makes 62 = .ok (.getfield 37, 3) := by decide +kernel
theorem dX12_makes_65 : decode cX12_makes 65 = .ok (.iload_n 1, 1) := by decide +kernel
theorem dX12_makes_66 : decode cX12_makes 66 = .ok (.iaload, 1) := by decide +kernel
theorem dX12_makes_67 : decode cX12_makes 67 = .ok (.imul, 1) := by decide +kernel
theorem dX12_makes_68 : decode cX12_makes 68 = .ok (.iload_n 3, 1) := by decide +kernel
theorem dX12_makes_69 : decode cX12_makes 69 = .ok (.iadd, 1) := by decide +kernel
theorem dX12_makes_70 : decode cX12_makes 70 = .ok (.baload, 1) := by decide +kernel
theorem dX12_makes_71 : decode cX12_makes 71 = .ok (.ifCond .eq 7, 3) := by decide +kernel
theorem dX12_makes_74 : decode cX12_makes 74 = .ok (.iconst 1, 1) := by decide +kernel
theorem dX12_makes_75 : decode cX12_makes 75 = .ok (.goto 4, 3) := by decide +kernel
theorem dX12_makes_78 : decode cX12_makes 78 = .ok (.iconst 0, 1) := by decide +kernel
theorem dX12_makes_79 : decode cX12_makes 79 = .ok (.istore 4, 2) := by decide +kernel
theorem dX12_makes_81 : decode cX12_makes 81 = .ok (.aload_n 0, 1) := by decide +kernel
theorem dX12_makes_82 : decode cX12_makes 82 = .ok (.getfield 34, 3) := by decide +kernel
theorem dX12_makes_85 : decode cX12_makes 85 = .ok (.iload_n 1, 1) := by decide +kernel
theorem dX12_makes_86 : decode cX12_makes 86 = .ok (.iaload, 1) := by decide +kernel
theorem dX12_makes_87 : decode cX12_makes 87 = .ok (.ifCond .lt 37, 3) := by decide +kernel
theorem dX12_makes_90 : decode cX12_makes 90 = .ok (.aload_n 0, 1) := by decide +kernel
theorem dX12_makes_91 : decode cX12_makes 91 = .ok (.getfield 34, 3) := by decide +kernel
theorem dX12_makes_94 : decode cX12_makes 94 = .ok (.iload_n 1, 1) := by decide +kernel
theorem dX12_makes_95 : decode cX12_makes 95 = .ok (.iaload, 1) := by decide +kernel
theorem dX12_makes_96 : decode cX12_makes 96 = .ok (.iconst 3, 1) := by decide +kernel
theorem dX12_makes_97 : decode cX12_makes 97 = .ok (.if_icmp .ge 27, 3) := by decide +kernel
theorem dX12_makes_100 : decode cX12_makes 100 = .ok (.aload_n 0, 1) := by decide +kernel
theorem dX12_makes_101 : decode cX12_makes 101 = .ok (.getfield 64, 3) := by decide +kernel
theorem dX12_makes_104 : decode cX12_makes 104 = .ok (.sipush 4096, 3) := by decide +kernel
theorem dX12_makes_107 : decode cX12_makes 107 = .ok (.aload_n 0, 1) := by decide +kernel
theorem dX12_makes_108 : decode cX12_makes 108 = .ok (.getfield 40, 3) := by decide +kernel
theorem dX12_makes_111 : decode cX12_makes 111 = .ok (.iload_n 1, 1) := by decide +kernel
theorem dX12_makes_112 : decode cX12_makes 112 = .ok (.iaload, 1) := by decide +kernel
theorem dX12_makes_113 : decode cX12_makes 113 = .ok (.imul, 1) := by decide +kernel
theorem dX12_makes_114 : decode cX12_makes 114 = .ok (.iload_n 3, 1) := by decide +kernel
theorem dX12_makes_115 : decode cX12_makes 115 = .ok (.iadd, 1) := by decide +kernel
theorem dX12_makes_116 : decode cX12_makes 116 = .ok (.baload, 1) := by decide +kernel
theorem dX12_makes_117 : decode cX12_makes 117 = .ok (.ifCond .eq 7, 3) := by decide +kernel
theorem dX12_makes_120 : decode cX12_makes 120 = .ok (.iconst 1, 1) := by decide +kernel
theorem dX12_makes_121 : decode cX12_makes 121 = .ok (.goto 4, 3) := by decide +kernel
theorem dX12_makes_124 : decode cX12_makes 124 = .ok (.iconst 0, 1) := by decide +kernel
theorem dX12_makes_125 : decode cX12_makes 125 = .ok (.istore 5, 2) := by decide +kernel
theorem dX12_makes_127 : decode cX12_makes 127 = .ok (.aload_n 0, 1) := by decide +kernel
theorem dX12_makes_128 : decode cX12_makes 128 = .ok (.getfield 34, 3) := by decide +kernel
theorem dX12_makes_131 : decode cX12_makes 131 = .ok (.iload_n 1, 1) := by decide +kernel
theorem dX12_makes_132 : decode cX12_makes 132 = .ok (.iaload, 1) := by decide +kernel
theorem dX12_makes_133 : decode cX12_makes 133 = .ok (.tableswitch 171 0 4 #[35, 61, 87, 113, 142], 35) := by decide +kernel
theorem dX12_makes_168 : decode cX12_makes 168 = .ok (.aload_n 0, 1) := by decide +kernel
theorem dX12_makes_169 : decode cX12_makes 169 = .ok (.getfield 64, 3) := by decide +kernel
theorem dX12_makes_172 : decode cX12_makes 172 = .ok (.iload_n 2, 1) := by decide +kernel
theorem dX12_makes_173 : decode cX12_makes 173 = .ok (.iload_n 3, 1) := by decide +kernel
theorem dX12_makes_174 : decode cX12_makes 174 = .ok (.iadd, 1) := by decide +kernel
theorem dX12_makes_175 : decode cX12_makes 175 = .ok (.iload 4, 2) := by decide +kernel
theorem dX12_makes_177 : decode cX12_makes 177 = .ok (.ifCond .eq 12, 3) := by decide +kernel
theorem dX12_makes_180 : decode cX12_makes 180 = .ok (.iload 5, 2) := by decide +kernel
theorem dX12_makes_182 : decode cX12_makes 182 = .ok (.ifCond .eq 7, 3) := by decide +kernel
theorem dX12_makes_185 : decode cX12_makes 185 = .ok (.iconst 1, 1) := by decide +kernel
theorem dX12_makes_186 : decode cX12_makes 186 = .ok (.goto 4, 3) := by decide +kernel
theorem dX12_makes_189 : decode cX12_makes 189 = .ok (.iconst 0, 1) := by decide +kernel
theorem dX12_makes_190 : decode cX12_makes 190 = .ok (.bastore, 1) := by decide +kernel
theorem dX12_makes_191 : decode cX12_makes 191 = .ok (.goto 122, 3) := by decide +kernel
theorem dX12_makes_194 : decode cX12_makes 194 = .ok (.aload_n 0, 1) := by decide +kernel
theorem dX12_makes_195 : decode cX12_makes 195 = .ok (.getfield 64, 3) := by decide +kernel
theorem dX12_makes_198 : decode cX12_makes 198 = .ok (.iload_n 2, 1) := by decide +kernel
theorem dX12_makes_199 : decode cX12_makes 199 = .ok (.iload_n 3, 1) := by decide +kernel
theorem dX12_makes_200 : decode cX12_makes 200 = .ok (.iadd, 1) := by decide +kernel
theorem dX12_makes_201 : decode cX12_makes 201 = .ok (.iload 4, 2) := by decide +kernel
theorem dX12_makes_203 : decode cX12_makes 203 = .ok (.ifCond .ne 8, 3) := by decide +kernel
theorem dX12_makes_206 : decode cX12_makes 206 = .ok (.iload 5, 2) := by decide +kernel
theorem dX12_makes_208 : decode cX12_makes 208 = .ok (.ifCond .eq 7, 3) := by decide +kernel
theorem dX12_makes_211 : decode cX12_makes 211 = .ok (.iconst 1, 1) := by decide +kernel
theorem dX12_makes_212 : decode cX12_makes 212 = .ok (.goto 4, 3) := by decide +kernel
theorem dX12_makes_215 : decode cX12_makes 215 = .ok (.iconst 0, 1) := by decide +kernel
theorem dX12_makes_216 : decode cX12_makes 216 = .ok (.bastore, 1) := by decide +kernel
theorem dX12_makes_217 : decode cX12_makes 217 = .ok (.goto 96, 3) := by decide +kernel
theorem dX12_makes_220 : decode cX12_makes 220 = .ok (.aload_n 0, 1) := by decide +kernel
theorem dX12_makes_221 : decode cX12_makes 221 = .ok (.getfield 64, 3) := by decide +kernel
theorem dX12_makes_224 : decode cX12_makes 224 = .ok (.iload_n 2, 1) := by decide +kernel
theorem dX12_makes_225 : decode cX12_makes 225 = .ok (.iload_n 3, 1) := by decide +kernel
theorem dX12_makes_226 : decode cX12_makes 226 = .ok (.iadd, 1) := by decide +kernel
theorem dX12_makes_227 : decode cX12_makes 227 = .ok (.iload 4, 2) := by decide +kernel
theorem dX12_makes_229 : decode cX12_makes 229 = .ok (.ifCond .eq 12, 3) := by decide +kernel
theorem dX12_makes_232 : decode cX12_makes 232 = .ok (.iload 5, 2) := by decide +kernel
theorem dX12_makes_234 : decode cX12_makes 234 = .ok (.ifCond .ne 7, 3) := by decide +kernel
theorem dX12_makes_237 : decode cX12_makes 237 = .ok (.iconst 1, 1) := by decide +kernel
theorem dX12_makes_238 : decode cX12_makes 238 = .ok (.goto 4, 3) := by decide +kernel
theorem dX12_makes_241 : decode cX12_makes 241 = .ok (.iconst 0, 1) := by decide +kernel
theorem dX12_makes_242 : decode cX12_makes 242 = .ok (.bastore, 1) := by decide +kernel
theorem dX12_makes_243 : decode cX12_makes 243 = .ok (.goto 70, 3) := by decide +kernel
theorem dX12_makes_246 : decode cX12_makes 246 = .ok (.aload_n 0, 1) := by decide +kernel
theorem dX12_makes_247 : decode cX12_makes 247 = .ok (.getfield 64, 3) := by decide +kernel
theorem dX12_makes_250 : decode cX12_makes 250 = .ok (.iload_n 2, 1) := by decide +kernel
theorem dX12_makes_251 : decode cX12_makes 251 = .ok (.iload_n 3, 1) := by decide +kernel
theorem dX12_makes_252 : decode cX12_makes 252 = .ok (.iadd, 1) := by decide +kernel
theorem dX12_makes_253 : decode cX12_makes 253 = .ok (.aload_n 0, 1) := by decide +kernel
theorem dX12_makes_254 : decode cX12_makes 254 = .ok (.aload_n 0, 1) := by decide +kernel
theorem dX12_makes_255 : decode cX12_makes 255 = .ok (.getfield 37, 3) := by decide +kernel
theorem dX12_makes_258 : decode cX12_makes 258 = .ok (.iload_n 1, 1) := by decide +kernel
theorem dX12_makes_259 : decode cX12_makes 259 = .ok (.iaload, 1) := by decide +kernel
theorem dX12_makes_260 : decode cX12_makes 260 = .ok (.iload_n 3, 1) := by decide +kernel
theorem dX12_makes_261 : decode cX12_makes 261 = .ok (.aload_n 0, 1) := by decide +kernel
theorem dX12_makes_262 : decode cX12_makes 262 = .ok (.getfield 40, 3) := by decide +kernel
theorem dX12_makes_265 : decode cX12_makes 265 = .ok (.iload_n 1, 1) := by decide +kernel
theorem dX12_makes_266 : decode cX12_makes 266 = .ok (.iaload, 1) := by decide +kernel
theorem dX12_makes_267 : decode cX12_makes 267 = .ok (.iconst 0, 1) := by decide +kernel
theorem dX12_makes_268 : decode cX12_makes 268 = .ok (.invokevirtual 284, 3) := by decide +kernel
theorem dX12_makes_271 : decode cX12_makes 271 = .ok (.bastore, 1) := by decide +kernel
theorem dX12_makes_272 : decode cX12_makes 272 = .ok (.goto 41, 3) := by decide +kernel
theorem dX12_makes_275 : decode cX12_makes 275 = .ok (.aload_n 0, 1) := by decide +kernel
theorem dX12_makes_276 : decode cX12_makes 276 = .ok (.getfield 64, 3) := by decide +kernel
theorem dX12_makes_279 : decode cX12_makes 279 = .ok (.iload_n 2, 1) := by decide +kernel
theorem dX12_makes_280 : decode cX12_makes 280 = .ok (.iload_n 3, 1) := by decide +kernel
theorem dX12_makes_281 : decode cX12_makes 281 = .ok (.iadd, 1) := by decide +kernel
theorem dX12_makes_282 : decode cX12_makes 282 = .ok (.aload_n 0, 1) := by decide +kernel
theorem dX12_makes_283 : decode cX12_makes 283 = .ok (.aload_n 0, 1) := by decide +kernel
theorem dX12_makes_284 : decode cX12_makes 284 = .ok (.getfield 37, 3) := by decide +kernel
theorem dX12_makes_287 : decode cX12_makes 287 = .ok (.iload_n 1, 1) := by decide +kernel
theorem dX12_makes_288 : decode cX12_makes 288 = .ok (.iaload, 1) := by decide +kernel
theorem dX12_makes_289 : decode cX12_makes 289 = .ok (.iload_n 3, 1) := by decide +kernel
theorem dX12_makes_290 : decode cX12_makes 290 = .ok (.aload_n 0, 1) := by decide +kernel
theorem dX12_makes_291 : decode cX12_makes 291 = .ok (.getfield 40, 3) := by decide +kernel
theorem dX12_makes_294 : decode cX12_makes 294 = .ok (.iload_n 1, 1) := by decide +kernel
theorem dX12_makes_295 : decode cX12_makes 295 = .ok (.iaload, 1) := by decide +kernel
theorem dX12_makes_296 : decode cX12_makes 296 = .ok (.iconst 1, 1) := by decide +kernel
theorem dX12_makes_297 : decode cX12_makes 297 = .ok (.invokevirtual 284, 3) := by decide +kernel
theorem dX12_makes_300 : decode cX12_makes 300 = .ok (.bastore, 1) := by decide +kernel
theorem dX12_makes_301 : decode cX12_makes 301 = .ok (.goto 12, 3) := by decide +kernel
theorem dX12_makes_304 : decode cX12_makes 304 = .ok (.aload_n 0, 1) := by decide +kernel
theorem dX12_makes_305 : decode cX12_makes 305 = .ok (.getfield 64, 3) := by decide +kernel
theorem dX12_makes_308 : decode cX12_makes 308 = .ok (.iload_n 2, 1) := by decide +kernel
theorem dX12_makes_309 : decode cX12_makes 309 = .ok (.iload_n 3, 1) := by decide +kernel
theorem dX12_makes_310 : decode cX12_makes 310 = .ok (.iadd, 1) := by decide +kernel
theorem dX12_makes_311 : decode cX12_makes 311 = .ok (.iconst 0, 1) := by decide +kernel
theorem dX12_makes_312 : decode cX12_makes 312 = .ok (.bastore, 1) := by decide +kernel
theorem dX12_makes_313 : decode cX12_makes 313 = .ok (.iinc 3 1, 3) := by decide +kernel
theorem dX12_makes_316 : decode cX12_makes 316 = .ok (.goto (-278), 3) := by decide +kernel
theorem dX12_makes_319 : decode cX12_makes 319 = .ok (.aload_n 0, 1) := by decide +kernel
theorem dX12_makes_320 : decode cX12_makes 320 = .ok (.getfield 34, 3) := by decide +kernel
theorem dX12_makes_323 : decode cX12_makes 323 = .ok (.iload_n 1, 1) := by decide +kernel
theorem dX12_makes_324 : decode cX12_makes 324 = .ok (.iaload, 1) := by decide +kernel
theorem dX12_makes_325 : decode cX12_makes 325 = .ok (.iconst 5, 1) := by decide +kernel
theorem dX12_makes_326 : decode cX12_makes 326 = .ok (.if_icmp .ne 8, 3) := by decide +kernel
theorem dX12_makes_329 : decode cX12_makes 329 = .ok (.aload_n 0, 1) := by decide +kernel
theorem dX12_makes_330 : decode cX12_makes 330 = .ok (.iload_n 1, 1) := by decide +kernel
theorem dX12_makes_331 : decode cX12_makes 331 = .ok (.invokevirtual 288, 3) := by decide +kernel
theorem dX12_makes_334 : decode cX12_makes 334 = .ok (.return_, 1) := by decide +kernel
theorem dX12_touches_0 : decode cX12_touches 0 = .ok (.iconst 0, 1) := by decide +kernel
theorem dX12_touches_1 : decode cX12_touches 1 = .ok (.istore_n 2, 1) := by decide +kernel
theorem dX12_touches_2 : decode cX12_touches 2 = .ok (.iload_n 2, 1) := by decide +kernel
theorem dX12_touches_3 : decode cX12_touches 3 = .ok (.aload_n 0, 1) := by decide +kernel
theorem dX12_touches_4 : decode cX12_touches 4 = .ok (.getfield 291, 3) := by decide +kernel
theorem dX12_touches_7 : decode cX12_touches 7 = .ok (.if_icmp .ge 16, 3) := by decide +kernel
theorem dX12_touches_10 : decode cX12_touches 10 = .ok (.aload_n 0, 1) := by decide +kernel
theorem dX12_touches_11 : decode cX12_touches 11 = .ok (.getfield 91, 3) := by decide +kernel
theorem dX12_touches_14 : decode cX12_touches 14 = .ok (.iload_n 2, 1) := by decide +kernel
theorem dX12_touches_15 : decode cX12_touches 15 = .ok (.iconst 0, 1) := by decide +kernel
theorem dX12_touches_16 : decode cX12_touches 16 = .ok (.bastore, 1) := by decide +kernel
theorem dX12_touches_17 : decode cX12_touches 17 = .ok (.iinc 2 1, 3) := by decide +kernel
theorem dX12_touches_20 : decode cX12_touches 20 = .ok (.goto (-18), 3) := by decide +kernel
theorem dX12_touches_23 : decode cX12_touches 23 = .ok (.iconst 0, 1) := by decide +kernel
theorem dX12_touches_24 : decode cX12_touches 24 = .ok (.istore_n 2, 1) := by decide +kernel
theorem dX12_touches_25 : decode cX12_touches 25 = .ok (.iload_n 2, 1) := by decide +kernel
theorem dX12_touches_26 : decode cX12_touches 26 = .ok (.sipush 4096, 3) := by decide +kernel
theorem dX12_touches_29 : decode cX12_touches 29 = .ok (.if_icmp .ge 50, 3) := by decide +kernel
theorem dX12_touches_32 : decode cX12_touches 32 = .ok (.aload_n 0, 1) := by decide +kernel
theorem dX12_touches_33 : decode cX12_touches 33 = .ok (.getfield 76, 3) := by decide +kernel
theorem dX12_touches_36 : decode cX12_touches 36 = .ok (.iload_n 2, 1) := by decide +kernel
theorem dX12_touches_37 : decode cX12_touches 37 = .ok (.iaload, 1) := by decide +kernel
theorem dX12_touches_38 : decode cX12_touches 38 = .ok (.ifCond .lt 35, 3) := by decide +kernel
theorem dX12_touches_41 : decode cX12_touches 41 = .ok (.aload_n 0, 1) := by decide +kernel
theorem dX12_touches_42 : decode cX12_touches 42 = .ok (.getfield 64, 3) := by decide +kernel
theorem dX12_touches_45 : decode cX12_touches 45 = .ok (.sipush 4096, 3) := by decide +kernel
theorem dX12_touches_48 : decode cX12_touches 48 = .ok (.aload_n 0, 1) := by decide +kernel
theorem dX12_touches_49 : decode cX12_touches 49 = .ok (.getfield 40, 3) := by decide +kernel
theorem dX12_touches_52 : decode cX12_touches 52 = .ok (.iload_n 1, 1) := by decide +kernel
theorem dX12_touches_53 : decode cX12_touches 53 = .ok (.iaload, 1) := by decide +kernel
theorem dX12_touches_54 : decode cX12_touches 54 = .ok (.imul, 1) := by decide +kernel
theorem dX12_touches_55 : decode cX12_touches 55 = .ok (.iload_n 2, 1) := by decide +kernel
theorem dX12_touches_56 : decode cX12_touches 56 = .ok (.iadd, 1) := by decide +kernel
theorem dX12_touches_57 : decode cX12_touches 57 = .ok (.baload, 1) := by decide +kernel
theorem dX12_touches_58 : decode cX12_touches 58 = .ok (.ifCond .eq 15, 3) := by decide +kernel
theorem dX12_touches_61 : decode cX12_touches 61 = .ok (.aload_n 0, 1) := by decide +kernel
theorem dX12_touches_62 : decode cX12_touches 62 = .ok (.getfield 91, 3) := by decide +kernel
theorem dX12_touches_65 : decode cX12_touches 65 = .ok (.aload_n 0, 1) := by decide +kernel
theorem dX12_touches_66 : decode cX12_touches 66 = .ok (.getfield 76, 3) := by decide +kernel
theorem dX12_touches_69 : decode cX12_touches 69 = .ok (.iload_n 2, 1) := by decide +kernel
theorem dX12_touches_70 : decode cX12_touches 70 = .ok (.iaload, 1) := by decide +kernel
theorem dX12_touches_71 : decode cX12_touches 71 = .ok (.iconst 1, 1) := by decide +kernel
theorem dX12_touches_72 : decode cX12_touches 72 = .ok (.bastore, 1) := by decide +kernel
theorem dX12_touches_73 : decode cX12_touches 73 = .ok (.iinc 2 1, 3) := by decide +kernel
theorem dX12_touches_76 : decode cX12_touches 76 = .ok (.goto (-51), 3) := by decide +kernel
theorem dX12_touches_79 : decode cX12_touches 79 = .ok (.iconst 0, 1) := by decide +kernel
theorem dX12_touches_80 : decode cX12_touches 80 = .ok (.istore_n 2, 1) := by decide +kernel
theorem dX12_touches_81 : decode cX12_touches 81 = .ok (.iload_n 2, 1) := by decide +kernel
theorem dX12_touches_82 : decode cX12_touches 82 = .ok (.sipush 4096, 3) := by decide +kernel
theorem dX12_touches_85 : decode cX12_touches 85 = .ok (.if_icmp .ge 49, 3) := by decide +kernel
theorem dX12_touches_88 : decode cX12_touches 88 = .ok (.aload_n 0, 1) := by decide +kernel
theorem dX12_touches_89 : decode cX12_touches 89 = .ok (.getfield 64, 3) := by decide +kernel
theorem dX12_touches_92 : decode cX12_touches 92 = .ok (.sipush 4096, 3) := by decide +kernel
theorem dX12_touches_95 : decode cX12_touches 95 = .ok (.iload_n 1, 1) := by decide +kernel
theorem dX12_touches_96 : decode cX12_touches 96 = .ok (.imul, 1) := by decide +kernel
theorem dX12_touches_97 : decode cX12_touches 97 = .ok (.iload_n 2, 1) := by decide +kernel
theorem dX12_touches_98 : decode cX12_touches 98 = .ok (.iadd, 1) := by decide +kernel
theorem dX12_touches_99 : decode cX12_touches 99 = .ok (.aload_n 0, 1) := by decide +kernel
theorem dX12_touches_100 : decode cX12_touches 100 = .ok (.getfield 76, 3) := by decide +kernel
theorem dX12_touches_103 : decode cX12_touches 103 = .ok (.iload_n 2, 1) := by decide +kernel
theorem dX12_touches_104 : decode cX12_touches 104 = .ok (.iaload, 1) := by decide +kernel
theorem dX12_touches_105 : decode cX12_touches 105 = .ok (.ifCond .lt 21, 3) := by decide +kernel
theorem dX12_touches_108 : decode cX12_touches 108 = .ok (.aload_n 0, 1) := by decide +kernel
theorem dX12_touches_109 : decode cX12_touches 109 = .ok (.getfield 91, 3) := by decide +kernel
theorem dX12_touches_112 : decode cX12_touches 112 = .ok (.aload_n 0, 1) := by decide +kernel
theorem dX12_touches_113 : decode cX12_touches 113 = .ok (.getfield 76, 3) := by decide +kernel
theorem dX12_touches_116 : decode cX12_touches 116 = .ok (.iload_n 2, 1) := by decide +kernel
theorem dX12_touches_117 : decode cX12_touches 117 = .ok (.iaload, 1) := by decide +kernel
theorem dX12_touches_118 : decode cX12_touches 118 = .ok (.baload, 1) := by decide +kernel
theorem dX12_touches_119 : decode cX12_touches 119 = .ok (.ifCond .eq 7, 3) := by decide +kernel
theorem dX12_touches_122 : decode cX12_touches 122 = .ok (.iconst 1, 1) := by decide +kernel
theorem dX12_touches_123 : decode cX12_touches 123 = .ok (.goto 4, 3) := by decide +kernel
theorem dX12_touches_126 : decode cX12_touches 126 = .ok (.iconst 0, 1) := by decide +kernel
theorem dX12_touches_127 : decode cX12_touches 127 = .ok (.bastore, 1) := by decide +kernel
theorem dX12_touches_128 : decode cX12_touches 128 = .ok (.iinc 2 1, 3) := by decide +kernel
theorem dX12_touches_131 : decode cX12_touches 131 = .ok (.goto (-50), 3) := by decide +kernel
theorem dX12_touches_134 : decode cX12_touches 134 = .ok (.return_, 1) := by decide +kernel
theorem dX12_flat_0 : decode cX12_flat 0 = .ok (.iload_n 1, 1) := by decide +kernel
theorem dX12_flat_1 : decode cX12_flat 1 = .ok (.invokestatic 195, 3) := by decide +kernel
theorem dX12_flat_4 : decode cX12_flat 4 = .ok (.ifCond .ne 10, 3) := by decide +kernel
theorem dX12_flat_7 : decode cX12_flat 7 = .ok (.aload_n 0, 1) := by decide +kernel
theorem dX12_flat_8 : decode cX12_flat 8 = .ok (.bipush (-3), 2) := by decide +kernel
theorem dX12_flat_10 : decode cX12_flat 10 = .ok (.invokevirtual 191, 3) := by decide +kernel
theorem dX12_flat_13 : decode cX12_flat 13 = .ok (.ireturn, 1) := by decide +kernel
theorem dX12_flat_14 : decode cX12_flat 14 = .ok (.iconst 0, 1) := by decide +kernel
theorem dX12_flat_15 : decode cX12_flat 15 = .ok (.istore_n 2, 1) := by decide +kernel
theorem dX12_flat_16 : decode cX12_flat 16 = .ok (.iload_n 2, 1) := by decide +kernel
theorem dX12_flat_17 : decode cX12_flat 17 = .ok (.iload_n 1, 1) := by decide +kernel
theorem dX12_flat_18 : decode cX12_flat 18 = .ok (.if_icmp .gt 14, 3) := by decide +kernel
theorem dX12_flat_21 : decode cX12_flat 21 = .ok (.aload_n 0, 1) := by decide +kernel
theorem dX12_flat_22 : decode cX12_flat 22 = .ok (.iload_n 2, 1) := by decide +kernel
theorem dX12_flat_23 : decode cX12_flat 23 = .ok (.invokevirtual 294, 3) := by decide +kernel
theorem dX12_flat_26 : decode cX12_flat 26 = .ok (.iinc 2 1, 3) := by decide +kernel
theorem dX12_flat_29 : decode cX12_flat 29 = .ok (.goto (-13), 3) := by decide +kernel
theorem dX12_flat_32 : decode cX12_flat 32 = .ok (.iconst 0, 1) := by decide +kernel
theorem dX12_flat_33 : decode cX12_flat 33 = .ok (.istore_n 2, 1) := by decide +kernel
theorem dX12_flat_34 : decode cX12_flat 34 = .ok (.iconst 0, 1) := by decide +kernel
theorem dX12_flat_35 : decode cX12_flat 35 = .ok (.istore_n 3, 1) := by decide +kernel
theorem dX12_flat_36 : decode cX12_flat 36 = .ok (.iload_n 3, 1) := by decide +kernel
theorem dX12_flat_37 : decode cX12_flat 37 = .ok (.ldc_w 297, 3) := by decide +kernel
theorem dX12_flat_40 : decode cX12_flat 40 = .ok (.if_icmp .ge 44, 3) := by decide +kernel
theorem dX12_flat_43 : decode cX12_flat 43 = .ok (.aload_n 0, 1) := by decide +kernel
theorem dX12_flat_44 : decode cX12_flat 44 = .ok (.getfield 64, 3) := by decide +kernel
theorem dX12_flat_47 : decode cX12_flat 47 = .ok (.iload_n 3, 1) := by decide +kernel
theorem dX12_flat_48 : decode cX12_flat 48 = .ok (.aload_n 0, 1) := by decide +kernel
theorem dX12_flat_49 : decode cX12_flat 49 = .ok (.getfield 47, 3) := by decide +kernel
theorem dX12_flat_52 : decode cX12_flat 52 = .ok (.ldc_w 297, 3) := by decide +kernel
theorem dX12_flat_55 : decode cX12_flat 55 = .ok (.iload_n 1, 1) := by decide +kernel
theorem dX12_flat_56 : decode cX12_flat 56 = .ok (.imul, 1) := by decide +kernel
theorem dX12_flat_57 : decode cX12_flat 57 = .ok (.iload_n 3, 1) := by decide +kernel
theorem dX12_flat_58 : decode cX12_flat 58 = .ok (.iadd, 1) := by decide +kernel
theorem dX12_flat_59 : decode cX12_flat 59 = .ok (.baload, 1) := by decide +kernel
theorem dX12_flat_60 : decode cX12_flat 60 = .ok (.bastore, 1) := by decide +kernel
theorem dX12_flat_61 : decode cX12_flat 61 = .ok (.iload_n 2, 1) := by decide +kernel
theorem dX12_flat_62 : decode cX12_flat 62 = .ok (.aload_n 0, 1) := by decide +kernel
theorem dX12_flat_63 : decode cX12_flat 63 = .ok (.getfield 64, 3) := by decide +kernel
theorem dX12_flat_66 : decode cX12_flat 66 = .ok (.iload_n 3, 1) := by decide +kernel
theorem dX12_flat_67 : decode cX12_flat 67 = .ok (.baload, 1) := by decide +kernel
theorem dX12_flat_68 : decode cX12_flat 68 = .ok (.ifCond .eq 7, 3) := by decide +kernel
theorem dX12_flat_71 : decode cX12_flat 71 = .ok (.iconst 1, 1) := by decide +kernel
theorem dX12_flat_72 : decode cX12_flat 72 = .ok (.goto 4, 3) := by decide +kernel
theorem dX12_flat_75 : decode cX12_flat 75 = .ok (.iconst 0, 1) := by decide +kernel
theorem dX12_flat_76 : decode cX12_flat 76 = .ok (.iadd, 1) := by decide +kernel
theorem dX12_flat_77 : decode cX12_flat 77 = .ok (.istore_n 2, 1) := by decide +kernel
theorem dX12_flat_78 : decode cX12_flat 78 = .ok (.iinc 3 1, 3) := by decide +kernel
theorem dX12_flat_81 : decode cX12_flat 81 = .ok (.goto (-45), 3) := by decide +kernel
theorem dX12_flat_84 : decode cX12_flat 84 = .ok (.bipush 8, 2) := by decide +kernel
theorem dX12_flat_86 : decode cX12_flat 86 = .ok (.istore_n 3, 1) := by decide +kernel
theorem dX12_flat_87 : decode cX12_flat 87 = .ok (.iload_n 3, 1) := by decide +kernel
theorem dX12_flat_88 : decode cX12_flat 88 = .ok (.bipush 16, 2) := by decide +kernel
theorem dX12_flat_90 : decode cX12_flat 90 = .ok (.if_icmp .ge 14, 3) := by decide +kernel
theorem dX12_flat_93 : decode cX12_flat 93 = .ok (.aload_n 0, 1) := by decide +kernel
theorem dX12_flat_94 : decode cX12_flat 94 = .ok (.iload_n 3, 1) := by decide +kernel
theorem dX12_flat_95 : decode cX12_flat 95 = .ok (.invokevirtual 298, 3) := by decide +kernel
theorem dX12_flat_98 : decode cX12_flat 98 = .ok (.iinc 3 1, 3) := by decide +kernel
theorem dX12_flat_101 : decode cX12_flat 101 = .ok (.goto (-14), 3) := by decide +kernel
theorem dX12_flat_104 : decode cX12_flat 104 = .ok (.aload_n 0, 1) := by decide +kernel
theorem dX12_flat_105 : decode cX12_flat 105 = .ok (.aload_n 0, 1) := by decide +kernel
theorem dX12_flat_106 : decode cX12_flat 106 = .ok (.getfield 60, 3) := by decide +kernel
theorem dX12_flat_109 : decode cX12_flat 109 = .ok (.iload_n 1, 1) := by decide +kernel
theorem dX12_flat_110 : decode cX12_flat 110 = .ok (.iaload, 1) := by decide +kernel
theorem dX12_flat_111 : decode cX12_flat 111 = .ok (.putfield 301, 3) := by decide +kernel
theorem dX12_flat_114 : decode cX12_flat 114 = .ok (.iconst 0, 1) := by decide +kernel
theorem dX12_flat_115 : decode cX12_flat 115 = .ok (.istore_n 3, 1) := by decide +kernel
theorem dX12_flat_116 : decode cX12_flat 116 = .ok (.iload_n 3, 1) := by decide +kernel
theorem dX12_flat_117 : decode cX12_flat 117 = .ok (.aload_n 0, 1) := by decide +kernel
theorem dX12_flat_118 : decode cX12_flat 118 = .ok (.getfield 301, 3) := by decide +kernel
theorem dX12_flat_121 : decode cX12_flat 121 = .ok (.if_icmp .ge 63, 3) := by decide +kernel
theorem dX12_flat_124 : decode cX12_flat 124 = .ok (.aload_n 0, 1) := by decide +kernel
theorem dX12_flat_125 : decode cX12_flat 125 = .ok (.getfield 67, 3) := by decide +kernel
theorem dX12_flat_128 : decode cX12_flat 128 = .ok (.iload_n 3, 1) := by decide +kernel
theorem dX12_flat_129 : decode cX12_flat 129 = .ok (.aload_n 0, 1) := by decide +kernel
theorem dX12_flat_130 : decode cX12_flat 130 = .ok (.getfield 51, 3) := by decide +kernel
theorem dX12_flat_133 : decode cX12_flat 133 = .ok (.sipush 200, 3) := by decide +kernel
theorem dX12_flat_136 : decode cX12_flat 136 = .ok (.iload_n 1, 1) := by decide +kernel
theorem dX12_flat_137 : decode cX12_flat 137 = .ok (.imul, 1) := by decide +kernel
theorem dX12_flat_138 : decode cX12_flat 138 = .ok (.iload_n 3, 1) := by decide +kernel
theorem dX12_flat_139 : decode cX12_flat 139 = .ok (.iadd, 1) := by decide +kernel
theorem dX12_flat_140 : decode cX12_flat 140 = .ok (.iaload, 1) := by decide +kernel
theorem dX12_flat_141 : decode cX12_flat 141 = .ok (.iastore, 1) := by decide +kernel
theorem dX12_flat_142 : decode cX12_flat 142 = .ok (.aload_n 0, 1) := by decide +kernel
theorem dX12_flat_143 : decode cX12_flat 143 = .ok (.getfield 70, 3) := by decide +kernel
theorem dX12_flat_146 : decode cX12_flat 146 = .ok (.iload_n 3, 1) := by decide +kernel
theorem dX12_flat_147 : decode cX12_flat 147 = .ok (.aload_n 0, 1) := by decide +kernel
theorem dX12_flat_148 : decode cX12_flat 148 = .ok (.getfield 54, 3) := by decide +kernel
theorem dX12_flat_151 : decode cX12_flat 151 = .ok (.sipush 200, 3) := by decide +kernel
theorem dX12_flat_154 : decode cX12_flat 154 = .ok (.iload_n 1, 1) := by decide +kernel
theorem dX12_flat_155 : decode cX12_flat 155 = .ok (.imul, 1) := by decide +kernel
theorem dX12_flat_156 : decode cX12_flat 156 = .ok (.iload_n 3, 1) := by decide +kernel
theorem dX12_flat_157 : decode cX12_flat 157 = .ok (.iadd, 1) := by decide +kernel
theorem dX12_flat_158 : decode cX12_flat 158 = .ok (.iaload, 1) := by decide +kernel
theorem dX12_flat_159 : decode cX12_flat 159 = .ok (.iastore, 1) := by decide +kernel
theorem dX12_flat_160 : decode cX12_flat 160 = .ok (.aload_n 0, 1) := by decide +kernel
theorem dX12_flat_161 : decode cX12_flat 161 = .ok (.getfield 73, 3) := by decide +kernel
theorem dX12_flat_164 : decode cX12_flat 164 = .ok (.iload_n 3, 1) := by decide +kernel
theorem dX12_flat_165 : decode cX12_flat 165 = .ok (.aload_n 0, 1) := by decide +kernel
theorem dX12_flat_166 : decode cX12_flat 166 = .ok (.getfield 57, 3) := by decide +kernel
theorem dX12_flat_169 : decode cX12_flat 169 = .ok (.sipush 200, 3) := by decide +kernel
theorem dX12_flat_172 : decode cX12_flat 172 = .ok (.iload_n 1, 1) := by decide +kernel
theorem dX12_flat_173 : decode cX12_flat 173 = .ok (.imul, 1) := by decide +kernel
theorem dX12_flat_174 : decode cX12_flat 174 = .ok (.iload_n 3, 1) := by decide +kernel
theorem dX12_flat_175 : decode cX12_flat 175 = .ok (.iadd, 1) := by decide +kernel
theorem dX12_flat_176 : decode cX12_flat 176 = .ok (.iaload, 1) := by decide +kernel
theorem dX12_flat_177 : decode cX12_flat 177 = .ok (.iastore, 1) := by decide +kernel
theorem dX12_flat_178 : decode cX12_flat 178 = .ok (.iinc 3 1, 3) := by decide +kernel
theorem dX12_flat_181 : decode cX12_flat 181 = .ok (.goto (-65), 3) := by decide +kernel
theorem dX12_flat_184 : decode cX12_flat 184 = .ok (.aload_n 0, 1) := by decide +kernel
theorem dX12_flat_185 : decode cX12_flat 185 = .ok (.iconst 1, 1) := by decide +kernel
theorem dX12_flat_186 : decode cX12_flat 186 = .ok (.putfield 304, 3) := by decide +kernel
theorem dX12_flat_189 : decode cX12_flat 189 = .ok (.aload_n 0, 1) := by decide +kernel
theorem dX12_flat_190 : decode cX12_flat 190 = .ok (.iconst 0, 1) := by decide +kernel
theorem dX12_flat_191 : decode cX12_flat 191 = .ok (.putfield 308, 3) := by decide +kernel
theorem dX12_flat_194 : decode cX12_flat 194 = .ok (.aload_n 0, 1) := by decide +kernel
theorem dX12_flat_195 : decode cX12_flat 195 = .ok (.iconst 0, 1) := by decide +kernel
theorem dX12_flat_196 : decode cX12_flat 196 = .ok (.putfield 311, 3) := by decide +kernel
theorem dX12_flat_199 : decode cX12_flat 199 = .ok (.aload_n 0, 1) := by decide +kernel
theorem dX12_flat_200 : decode cX12_flat 200 = .ok (.iconst 0, 1) := by decide +kernel
theorem dX12_flat_201 : decode cX12_flat 201 = .ok (.putfield 314, 3) := by decide +kernel
theorem dX12_flat_204 : decode cX12_flat 204 = .ok (.iload_n 2, 1) := by decide +kernel
theorem dX12_flat_205 : decode cX12_flat 205 = .ok (.ireturn, 1) := by decide +kernel
theorem dX12_areaOf_0 : decode cX12_areaOf 0 = .ok (.iconst 0, 1) := by decide +kernel
theorem dX12_areaOf_1 : decode cX12_areaOf 1 = .ok (.istore_n 2, 1) := by decide +kernel
theorem dX12_areaOf_2 : decode cX12_areaOf 2 = .ok (.iconst 0, 1) := by decide +kernel
theorem dX12_areaOf_3 : decode cX12_areaOf 3 = .ok (.istore_n 3, 1) := by decide +kernel
theorem dX12_areaOf_4 : decode cX12_areaOf 4 = .ok (.iload_n 3, 1) := by decide +kernel
theorem dX12_areaOf_5 : decode cX12_areaOf 5 = .ok (.sipush 4096, 3) := by decide +kernel
theorem dX12_areaOf_8 : decode cX12_areaOf 8 = .ok (.if_icmp .ge 32, 3) := by decide +kernel
theorem dX12_areaOf_11 : decode cX12_areaOf 11 = .ok (.iload_n 2, 1) := by decide +kernel
theorem dX12_areaOf_12 : decode cX12_areaOf 12 = .ok (.aload_n 0, 1) := by decide +kernel
theorem dX12_areaOf_13 : decode cX12_areaOf 13 = .ok (.getfield 64, 3) := by decide +kernel
theorem dX12_areaOf_16 : decode cX12_areaOf 16 = .ok (.sipush 4096, 3) := by decide +kernel
theorem dX12_areaOf_19 : decode cX12_areaOf 19 = .ok (.iload_n 1, 1) := by decide +kernel
theorem dX12_areaOf_20 : decode cX12_areaOf 20 = .ok (.imul, 1) := by decide +kernel
theorem dX12_areaOf_21 : decode cX12_areaOf 21 = .ok (.iload_n 3, 1) := by decide +kernel
theorem dX12_areaOf_22 : decode cX12_areaOf 22 = .ok (.iadd, 1) := by decide +kernel
theorem dX12_areaOf_23 : decode cX12_areaOf 23 = .ok (.baload, 1) := by decide +kernel
theorem dX12_areaOf_24 : decode cX12_areaOf 24 = .ok (.ifCond .eq 7, 3) := by decide +kernel
theorem dX12_areaOf_27 : decode cX12_areaOf 27 = .ok (.iconst 1, 1) := by decide +kernel
theorem dX12_areaOf_28 : decode cX12_areaOf 28 = .ok (.goto 4, 3) := by decide +kernel
theorem dX12_areaOf_31 : decode cX12_areaOf 31 = .ok (.iconst 0, 1) := by decide +kernel
theorem dX12_areaOf_32 : decode cX12_areaOf 32 = .ok (.iadd, 1) := by decide +kernel
theorem dX12_areaOf_33 : decode cX12_areaOf 33 = .ok (.istore_n 2, 1) := by decide +kernel
theorem dX12_areaOf_34 : decode cX12_areaOf 34 = .ok (.iinc 3 1, 3) := by decide +kernel
theorem dX12_areaOf_37 : decode cX12_areaOf 37 = .ok (.goto (-33), 3) := by decide +kernel
theorem dX12_areaOf_40 : decode cX12_areaOf 40 = .ok (.iload_n 2, 1) := by decide +kernel
theorem dX12_areaOf_41 : decode cX12_areaOf 41 = .ok (.ireturn, 1) := by decide +kernel
theorem dX12_area_0 : decode cX12_area 0 = .ok (.iload_n 1, 1) := by decide +kernel
theorem dX12_area_1 : decode cX12_area 1 = .ok (.invokestatic 216, 3) := by decide +kernel
theorem dX12_area_4 : decode cX12_area 4 = .ok (.ifCond .ne 10, 3) := by decide +kernel
theorem dX12_area_7 : decode cX12_area 7 = .ok (.aload_n 0, 1) := by decide +kernel
theorem dX12_area_8 : decode cX12_area 8 = .ok (.bipush (-3), 2) := by decide +kernel
theorem dX12_area_10 : decode cX12_area 10 = .ok (.invokevirtual 191, 3) := by decide +kernel
theorem dX12_area_13 : decode cX12_area 13 = .ok (.ireturn, 1) := by decide +kernel
theorem dX12_area_14 : decode cX12_area 14 = .ok (.aload_n 0, 1) := by decide +kernel
theorem dX12_area_15 : decode cX12_area 15 = .ok (.getfield 304, 3) := by decide +kernel
theorem dX12_area_18 : decode cX12_area 18 = .ok (.ifCond .eq 11, 3) := by decide +kernel
theorem dX12_area_21 : decode cX12_area 21 = .ok (.aload_n 0, 1) := by decide +kernel
theorem dX12_area_22 : decode cX12_area 22 = .ok (.iload_n 1, 1) := by decide +kernel
theorem dX12_area_23 : decode cX12_area 23 = .ok (.invokevirtual 317, 3) := by decide +kernel
theorem dX12_area_26 : decode cX12_area 26 = .ok (.goto 9, 3) := by decide +kernel
theorem dX12_area_29 : decode cX12_area 29 = .ok (.aload_n 0, 1) := by decide +kernel
theorem dX12_area_30 : decode cX12_area 30 = .ok (.bipush (-2), 2) := by decide +kernel
theorem dX12_area_32 : decode cX12_area 32 = .ok (.invokevirtual 191, 3) := by decide +kernel
theorem dX12_area_35 : decode cX12_area 35 = .ok (.ireturn, 1) := by decide +kernel
theorem dX12_covered_0 : decode cX12_covered 0 = .ok (.iload_n 1, 1) := by decide +kernel
theorem dX12_covered_1 : decode cX12_covered 1 = .ok (.invokestatic 216, 3) := by decide +kernel
theorem dX12_covered_4 : decode cX12_covered 4 = .ok (.ifCond .eq 10, 3) := by decide +kernel
theorem dX12_covered_7 : decode cX12_covered 7 = .ok (.iload_n 2, 1) := by decide +kernel
theorem dX12_covered_8 : decode cX12_covered 8 = .ok (.invokestatic 205, 3) := by decide +kernel
theorem dX12_covered_11 : decode cX12_covered 11 = .ok (.ifCond .ne 10, 3) := by decide +kernel
theorem dX12_covered_14 : decode cX12_covered 14 = .ok (.aload_n 0, 1) := by decide +kernel
theorem dX12_covered_15 : decode cX12_covered 15 = .ok (.bipush (-3), 2) := by decide +kernel
theorem dX12_covered_17 : decode cX12_covered 17 = .ok (.invokevirtual 191, 3) := by decide +kernel
theorem dX12_covered_20 : decode cX12_covered 20 = .ok (.ireturn, 1) := by decide +kernel
theorem dX12_covered_21 : decode cX12_covered 21 = .ok (.aload_n 0, 1) := by decide +kernel
theorem dX12_covered_22 : decode cX12_covered 22 = .ok (.getfield 304, 3) := by decide +kernel
theorem dX12_covered_25 : decode cX12_covered 25 = .ok (.ifCond .ne 10, 3) := by decide +kernel
theorem dX12_covered_28 : decode cX12_covered 28 = .ok (.aload_n 0, 1) := by decide +kernel
theorem dX12_covered_29 : decode cX12_covered 29 = .ok (.bipush (-2), 2) := by decide +kernel
theorem dX12_covered_31 : decode cX12_covered 31 = .ok (.invokevirtual 191, 3) := by decide +kernel
theorem dX12_covered_34 : decode cX12_covered 34 = .ok (.ireturn, 1) := by decide +kernel
theorem dX12_covered_35 : decode cX12_covered 35 = .ok (.aload_n 0, 1) := by decide +kernel
theorem dX12_covered_36 : decode cX12_covered 36 = .ok (.getfield 64, 3) := by decide +kernel
theorem dX12_covered_39 : decode cX12_covered 39 = .ok (.sipush 4096, 3) := by decide +kernel
theorem dX12_covered_42 : decode cX12_covered 42 = .ok (.iload_n 1, 1) := by decide +kernel
theorem dX12_covered_43 : decode cX12_covered 43 = .ok (.imul, 1) := by decide +kernel
theorem dX12_covered_44 : decode cX12_covered 44 = .ok (.iload_n 2, 1) := by decide +kernel
theorem dX12_covered_45 : decode cX12_covered 45 = .ok (.iadd, 1) := by decide +kernel
theorem dX12_covered_46 : decode cX12_covered 46 = .ok (.baload, 1) := by decide +kernel
theorem dX12_covered_47 : decode cX12_covered 47 = .ok (.ifCond .eq 7, 3) := by decide +kernel
theorem dX12_covered_50 : decode cX12_covered 50 = .ok (.iconst 1, 1) := by decide +kernel
theorem dX12_covered_51 : decode cX12_covered 51 = .ok (.goto 4, 3) := by decide +kernel
theorem dX12_covered_54 : decode cX12_covered 54 = .ok (.iconst 0, 1) := by decide +kernel
theorem dX12_covered_55 : decode cX12_covered 55 = .ok (.ireturn, 1) := by decide +kernel
theorem dX12_meets_0 : decode cX12_meets 0 = .ok (.aload_n 0, 1) := by decide +kernel
theorem dX12_meets_1 : decode cX12_meets 1 = .ok (.getfield 64, 3) := by decide +kernel
theorem dX12_meets_4 : decode cX12_meets 4 = .ok (.iload_n 1, 1) := by decide +kernel
theorem dX12_meets_5 : decode cX12_meets 5 = .ok (.iload_n 3, 1) := by decide +kernel
theorem dX12_meets_6 : decode cX12_meets 6 = .ok (.iadd, 1) := by decide +kernel
theorem dX12_meets_7 : decode cX12_meets 7 = .ok (.baload, 1) := by decide +kernel
theorem dX12_meets_8 : decode cX12_meets 8 = .ok (.ifCond .eq 27, 3) := by decide +kernel
theorem dX12_meets_11 : decode cX12_meets 11 = .ok (.aload_n 0, 1) := by decide +kernel
theorem dX12_meets_12 : decode cX12_meets 12 = .ok (.getfield 64, 3) := by decide +kernel
theorem dX12_meets_15 : decode cX12_meets 15 = .ok (.sipush 4096, 3) := by decide +kernel
theorem dX12_meets_18 : decode cX12_meets 18 = .ok (.iload_n 2, 1) := by decide +kernel
theorem dX12_meets_19 : decode cX12_meets 19 = .ok (.imul, 1) := by decide +kernel
theorem dX12_meets_20 : decode cX12_meets 20 = .ok (.iload_n 3, 1) := by decide +kernel
theorem dX12_meets_21 : decode cX12_meets 21 = .ok (.iadd, 1) := by decide +kernel
theorem dX12_meets_22 : decode cX12_meets 22 = .ok (.baload, 1) := by decide +kernel
theorem dX12_meets_23 : decode cX12_meets 23 = .ok (.ifCond .eq 12, 3) := by decide +kernel
theorem dX12_meets_26 : decode cX12_meets 26 = .ok (.aload_n 0, 1) := by decide +kernel
theorem dX12_meets_27 : decode cX12_meets 27 = .ok (.getfield 76, 3) := by decide +kernel
theorem dX12_meets_30 : decode cX12_meets 30 = .ok (.iload_n 3, 1) := by decide +kernel
theorem dX12_meets_31 : decode cX12_meets 31 = .ok (.iaload, 1) := by decide +kernel
theorem dX12_meets_32 : decode cX12_meets 32 = .ok (.ifCond .lt 4, 3) := by decide +kernel
theorem dX12_meets_35 : decode cX12_meets 35 = .ok (.return_, 1) := by decide +kernel
theorem dX12_meets_36 : decode cX12_meets 36 = .ok (.aload_n 0, 1) := by decide +kernel
theorem dX12_meets_37 : decode cX12_meets 37 = .ok (.getfield 76, 3) := by decide +kernel
theorem dX12_meets_40 : decode cX12_meets 40 = .ok (.iload_n 3, 1) := by decide +kernel
theorem dX12_meets_41 : decode cX12_meets 41 = .ok (.iload 4, 2) := by decide +kernel
theorem dX12_meets_43 : decode cX12_meets 43 = .ok (.iastore, 1) := by decide +kernel
theorem dX12_meets_44 : decode cX12_meets 44 = .ok (.aload_n 0, 1) := by decide +kernel
theorem dX12_meets_45 : decode cX12_meets 45 = .ok (.getfield 88, 3) := by decide +kernel
theorem dX12_meets_48 : decode cX12_meets 48 = .ok (.aload_n 0, 1) := by decide +kernel
theorem dX12_meets_49 : decode cX12_meets 49 = .ok (.getfield 320, 3) := by decide +kernel
theorem dX12_meets_52 : decode cX12_meets 52 = .ok (.iload_n 3, 1) := by decide +kernel
theorem dX12_meets_53 : decode cX12_meets 53 = .ok (.iastore, 1) := by decide +kernel
theorem dX12_meets_54 : decode cX12_meets 54 = .ok (.aload_n 0, 1) := by decide +kernel
theorem dX12_meets_55 : decode cX12_meets 55 = .ok (.dup, 1) := by decide +kernel
theorem dX12_meets_56 : decode cX12_meets 56 = .ok (.getfield 320, 3) := by decide +kernel
theorem dX12_meets_59 : decode cX12_meets 59 = .ok (.iconst 1, 1) := by decide +kernel
theorem dX12_meets_60 : decode cX12_meets 60 = .ok (.iadd, 1) := by decide +kernel
theorem dX12_meets_61 : decode cX12_meets 61 = .ok (.putfield 320, 3) := by decide +kernel
theorem dX12_meets_64 : decode cX12_meets 64 = .ok (.return_, 1) := by decide +kernel
theorem dX12_findPieces_0 : decode cX12_findPieces 0 = .ok (.iconst 0, 1) := by decide +kernel
theorem dX12_findPieces_1 : decode cX12_findPieces 1 = .ok (.istore_n 3, 1) := by decide +kernel
theorem dX12_findPieces_2 : decode cX12_findPieces 2 = .ok (.iload_n 3, 1) := by decide +kernel
theorem dX12_findPieces_3 : decode cX12_findPieces 3 = .ok (.sipush 4096, 3) := by decide +kernel
theorem dX12_findPieces_6 : decode cX12_findPieces 6 = .ok (.if_icmp .ge 16, 3) := by decide +kernel
theorem dX12_findPieces_9 : decode cX12_findPieces 9 = .ok (.aload_n 0, 1) := by decide +kernel
theorem dX12_findPieces_10 : decode cX12_findPieces 10 = .ok (.getfield 76, 3) := by decide +kernel
theorem dX12_findPieces_13 : decode cX12_findPieces 13 = .ok (.iload_n 3, 1) := by decide +kernel
theorem dX12_findPieces_14 : decode cX12_findPieces 14 = .ok (.iconst (-1), 1) := by decide +kernel
theorem dX12_findPieces_15 : decode cX12_findPieces 15 = .ok (.iastore, 1) := by decide +kernel
theorem dX12_findPieces_16 : decode cX12_findPieces 16 = .ok (.iinc 3 1, 3) := by decide +kernel
theorem dX12_findPieces_19 : decode cX12_findPieces 19 = .ok (.goto (-17), 3) := by decide +kernel
theorem dX12_findPieces_22 : decode cX12_findPieces 22 = .ok (.aload_n 0, 1) := by decide +kernel
theorem dX12_findPieces_23 : decode cX12_findPieces 23 = .ok (.iconst 0, 1) := by decide +kernel
theorem dX12_findPieces_24 : decode cX12_findPieces 24 = .ok (.putfield 291, 3) := by decide +kernel
theorem dX12_findPieces_27 : decode cX12_findPieces 27 = .ok (.iconst 0, 1) := by decide +kernel
theorem dX12_findPieces_28 : decode cX12_findPieces 28 = .ok (.istore_n 3, 1) := by decide +kernel
theorem dX12_findPieces_29 : decode cX12_findPieces 29 = .ok (.iload_n 3, 1) := by decide +kernel
theorem dX12_findPieces_30 : decode cX12_findPieces 30 = .ok (.sipush 4096, 3) := by decide +kernel
theorem dX12_findPieces_33 : decode cX12_findPieces 33 = .ok (.if_icmp .ge 235, 3) := by decide +kernel
theorem dX12_findPieces_36 : decode cX12_findPieces 36 = .ok (.aload_n 0, 1) := by decide +kernel
theorem dX12_findPieces_37 : decode cX12_findPieces 37 = .ok (.getfield 64, 3) := by decide +kernel
theorem dX12_findPieces_40 : decode cX12_findPieces 40 = .ok (.iload_n 1, 1) := by decide +kernel
theorem dX12_findPieces_41 : decode cX12_findPieces 41 = .ok (.iload_n 3, 1) := by decide +kernel
theorem dX12_findPieces_42 : decode cX12_findPieces 42 = .ok (.iadd, 1) := by decide +kernel
theorem dX12_findPieces_43 : decode cX12_findPieces 43 = .ok (.baload, 1) := by decide +kernel
theorem dX12_findPieces_44 : decode cX12_findPieces 44 = .ok (.ifCond .eq 218, 3) := by decide +kernel
theorem dX12_findPieces_47 : decode cX12_findPieces 47 = .ok (.aload_n 0, 1) := by decide +kernel
theorem dX12_findPieces_48 : decode cX12_findPieces 48 = .ok (.getfield 64, 3) := by decide +kernel
theorem dX12_findPieces_51 : decode cX12_findPieces 51 = .ok (.sipush 4096, 3) := by decide +kernel
theorem dX12_findPieces_54 : decode cX12_findPieces 54 = .ok (.iload_n 2, 1) := by decide +kernel
theorem dX12_findPieces_55 : decode cX12_findPieces 55 = .ok (.imul, 1) := by decide +kernel
theorem dX12_findPieces_56 : decode cX12_findPieces 56 = .ok (.iload_n 3, 1) := by decide +kernel
theorem dX12_findPieces_57 : decode cX12_findPieces 57 = .ok (.iadd, 1) := by decide +kernel
theorem dX12_findPieces_58 : decode cX12_findPieces 58 = .ok (.baload, 1) := by decide +kernel
theorem dX12_findPieces_59 : decode cX12_findPieces 59 = .ok (.ifCond .eq 203, 3) := by decide +kernel
theorem dX12_findPieces_62 : decode cX12_findPieces 62 = .ok (.aload_n 0, 1) := by decide +kernel
theorem dX12_findPieces_63 : decode cX12_findPieces 63 = .ok (.getfield 76, 3) := by decide +kernel
theorem dX12_findPieces_66 : decode cX12_findPieces 66 = .ok (.iload_n 3, 1) := by decide +kernel
theorem dX12_findPieces_67 : decode cX12_findPieces 67 = .ok (.iaload, 1) := by decide +kernel
theorem dX12_findPieces_68 : decode cX12_findPieces 68 = .ok (.ifCond .lt 6, 3) := by decide +kernel
theorem dX12_findPieces_71 : decode cX12_findPieces 71 = .ok (.goto 191, 3) := by decide +kernel
theorem dX12_findPieces_74 : decode cX12_findPieces 74 = .ok (.aload_n 0, 1) := by decide +kernel
theorem dX12_findPieces_75 : decode cX12_findPieces 75 = .ok (.getfield 291, 3) := by decide +kernel
theorem dX12_findPieces_78 : decode cX12_findPieces 78 = .ok (.istore 4, 2) := by decide +kernel
theorem dX12_findPieces_80 : decode cX12_findPieces 80 = .ok (.aload_n 0, 1) := by decide +kernel
theorem dX12_findPieces_81 : decode cX12_findPieces 81 = .ok (.dup, 1) := by decide +kernel
theorem dX12_findPieces_82 : decode cX12_findPieces 82 = .ok (.getfield 291, 3) := by decide +kernel
theorem dX12_findPieces_85 : decode cX12_findPieces 85 = .ok (.iconst 1, 1) := by decide +kernel
theorem dX12_findPieces_86 : decode cX12_findPieces 86 = .ok (.iadd, 1) := by decide +kernel
theorem dX12_findPieces_87 : decode cX12_findPieces 87 = .ok (.putfield 291, 3) := by decide +kernel
theorem dX12_findPieces_90 : decode cX12_findPieces 90 = .ok (.aload_n 0, 1) := by decide +kernel
theorem dX12_findPieces_91 : decode cX12_findPieces 91 = .ok (.iconst 0, 1) := by decide +kernel
theorem dX12_findPieces_92 : decode cX12_findPieces 92 = .ok (.putfield 320, 3) := by decide +kernel
theorem dX12_findPieces_95 : decode cX12_findPieces 95 = .ok (.aload_n 0, 1) := by decide +kernel
theorem dX12_findPieces_96 : decode cX12_findPieces 96 = .ok (.getfield 85, 3) := by decide +kernel
theorem dX12_findPieces_99 : decode cX12_findPieces 99 = .ok (.iload 4, 2) := by decide +kernel
theorem dX12_findPieces_101 : decode cX12_findPieces 101 = .ok (.iload_n 3, 1) := by decide +kernel
theorem dX12_findPieces_102 : decode cX12_findPieces 102 = .ok (.iastore, 1) := by decide +kernel
theorem dX12_findPieces_103 : decode cX12_findPieces 103 = .ok (.aload_n 0, 1) := by decide +kernel
theorem dX12_findPieces_104 : decode cX12_findPieces 104 = .ok (.getfield 82, 3) := by decide +kernel
theorem dX12_findPieces_107 : decode cX12_findPieces 107 = .ok (.iload 4, 2) := by decide +kernel
theorem dX12_findPieces_109 : decode cX12_findPieces 109 = .ok (.iload_n 3, 1) := by decide +kernel
theorem dX12_findPieces_110 : decode cX12_findPieces 110 = .ok (.iastore, 1) := by decide +kernel
theorem dX12_findPieces_111 : decode cX12_findPieces 111 = .ok (.aload_n 0, 1) := by decide +kernel
theorem dX12_findPieces_112 : decode cX12_findPieces 112 = .ok (.iload_n 1, 1) := by decide +kernel
theorem dX12_findPieces_113 : decode cX12_findPieces 113 = .ok (.iload_n 2, 1) := by decide +kernel
theorem dX12_findPieces_114 : decode cX12_findPieces 114 = .ok (.iload_n 3, 1) := by decide +kernel
theorem dX12_findPieces_115 : decode cX12_findPieces 115 = .ok (.iload 4, 2) := by decide +kernel
theorem dX12_findPieces_117 : decode cX12_findPieces 117 = .ok (.invokevirtual 323, 3) := by decide +kernel
theorem dX12_findPieces_120 : decode cX12_findPieces 120 = .ok (.iconst 0, 1) := by decide +kernel
theorem dX12_findPieces_121 : decode cX12_findPieces 121 = .ok (.istore 5, 2) := by decide +kernel
theorem dX12_findPieces_123 : decode cX12_findPieces 123 = .ok (.iload 5, 2) := by decide +kernel
theorem dX12_findPieces_125 : decode cX12_findPieces 125 = .ok (.aload_n 0, 1) := by decide +kernel
theorem dX12_findPieces_126 : decode cX12_findPieces 126 = .ok (.getfield 320, 3) := by decide +kernel
theorem dX12_findPieces_129 : decode cX12_findPieces 129 = .ok (.if_icmp .ge 122, 3) := by decide +kernel
theorem dX12_findPieces_132 : decode cX12_findPieces 132 = .ok (.aload_n 0, 1) := by decide +kernel
theorem dX12_findPieces_133 : decode cX12_findPieces 133 = .ok (.getfield 88, 3) := by decide +kernel
theorem dX12_findPieces_136 : decode cX12_findPieces 136 = .ok (.iload 5, 2) := by decide +kernel
theorem dX12_findPieces_138 : decode cX12_findPieces 138 = .ok (.iaload, 1) := by decide +kernel
theorem dX12_findPieces_139 : decode cX12_findPieces 139 = .ok (.istore 6, 2) := by decide +kernel
theorem dX12_findPieces_141 : decode cX12_findPieces 141 = .ok (.iload 6, 2) := by decide +kernel
theorem dX12_findPieces_143 : decode cX12_findPieces 143 = .ok (.aload_n 0, 1) := by decide +kernel
theorem dX12_findPieces_144 : decode cX12_findPieces 144 = .ok (.getfield 82, 3) := by decide +kernel
theorem dX12_findPieces_147 : decode cX12_findPieces 147 = .ok (.iload 4, 2) := by decide +kernel
theorem dX12_findPieces_149 : decode cX12_findPieces 149 = .ok (.iaload, 1) := by decide +kernel
theorem dX12_findPieces_150 : decode cX12_findPieces 150 = .ok (.if_icmp .le 12, 3) := by decide +kernel
theorem dX12_findPieces_153 : decode cX12_findPieces 153 = .ok (.aload_n 0, 1) := by decide +kernel
theorem dX12_findPieces_154 : decode cX12_findPieces 154 = .ok (.getfield 82, 3) := by decide +kernel
theorem dX12_findPieces_157 : decode cX12_findPieces 157 = .ok (.iload 4, 2) := by decide +kernel
theorem dX12_findPieces_159 : decode cX12_findPieces 159 = .ok (.iload 6, 2) := by decide +kernel
theorem dX12_findPieces_161 : decode cX12_findPieces 161 = .ok (.iastore, 1) := by decide +kernel
theorem dX12_findPieces_162 : decode cX12_findPieces 162 = .ok (.iload 6, 2) := by decide +kernel
theorem dX12_findPieces_164 : decode cX12_findPieces 164 = .ok (.bipush 64, 2) := by decide +kernel
theorem dX12_findPieces_166 : decode cX12_findPieces 166 = .ok (.irem, 1) := by decide +kernel
theorem dX12_findPieces_167 : decode cX12_findPieces 167 = .ok (.ifCond .le 15, 3) := by decide +kernel
theorem dX12_findPieces_170 : decode cX12_findPieces 170 = .ok (.aload_n 0, 1) := by decide +kernel
theorem dX12_findPieces_171 : decode cX12_findPieces 171 = .ok (.iload_n 1, 1) := by decide +kernel
theorem dX12_findPieces_172 : decode cX12_findPieces 172 = .ok (.iload_n 2, 1) := by decide +kernel
theorem dX12_findPieces_173 : decode cX12_findPieces 173 = .ok (.iload 6, 2) := by decide +kernel
theorem dX12_findPieces_175 : decode cX12_findPieces 175 = .ok (.iconst 1, 1) := by decide +kernel
theorem dX12_findPieces_176 : decode cX12_findPieces 176 = .ok (.isub, 1) := by decide +kernel
theorem dX12_findPieces_177 : decode cX12_findPieces 177 = .ok (.iload 4, 2) := by decide +kernel
theorem dX12_findPieces_179 : decode cX12_findPieces 179 = .ok (.invokevirtual 323, 3) := by decide +kernel
theorem dX12_findPieces_182 : decode cX12_findPieces 182 = .ok (.iload 6, 2) := by decide +kernel
theorem dX12_findPieces_184 : decode cX12_findPieces 184 = .ok (.bipush 64, 2) := by decide +kernel
theorem dX12_findPieces_186 : decode cX12_findPieces 186 = .ok (.irem, 1) := by decide +kernel
theorem dX12_findPieces_187 : decode cX12_findPieces 187 = .ok (.bipush 63, 2) := by decide +kernel
theorem dX12_findPieces_189 : decode cX12_findPieces 189 = .ok (.if_icmp .ge 15, 3) := by decide +kernel
theorem dX12_findPieces_192 : decode cX12_findPieces 192 = .ok (.aload_n 0, 1) := by decide +kernel
theorem dX12_findPieces_193 : decode cX12_findPieces 193 = .ok (.iload_n 1, 1) := by decide +kernel
theorem dX12_findPieces_194 : decode cX12_findPieces 194 = .ok (.iload_n 2, 1) := by decide +kernel
theorem dX12_findPieces_195 : decode cX12_findPieces 195 = .ok (.iload 6, 2) := by decide +kernel
theorem dX12_findPieces_197 : decode cX12_findPieces 197 = .ok (.iconst 1, 1) := by decide +kernel
theorem dX12_findPieces_198 : decode cX12_findPieces 198 = .ok (.iadd, 1) := by decide +kernel
theorem dX12_findPieces_199 : decode cX12_findPieces 199 = .ok (.iload 4, 2) := by decide +kernel
theorem dX12_findPieces_201 : decode cX12_findPieces 201 = .ok (.invokevirtual 323, 3) := by decide +kernel
theorem dX12_findPieces_204 : decode cX12_findPieces 204 = .ok (.iload 6, 2) := by decide +kernel
theorem dX12_findPieces_206 : decode cX12_findPieces 206 = .ok (.bipush 64, 2) := by decide +kernel
theorem dX12_findPieces_208 : decode cX12_findPieces 208 = .ok (.if_icmp .lt 16, 3) := by decide +kernel
theorem dX12_findPieces_211 : decode cX12_findPieces 211 = .ok (.aload_n 0, 1) := by decide +kernel
theorem dX12_findPieces_212 : decode cX12_findPieces 212 = .ok (.iload_n 1, 1) := by decide +kernel
theorem dX12_findPieces_213 : decode cX12_findPieces 213 = .ok (.iload_n 2, 1) := by decide +kernel
theorem dX12_findPieces_214 : decode cX12_findPieces 214 = .ok (.iload 6, 2) := by decide +kernel
theorem dX12_findPieces_216 : decode cX12_findPieces 216 = .ok (.bipush 64, 2) := by decide +kernel
theorem dX12_findPieces_218 : decode cX12_findPieces 218 = .ok (.isub, 1) := by decide +kernel
theorem dX12_findPieces_219 : decode cX12_findPieces 219 = .ok (.iload 4, 2) := by decide +kernel
theorem dX12_findPieces_221 : decode cX12_findPieces 221 = .ok (.invokevirtual 323, 3) := by decide +kernel
theorem dX12_findPieces_224 : decode cX12_findPieces 224 = .ok (.iload 6, 2) := by decide +kernel
theorem dX12_findPieces_226 : decode cX12_findPieces 226 = .ok (.sipush 4032, 3) := by decide +kernel
theorem dX12_findPieces_229 : decode cX12_findPieces 229 = .ok (.if_icmp .ge 16, 3) := by decide +kernel
theorem dX12_findPieces_232 : decode cX12_findPieces 232 = .ok (.aload_n 0, 1) := by decide +kernel
theorem dX12_findPieces_233 : decode cX12_findPieces 233 = .ok (.iload_n 1, 1) := by decide +kernel
theorem dX12_findPieces_234 : decode cX12_findPieces 234 = .ok (.iload_n 2, 1) := by decide +kernel
theorem dX12_findPieces_235 : decode cX12_findPieces 235 = .ok (.iload 6, 2) := by decide +kernel
theorem dX12_findPieces_237 : decode cX12_findPieces 237 = .ok (.bipush 64, 2) := by decide +kernel
theorem dX12_findPieces_239 : decode cX12_findPieces 239 = .ok (.iadd, 1) := by decide +kernel
theorem dX12_findPieces_240 : decode cX12_findPieces 240 = .ok (.iload 4, 2) := by decide +kernel
theorem dX12_findPieces_242 : decode cX12_findPieces 242 = .ok (.invokevirtual 323, 3) := by decide +kernel
theorem dX12_findPieces_245 : decode cX12_findPieces 245 = .ok (.iinc 5 1, 3) := by decide +kernel
theorem dX12_findPieces_248 : decode cX12_findPieces 248 = .ok (.goto (-125), 3) := by decide +kernel
theorem dX12_findPieces_251 : decode cX12_findPieces 251 = .ok (.aload_n 0, 1) := by decide +kernel
theorem dX12_findPieces_252 : decode cX12_findPieces 252 = .ok (.getfield 79, 3) := by decide +kernel
theorem dX12_findPieces_255 : decode cX12_findPieces 255 = .ok (.iload 4, 2) := by decide +kernel
theorem dX12_findPieces_257 : decode cX12_findPieces 257 = .ok (.aload_n 0, 1) := by decide +kernel
theorem dX12_findPieces_258 : decode cX12_findPieces 258 = .ok (.getfield 320, 3) := by decide +kernel
theorem dX12_findPieces_261 : decode cX12_findPieces 261 = .ok (.iastore, 1) := by decide +kernel
theorem dX12_findPieces_262 : decode cX12_findPieces 262 = .ok (.iinc 3 1, 3) := by decide +kernel
theorem dX12_findPieces_265 : decode cX12_findPieces 265 = .ok (.goto (-236), 3) := by decide +kernel
theorem dX12_findPieces_268 : decode cX12_findPieces 268 = .ok (.return_, 1) := by decide +kernel
theorem dX12_pieces_0 : decode cX12_pieces 0 = .ok (.iload_n 1, 1) := by decide +kernel
theorem dX12_pieces_1 : decode cX12_pieces 1 = .ok (.invokestatic 216, 3) := by decide +kernel
theorem dX12_pieces_4 : decode cX12_pieces 4 = .ok (.ifCond .ne 10, 3) := by decide +kernel
theorem dX12_pieces_7 : decode cX12_pieces 7 = .ok (.aload_n 0, 1) := by decide +kernel
theorem dX12_pieces_8 : decode cX12_pieces 8 = .ok (.bipush (-3), 2) := by decide +kernel
theorem dX12_pieces_10 : decode cX12_pieces 10 = .ok (.invokevirtual 191, 3) := by decide +kernel
theorem dX12_pieces_13 : decode cX12_pieces 13 = .ok (.ireturn, 1) := by decide +kernel
theorem dX12_pieces_14 : decode cX12_pieces 14 = .ok (.aload_n 0, 1) := by decide +kernel
theorem dX12_pieces_15 : decode cX12_pieces 15 = .ok (.getfield 304, 3) := by decide +kernel
theorem dX12_pieces_18 : decode cX12_pieces 18 = .ok (.ifCond .ne 10, 3) := by decide +kernel
theorem dX12_pieces_21 : decode cX12_pieces 21 = .ok (.aload_n 0, 1) := by decide +kernel
theorem dX12_pieces_22 : decode cX12_pieces 22 = .ok (.bipush (-2), 2) := by decide +kernel
theorem dX12_pieces_24 : decode cX12_pieces 24 = .ok (.invokevirtual 191, 3) := by decide +kernel
theorem dX12_pieces_27 : decode cX12_pieces 27 = .ok (.ireturn, 1) := by decide +kernel
theorem dX12_pieces_28 : decode cX12_pieces 28 = .ok (.aload_n 0, 1) := by decide +kernel
theorem dX12_pieces_29 : decode cX12_pieces 29 = .ok (.sipush 4096, 3) := by decide +kernel
theorem dX12_pieces_32 : decode cX12_pieces 32 = .ok (.iload_n 1, 1) := by decide +kernel
theorem dX12_pieces_33 : decode cX12_pieces 33 = .ok (.imul, 1) := by decide +kernel
theorem dX12_pieces_34 : decode cX12_pieces 34 = .ok (.iload_n 1, 1) := by decide +kernel
theorem dX12_pieces_35 : decode cX12_pieces 35 = .ok (.invokevirtual 281, 3) := by decide +kernel
theorem dX12_pieces_38 : decode cX12_pieces 38 = .ok (.iload_n 2, 1) := by decide +kernel
theorem dX12_pieces_39 : decode cX12_pieces 39 = .ok (.iconst (-1), 1) := by decide +kernel
theorem dX12_pieces_40 : decode cX12_pieces 40 = .ok (.if_icmp .ne 8, 3) := by decide +kernel
theorem dX12_pieces_43 : decode cX12_pieces 43 = .ok (.aload_n 0, 1) := by decide +kernel
theorem dX12_pieces_44 : decode cX12_pieces 44 = .ok (.getfield 291, 3) := by decide +kernel
theorem dX12_pieces_47 : decode cX12_pieces 47 = .ok (.ireturn, 1) := by decide +kernel
theorem dX12_pieces_48 : decode cX12_pieces 48 = .ok (.iload_n 2, 1) := by decide +kernel
theorem dX12_pieces_49 : decode cX12_pieces 49 = .ok (.i2l, 1) := by decide +kernel
theorem dX12_pieces_50 : decode cX12_pieces 50 = .ok (.lconst 0, 1) := by decide +kernel
theorem dX12_pieces_51 : decode cX12_pieces 51 = .ok (.aload_n 0, 1) := by decide +kernel
theorem dX12_pieces_52 : decode cX12_pieces 52 = .ok (.getfield 291, 3) := by decide +kernel
theorem dX12_pieces_55 : decode cX12_pieces 55 = .ok (.iconst 1, 1) := by decide +kernel
theorem dX12_pieces_56 : decode cX12_pieces 56 = .ok (.isub, 1) := by decide +kernel
theorem dX12_pieces_57 : decode cX12_pieces 57 = .ok (.i2l, 1) := by decide +kernel
theorem dX12_pieces_58 : decode cX12_pieces 58 = .ok (.invokestatic 201, 3) := by decide +kernel
theorem dX12_pieces_61 : decode cX12_pieces 61 = .ok (.ifCond .eq 12, 3) := by decide +kernel
theorem dX12_pieces_64 : decode cX12_pieces 64 = .ok (.aload_n 0, 1) := by decide +kernel
theorem dX12_pieces_65 : decode cX12_pieces 65 = .ok (.getfield 79, 3) := by decide +kernel
theorem dX12_pieces_68 : decode cX12_pieces 68 = .ok (.iload_n 2, 1) := by decide +kernel
theorem dX12_pieces_69 : decode cX12_pieces 69 = .ok (.iaload, 1) := by decide +kernel
theorem dX12_pieces_70 : decode cX12_pieces 70 = .ok (.goto 9, 3) := by decide +kernel
theorem dX12_pieces_73 : decode cX12_pieces 73 = .ok (.aload_n 0, 1) := by decide +kernel
theorem dX12_pieces_74 : decode cX12_pieces 74 = .ok (.bipush (-3), 2) := by decide +kernel
theorem dX12_pieces_76 : decode cX12_pieces 76 = .ok (.invokevirtual 191, 3) := by decide +kernel
theorem dX12_pieces_79 : decode cX12_pieces 79 = .ok (.ireturn, 1) := by decide +kernel
theorem dX12_rule_0 : decode cX12_rule 0 = .ok (.iload_n 1, 1) := by decide +kernel
theorem dX12_rule_1 : decode cX12_rule 1 = .ok (.i2l, 1) := by decide +kernel
theorem dX12_rule_2 : decode cX12_rule 2 = .ok (.lconst 0, 1) := by decide +kernel
theorem dX12_rule_3 : decode cX12_rule 3 = .ok (.ldc2_w 223, 3) := by decide +kernel
theorem dX12_rule_6 : decode cX12_rule 6 = .ok (.invokestatic 201, 3) := by decide +kernel
theorem dX12_rule_9 : decode cX12_rule 9 = .ok (.ifCond .ne 10, 3) := by decide +kernel
theorem dX12_rule_12 : decode cX12_rule 12 = .ok (.aload_n 0, 1) := by decide +kernel
theorem dX12_rule_13 : decode cX12_rule 13 = .ok (.bipush (-7), 2) := by decide +kernel
theorem dX12_rule_15 : decode cX12_rule 15 = .ok (.invokevirtual 191, 3) := by decide +kernel
theorem dX12_rule_18 : decode cX12_rule 18 = .ok (.ireturn, 1) := by decide +kernel
theorem dX12_rule_19 : decode cX12_rule 19 = .ok (.iload_n 2, 1) := by decide +kernel
theorem dX12_rule_20 : decode cX12_rule 20 = .ok (.invokestatic 216, 3) := by decide +kernel
theorem dX12_rule_23 : decode cX12_rule 23 = .ok (.ifCond .eq 15, 3) := by decide +kernel
theorem dX12_rule_26 : decode cX12_rule 26 = .ok (.iload_n 1, 1) := by decide +kernel
theorem dX12_rule_27 : decode cX12_rule 27 = .ok (.iconst 2, 1) := by decide +kernel
theorem dX12_rule_28 : decode cX12_rule 28 = .ok (.if_icmp .ne 17, 3) := by decide +kernel
theorem dX12_rule_31 : decode cX12_rule 31 = .ok (.iload_n 3, 1) := by decide +kernel
theorem dX12_rule_32 : decode cX12_rule 32 = .ok (.invokestatic 216, 3) := by decide +kernel
theorem dX12_rule_35 : decode cX12_rule 35 = .ok (.ifCond .ne 10, 3) := by decide +kernel
theorem dX12_rule_38 : decode cX12_rule 38 = .ok (.aload_n 0, 1) := by decide +kernel
theorem dX12_rule_39 : decode cX12_rule 39 = .ok (.bipush (-3), 2) := by decide +kernel
theorem dX12_rule_41 : decode cX12_rule 41 = .ok (.invokevirtual 191, 3) := by decide +kernel
theorem dX12_rule_44 : decode cX12_rule 44 = .ok (.ireturn, 1) := by decide +kernel
theorem dX12_rule_45 : decode cX12_rule 45 = .ok (.iload 4, 2) := by decide +kernel
theorem dX12_rule_47 : decode cX12_rule 47 = .ok (.i2l, 1) := by decide +kernel
theorem dX12_rule_48 : decode cX12_rule 48 = .ok (.lconst 0, 1) := by decide +kernel
theorem dX12_rule_49 : decode cX12_rule 49 = .ok (.iload_n 1, 1) := by decide +kernel
theorem dX12_rule_50 : decode cX12_rule 50 = .ok (.iconst 2, 1) := by decide +kernel
theorem dX12_rule_51 : decode cX12_rule 51 = .ok (.if_icmp .ge 9, 3) := by decide +kernel
theorem dX12_rule_54 : decode cX12_rule 54 = .ok (.ldc2_w 208, 3) := by decide +kernel
theorem dX12_rule_57 : decode cX12_rule 57 = .ok (.goto 17, 3) := by decide +kernel
theorem dX12_rule_60 : decode cX12_rule 60 = .ok (.iload_n 1, 1) := by decide +kernel
theorem dX12_rule_61 : decode cX12_rule 61 = .ok (.iconst 2, 1) := by decide +kernel
theorem dX12_rule_62 : decode cX12_rule 62 = .ok (.if_icmp .ne 9, 3) := by decide +kernel
theorem dX12_rule_65 : decode cX12_rule 65 = .ok (.ldc2_w 214, 3) := by decide +kernel
theorem dX12_rule_68 : decode cX12_rule 68 = .ok (.goto 6, 3) := by decide +kernel
theorem dX12_rule_71 : decode cX12_rule 71 = .ok (.ldc2_w 326, 3) := by decide +kernel
theorem dX12_rule_74 : decode cX12_rule 74 = .ok (.invokestatic 201, 3) := by decide +kernel
theorem dX12_rule_77 : decode cX12_rule 77 = .ok (.ifCond .ne 10, 3) := by decide +kernel
theorem dX12_rule_80 : decode cX12_rule 80 = .ok (.aload_n 0, 1) := by decide +kernel
theorem dX12_rule_81 : decode cX12_rule 81 = .ok (.bipush (-7), 2) := by decide +kernel
theorem dX12_rule_83 : decode cX12_rule 83 = .ok (.invokevirtual 191, 3) := by decide +kernel
theorem dX12_rule_86 : decode cX12_rule 86 = .ok (.ireturn, 1) := by decide +kernel
theorem dX12_rule_87 : decode cX12_rule 87 = .ok (.aload_n 0, 1) := by decide +kernel
theorem dX12_rule_88 : decode cX12_rule 88 = .ok (.getfield 328, 3) := by decide +kernel
theorem dX12_rule_91 : decode cX12_rule 91 = .ok (.bipush 16, 2) := by decide +kernel
theorem dX12_rule_93 : decode cX12_rule 93 = .ok (.if_icmp .ne 10, 3) := by decide +kernel
theorem dX12_rule_96 : decode cX12_rule 96 = .ok (.aload_n 0, 1) := by decide +kernel
theorem dX12_rule_97 : decode cX12_rule 97 = .ok (.bipush (-8), 2) := by decide +kernel
theorem dX12_rule_99 : decode cX12_rule 99 = .ok (.invokevirtual 191, 3) := by decide +kernel
theorem dX12_rule_102 : decode cX12_rule 102 = .ok (.ireturn, 1) := by decide +kernel
theorem dX12_rule_103 : decode cX12_rule 103 = .ok (.aload_n 0, 1) := by decide +kernel
theorem dX12_rule_104 : decode cX12_rule 104 = .ok (.getfield 94, 3) := by decide +kernel
theorem dX12_rule_107 : decode cX12_rule 107 = .ok (.aload_n 0, 1) := by decide +kernel
theorem dX12_rule_108 : decode cX12_rule 108 = .ok (.getfield 328, 3) := by decide +kernel
theorem dX12_rule_111 : decode cX12_rule 111 = .ok (.iload_n 1, 1) := by decide +kernel
theorem dX12_rule_112 : decode cX12_rule 112 = .ok (.iastore, 1) := by decide +kernel
theorem dX12_rule_113 : decode cX12_rule 113 = .ok (.aload_n 0, 1) := by decide +kernel
theorem dX12_rule_114 : decode cX12_rule 114 = .ok (.getfield 97, 3) := by decide +kernel
theorem dX12_rule_117 : decode cX12_rule 117 = .ok (.aload_n 0, 1) := by decide +kernel
theorem dX12_rule_118 : decode cX12_rule 118 = .ok (.getfield 328, 3) := by decide +kernel
theorem dX12_rule_121 : decode cX12_rule 121 = .ok (.iload_n 2, 1) := by decide +kernel
theorem dX12_rule_122 : decode cX12_rule 122 = .ok (.iastore, 1) := by decide +kernel
theorem dX12_rule_123 : decode cX12_rule 123 = .ok (.aload_n 0, 1) := by decide +kernel
theorem dX12_rule_124 : decode cX12_rule 124 = .ok (.getfield 100, 3) := by decide +kernel
theorem dX12_rule_127 : decode cX12_rule 127 = .ok (.aload_n 0, 1) := by decide +kernel
theorem dX12_rule_128 : decode cX12_rule 128 = .ok (.getfield 328, 3) := by decide +kernel
theorem dX12_rule_131 : decode cX12_rule 131 = .ok (.iload_n 3, 1) := by decide +kernel
theorem dX12_rule_132 : decode cX12_rule 132 = .ok (.iastore, 1) := by decide +kernel
theorem dX12_rule_133 : decode cX12_rule 133 = .ok (.aload_n 0, 1) := by decide +kernel
theorem dX12_rule_134 : decode cX12_rule 134 = .ok (.getfield 103, 3) := by decide +kernel
theorem dX12_rule_137 : decode cX12_rule 137 = .ok (.aload_n 0, 1) := by decide +kernel
theorem dX12_rule_138 : decode cX12_rule 138 = .ok (.getfield 328, 3) := by decide +kernel
theorem dX12_rule_141 : decode cX12_rule 141 = .ok (.iload 4, 2) := by decide +kernel
theorem dX12_rule_143 : decode cX12_rule 143 = .ok (.iastore, 1) := by decide +kernel
theorem dX12_rule_144 : decode cX12_rule 144 = .ok (.aload_n 0, 1) := by decide +kernel
theorem dX12_rule_145 : decode cX12_rule 145 = .ok (.dup, 1) := by decide +kernel
theorem dX12_rule_146 : decode cX12_rule 146 = .ok (.getfield 328, 3) := by decide +kernel
theorem dX12_rule_149 : decode cX12_rule 149 = .ok (.iconst 1, 1) := by decide +kernel
theorem dX12_rule_150 : decode cX12_rule 150 = .ok (.iadd, 1) := by decide +kernel
theorem dX12_rule_151 : decode cX12_rule 151 = .ok (.putfield 328, 3) := by decide +kernel
theorem dX12_rule_154 : decode cX12_rule 154 = .ok (.aload_n 0, 1) := by decide +kernel
theorem dX12_rule_155 : decode cX12_rule 155 = .ok (.getfield 328, 3) := by decide +kernel
theorem dX12_rule_158 : decode cX12_rule 158 = .ok (.iconst 1, 1) := by decide +kernel
theorem dX12_rule_159 : decode cX12_rule 159 = .ok (.isub, 1) := by decide +kernel
theorem dX12_rule_160 : decode cX12_rule 160 = .ok (.ireturn, 1) := by decide +kernel
theorem dX12_fault_0 : decode cX12_fault 0 = .ok (.aload_n 0, 1) := by decide +kernel
theorem dX12_fault_1 : decode cX12_fault 1 = .ok (.getfield 331, 3) := by decide +kernel
theorem dX12_fault_4 : decode cX12_fault 4 = .ok (.sipush 600, 3) := by decide +kernel
theorem dX12_fault_7 : decode cX12_fault 7 = .ok (.if_icmp .ge 44, 3) := by decide +kernel
theorem dX12_fault_10 : decode cX12_fault 10 = .ok (.aload_n 0, 1) := by decide +kernel
theorem dX12_fault_11 : decode cX12_fault 11 = .ok (.getfield 106, 3) := by decide +kernel
theorem dX12_fault_14 : decode cX12_fault 14 = .ok (.aload_n 0, 1) := by decide +kernel
theorem dX12_fault_15 : decode cX12_fault 15 = .ok (.getfield 331, 3) := by decide +kernel
theorem dX12_fault_18 : decode cX12_fault 18 = .ok (.iload_n 1, 1) := by decide +kernel
theorem dX12_fault_19 : decode cX12_fault 19 = .ok (.iastore, 1) := by decide +kernel
theorem dX12_fault_20 : decode cX12_fault 20 = .ok (.aload_n 0, 1) := by decide +kernel
theorem dX12_fault_21 : decode cX12_fault 21 = .ok (.getfield 109, 3) := by decide +kernel
theorem dX12_fault_24 : decode cX12_fault 24 = .ok (.aload_n 0, 1) := by decide +kernel
theorem dX12_fault_25 : decode cX12_fault 25 = .ok (.getfield 331, 3) := by decide +kernel
theorem dX12_fault_28 : decode cX12_fault 28 = .ok (.iload_n 2, 1) := by decide +kernel
theorem dX12_fault_29 : decode cX12_fault 29 = .ok (.iastore, 1) := by decide +kernel
theorem dX12_fault_30 : decode cX12_fault 30 = .ok (.aload_n 0, 1) := by decide +kernel
theorem dX12_fault_31 : decode cX12_fault 31 = .ok (.getfield 112, 3) := by decide +kernel
theorem dX12_fault_34 : decode cX12_fault 34 = .ok (.aload_n 0, 1) := by decide +kernel
theorem dX12_fault_35 : decode cX12_fault 35 = .ok (.getfield 331, 3) := by decide +kernel
theorem dX12_fault_38 : decode cX12_fault 38 = .ok (.iload_n 3, 1) := by decide +kernel
theorem dX12_fault_39 : decode cX12_fault 39 = .ok (.iastore, 1) := by decide +kernel
theorem dX12_fault_40 : decode cX12_fault 40 = .ok (.aload_n 0, 1) := by decide +kernel
theorem dX12_fault_41 : decode cX12_fault 41 = .ok (.getfield 115, 3) := by decide +kernel
theorem dX12_fault_44 : decode cX12_fault 44 = .ok (.aload_n 0, 1) := by decide +kernel
theorem dX12_fault_45 : decode cX12_fault 45 = .ok (.getfield 331, 3) := by decide +kernel
theorem dX12_fault_48 : decode cX12_fault 48 = .ok (.iload 4, 2) := by decide +kernel
theorem dX12_fault_50 : decode cX12_fault 50 = .ok (.iastore, 1) := by decide +kernel
theorem dX12_fault_51 : decode cX12_fault 51 = .ok (.aload_n 0, 1) := by decide +kernel
theorem dX12_fault_52 : decode cX12_fault 52 = .ok (.dup, 1) := by decide +kernel
theorem dX12_fault_53 : decode cX12_fault 53 = .ok (.getfield 331, 3) := by decide +kernel
theorem dX12_fault_56 : decode cX12_fault 56 = .ok (.iconst 1, 1) := by decide +kernel
theorem dX12_fault_57 : decode cX12_fault 57 = .ok (.iadd, 1) := by decide +kernel
theorem dX12_fault_58 : decode cX12_fault 58 = .ok (.putfield 331, 3) := by decide +kernel
theorem dX12_fault_61 : decode cX12_fault 61 = .ok (.aload_n 0, 1) := by decide +kernel
theorem dX12_fault_62 : decode cX12_fault 62 = .ok (.getfield 118, 3) := by decide +kernel
theorem dX12_fault_65 : decode cX12_fault 65 = .ok (.iload_n 1, 1) := by decide +kernel
theorem dX12_fault_66 : decode cX12_fault 66 = .ok (.iaload, 1) := by decide +kernel
theorem dX12_fault_67 : decode cX12_fault 67 = .ok (.ifCond .eq 14, 3) := by decide +kernel
theorem dX12_fault_70 : decode cX12_fault 70 = .ok (.iload 4, 2) := by decide +kernel
theorem dX12_fault_72 : decode cX12_fault 72 = .ok (.aload_n 0, 1) := by decide +kernel
theorem dX12_fault_73 : decode cX12_fault 73 = .ok (.getfield 121, 3) := by decide +kernel
theorem dX12_fault_76 : decode cX12_fault 76 = .ok (.iload_n 1, 1) := by decide +kernel
theorem dX12_fault_77 : decode cX12_fault 77 = .ok (.iaload, 1) := by decide +kernel
theorem dX12_fault_78 : decode cX12_fault 78 = .ok (.if_icmp .ge 11, 3) := by decide +kernel
theorem dX12_fault_81 : decode cX12_fault 81 = .ok (.aload_n 0, 1) := by decide +kernel
theorem dX12_fault_82 : decode cX12_fault 82 = .ok (.getfield 121, 3) := by decide +kernel
theorem dX12_fault_85 : decode cX12_fault 85 = .ok (.iload_n 1, 1) := by decide +kernel
theorem dX12_fault_86 : decode cX12_fault 86 = .ok (.iload 4, 2) := by decide +kernel
theorem dX12_fault_88 : decode cX12_fault 88 = .ok (.iastore, 1) := by decide +kernel
theorem dX12_fault_89 : decode cX12_fault 89 = .ok (.aload_n 0, 1) := by decide +kernel
theorem dX12_fault_90 : decode cX12_fault 90 = .ok (.getfield 118, 3) := by decide +kernel
theorem dX12_fault_93 : decode cX12_fault 93 = .ok (.iload_n 1, 1) := by decide +kernel
theorem dX12_fault_94 : decode cX12_fault 94 = .ok (.dup2, 1) := by decide +kernel
theorem dX12_fault_95 : decode cX12_fault 95 = .ok (.iaload, 1) := by decide +kernel
theorem dX12_fault_96 : decode cX12_fault 96 = .ok (.iconst 1, 1) := by decide +kernel
theorem dX12_fault_97 : decode cX12_fault 97 = .ok (.iadd, 1) := by decide +kernel
theorem dX12_fault_98 : decode cX12_fault 98 = .ok (.iastore, 1) := by decide +kernel
theorem dX12_fault_99 : decode cX12_fault 99 = .ok (.return_, 1) := by decide +kernel
theorem dX12_along_0 : decode cX12_along 0 = .ok (.iload_n 0, 1) := by decide +kernel
theorem dX12_along_1 : decode cX12_along 1 = .ok (.bipush 64, 2) := by decide +kernel
theorem dX12_along_3 : decode cX12_along 3 = .ok (.if_icmp .ge 12, 3) := by decide +kernel
theorem dX12_along_6 : decode cX12_along 6 = .ok (.bipush 64, 2) := by decide +kernel
theorem dX12_along_8 : decode cX12_along 8 = .ok (.iload_n 0, 1) := by decide +kernel
theorem dX12_along_9 : decode cX12_along 9 = .ok (.imul, 1) := by decide +kernel
theorem dX12_along_10 : decode cX12_along 10 = .ok (.iload_n 1, 1) := by decide +kernel
theorem dX12_along_11 : decode cX12_along 11 = .ok (.iadd, 1) := by decide +kernel
theorem dX12_along_12 : decode cX12_along 12 = .ok (.goto 12, 3) := by decide +kernel
theorem dX12_along_15 : decode cX12_along 15 = .ok (.bipush 64, 2) := by decide +kernel
theorem dX12_along_17 : decode cX12_along 17 = .ok (.iload_n 1, 1) := by decide +kernel
theorem dX12_along_18 : decode cX12_along 18 = .ok (.imul, 1) := by decide +kernel
theorem dX12_along_19 : decode cX12_along 19 = .ok (.iload_n 0, 1) := by decide +kernel
theorem dX12_along_20 : decode cX12_along 20 = .ok (.iadd, 1) := by decide +kernel
theorem dX12_along_21 : decode cX12_along 21 = .ok (.bipush 64, 2) := by decide +kernel
theorem dX12_along_23 : decode cX12_along 23 = .ok (.isub, 1) := by decide +kernel
theorem dX12_along_24 : decode cX12_along 24 = .ok (.ireturn, 1) := by decide +kernel
theorem dX12_lines_0 : decode cX12_lines 0 = .ok (.sipush 4096, 3) := by decide +kernel
theorem dX12_lines_3 : decode cX12_lines 3 = .ok (.aload_n 0, 1) := by decide +kernel
theorem dX12_lines_4 : decode cX12_lines 4 = .ok (.getfield 97, 3) := by decide +kernel
theorem dX12_lines_7 : decode cX12_lines 7 = .ok (.iload_n 1, 1) := by decide +kernel
theorem dX12_lines_8 : decode cX12_lines 8 = .ok (.iaload, 1) := by decide +kernel
theorem dX12_lines_9 : decode cX12_lines 9 = .ok (.imul, 1) := by decide +kernel
theorem dX12_lines_10 : decode cX12_lines 10 = .ok (.istore_n 3, 1) := by decide +kernel
theorem dX12_lines_11 : decode cX12_lines 11 = .ok (.iconst 0, 1) := by decide +kernel
theorem dX12_lines_12 : decode cX12_lines 12 = .ok (.istore 4, 2) := by decide +kernel
theorem dX12_lines_14 : decode cX12_lines 14 = .ok (.iload 4, 2) := by decide +kernel
theorem dX12_lines_16 : decode cX12_lines 16 = .ok (.sipush 128, 3) := by decide +kernel
theorem dX12_lines_19 : decode cX12_lines 19 = .ok (.if_icmp .ge 189, 3) := by decide +kernel
theorem dX12_lines_22 : decode cX12_lines 22 = .ok (.iconst (-1), 1) := by decide +kernel
theorem dX12_lines_23 : decode cX12_lines 23 = .ok (.istore 5, 2) := by decide +kernel
theorem dX12_lines_25 : decode cX12_lines 25 = .ok (.iconst 0, 1) := by decide +kernel
theorem dX12_lines_26 : decode cX12_lines 26 = .ok (.istore 6, 2) := by decide +kernel
theorem dX12_lines_28 : decode cX12_lines 28 = .ok (.iconst 0, 1) := by decide +kernel
theorem dX12_lines_29 : decode cX12_lines 29 = .ok (.istore 7, 2) := by decide +kernel
theorem dX12_lines_31 : decode cX12_lines 31 = .ok (.iload 7, 2) := by decide +kernel
theorem dX12_lines_33 : decode cX12_lines 33 = .ok (.bipush 64, 2) := by decide +kernel
theorem dX12_lines_35 : decode cX12_lines 35 = .ok (.if_icmp .gt 167, 3) := by decide +kernel
theorem dX12_lines_38 : decode cX12_lines 38 = .ok (.iload 7, 2) := by decide +kernel
theorem dX12_lines_40 : decode cX12_lines 40 = .ok (.bipush 64, 2) := by decide +kernel
theorem dX12_lines_42 : decode cX12_lines 42 = .ok (.if_icmp .ge 25, 3) := by decide +kernel
theorem dX12_lines_45 : decode cX12_lines 45 = .ok (.aload_n 0, 1) := by decide +kernel
theorem dX12_lines_46 : decode cX12_lines 46 = .ok (.getfield 64, 3) := by decide +kernel
theorem dX12_lines_49 : decode cX12_lines 49 = .ok (.iload_n 3, 1) := by decide +kernel
theorem dX12_lines_50 : decode cX12_lines 50 = .ok (.iload 4, 2) := by decide +kernel
theorem dX12_lines_52 : decode cX12_lines 52 = .ok (.iload 7, 2) := by decide +kernel
theorem dX12_lines_54 : decode cX12_lines 54 = .ok (.invokestatic 334, 3) := by decide +kernel
theorem dX12_lines_57 : decode cX12_lines 57 = .ok (.iadd, 1) := by decide +kernel
theorem dX12_lines_58 : decode cX12_lines 58 = .ok (.baload, 1) := by decide +kernel
theorem dX12_lines_59 : decode cX12_lines 59 = .ok (.iload_n 2, 1) := by decide +kernel
theorem dX12_lines_60 : decode cX12_lines 60 = .ok (.if_icmp .eq 7, 3) := by decide +kernel
theorem dX12_lines_63 : decode cX12_lines 63 = .ok (.iconst 1, 1) := by decide +kernel
theorem dX12_lines_64 : decode cX12_lines 64 = .ok (.goto 4, 3) := by decide +kernel
theorem dX12_lines_67 : decode cX12_lines 67 = .ok (.iconst 0, 1) := by decide +kernel
theorem dX12_lines_68 : decode cX12_lines 68 = .ok (.istore 8, 2) := by decide +kernel
theorem dX12_lines_70 : decode cX12_lines 70 = .ok (.iload_n 2, 1) := by decide +kernel
theorem dX12_lines_71 : decode cX12_lines 71 = .ok (.ifCond .eq 13, 3) := by decide +kernel
theorem dX12_lines_74 : decode cX12_lines 74 = .ok (.iload 7, 2) := by decide +kernel
theorem dX12_lines_76 : decode cX12_lines 76 = .ok (.bipush 64, 2) := by decide +kernel
theorem dX12_lines_78 : decode cX12_lines 78 = .ok (.if_icmp .ne 6, 3) := by decide +kernel
theorem dX12_lines_81 : decode cX12_lines 81 = .ok (.iconst (-1), 1) := by decide +kernel
theorem dX12_lines_82 : decode cX12_lines 82 = .ok (.istore 5, 2) := by decide +kernel
theorem dX12_lines_84 : decode cX12_lines 84 = .ok (.iload 8, 2) := by decide +kernel
theorem dX12_lines_86 : decode cX12_lines 86 = .ok (.ifCond .eq 21, 3) := by decide +kernel
theorem dX12_lines_89 : decode cX12_lines 89 = .ok (.iload 5, 2) := by decide +kernel
theorem dX12_lines_91 : decode cX12_lines 91 = .ok (.ifCond .ge 16, 3) := by decide +kernel
theorem dX12_lines_94 : decode cX12_lines 94 = .ok (.iload_n 2, 1) := by decide +kernel
theorem dX12_lines_95 : decode cX12_lines 95 = .ok (.ifCond .eq 8, 3) := by decide +kernel
theorem dX12_lines_98 : decode cX12_lines 98 = .ok (.iload 6, 2) := by decide +kernel
theorem dX12_lines_100 : decode cX12_lines 100 = .ok (.ifCond .eq 7, 3) := by decide +kernel
theorem dX12_lines_103 : decode cX12_lines 103 = .ok (.iload 7, 2) := by decide +kernel
theorem dX12_lines_105 : decode cX12_lines 105 = .ok (.istore 5, 2) := by decide +kernel
theorem dX12_lines_107 : decode cX12_lines 107 = .ok (.iload 8, 2) := by decide +kernel
theorem dX12_lines_109 : decode cX12_lines 109 = .ok (.ifCond .ne 51, 3) := by decide +kernel
theorem dX12_lines_112 : decode cX12_lines 112 = .ok (.iload 5, 2) := by decide +kernel
theorem dX12_lines_114 : decode cX12_lines 114 = .ok (.ifCond .lt 46, 3) := by decide +kernel
theorem dX12_lines_117 : decode cX12_lines 117 = .ok (.iload 7, 2) := by decide +kernel
theorem dX12_lines_119 : decode cX12_lines 119 = .ok (.iload 5, 2) := by decide +kernel
theorem dX12_lines_121 : decode cX12_lines 121 = .ok (.isub, 1) := by decide +kernel
theorem dX12_lines_122 : decode cX12_lines 122 = .ok (.aload_n 0, 1) := by decide +kernel
theorem dX12_lines_123 : decode cX12_lines 123 = .ok (.getfield 103, 3) := by decide +kernel
theorem dX12_lines_126 : decode cX12_lines 126 = .ok (.iload_n 1, 1) := by decide +kernel
theorem dX12_lines_127 : decode cX12_lines 127 = .ok (.iaload, 1) := by decide +kernel
theorem dX12_lines_128 : decode cX12_lines 128 = .ok (.if_icmp .ge 29, 3) := by decide +kernel
theorem dX12_lines_131 : decode cX12_lines 131 = .ok (.aload_n 0, 1) := by decide +kernel
theorem dX12_lines_132 : decode cX12_lines 132 = .ok (.iload_n 1, 1) := by decide +kernel
theorem dX12_lines_133 : decode cX12_lines 133 = .ok (.iload 4, 2) := by decide +kernel
theorem dX12_lines_135 : decode cX12_lines 135 = .ok (.iload 5, 2) := by decide +kernel
theorem dX12_lines_137 : decode cX12_lines 137 = .ok (.invokestatic 334, 3) := by decide +kernel
theorem dX12_lines_140 : decode cX12_lines 140 = .ok (.iload 4, 2) := by decide +kernel
theorem dX12_lines_142 : decode cX12_lines 142 = .ok (.iload 7, 2) := by decide +kernel
theorem dX12_lines_144 : decode cX12_lines 144 = .ok (.iconst 1, 1) := by decide +kernel
theorem dX12_lines_145 : decode cX12_lines 145 = .ok (.isub, 1) := by decide +kernel
theorem dX12_lines_146 : decode cX12_lines 146 = .ok (.invokestatic 334, 3) := by decide +kernel
theorem dX12_lines_149 : decode cX12_lines 149 = .ok (.iload 7, 2) := by decide +kernel
theorem dX12_lines_151 : decode cX12_lines 151 = .ok (.iload 5, 2) := by decide +kernel
theorem dX12_lines_153 : decode cX12_lines 153 = .ok (.isub, 1) := by decide +kernel
theorem dX12_lines_154 : decode cX12_lines 154 = .ok (.invokevirtual 337, 3) := by decide +kernel
theorem dX12_lines_157 : decode cX12_lines 157 = .ok (.iconst (-1), 1) := by decide +kernel
theorem dX12_lines_158 : decode cX12_lines 158 = .ok (.istore 5, 2) := by decide +kernel
theorem dX12_lines_160 : decode cX12_lines 160 = .ok (.iload 6, 2) := by decide +kernel
theorem dX12_lines_162 : decode cX12_lines 162 = .ok (.ifCond .ne 27, 3) := by decide +kernel
theorem dX12_lines_165 : decode cX12_lines 165 = .ok (.iload 7, 2) := by decide +kernel
theorem dX12_lines_167 : decode cX12_lines 167 = .ok (.bipush 64, 2) := by decide +kernel
theorem dX12_lines_169 : decode cX12_lines 169 = .ok (.if_icmp .ge 24, 3) := by decide +kernel
theorem dX12_lines_172 : decode cX12_lines 172 = .ok (.aload_n 0, 1) := by decide +kernel
theorem dX12_lines_173 : decode cX12_lines 173 = .ok (.getfield 64, 3) := by decide +kernel
theorem dX12_lines_176 : decode cX12_lines 176 = .ok (.iload_n 3, 1) := by decide +kernel
theorem dX12_lines_177 : decode cX12_lines 177 = .ok (.iload 4, 2) := by decide +kernel
theorem dX12_lines_179 : decode cX12_lines 179 = .ok (.iload 7, 2) := by decide +kernel
theorem dX12_lines_181 : decode cX12_lines 181 = .ok (.invokestatic 334, 3) := by decide +kernel
theorem dX12_lines_184 : decode cX12_lines 184 = .ok (.iadd, 1) := by decide +kernel
theorem dX12_lines_185 : decode cX12_lines 185 = .ok (.baload, 1) := by decide +kernel
theorem dX12_lines_186 : decode cX12_lines 186 = .ok (.ifCond .eq 7, 3) := by decide +kernel
theorem dX12_lines_189 : decode cX12_lines 189 = .ok (.iconst 1, 1) := by decide +kernel
theorem dX12_lines_190 : decode cX12_lines 190 = .ok (.goto 4, 3) := by decide +kernel
theorem dX12_lines_193 : decode cX12_lines 193 = .ok (.iconst 0, 1) := by decide +kernel
theorem dX12_lines_194 : decode cX12_lines 194 = .ok (.istore 6, 2) := by decide +kernel
theorem dX12_lines_196 : decode cX12_lines 196 = .ok (.iinc 7 1, 3) := by decide +kernel
theorem dX12_lines_199 : decode cX12_lines 199 = .ok (.goto (-168), 3) := by decide +kernel
theorem dX12_lines_202 : decode cX12_lines 202 = .ok (.iinc 4 1, 3) := by decide +kernel
theorem dX12_lines_205 : decode cX12_lines 205 = .ok (.goto (-191), 3) := by decide +kernel
theorem dX12_lines_208 : decode cX12_lines 208 = .ok (.return_, 1) := by decide +kernel
theorem dX12_lacking_0 : decode cX12_lacking 0 = .ok (.iload_n 2, 1) := by decide +kernel
theorem dX12_lacking_1 : decode cX12_lacking 1 = .ok (.bipush 64, 2) := by decide +kernel
theorem dX12_lacking_3 : decode cX12_lacking 3 = .ok (.idiv, 1) := by decide +kernel
theorem dX12_lacking_4 : decode cX12_lacking 4 = .ok (.iload_n 3, 1) := by decide +kernel
theorem dX12_lacking_5 : decode cX12_lacking 5 = .ok (.isub, 1) := by decide +kernel
theorem dX12_lacking_6 : decode cX12_lacking 6 = .ok (.istore 4, 2) := by decide +kernel
theorem dX12_lacking_8 : decode cX12_lacking 8 = .ok (.iload 4, 2) := by decide +kernel
theorem dX12_lacking_10 : decode cX12_lacking 10 = .ok (.iload_n 2, 1) := by decide +kernel
theorem dX12_lacking_11 : decode cX12_lacking 11 = .ok (.bipush 64, 2) := by decide +kernel
theorem dX12_lacking_13 : decode cX12_lacking 13 = .ok (.idiv, 1) := by decide +kernel
theorem dX12_lacking_14 : decode cX12_lacking 14 = .ok (.iload_n 3, 1) := by decide +kernel
theorem dX12_lacking_15 : decode cX12_lacking 15 = .ok (.iadd, 1) := by decide +kernel
theorem dX12_lacking_16 : decode cX12_lacking 16 = .ok (.if_icmp .gt 91, 3) := by decide +kernel
theorem dX12_lacking_19 : decode cX12_lacking 19 = .ok (.iload_n 2, 1) := by decide +kernel
theorem dX12_lacking_20 : decode cX12_lacking 20 = .ok (.bipush 64, 2) := by decide +kernel
theorem dX12_lacking_22 : decode cX12_lacking 22 = .ok (.irem, 1) := by decide +kernel
theorem dX12_lacking_23 : decode cX12_lacking 23 = .ok (.iload_n 3, 1) := by decide +kernel
theorem dX12_lacking_24 : decode cX12_lacking 24 = .ok (.isub, 1) := by decide +kernel
theorem dX12_lacking_25 : decode cX12_lacking 25 = .ok (.istore 5, 2) := by decide +kernel
theorem dX12_lacking_27 : decode cX12_lacking 27 = .ok (.iload 5, 2) := by decide +kernel
theorem dX12_lacking_29 : decode cX12_lacking 29 = .ok (.iload_n 2, 1) := by decide +kernel
theorem dX12_lacking_30 : decode cX12_lacking 30 = .ok (.bipush 64, 2) := by decide +kernel
theorem dX12_lacking_32 : decode cX12_lacking 32 = .ok (.irem, 1) := by decide +kernel
theorem dX12_lacking_33 : decode cX12_lacking 33 = .ok (.iload_n 3, 1) := by decide +kernel
theorem dX12_lacking_34 : decode cX12_lacking 34 = .ok (.iadd, 1) := by decide +kernel
theorem dX12_lacking_35 : decode cX12_lacking 35 = .ok (.if_icmp .gt 66, 3) := by decide +kernel
theorem dX12_lacking_38 : decode cX12_lacking 38 = .ok (.iload 5, 2) := by decide +kernel
theorem dX12_lacking_40 : decode cX12_lacking 40 = .ok (.i2l, 1) := by decide +kernel
theorem dX12_lacking_41 : decode cX12_lacking 41 = .ok (.lconst 0, 1) := by decide +kernel
theorem dX12_lacking_42 : decode cX12_lacking 42 = .ok (.ldc2_w 227, 3) := by decide +kernel
theorem dX12_lacking_45 : decode cX12_lacking 45 = .ok (.invokestatic 201, 3) := by decide +kernel
theorem dX12_lacking_48 : decode cX12_lacking 48 = .ok (.ifCond .eq 47, 3) := by decide +kernel
theorem dX12_lacking_51 : decode cX12_lacking 51 = .ok (.iload 4, 2) := by decide +kernel
theorem dX12_lacking_53 : decode cX12_lacking 53 = .ok (.i2l, 1) := by decide +kernel
theorem dX12_lacking_54 : decode cX12_lacking 54 = .ok (.lconst 0, 1) := by decide +kernel
theorem dX12_lacking_55 : decode cX12_lacking 55 = .ok (.ldc2_w 227, 3) := by decide +kernel
theorem dX12_lacking_58 : decode cX12_lacking 58 = .ok (.invokestatic 201, 3) := by decide +kernel
theorem dX12_lacking_61 : decode cX12_lacking 61 = .ok (.ifCond .eq 34, 3) := by decide +kernel
theorem dX12_lacking_64 : decode cX12_lacking 64 = .ok (.aload_n 0, 1) := by decide +kernel
theorem dX12_lacking_65 : decode cX12_lacking 65 = .ok (.getfield 64, 3) := by decide +kernel
theorem dX12_lacking_68 : decode cX12_lacking 68 = .ok (.sipush 4096, 3) := by decide +kernel
theorem dX12_lacking_71 : decode cX12_lacking 71 = .ok (.iload_n 1, 1) := by decide +kernel
theorem dX12_lacking_72 : decode cX12_lacking 72 = .ok (.imul, 1) := by decide +kernel
theorem dX12_lacking_73 : decode cX12_lacking 73 = .ok (.bipush 64, 2) := by decide +kernel
theorem dX12_lacking_75 : decode cX12_lacking 75 = .ok (.iload 4, 2) := by decide +kernel
theorem dX12_lacking_77 : decode cX12_lacking 77 = .ok (.imul, 1) := by decide +kernel
theorem dX12_lacking_78 : decode cX12_lacking 78 = .ok (.iadd, 1) := by decide +kernel
theorem dX12_lacking_79 : decode cX12_lacking 79 = .ok (.iload 5, 2) := by decide +kernel
theorem dX12_lacking_81 : decode cX12_lacking 81 = .ok (.iadd, 1) := by decide +kernel
theorem dX12_lacking_82 : decode cX12_lacking 82 = .ok (.baload, 1) := by decide +kernel
theorem dX12_lacking_83 : decode cX12_lacking 83 = .ok (.ifCond .ne 12, 3) := by decide +kernel
theorem dX12_lacking_86 : decode cX12_lacking 86 = .ok (.bipush 64, 2) := by decide +kernel
theorem dX12_lacking_88 : decode cX12_lacking 88 = .ok (.iload 4, 2) := by decide +kernel
theorem dX12_lacking_90 : decode cX12_lacking 90 = .ok (.imul, 1) := by decide +kernel
theorem dX12_lacking_91 : decode cX12_lacking 91 = .ok (.iload 5, 2) := by decide +kernel
theorem dX12_lacking_93 : decode cX12_lacking 93 = .ok (.iadd, 1) := by decide +kernel
theorem dX12_lacking_94 : decode cX12_lacking 94 = .ok (.ireturn, 1) := by decide +kernel
theorem dX12_lacking_95 : decode cX12_lacking 95 = .ok (.iinc 5 1, 3) := by decide +kernel
theorem dX12_lacking_98 : decode cX12_lacking 98 = .ok (.goto (-71), 3) := by decide +kernel
theorem dX12_lacking_101 : decode cX12_lacking 101 = .ok (.iinc 4 1, 3) := by decide +kernel
theorem dX12_lacking_104 : decode cX12_lacking 104 = .ok (.goto (-96), 3) := by decide +kernel
theorem dX12_lacking_107 : decode cX12_lacking 107 = .ok (.iload_n 2, 1) := by decide +kernel
theorem dX12_lacking_108 : decode cX12_lacking 108 = .ok (.ireturn, 1) := by decide +kernel
theorem dX12_inside_0 : decode cX12_inside 0 = .ok (.iconst 0, 1) := by decide +kernel
theorem dX12_inside_1 : decode cX12_inside 1 = .ok (.istore_n 2, 1) := by decide +kernel
theorem dX12_inside_2 : decode cX12_inside 2 = .ok (.iload_n 2, 1) := by decide +kernel
theorem dX12_inside_3 : decode cX12_inside 3 = .ok (.sipush 4096, 3) := by decide +kernel
theorem dX12_inside_6 : decode cX12_inside 6 = .ok (.if_icmp .ge 79, 3) := by decide +kernel
theorem dX12_inside_9 : decode cX12_inside 9 = .ok (.aload_n 0, 1) := by decide +kernel
theorem dX12_inside_10 : decode cX12_inside 10 = .ok (.getfield 64, 3) := by decide +kernel
theorem dX12_inside_13 : decode cX12_inside 13 = .ok (.sipush 4096, 3) := by decide +kernel
theorem dX12_inside_16 : decode cX12_inside 16 = .ok (.aload_n 0, 1) := by decide +kernel
theorem dX12_inside_17 : decode cX12_inside 17 = .ok (.getfield 97, 3) := by decide +kernel
theorem dX12_inside_20 : decode cX12_inside 20 = .ok (.iload_n 1, 1) := by decide +kernel
theorem dX12_inside_21 : decode cX12_inside 21 = .ok (.iaload, 1) := by decide +kernel
theorem dX12_inside_22 : decode cX12_inside 22 = .ok (.imul, 1) := by decide +kernel
theorem dX12_inside_23 : decode cX12_inside 23 = .ok (.iload_n 2, 1) := by decide +kernel
theorem dX12_inside_24 : decode cX12_inside 24 = .ok (.iadd, 1) := by decide +kernel
theorem dX12_inside_25 : decode cX12_inside 25 = .ok (.baload, 1) := by decide +kernel
theorem dX12_inside_26 : decode cX12_inside 26 = .ok (.ifCond .eq 53, 3) := by decide +kernel
theorem dX12_inside_29 : decode cX12_inside 29 = .ok (.aload_n 0, 1) := by decide +kernel
theorem dX12_inside_30 : decode cX12_inside 30 = .ok (.aload_n 0, 1) := by decide +kernel
theorem dX12_inside_31 : decode cX12_inside 31 = .ok (.getfield 100, 3) := by decide +kernel
theorem dX12_inside_34 : decode cX12_inside 34 = .ok (.iload_n 1, 1) := by decide +kernel
theorem dX12_inside_35 : decode cX12_inside 35 = .ok (.iaload, 1) := by decide +kernel
theorem dX12_inside_36 : decode cX12_inside 36 = .ok (.iload_n 2, 1) := by decide +kernel
theorem dX12_inside_37 : decode cX12_inside 37 = .ok (.aload_n 0, 1) := by decide +kernel
theorem dX12_inside_38 : decode cX12_inside 38 = .ok (.getfield 103, 3) := by decide +kernel
theorem dX12_inside_41 : decode cX12_inside 41 = .ok (.iload_n 1, 1) := by decide +kernel
theorem dX12_inside_42 : decode cX12_inside 42 = .ok (.iaload, 1) := by decide +kernel
theorem dX12_inside_43 : decode cX12_inside 43 = .ok (.iconst 1, 1) := by decide +kernel
theorem dX12_inside_44 : decode cX12_inside 44 = .ok (.invokevirtual 284, 3) := by decide +kernel
theorem dX12_inside_47 : decode cX12_inside 47 = .ok (.ifCond .ne 32, 3) := by decide +kernel
theorem dX12_inside_50 : decode cX12_inside 50 = .ok (.aload_n 0, 1) := by decide +kernel
theorem dX12_inside_51 : decode cX12_inside 51 = .ok (.iload_n 1, 1) := by decide +kernel
theorem dX12_inside_52 : decode cX12_inside 52 = .ok (.iload_n 2, 1) := by decide +kernel
theorem dX12_inside_53 : decode cX12_inside 53 = .ok (.aload_n 0, 1) := by decide +kernel
theorem dX12_inside_54 : decode cX12_inside 54 = .ok (.aload_n 0, 1) := by decide +kernel
theorem dX12_inside_55 : decode cX12_inside 55 = .ok (.getfield 100, 3) := by decide +kernel
theorem dX12_inside_58 : decode cX12_inside 58 = .ok (.iload_n 1, 1) := by decide +kernel
theorem dX12_inside_59 : decode cX12_inside 59 = .ok (.iaload, 1) := by decide +kernel
theorem dX12_inside_60 : decode cX12_inside 60 = .ok (.iload_n 2, 1) := by decide +kernel
theorem dX12_inside_61 : decode cX12_inside 61 = .ok (.aload_n 0, 1) := by decide +kernel
theorem dX12_inside_62 : decode cX12_inside 62 = .ok (.getfield 103, 3) := by decide +kernel
theorem dX12_inside_65 : decode cX12_inside 65 = .ok (.iload_n 1, 1) := by decide +kernel
theorem dX12_inside_66 : decode cX12_inside 66 = .ok (.iaload, 1) := by decide +kernel
theorem dX12_inside_67 : decode cX12_inside 67 = .ok (.invokevirtual 340, 3) := by decide +kernel
theorem dX12_inside_70 : decode cX12_inside 70 = .ok (.aload_n 0, 1) := by decide +kernel
theorem dX12_inside_71 : decode cX12_inside 71 = .ok (.getfield 103, 3) := by decide +kernel
theorem dX12_inside_74 : decode cX12_inside 74 = .ok (.iload_n 1, 1) := by decide +kernel
theorem dX12_inside_75 : decode cX12_inside 75 = .ok (.iaload, 1) := by decide +kernel
theorem dX12_inside_76 : decode cX12_inside 76 = .ok (.invokevirtual 337, 3) := by decide +kernel
theorem dX12_inside_79 : decode cX12_inside 79 = .ok (.iinc 2 1, 3) := by decide +kernel
theorem dX12_inside_82 : decode cX12_inside 82 = .ok (.goto (-80), 3) := by decide +kernel
theorem dX12_inside_85 : decode cX12_inside 85 = .ok (.return_, 1) := by decide +kernel
theorem dX12_shares_0 : decode cX12_shares 0 = .ok (.iconst 0, 1) := by decide +kernel
theorem dX12_shares_1 : decode cX12_shares 1 = .ok (.istore_n 2, 1) := by decide +kernel
theorem dX12_shares_2 : decode cX12_shares 2 = .ok (.iload_n 2, 1) := by decide +kernel
theorem dX12_shares_3 : decode cX12_shares 3 = .ok (.bipush 16, 2) := by decide +kernel
theorem dX12_shares_5 : decode cX12_shares 5 = .ok (.if_icmp .ge 118, 3) := by decide +kernel
theorem dX12_shares_8 : decode cX12_shares 8 = .ok (.iload_n 2, 1) := by decide +kernel
theorem dX12_shares_9 : decode cX12_shares 9 = .ok (.iconst 4, 1) := by decide +kernel
theorem dX12_shares_10 : decode cX12_shares 10 = .ok (.idiv, 1) := by decide +kernel
theorem dX12_shares_11 : decode cX12_shares 11 = .ok (.bipush 16, 2) := by decide +kernel
theorem dX12_shares_13 : decode cX12_shares 13 = .ok (.imul, 1) := by decide +kernel
theorem dX12_shares_14 : decode cX12_shares 14 = .ok (.bipush 64, 2) := by decide +kernel
theorem dX12_shares_16 : decode cX12_shares 16 = .ok (.imul, 1) := by decide +kernel
theorem dX12_shares_17 : decode cX12_shares 17 = .ok (.iload_n 2, 1) := by decide +kernel
theorem dX12_shares_18 : decode cX12_shares 18 = .ok (.iconst 4, 1) := by decide +kernel
theorem dX12_shares_19 : decode cX12_shares 19 = .ok (.irem, 1) := by decide +kernel
theorem dX12_shares_20 : decode cX12_shares 20 = .ok (.bipush 16, 2) := by decide +kernel
theorem dX12_shares_22 : decode cX12_shares 22 = .ok (.imul, 1) := by decide +kernel
theorem dX12_shares_23 : decode cX12_shares 23 = .ok (.iadd, 1) := by decide +kernel
theorem dX12_shares_24 : decode cX12_shares 24 = .ok (.istore_n 3, 1) := by decide +kernel
theorem dX12_shares_25 : decode cX12_shares 25 = .ok (.iconst 0, 1) := by decide +kernel
theorem dX12_shares_26 : decode cX12_shares 26 = .ok (.istore 4, 2) := by decide +kernel
theorem dX12_shares_28 : decode cX12_shares 28 = .ok (.iconst 0, 1) := by decide +kernel
theorem dX12_shares_29 : decode cX12_shares 29 = .ok (.istore 5, 2) := by decide +kernel
theorem dX12_shares_31 : decode cX12_shares 31 = .ok (.iload 5, 2) := by decide +kernel
theorem dX12_shares_33 : decode cX12_shares 33 = .ok (.sipush 256, 3) := by decide +kernel
theorem dX12_shares_36 : decode cX12_shares 36 = .ok (.if_icmp .ge 54, 3) := by decide +kernel
theorem dX12_shares_39 : decode cX12_shares 39 = .ok (.iload 4, 2) := by decide +kernel
theorem dX12_shares_41 : decode cX12_shares 41 = .ok (.aload_n 0, 1) := by decide +kernel
theorem dX12_shares_42 : decode cX12_shares 42 = .ok (.getfield 64, 3) := by decide +kernel
theorem dX12_shares_45 : decode cX12_shares 45 = .ok (.sipush 4096, 3) := by decide +kernel
theorem dX12_shares_48 : decode cX12_shares 48 = .ok (.aload_n 0, 1) := by decide +kernel
theorem dX12_shares_49 : decode cX12_shares 49 = .ok (.getfield 97, 3) := by decide +kernel
theorem dX12_shares_52 : decode cX12_shares 52 = .ok (.iload_n 1, 1) := by decide +kernel
theorem dX12_shares_53 : decode cX12_shares 53 = .ok (.iaload, 1) := by decide +kernel
theorem dX12_shares_54 : decode cX12_shares 54 = .ok (.imul, 1) := by decide +kernel
theorem dX12_shares_55 : decode cX12_shares 55 = .ok (.iload_n 3, 1) := by decide +kernel
theorem dX12_shares_56 : decode cX12_shares 56 = .ok (.iadd, 1) := by decide +kernel
theorem dX12_shares_57 : decode cX12_shares 57 = .ok (.iload 5, 2) := by decide +kernel
theorem dX12_shares_59 : decode cX12_shares 59 = .ok (.bipush 16, 2) := by decide +kernel
theorem dX12_shares_61 : decode cX12_shares 61 = .ok (.idiv, 1) := by decide +kernel
theorem dX12_shares_62 : decode cX12_shares 62 = .ok (.bipush 64, 2) := by decide +kernel
theorem dX12_shares_64 : decode cX12_shares 64 = .ok (.imul, 1) := by decide +kernel
theorem dX12_shares_65 : decode cX12_shares 65 = .ok (.iadd, 1) := by decide +kernel
theorem dX12_shares_66 : decode cX12_shares 66 = .ok (.iload 5, 2) := by decide +kernel
theorem dX12_shares_68 : decode cX12_shares 68 = .ok (.bipush 16, 2) := by decide +kernel
theorem dX12_shares_70 : decode cX12_shares 70 = .ok (.irem, 1) := by decide +kernel
theorem dX12_shares_71 : decode cX12_shares 71 = .ok (.iadd, 1) := by decide +kernel
theorem dX12_shares_72 : decode cX12_shares 72 = .ok (.baload, 1) := by decide +kernel
theorem dX12_shares_73 : decode cX12_shares 73 = .ok (.ifCond .eq 7, 3) := by decide +kernel
theorem dX12_shares_76 : decode cX12_shares 76 = .ok (.iconst 1, 1) := by decide +kernel
theorem dX12_shares_77 : decode cX12_shares 77 = .ok (.goto 4, 3) := by decide +kernel
theorem dX12_shares_80 : decode cX12_shares 80 = .ok (.iconst 0, 1) := by decide +kernel
theorem dX12_shares_81 : decode cX12_shares 81 = .ok (.iadd, 1) := by decide +kernel
theorem dX12_shares_82 : decode cX12_shares 82 = .ok (.istore 4, 2) := by decide +kernel
theorem dX12_shares_84 : decode cX12_shares 84 = .ok (.iinc 5 1, 3) := by decide +kernel
theorem dX12_shares_87 : decode cX12_shares 87 = .ok (.goto (-56), 3) := by decide +kernel
theorem dX12_shares_90 : decode cX12_shares 90 = .ok (.iload 4, 2) := by decide +kernel
theorem dX12_shares_92 : decode cX12_shares 92 = .ok (.aload_n 0, 1) := by decide +kernel
theorem dX12_shares_93 : decode cX12_shares 93 = .ok (.getfield 103, 3) := by decide +kernel
theorem dX12_shares_96 : decode cX12_shares 96 = .ok (.iload_n 1, 1) := by decide +kernel
theorem dX12_shares_97 : decode cX12_shares 97 = .ok (.iaload, 1) := by decide +kernel
theorem dX12_shares_98 : decode cX12_shares 98 = .ok (.if_icmp .ge 19, 3) := by decide +kernel
theorem dX12_shares_101 : decode cX12_shares 101 = .ok (.aload_n 0, 1) := by decide +kernel
theorem dX12_shares_102 : decode cX12_shares 102 = .ok (.iload_n 1, 1) := by decide +kernel
theorem dX12_shares_103 : decode cX12_shares 103 = .ok (.iload_n 3, 1) := by decide +kernel
theorem dX12_shares_104 : decode cX12_shares 104 = .ok (.iload_n 3, 1) := by decide +kernel
theorem dX12_shares_105 : decode cX12_shares 105 = .ok (.sipush 960, 3) := by decide +kernel
theorem dX12_shares_108 : decode cX12_shares 108 = .ok (.iadd, 1) := by decide +kernel
theorem dX12_shares_109 : decode cX12_shares 109 = .ok (.bipush 15, 2) := by decide +kernel
theorem dX12_shares_111 : decode cX12_shares 111 = .ok (.iadd, 1) := by decide +kernel
theorem dX12_shares_112 : decode cX12_shares 112 = .ok (.iload 4, 2) := by decide +kernel
theorem dX12_shares_114 : decode cX12_shares 114 = .ok (.invokevirtual 337, 3) := by decide +kernel
theorem dX12_shares_117 : decode cX12_shares 117 = .ok (.iinc 2 1, 3) := by decide +kernel
theorem dX12_shares_120 : decode cX12_shares 120 = .ok (.goto (-118), 3) := by decide +kernel
theorem dX12_shares_123 : decode cX12_shares 123 = .ok (.return_, 1) := by decide +kernel
theorem dX12_areas_0 : decode cX12_areas 0 = .ok (.aload_n 0, 1) := by decide +kernel
theorem dX12_areas_1 : decode cX12_areas 1 = .ok (.sipush 4096, 3) := by decide +kernel
theorem dX12_areas_4 : decode cX12_areas 4 = .ok (.aload_n 0, 1) := by decide +kernel
theorem dX12_areas_5 : decode cX12_areas 5 = .ok (.getfield 97, 3) := by decide +kernel
theorem dX12_areas_8 : decode cX12_areas 8 = .ok (.iload_n 1, 1) := by decide +kernel
theorem dX12_areas_9 : decode cX12_areas 9 = .ok (.iaload, 1) := by decide +kernel
theorem dX12_areas_10 : decode cX12_areas 10 = .ok (.imul, 1) := by decide +kernel
theorem dX12_areas_11 : decode cX12_areas 11 = .ok (.aload_n 0, 1) := by decide +kernel
theorem dX12_areas_12 : decode cX12_areas 12 = .ok (.getfield 97, 3) := by decide +kernel
theorem dX12_areas_15 : decode cX12_areas 15 = .ok (.iload_n 1, 1) := by decide +kernel
theorem dX12_areas_16 : decode cX12_areas 16 = .ok (.iaload, 1) := by decide +kernel
theorem dX12_areas_17 : decode cX12_areas 17 = .ok (.invokevirtual 281, 3) := by decide +kernel
theorem dX12_areas_20 : decode cX12_areas 20 = .ok (.iconst 0, 1) := by decide +kernel
theorem dX12_areas_21 : decode cX12_areas 21 = .ok (.istore_n 2, 1) := by decide +kernel
theorem dX12_areas_22 : decode cX12_areas 22 = .ok (.iload_n 2, 1) := by decide +kernel
theorem dX12_areas_23 : decode cX12_areas 23 = .ok (.aload_n 0, 1) := by decide +kernel
theorem dX12_areas_24 : decode cX12_areas 24 = .ok (.getfield 291, 3) := by decide +kernel
theorem dX12_areas_27 : decode cX12_areas 27 = .ok (.if_icmp .ge 47, 3) := by decide +kernel
theorem dX12_areas_30 : decode cX12_areas 30 = .ok (.aload_n 0, 1) := by decide +kernel
theorem dX12_areas_31 : decode cX12_areas 31 = .ok (.getfield 79, 3) := by decide +kernel
theorem dX12_areas_34 : decode cX12_areas 34 = .ok (.iload_n 2, 1) := by decide +kernel
theorem dX12_areas_35 : decode cX12_areas 35 = .ok (.iaload, 1) := by decide +kernel
theorem dX12_areas_36 : decode cX12_areas 36 = .ok (.aload_n 0, 1) := by decide +kernel
theorem dX12_areas_37 : decode cX12_areas 37 = .ok (.getfield 103, 3) := by decide +kernel
theorem dX12_areas_40 : decode cX12_areas 40 = .ok (.iload_n 1, 1) := by decide +kernel
theorem dX12_areas_41 : decode cX12_areas 41 = .ok (.iaload, 1) := by decide +kernel
theorem dX12_areas_42 : decode cX12_areas 42 = .ok (.if_icmp .ge 26, 3) := by decide +kernel
theorem dX12_areas_45 : decode cX12_areas 45 = .ok (.aload_n 0, 1) := by decide +kernel
theorem dX12_areas_46 : decode cX12_areas 46 = .ok (.iload_n 1, 1) := by decide +kernel
theorem dX12_areas_47 : decode cX12_areas 47 = .ok (.aload_n 0, 1) := by decide +kernel
theorem dX12_areas_48 : decode cX12_areas 48 = .ok (.getfield 85, 3) := by decide +kernel
theorem dX12_areas_51 : decode cX12_areas 51 = .ok (.iload_n 2, 1) := by decide +kernel
theorem dX12_areas_52 : decode cX12_areas 52 = .ok (.iaload, 1) := by decide +kernel
theorem dX12_areas_53 : decode cX12_areas 53 = .ok (.aload_n 0, 1) := by decide +kernel
theorem dX12_areas_54 : decode cX12_areas 54 = .ok (.getfield 82, 3) := by decide +kernel
theorem dX12_areas_57 : decode cX12_areas 57 = .ok (.iload_n 2, 1) := by decide +kernel
theorem dX12_areas_58 : decode cX12_areas 58 = .ok (.iaload, 1) := by decide +kernel
theorem dX12_areas_59 : decode cX12_areas 59 = .ok (.aload_n 0, 1) := by decide +kernel
theorem dX12_areas_60 : decode cX12_areas 60 = .ok (.getfield 79, 3) := by decide +kernel
theorem dX12_areas_63 : decode cX12_areas 63 = .ok (.iload_n 2, 1) := by decide +kernel
theorem dX12_areas_64 : decode cX12_areas 64 = .ok (.iaload, 1) := by decide +kernel
theorem dX12_areas_65 : decode cX12_areas 65 = .ok (.invokevirtual 337, 3) := by decide +kernel
theorem dX12_areas_68 : decode cX12_areas 68 = .ok (.iinc 2 1, 3) := by decide +kernel
theorem dX12_areas_71 : decode cX12_areas 71 = .ok (.goto (-49), 3) := by decide +kernel
theorem dX12_areas_74 : decode cX12_areas 74 = .ok (.return_, 1) := by decide +kernel
theorem dX12_run_0 : decode cX12_run 0 = .ok (.aload_n 0, 1) := by decide +kernel
theorem dX12_run_1 : decode cX12_run 1 = .ok (.getfield 304, 3) := by decide +kernel
theorem dX12_run_4 : decode cX12_run 4 = .ok (.ifCond .ne 10, 3) := by decide +kernel
theorem dX12_run_7 : decode cX12_run 7 = .ok (.aload_n 0, 1) := by decide +kernel
theorem dX12_run_8 : decode cX12_run 8 = .ok (.bipush (-2), 2) := by decide +kernel
theorem dX12_run_10 : decode cX12_run 10 = .ok (.invokevirtual 191, 3) := by decide +kernel
theorem dX12_run_13 : decode cX12_run 13 = .ok (.ireturn, 1) := by decide +kernel
theorem dX12_run_14 : decode cX12_run 14 = .ok (.aload_n 0, 1) := by decide +kernel
theorem dX12_run_15 : decode cX12_run 15 = .ok (.iconst 0, 1) := by decide +kernel
theorem dX12_run_16 : decode cX12_run 16 = .ok (.putfield 331, 3) := by decide +kernel
theorem dX12_run_19 : decode cX12_run 19 = .ok (.iconst 0, 1) := by decide +kernel
theorem dX12_run_20 : decode cX12_run 20 = .ok (.istore_n 1, 1) := by decide +kernel
theorem dX12_run_21 : decode cX12_run 21 = .ok (.iload_n 1, 1) := by decide +kernel
theorem dX12_run_22 : decode cX12_run 22 = .ok (.bipush 16, 2) := by decide +kernel
theorem dX12_run_24 : decode cX12_run 24 = .ok (.if_icmp .ge 23, 3) := by decide +kernel
theorem dX12_run_27 : decode cX12_run 27 = .ok (.aload_n 0, 1) := by decide +kernel
theorem dX12_run_28 : decode cX12_run 28 = .ok (.getfield 118, 3) := by decide +kernel
theorem dX12_run_31 : decode cX12_run 31 = .ok (.iload_n 1, 1) := by decide +kernel
theorem dX12_run_32 : decode cX12_run 32 = .ok (.iconst 0, 1) := by decide +kernel
theorem dX12_run_33 : decode cX12_run 33 = .ok (.iastore, 1) := by decide +kernel
theorem dX12_run_34 : decode cX12_run 34 = .ok (.aload_n 0, 1) := by decide +kernel
theorem dX12_run_35 : decode cX12_run 35 = .ok (.getfield 121, 3) := by decide +kernel
theorem dX12_run_38 : decode cX12_run 38 = .ok (.iload_n 1, 1) := by decide +kernel
theorem dX12_run_39 : decode cX12_run 39 = .ok (.iconst (-1), 1) := by decide +kernel
theorem dX12_run_40 : decode cX12_run 40 = .ok (.iastore, 1) := by decide +kernel
theorem dX12_run_41 : decode cX12_run 41 = .ok (.iinc 1 1, 3) := by decide +kernel
theorem dX12_run_44 : decode cX12_run 44 = .ok (.goto (-23), 3) := by decide +kernel
theorem dX12_run_47 : decode cX12_run 47 = .ok (.iconst 0, 1) := by decide +kernel
theorem dX12_run_48 : decode cX12_run 48 = .ok (.istore_n 1, 1) := by decide +kernel
theorem dX12_run_49 : decode cX12_run 49 = .ok (.iload_n 1, 1) := by decide +kernel
theorem dX12_run_50 : decode cX12_run 50 = .ok (.aload_n 0, 1) := by decide +kernel
theorem dX12_run_51 : decode cX12_run 51 = .ok (.getfield 328, 3) := by decide +kernel
theorem dX12_run_54 : decode cX12_run 54 = .ok (.if_icmp .ge 88, 3) := by decide +kernel
theorem dX12_run_57 : decode cX12_run 57 = .ok (.aload_n 0, 1) := by decide +kernel
theorem dX12_run_58 : decode cX12_run 58 = .ok (.getfield 94, 3) := by decide +kernel
theorem dX12_run_61 : decode cX12_run 61 = .ok (.iload_n 1, 1) := by decide +kernel
theorem dX12_run_62 : decode cX12_run 62 = .ok (.iaload, 1) := by decide +kernel
theorem dX12_run_63 : decode cX12_run 63 = .ok (.tableswitch 68 0 3 #[29, 29, 52, 60], 29) := by decide +kernel
theorem dX12_run_92 : decode cX12_run 92 = .ok (.aload_n 0, 1) := by decide +kernel
theorem dX12_run_93 : decode cX12_run 93 = .ok (.iload_n 1, 1) := by decide +kernel
theorem dX12_run_94 : decode cX12_run 94 = .ok (.aload_n 0, 1) := by decide +kernel
theorem dX12_run_95 : decode cX12_run 95 = .ok (.getfield 94, 3) := by decide +kernel
theorem dX12_run_98 : decode cX12_run 98 = .ok (.iload_n 1, 1) := by decide +kernel
theorem dX12_run_99 : decode cX12_run 99 = .ok (.iaload, 1) := by decide +kernel
theorem dX12_run_100 : decode cX12_run 100 = .ok (.iconst 1, 1) := by decide +kernel
theorem dX12_run_101 : decode cX12_run 101 = .ok (.if_icmp .ne 7, 3) := by decide +kernel
theorem dX12_run_104 : decode cX12_run 104 = .ok (.iconst 1, 1) := by decide +kernel
theorem dX12_run_105 : decode cX12_run 105 = .ok (.goto 4, 3) := by decide +kernel
theorem dX12_run_108 : decode cX12_run 108 = .ok (.iconst 0, 1) := by decide +kernel
theorem dX12_run_109 : decode cX12_run 109 = .ok (.invokevirtual 343, 3) := by decide +kernel
theorem dX12_run_112 : decode cX12_run 112 = .ok (.goto 24, 3) := by decide +kernel
theorem dX12_run_115 : decode cX12_run 115 = .ok (.aload_n 0, 1) := by decide +kernel
theorem dX12_run_116 : decode cX12_run 116 = .ok (.iload_n 1, 1) := by decide +kernel
theorem dX12_run_117 : decode cX12_run 117 = .ok (.invokevirtual 347, 3) := by decide +kernel
theorem dX12_run_120 : decode cX12_run 120 = .ok (.goto 16, 3) := by decide +kernel
theorem dX12_run_123 : decode cX12_run 123 = .ok (.aload_n 0, 1) := by decide +kernel
theorem dX12_run_124 : decode cX12_run 124 = .ok (.iload_n 1, 1) := by decide +kernel
theorem dX12_run_125 : decode cX12_run 125 = .ok (.invokevirtual 350, 3) := by decide +kernel
theorem dX12_run_128 : decode cX12_run 128 = .ok (.goto 8, 3) := by decide +kernel
theorem dX12_run_131 : decode cX12_run 131 = .ok (.aload_n 0, 1) := by decide +kernel
theorem dX12_run_132 : decode cX12_run 132 = .ok (.iload_n 1, 1) := by decide +kernel
theorem dX12_run_133 : decode cX12_run 133 = .ok (.invokevirtual 353, 3) := by decide +kernel
theorem dX12_run_136 : decode cX12_run 136 = .ok (.iinc 1 1, 3) := by decide +kernel
theorem dX12_run_139 : decode cX12_run 139 = .ok (.goto (-90), 3) := by decide +kernel
theorem dX12_run_142 : decode cX12_run 142 = .ok (.aload_n 0, 1) := by decide +kernel
theorem dX12_run_143 : decode cX12_run 143 = .ok (.iconst 1, 1) := by decide +kernel
theorem dX12_run_144 : decode cX12_run 144 = .ok (.putfield 308, 3) := by decide +kernel
theorem dX12_run_147 : decode cX12_run 147 = .ok (.aload_n 0, 1) := by decide +kernel
theorem dX12_run_148 : decode cX12_run 148 = .ok (.getfield 331, 3) := by decide +kernel
theorem dX12_run_151 : decode cX12_run 151 = .ok (.ireturn, 1) := by decide +kernel
theorem dX12_fault__0 : decode cX12_fault_ 0 = .ok (.aload_n 0, 1) := by decide +kernel
theorem dX12_fault__1 : decode cX12_fault_ 1 = .ok (.getfield 308, 3) := by decide +kernel
theorem dX12_fault__4 : decode cX12_fault_ 4 = .ok (.ifCond .ne 10, 3) := by decide +kernel
theorem dX12_fault__7 : decode cX12_fault_ 7 = .ok (.aload_n 0, 1) := by decide +kernel
theorem dX12_fault__8 : decode cX12_fault_ 8 = .ok (.bipush (-2), 2) := by decide +kernel
theorem dX12_fault__10 : decode cX12_fault_ 10 = .ok (.invokevirtual 191, 3) := by decide +kernel
theorem dX12_fault__13 : decode cX12_fault_ 13 = .ok (.ireturn, 1) := by decide +kernel
theorem dX12_fault__14 : decode cX12_fault_ 14 = .ok (.iload_n 1, 1) := by decide +kernel
theorem dX12_fault__15 : decode cX12_fault_ 15 = .ok (.i2l, 1) := by decide +kernel
theorem dX12_fault__16 : decode cX12_fault_ 16 = .ok (.lconst 0, 1) := by decide +kernel
theorem dX12_fault__17 : decode cX12_fault_ 17 = .ok (.aload_n 0, 1) := by decide +kernel
theorem dX12_fault__18 : decode cX12_fault_ 18 = .ok (.getfield 331, 3) := by decide +kernel
theorem dX12_fault__21 : decode cX12_fault_ 21 = .ok (.sipush 600, 3) := by decide +kernel
theorem dX12_fault__24 : decode cX12_fault_ 24 = .ok (.if_icmp .ge 10, 3) := by decide +kernel
theorem dX12_fault__27 : decode cX12_fault_ 27 = .ok (.aload_n 0, 1) := by decide +kernel
theorem dX12_fault__28 : decode cX12_fault_ 28 = .ok (.getfield 331, 3) := by decide +kernel
theorem dX12_fault__31 : decode cX12_fault_ 31 = .ok (.goto 6, 3) := by decide +kernel
theorem dX12_fault__34 : decode cX12_fault_ 34 = .ok (.sipush 600, 3) := by decide +kernel
theorem dX12_fault__37 : decode cX12_fault_ 37 = .ok (.iconst 1, 1) := by decide +kernel
theorem dX12_fault__38 : decode cX12_fault_ 38 = .ok (.isub, 1) := by decide +kernel
theorem dX12_fault__39 : decode cX12_fault_ 39 = .ok (.i2l, 1) := by decide +kernel
theorem dX12_fault__40 : decode cX12_fault_ 40 = .ok (.invokestatic 201, 3) := by decide +kernel
theorem dX12_fault__43 : decode cX12_fault_ 43 = .ok (.ifCond .ne 10, 3) := by decide +kernel
theorem dX12_fault__46 : decode cX12_fault_ 46 = .ok (.aload_n 0, 1) := by decide +kernel
theorem dX12_fault__47 : decode cX12_fault_ 47 = .ok (.bipush (-3), 2) := by decide +kernel
theorem dX12_fault__49 : decode cX12_fault_ 49 = .ok (.invokevirtual 191, 3) := by decide +kernel
theorem dX12_fault__52 : decode cX12_fault_ 52 = .ok (.ireturn, 1) := by decide +kernel
theorem dX12_fault__53 : decode cX12_fault_ 53 = .ok (.iload_n 2, 1) := by decide +kernel
theorem dX12_fault__54 : decode cX12_fault_ 54 = .ok (.tableswitch 58 0 3 #[30, 37, 44, 51], 30) := by decide +kernel
theorem dX12_fault__84 : decode cX12_fault_ 84 = .ok (.aload_n 0, 1) := by decide +kernel
theorem dX12_fault__85 : decode cX12_fault_ 85 = .ok (.getfield 106, 3) := by decide +kernel
theorem dX12_fault__88 : decode cX12_fault_ 88 = .ok (.iload_n 1, 1) := by decide +kernel
theorem dX12_fault__89 : decode cX12_fault_ 89 = .ok (.iaload, 1) := by decide +kernel
theorem dX12_fault__90 : decode cX12_fault_ 90 = .ok (.ireturn, 1) := by decide +kernel
theorem dX12_fault__91 : decode cX12_fault_ 91 = .ok (.aload_n 0, 1) := by decide +kernel
theorem dX12_fault__92 : decode cX12_fault_ 92 = .ok (.getfield 109, 3) := by decide +kernel
theorem dX12_fault__95 : decode cX12_fault_ 95 = .ok (.iload_n 1, 1) := by decide +kernel
theorem dX12_fault__96 : decode cX12_fault_ 96 = .ok (.iaload, 1) := by decide +kernel
theorem dX12_fault__97 : decode cX12_fault_ 97 = .ok (.ireturn, 1) := by decide +kernel
theorem dX12_fault__98 : decode cX12_fault_ 98 = .ok (.aload_n 0, 1) := by decide +kernel
theorem dX12_fault__99 : decode cX12_fault_ 99 = .ok (.getfield 112, 3) := by decide +kernel
