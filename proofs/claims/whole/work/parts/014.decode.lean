theorem dX11_memberOf_22 : decode cX11_memberOf 22 = .ok (.ishr, 1) := by decide +kernel
theorem dX11_memberOf_23 : decode cX11_memberOf 23 = .ok (.iconst 1, 1) := by decide +kernel
theorem dX11_memberOf_24 : decode cX11_memberOf 24 = .ok (.iand, 1) := by decide +kernel
theorem dX11_memberOf_25 : decode cX11_memberOf 25 = .ok (.ifCond .eq 13, 3) := by decide +kernel
theorem dX11_memberOf_28 : decode cX11_memberOf 28 = .ok (.iload_n 2, 1) := by decide +kernel
theorem dX11_memberOf_29 : decode cX11_memberOf 29 = .ok (.iload_n 1, 1) := by decide +kernel
theorem dX11_memberOf_30 : decode cX11_memberOf 30 = .ok (.if_icmp .ne 5, 3) := by decide +kernel
theorem dX11_memberOf_33 : decode cX11_memberOf 33 = .ok (.iload_n 3, 1) := by decide +kernel
theorem dX11_memberOf_34 : decode cX11_memberOf 34 = .ok (.ireturn, 1) := by decide +kernel
theorem dX11_memberOf_35 : decode cX11_memberOf 35 = .ok (.iinc 2 1, 3) := by decide +kernel
theorem dX11_memberOf_38 : decode cX11_memberOf 38 = .ok (.iinc 3 1, 3) := by decide +kernel
theorem dX11_memberOf_41 : decode cX11_memberOf 41 = .ok (.goto (-27), 3) := by decide +kernel
theorem dX11_memberOf_44 : decode cX11_memberOf 44 = .ok (.iconst (-1), 1) := by decide +kernel
theorem dX11_memberOf_45 : decode cX11_memberOf 45 = .ok (.ireturn, 1) := by decide +kernel
theorem dX11_comesAhead_0 : decode cX11_comesAhead 0 = .ok (.iload_n 0, 1) := by decide +kernel
theorem dX11_comesAhead_1 : decode cX11_comesAhead 1 = .ok (.invokestatic 376, 3) := by decide +kernel
theorem dX11_comesAhead_4 : decode cX11_comesAhead 4 = .ok (.iload_n 1, 1) := by decide +kernel
theorem dX11_comesAhead_5 : decode cX11_comesAhead 5 = .ok (.invokestatic 376, 3) := by decide +kernel
theorem dX11_comesAhead_8 : decode cX11_comesAhead 8 = .ok (.invokestatic 390, 3) := by decide +kernel
theorem dX11_comesAhead_11 : decode cX11_comesAhead 11 = .ok (.istore_n 2, 1) := by decide +kernel
theorem dX11_comesAhead_12 : decode cX11_comesAhead 12 = .ok (.iload_n 2, 1) := by decide +kernel
theorem dX11_comesAhead_13 : decode cX11_comesAhead 13 = .ok (.ifCond .eq 13, 3) := by decide +kernel
theorem dX11_comesAhead_16 : decode cX11_comesAhead 16 = .ok (.iload_n 2, 1) := by decide +kernel
theorem dX11_comesAhead_17 : decode cX11_comesAhead 17 = .ok (.ifCond .ge 7, 3) := by decide +kernel
theorem dX11_comesAhead_20 : decode cX11_comesAhead 20 = .ok (.iconst 1, 1) := by decide +kernel
theorem dX11_comesAhead_21 : decode cX11_comesAhead 21 = .ok (.goto 4, 3) := by decide +kernel
theorem dX11_comesAhead_24 : decode cX11_comesAhead 24 = .ok (.iconst 0, 1) := by decide +kernel
theorem dX11_comesAhead_25 : decode cX11_comesAhead 25 = .ok (.ireturn, 1) := by decide +kernel
theorem dX11_comesAhead_26 : decode cX11_comesAhead 26 = .ok (.iload_n 0, 1) := by decide +kernel
theorem dX11_comesAhead_27 : decode cX11_comesAhead 27 = .ok (.iload_n 1, 1) := by decide +kernel
theorem dX11_comesAhead_28 : decode cX11_comesAhead 28 = .ok (.ixor, 1) := by decide +kernel
theorem dX11_comesAhead_29 : decode cX11_comesAhead 29 = .ok (.istore_n 3, 1) := by decide +kernel
theorem dX11_comesAhead_30 : decode cX11_comesAhead 30 = .ok (.iload_n 0, 1) := by decide +kernel
theorem dX11_comesAhead_31 : decode cX11_comesAhead 31 = .ok (.iload_n 3, 1) := by decide +kernel
theorem dX11_comesAhead_32 : decode cX11_comesAhead 32 = .ok (.iand, 1) := by decide +kernel
theorem dX11_comesAhead_33 : decode cX11_comesAhead 33 = .ok (.iload_n 3, 1) := by decide +kernel
theorem dX11_comesAhead_34 : decode cX11_comesAhead 34 = .ok (.ineg, 1) := by decide +kernel
theorem dX11_comesAhead_35 : decode cX11_comesAhead 35 = .ok (.iand, 1) := by decide +kernel
theorem dX11_comesAhead_36 : decode cX11_comesAhead 36 = .ok (.ifCond .eq 7, 3) := by decide +kernel
theorem dX11_comesAhead_39 : decode cX11_comesAhead 39 = .ok (.iconst 1, 1) := by decide +kernel
theorem dX11_comesAhead_40 : decode cX11_comesAhead 40 = .ok (.goto 4, 3) := by decide +kernel
theorem dX11_comesAhead_43 : decode cX11_comesAhead 43 = .ok (.iconst 0, 1) := by decide +kernel
theorem dX11_comesAhead_44 : decode cX11_comesAhead 44 = .ok (.ireturn, 1) := by decide +kernel
theorem dX12_init_0 : decode cX12_init 0 = .ok (.aload_n 0, 1) := by decide +kernel
theorem dX12_init_1 : decode cX12_init 1 = .ok (.invokespecial 7, 3) := by decide +kernel
theorem dX12_init_4 : decode cX12_init 4 = .ok (.aload_n 0, 1) := by decide +kernel
theorem dX12_init_5 : decode cX12_init 5 = .ok (.sipush 2000, 3) := by decide +kernel
theorem dX12_init_8 : decode cX12_init 8 = .ok (.newarray .byte, 2) := by decide +kernel
theorem dX12_init_10 : decode cX12_init 10 = .ok (.putfield 13, 3) := by decide +kernel
theorem dX12_init_13 : decode cX12_init 13 = .ok (.aload_n 0, 1) := by decide +kernel
theorem dX12_init_14 : decode cX12_init 14 = .ok (.sipush 2000, 3) := by decide +kernel
theorem dX12_init_17 : decode cX12_init 17 = .ok (.newarray .byte, 2) := by decide +kernel
theorem dX12_init_19 : decode cX12_init 19 = .ok (.putfield 17, 3) := by decide +kernel
theorem dX12_init_22 : decode cX12_init 22 = .ok (.aload_n 0, 1) := by decide +kernel
theorem dX12_init_23 : decode cX12_init 23 = .ok (.sipush 403, 3) := by decide +kernel
theorem dX12_init_26 : decode cX12_init 26 = .ok (.newarray .int, 2) := by decide +kernel
theorem dX12_init_28 : decode cX12_init 28 = .ok (.putfield 20, 3) := by decide +kernel
theorem dX12_init_31 : decode cX12_init 31 = .ok (.aload_n 0, 1) := by decide +kernel
theorem dX12_init_32 : decode cX12_init 32 = .ok (.sipush 403, 3) := by decide +kernel
theorem dX12_init_35 : decode cX12_init 35 = .ok (.newarray .int, 2) := by decide +kernel
theorem dX12_init_37 : decode cX12_init 37 = .ok (.putfield 24, 3) := by decide +kernel
theorem dX12_init_40 : decode cX12_init 40 = .ok (.aload_n 0, 1) := by decide +kernel
theorem dX12_init_41 : decode cX12_init 41 = .ok (.sipush 403, 3) := by decide +kernel
theorem dX12_init_44 : decode cX12_init 44 = .ok (.newarray .int, 2) := by decide +kernel
theorem dX12_init_46 : decode cX12_init 46 = .ok (.putfield 27, 3) := by decide +kernel
theorem dX12_init_49 : decode cX12_init 49 = .ok (.aload_n 0, 1) := by decide +kernel
theorem dX12_init_50 : decode cX12_init 50 = .ok (.sipush 403, 3) := by decide +kernel
theorem dX12_init_53 : decode cX12_init 53 = .ok (.newarray .long, 2) := by decide +kernel
theorem dX12_init_55 : decode cX12_init 55 = .ok (.putfield 30, 3) := by decide +kernel
theorem dX12_init_58 : decode cX12_init 58 = .ok (.aload_n 0, 1) := by decide +kernel
theorem dX12_init_59 : decode cX12_init 59 = .ok (.bipush 8, 2) := by decide +kernel
theorem dX12_init_61 : decode cX12_init 61 = .ok (.newarray .long, 2) := by decide +kernel
theorem dX12_init_63 : decode cX12_init 63 = .ok (.putfield 34, 3) := by decide +kernel
theorem dX12_init_66 : decode cX12_init 66 = .ok (.aload_n 0, 1) := by decide +kernel
theorem dX12_init_67 : decode cX12_init 67 = .ok (.iconst (-1), 1) := by decide +kernel
theorem dX12_init_68 : decode cX12_init 68 = .ok (.putfield 37, 3) := by decide +kernel
theorem dX12_init_71 : decode cX12_init 71 = .ok (.aload_n 0, 1) := by decide +kernel
theorem dX12_init_72 : decode cX12_init 72 = .ok (.bipush 12, 2) := by decide +kernel
theorem dX12_init_74 : decode cX12_init 74 = .ok (.newarray .int, 2) := by decide +kernel
theorem dX12_init_76 : decode cX12_init 76 = .ok (.putfield 40, 3) := by decide +kernel
theorem dX12_init_79 : decode cX12_init 79 = .ok (.aload_n 0, 1) := by decide +kernel
theorem dX12_init_80 : decode cX12_init 80 = .ok (.bipush 12, 2) := by decide +kernel
theorem dX12_init_82 : decode cX12_init 82 = .ok (.newarray .int, 2) := by decide +kernel
theorem dX12_init_84 : decode cX12_init 84 = .ok (.putfield 43, 3) := by decide +kernel
theorem dX12_init_87 : decode cX12_init 87 = .ok (.aload_n 0, 1) := by decide +kernel
theorem dX12_init_88 : decode cX12_init 88 = .ok (.bipush 12, 2) := by decide +kernel
theorem dX12_init_90 : decode cX12_init 90 = .ok (.newarray .int, 2) := by decide +kernel
theorem dX12_init_92 : decode cX12_init 92 = .ok (.putfield 46, 3) := by decide +kernel
theorem dX12_init_95 : decode cX12_init 95 = .ok (.aload_n 0, 1) := by decide +kernel
theorem dX12_init_96 : decode cX12_init 96 = .ok (.bipush 12, 2) := by decide +kernel
theorem dX12_init_98 : decode cX12_init 98 = .ok (.newarray .int, 2) := by decide +kernel
theorem dX12_init_100 : decode cX12_init 100 = .ok (.putfield 49, 3) := by decide +kernel
theorem dX12_init_103 : decode cX12_init 103 = .ok (.aload_n 0, 1) := by decide +kernel
theorem dX12_init_104 : decode cX12_init 104 = .ok (.bipush 12, 2) := by decide +kernel
theorem dX12_init_106 : decode cX12_init 106 = .ok (.newarray .int, 2) := by decide +kernel
theorem dX12_init_108 : decode cX12_init 108 = .ok (.putfield 52, 3) := by decide +kernel
theorem dX12_init_111 : decode cX12_init 111 = .ok (.aload_n 0, 1) := by decide +kernel
theorem dX12_init_112 : decode cX12_init 112 = .ok (.bipush 12, 2) := by decide +kernel
theorem dX12_init_114 : decode cX12_init 114 = .ok (.newarray .int, 2) := by decide +kernel
theorem dX12_init_116 : decode cX12_init 116 = .ok (.putfield 55, 3) := by decide +kernel
theorem dX12_init_119 : decode cX12_init 119 = .ok (.aload_n 0, 1) := by decide +kernel
theorem dX12_init_120 : decode cX12_init 120 = .ok (.bipush 121, 2) := by decide +kernel
theorem dX12_init_122 : decode cX12_init 122 = .ok (.newarray .int, 2) := by decide +kernel
theorem dX12_init_124 : decode cX12_init 124 = .ok (.putfield 58, 3) := by decide +kernel
theorem dX12_init_127 : decode cX12_init 127 = .ok (.aload_n 0, 1) := by decide +kernel
theorem dX12_init_128 : decode cX12_init 128 = .ok (.bipush 121, 2) := by decide +kernel
theorem dX12_init_130 : decode cX12_init 130 = .ok (.newarray .int, 2) := by decide +kernel
theorem dX12_init_132 : decode cX12_init 132 = .ok (.putfield 61, 3) := by decide +kernel
theorem dX12_init_135 : decode cX12_init 135 = .ok (.aload_n 0, 1) := by decide +kernel
theorem dX12_init_136 : decode cX12_init 136 = .ok (.sipush 4840, 3) := by decide +kernel
theorem dX12_init_139 : decode cX12_init 139 = .ok (.newarray .int, 2) := by decide +kernel
theorem dX12_init_141 : decode cX12_init 141 = .ok (.putfield 64, 3) := by decide +kernel
theorem dX12_init_144 : decode cX12_init 144 = .ok (.aload_n 0, 1) := by decide +kernel
theorem dX12_init_145 : decode cX12_init 145 = .ok (.sipush 363, 3) := by decide +kernel
theorem dX12_init_148 : decode cX12_init 148 = .ok (.newarray .int, 2) := by decide +kernel
theorem dX12_init_150 : decode cX12_init 150 = .ok (.putfield 67, 3) := by decide +kernel
theorem dX12_init_153 : decode cX12_init 153 = .ok (.aload_n 0, 1) := by decide +kernel
theorem dX12_init_154 : decode cX12_init 154 = .ok (.iconst 3, 1) := by decide +kernel
theorem dX12_init_155 : decode cX12_init 155 = .ok (.newarray .boolean, 2) := by decide +kernel
theorem dX12_init_157 : decode cX12_init 157 = .ok (.putfield 70, 3) := by decide +kernel
theorem dX12_init_160 : decode cX12_init 160 = .ok (.aload_n 0, 1) := by decide +kernel
theorem dX12_init_161 : decode cX12_init 161 = .ok (.bipush 12, 2) := by decide +kernel
theorem dX12_init_163 : decode cX12_init 163 = .ok (.newarray .int, 2) := by decide +kernel
theorem dX12_init_165 : decode cX12_init 165 = .ok (.putfield 74, 3) := by decide +kernel
theorem dX12_init_168 : decode cX12_init 168 = .ok (.aload_n 0, 1) := by decide +kernel
theorem dX12_init_169 : decode cX12_init 169 = .ok (.bipush 12, 2) := by decide +kernel
theorem dX12_init_171 : decode cX12_init 171 = .ok (.newarray .int, 2) := by decide +kernel
theorem dX12_init_173 : decode cX12_init 173 = .ok (.putfield 77, 3) := by decide +kernel
theorem dX12_init_176 : decode cX12_init 176 = .ok (.aload_n 0, 1) := by decide +kernel
theorem dX12_init_177 : decode cX12_init 177 = .ok (.sipush 4096, 3) := by decide +kernel
theorem dX12_init_180 : decode cX12_init 180 = .ok (.newarray .boolean, 2) := by decide +kernel
theorem dX12_init_182 : decode cX12_init 182 = .ok (.putfield 80, 3) := by decide +kernel
theorem dX12_init_185 : decode cX12_init 185 = .ok (.aload_n 0, 1) := by decide +kernel
theorem dX12_init_186 : decode cX12_init 186 = .ok (.sipush 4096, 3) := by decide +kernel
theorem dX12_init_189 : decode cX12_init 189 = .ok (.newarray .boolean, 2) := by decide +kernel
theorem dX12_init_191 : decode cX12_init 191 = .ok (.putfield 83, 3) := by decide +kernel
theorem dX12_init_194 : decode cX12_init 194 = .ok (.aload_n 0, 1) := by decide +kernel
theorem dX12_init_195 : decode cX12_init 195 = .ok (.sipush 8192, 3) := by decide +kernel
theorem dX12_init_198 : decode cX12_init 198 = .ok (.newarray .int, 2) := by decide +kernel
theorem dX12_init_200 : decode cX12_init 200 = .ok (.putfield 86, 3) := by decide +kernel
theorem dX12_init_203 : decode cX12_init 203 = .ok (.aload_n 0, 1) := by decide +kernel
theorem dX12_init_204 : decode cX12_init 204 = .ok (.sipush 240, 3) := by decide +kernel
theorem dX12_init_207 : decode cX12_init 207 = .ok (.newarray .int, 2) := by decide +kernel
theorem dX12_init_209 : decode cX12_init 209 = .ok (.putfield 89, 3) := by decide +kernel
theorem dX12_init_212 : decode cX12_init 212 = .ok (.aload_n 0, 1) := by decide +kernel
theorem dX12_init_213 : decode cX12_init 213 = .ok (.sipush 1920, 3) := by decide +kernel
theorem dX12_init_216 : decode cX12_init 216 = .ok (.newarray .int, 2) := by decide +kernel
theorem dX12_init_218 : decode cX12_init 218 = .ok (.putfield 92, 3) := by decide +kernel
theorem dX12_init_221 : decode cX12_init 221 = .ok (.aload_n 0, 1) := by decide +kernel
theorem dX12_init_222 : decode cX12_init 222 = .ok (.bipush 9, 2) := by decide +kernel
theorem dX12_init_224 : decode cX12_init 224 = .ok (.newarray .int, 2) := by decide +kernel
theorem dX12_init_226 : decode cX12_init 226 = .ok (.putfield 95, 3) := by decide +kernel
theorem dX12_init_229 : decode cX12_init 229 = .ok (.aload_n 0, 1) := by decide +kernel
theorem dX12_init_230 : decode cX12_init 230 = .ok (.sipush 400, 3) := by decide +kernel
theorem dX12_init_233 : decode cX12_init 233 = .ok (.newarray .int, 2) := by decide +kernel
theorem dX12_init_235 : decode cX12_init 235 = .ok (.putfield 98, 3) := by decide +kernel
theorem dX12_init_238 : decode cX12_init 238 = .ok (.aload_n 0, 1) := by decide +kernel
theorem dX12_init_239 : decode cX12_init 239 = .ok (.bipush 12, 2) := by decide +kernel
theorem dX12_init_241 : decode cX12_init 241 = .ok (.newarray .int, 2) := by decide +kernel
theorem dX12_init_243 : decode cX12_init 243 = .ok (.putfield 101, 3) := by decide +kernel
theorem dX12_init_246 : decode cX12_init 246 = .ok (.aload_n 0, 1) := by decide +kernel
theorem dX12_init_247 : decode cX12_init 247 = .ok (.iconst 3, 1) := by decide +kernel
theorem dX12_init_248 : decode cX12_init 248 = .ok (.newarray .int, 2) := by decide +kernel
theorem dX12_init_250 : decode cX12_init 250 = .ok (.putfield 104, 3) := by decide +kernel
theorem dX12_init_253 : decode cX12_init 253 = .ok (.aload_n 0, 1) := by decide +kernel
theorem dX12_init_254 : decode cX12_init 254 = .ok (.getfield 34, 3) := by decide +kernel
theorem dX12_init_257 : decode cX12_init 257 = .ok (.iconst 0, 1) := by decide +kernel
theorem dX12_init_258 : decode cX12_init 258 = .ok (.bipush 112, 2) := by decide +kernel
theorem dX12_init_260 : decode cX12_init 260 = .ok (.bipush 111, 2) := by decide +kernel
theorem dX12_init_262 : decode cX12_init 262 = .ok (.bipush 115, 2) := by decide +kernel
theorem dX12_init_264 : decode cX12_init 264 = .ok (.bipush 116, 2) := by decide +kernel
theorem dX12_init_266 : decode cX12_init 266 = .ok (.iconst 0, 1) := by decide +kernel
theorem dX12_init_267 : decode cX12_init 267 = .ok (.iconst 0, 1) := by decide +kernel
theorem dX12_init_268 : decode cX12_init 268 = .ok (.iconst 0, 1) := by decide +kernel
theorem dX12_init_269 : decode cX12_init 269 = .ok (.invokestatic 107, 3) := by decide +kernel
theorem dX12_init_272 : decode cX12_init 272 = .ok (.lastore, 1) := by decide +kernel
theorem dX12_init_273 : decode cX12_init 273 = .ok (.aload_n 0, 1) := by decide +kernel
theorem dX12_init_274 : decode cX12_init 274 = .ok (.getfield 34, 3) := by decide +kernel
theorem dX12_init_277 : decode cX12_init 277 = .ok (.iconst 1, 1) := by decide +kernel
theorem dX12_init_278 : decode cX12_init 278 = .ok (.bipush 108, 2) := by decide +kernel
theorem dX12_init_280 : decode cX12_init 280 = .ok (.bipush 105, 2) := by decide +kernel
theorem dX12_init_282 : decode cX12_init 282 = .ok (.bipush 110, 2) := by decide +kernel
theorem dX12_init_284 : decode cX12_init 284 = .ok (.bipush 107, 2) := by decide +kernel
theorem dX12_init_286 : decode cX12_init 286 = .ok (.iconst 0, 1) := by decide +kernel
theorem dX12_init_287 : decode cX12_init 287 = .ok (.iconst 0, 1) := by decide +kernel
theorem dX12_init_288 : decode cX12_init 288 = .ok (.iconst 0, 1) := by decide +kernel
theorem dX12_init_289 : decode cX12_init 289 = .ok (.invokestatic 107, 3) := by decide +kernel
theorem dX12_init_292 : decode cX12_init 292 = .ok (.lastore, 1) := by decide +kernel
theorem dX12_init_293 : decode cX12_init 293 = .ok (.aload_n 0, 1) := by decide +kernel
theorem dX12_init_294 : decode cX12_init 294 = .ok (.getfield 34, 3) := by decide +kernel
theorem dX12_init_297 : decode cX12_init 297 = .ok (.iconst 2, 1) := by decide +kernel
theorem dX12_init_298 : decode cX12_init 298 = .ok (.bipush 119, 2) := by decide +kernel
theorem dX12_init_300 : decode cX12_init 300 = .ok (.bipush 97, 2) := by decide +kernel
theorem dX12_init_302 : decode cX12_init 302 = .ok (.bipush 121, 2) := by decide +kernel
theorem dX12_init_304 : decode cX12_init 304 = .ok (.iconst 0, 1) := by decide +kernel
theorem dX12_init_305 : decode cX12_init 305 = .ok (.iconst 0, 1) := by decide +kernel
theorem dX12_init_306 : decode cX12_init 306 = .ok (.iconst 0, 1) := by decide +kernel
theorem dX12_init_307 : decode cX12_init 307 = .ok (.iconst 0, 1) := by decide +kernel
theorem dX12_init_308 : decode cX12_init 308 = .ok (.invokestatic 107, 3) := by decide +kernel
theorem dX12_init_311 : decode cX12_init 311 = .ok (.lastore, 1) := by decide +kernel
theorem dX12_init_312 : decode cX12_init 312 = .ok (.aload_n 0, 1) := by decide +kernel
theorem dX12_init_313 : decode cX12_init 313 = .ok (.getfield 34, 3) := by decide +kernel
theorem dX12_init_316 : decode cX12_init 316 = .ok (.iconst 3, 1) := by decide +kernel
theorem dX12_init_317 : decode cX12_init 317 = .ok (.bipush 103, 2) := by decide +kernel
theorem dX12_init_319 : decode cX12_init 319 = .ok (.bipush 111, 2) := by decide +kernel
theorem dX12_init_321 : decode cX12_init 321 = .ok (.bipush 111, 2) := by decide +kernel
theorem dX12_init_323 : decode cX12_init 323 = .ok (.bipush 100, 2) := by decide +kernel
theorem dX12_init_325 : decode cX12_init 325 = .ok (.iconst 0, 1) := by decide +kernel
theorem dX12_init_326 : decode cX12_init 326 = .ok (.iconst 0, 1) := by decide +kernel
theorem dX12_init_327 : decode cX12_init 327 = .ok (.iconst 0, 1) := by decide +kernel
theorem dX12_init_328 : decode cX12_init 328 = .ok (.invokestatic 107, 3) := by decide +kernel
theorem dX12_init_331 : decode cX12_init 331 = .ok (.lastore, 1) := by decide +kernel
theorem dX12_init_332 : decode cX12_init 332 = .ok (.aload_n 0, 1) := by decide +kernel
theorem dX12_init_333 : decode cX12_init 333 = .ok (.getfield 34, 3) := by decide +kernel
theorem dX12_init_336 : decode cX12_init 336 = .ok (.iconst 4, 1) := by decide +kernel
theorem dX12_init_337 : decode cX12_init 337 = .ok (.bipush 98, 2) := by decide +kernel
theorem dX12_init_339 : decode cX12_init 339 = .ok (.bipush 97, 2) := by decide +kernel
theorem dX12_init_341 : decode cX12_init 341 = .ok (.bipush 100, 2) := by decide +kernel
theorem dX12_init_343 : decode cX12_init 343 = .ok (.iconst 0, 1) := by decide +kernel
theorem dX12_init_344 : decode cX12_init 344 = .ok (.iconst 0, 1) := by decide +kernel
theorem dX12_init_345 : decode cX12_init 345 = .ok (.iconst 0, 1) := by decide +kernel
theorem dX12_init_346 : decode cX12_init 346 = .ok (.iconst 0, 1) := by decide +kernel
theorem dX12_init_347 : decode cX12_init 347 = .ok (.invokestatic 107, 3) := by decide +kernel
theorem dX12_init_350 : decode cX12_init 350 = .ok (.lastore, 1) := by decide +kernel
theorem dX12_init_351 : decode cX12_init 351 = .ok (.aload_n 0, 1) := by decide +kernel
theorem dX12_init_352 : decode cX12_init 352 = .ok (.getfield 34, 3) := by decide +kernel
theorem dX12_init_355 : decode cX12_init 355 = .ok (.iconst 5, 1) := by decide +kernel
theorem dX12_init_356 : decode cX12_init 356 = .ok (.bipush 101, 2) := by decide +kernel
theorem dX12_init_358 : decode cX12_init 358 = .ok (.bipush 121, 2) := by decide +kernel
theorem dX12_init_360 : decode cX12_init 360 = .ok (.bipush 101, 2) := by decide +kernel
theorem dX12_init_362 : decode cX12_init 362 = .ok (.iconst 0, 1) := by decide +kernel
theorem dX12_init_363 : decode cX12_init 363 = .ok (.iconst 0, 1) := by decide +kernel
theorem dX12_init_364 : decode cX12_init 364 = .ok (.iconst 0, 1) := by decide +kernel
theorem dX12_init_365 : decode cX12_init 365 = .ok (.iconst 0, 1) := by decide +kernel
theorem dX12_init_366 : decode cX12_init 366 = .ok (.invokestatic 107, 3) := by decide +kernel
theorem dX12_init_369 : decode cX12_init 369 = .ok (.lastore, 1) := by decide +kernel
theorem dX12_init_370 : decode cX12_init 370 = .ok (.aload_n 0, 1) := by decide +kernel
theorem dX12_init_371 : decode cX12_init 371 = .ok (.getfield 34, 3) := by decide +kernel
theorem dX12_init_374 : decode cX12_init 374 = .ok (.bipush 6, 2) := by decide +kernel
theorem dX12_init_376 : decode cX12_init 376 = .ok (.bipush 112, 2) := by decide +kernel
theorem dX12_init_378 : decode cX12_init 378 = .ok (.bipush 114, 2) := by decide +kernel
theorem dX12_init_380 : decode cX12_init 380 = .ok (.bipush 105, 2) := by decide +kernel
theorem dX12_init_382 : decode cX12_init 382 = .ok (.bipush 99, 2) := by decide +kernel
theorem dX12_init_384 : decode cX12_init 384 = .ok (.bipush 101, 2) := by decide +kernel
theorem dX12_init_386 : decode cX12_init 386 = .ok (.iconst 0, 1) := by decide +kernel
theorem dX12_init_387 : decode cX12_init 387 = .ok (.iconst 0, 1) := by decide +kernel
theorem dX12_init_388 : decode cX12_init 388 = .ok (.invokestatic 107, 3) := by decide +kernel
theorem dX12_init_391 : decode cX12_init 391 = .ok (.lastore, 1) := by decide +kernel
theorem dX12_init_392 : decode cX12_init 392 = .ok (.aload_n 0, 1) := by decide +kernel
theorem dX12_init_393 : decode cX12_init 393 = .ok (.getfield 34, 3) := by decide +kernel
theorem dX12_init_396 : decode cX12_init 396 = .ok (.bipush 7, 2) := by decide +kernel
theorem dX12_init_398 : decode cX12_init 398 = .ok (.bipush 115, 2) := by decide +kernel
theorem dX12_init_400 : decode cX12_init 400 = .ok (.bipush 101, 2) := by decide +kernel
theorem dX12_init_402 : decode cX12_init 402 = .ok (.bipush 101, 2) := by decide +kernel
theorem dX12_init_404 : decode cX12_init 404 = .ok (.bipush 100, 2) := by decide +kernel
theorem dX12_init_406 : decode cX12_init 406 = .ok (.iconst 0, 1) := by decide +kernel
theorem dX12_init_407 : decode cX12_init 407 = .ok (.iconst 0, 1) := by decide +kernel
theorem dX12_init_408 : decode cX12_init 408 = .ok (.iconst 0, 1) := by decide +kernel
theorem dX12_init_409 : decode cX12_init 409 = .ok (.invokestatic 107, 3) := by decide +kernel
theorem dX12_init_412 : decode cX12_init 412 = .ok (.lastore, 1) := by decide +kernel
theorem dX12_init_413 : decode cX12_init 413 = .ok (.aload_n 0, 1) := by decide +kernel
theorem dX12_init_414 : decode cX12_init 414 = .ok (.bipush 20, 2) := by decide +kernel
theorem dX12_init_416 : decode cX12_init 416 = .ok (.putfield 111, 3) := by decide +kernel
theorem dX12_init_419 : decode cX12_init 419 = .ok (.return_, 1) := by decide +kernel
theorem dX12_feed_0 : decode cX12_feed 0 = .ok (.aload_n 0, 1) := by decide +kernel
theorem dX12_feed_1 : decode cX12_feed 1 = .ok (.getfield 114, 3) := by decide +kernel
theorem dX12_feed_4 : decode cX12_feed 4 = .ok (.bipush 20, 2) := by decide +kernel
theorem dX12_feed_6 : decode cX12_feed 6 = .ok (.iadd, 1) := by decide +kernel
theorem dX12_feed_7 : decode cX12_feed 7 = .ok (.sipush 2000, 3) := by decide +kernel
theorem dX12_feed_10 : decode cX12_feed 10 = .ok (.if_icmp .le 5, 3) := by decide +kernel
theorem dX12_feed_13 : decode cX12_feed 13 = .ok (.iconst (-1), 1) := by decide +kernel
theorem dX12_feed_14 : decode cX12_feed 14 = .ok (.ireturn, 1) := by decide +kernel
theorem dX12_feed_15 : decode cX12_feed 15 = .ok (.aload_n 0, 1) := by decide +kernel
theorem dX12_feed_16 : decode cX12_feed 16 = .ok (.iload_n 1, 1) := by decide +kernel
theorem dX12_feed_17 : decode cX12_feed 17 = .ok (.invokevirtual 117, 3) := by decide +kernel
theorem dX12_feed_20 : decode cX12_feed 20 = .ok (.aload_n 0, 1) := by decide +kernel
theorem dX12_feed_21 : decode cX12_feed 21 = .ok (.iload_n 2, 1) := by decide +kernel
theorem dX12_feed_22 : decode cX12_feed 22 = .ok (.invokevirtual 117, 3) := by decide +kernel
theorem dX12_feed_25 : decode cX12_feed 25 = .ok (.aload_n 0, 1) := by decide +kernel
theorem dX12_feed_26 : decode cX12_feed 26 = .ok (.iload_n 3, 1) := by decide +kernel
theorem dX12_feed_27 : decode cX12_feed 27 = .ok (.invokevirtual 117, 3) := by decide +kernel
theorem dX12_feed_30 : decode cX12_feed 30 = .ok (.aload_n 0, 1) := by decide +kernel
theorem dX12_feed_31 : decode cX12_feed 31 = .ok (.iload 4, 2) := by decide +kernel
theorem dX12_feed_33 : decode cX12_feed 33 = .ok (.invokevirtual 117, 3) := by decide +kernel
theorem dX12_feed_36 : decode cX12_feed 36 = .ok (.aload_n 0, 1) := by decide +kernel
theorem dX12_feed_37 : decode cX12_feed 37 = .ok (.iload 5, 2) := by decide +kernel
theorem dX12_feed_39 : decode cX12_feed 39 = .ok (.invokevirtual 117, 3) := by decide +kernel
theorem dX12_feed_42 : decode cX12_feed 42 = .ok (.aload_n 0, 1) := by decide +kernel
theorem dX12_feed_43 : decode cX12_feed 43 = .ok (.getfield 114, 3) := by decide +kernel
theorem dX12_feed_46 : decode cX12_feed 46 = .ok (.ireturn, 1) := by decide +kernel
theorem dX12_lays_0 : decode cX12_lays 0 = .ok (.bipush 24, 2) := by decide +kernel
theorem dX12_lays_2 : decode cX12_lays 2 = .ok (.istore_n 2, 1) := by decide +kernel
theorem dX12_lays_3 : decode cX12_lays 3 = .ok (.iload_n 2, 1) := by decide +kernel
theorem dX12_lays_4 : decode cX12_lays 4 = .ok (.ifCond .lt 32, 3) := by decide +kernel
theorem dX12_lays_7 : decode cX12_lays 7 = .ok (.aload_n 0, 1) := by decide +kernel
theorem dX12_lays_8 : decode cX12_lays 8 = .ok (.getfield 13, 3) := by decide +kernel
theorem dX12_lays_11 : decode cX12_lays 11 = .ok (.aload_n 0, 1) := by decide +kernel
theorem dX12_lays_12 : decode cX12_lays 12 = .ok (.getfield 114, 3) := by decide +kernel
theorem dX12_lays_15 : decode cX12_lays 15 = .ok (.iload_n 1, 1) := by decide +kernel
theorem dX12_lays_16 : decode cX12_lays 16 = .ok (.iload_n 2, 1) := by decide +kernel
theorem dX12_lays_17 : decode cX12_lays 17 = .ok (.ishr, 1) := by decide +kernel
theorem dX12_lays_18 : decode cX12_lays 18 = .ok (.i2b, 1) := by decide +kernel
theorem dX12_lays_19 : decode cX12_lays 19 = .ok (.bastore, 1) := by decide +kernel
theorem dX12_lays_20 : decode cX12_lays 20 = .ok (.aload_n 0, 1) := by decide +kernel
theorem dX12_lays_21 : decode cX12_lays 21 = .ok (.dup, 1) := by decide +kernel
theorem dX12_lays_22 : decode cX12_lays 22 = .ok (.getfield 114, 3) := by decide +kernel
theorem dX12_lays_25 : decode cX12_lays 25 = .ok (.iconst 1, 1) := by decide +kernel
theorem dX12_lays_26 : decode cX12_lays 26 = .ok (.iadd, 1) := by decide +kernel
theorem dX12_lays_27 : decode cX12_lays 27 = .ok (.putfield 114, 3) := by decide +kernel
theorem dX12_lays_30 : decode cX12_lays 30 = .ok (.iinc 2 (-8), 3) := by decide +kernel
theorem dX12_lays_33 : decode cX12_lays 33 = .ok (.goto (-30), 3) := by decide +kernel
theorem dX12_lays_36 : decode cX12_lays 36 = .ok (.return_, 1) := by decide +kernel
theorem dX12_back_0 : decode cX12_back 0 = .ok (.iload_n 1, 1) := by decide +kernel
theorem dX12_back_1 : decode cX12_back 1 = .ok (.ifCond .lt 11, 3) := by decide +kernel
theorem dX12_back_4 : decode cX12_back 4 = .ok (.iload_n 1, 1) := by decide +kernel
theorem dX12_back_5 : decode cX12_back 5 = .ok (.aload_n 0, 1) := by decide +kernel
theorem dX12_back_6 : decode cX12_back 6 = .ok (.getfield 114, 3) := by decide +kernel
theorem dX12_back_9 : decode cX12_back 9 = .ok (.if_icmp .le 5, 3) := by decide +kernel
theorem dX12_back_12 : decode cX12_back 12 = .ok (.iconst (-1), 1) := by decide +kernel
theorem dX12_back_13 : decode cX12_back 13 = .ok (.ireturn, 1) := by decide +kernel
theorem dX12_back_14 : decode cX12_back 14 = .ok (.aload_n 0, 1) := by decide +kernel
theorem dX12_back_15 : decode cX12_back 15 = .ok (.dup, 1) := by decide +kernel
theorem dX12_back_16 : decode cX12_back 16 = .ok (.getfield 114, 3) := by decide +kernel
theorem dX12_back_19 : decode cX12_back 19 = .ok (.iload_n 1, 1) := by decide +kernel
theorem dX12_back_20 : decode cX12_back 20 = .ok (.isub, 1) := by decide +kernel
theorem dX12_back_21 : decode cX12_back 21 = .ok (.putfield 114, 3) := by decide +kernel
theorem dX12_back_24 : decode cX12_back 24 = .ok (.aload_n 0, 1) := by decide +kernel
theorem dX12_back_25 : decode cX12_back 25 = .ok (.getfield 114, 3) := by decide +kernel
theorem dX12_back_28 : decode cX12_back 28 = .ok (.ireturn, 1) := by decide +kernel
theorem dX12_byteAt_0 : decode cX12_byteAt 0 = .ok (.iload_n 1, 1) := by decide +kernel
theorem dX12_byteAt_1 : decode cX12_byteAt 1 = .ok (.aload_n 0, 1) := by decide +kernel
theorem dX12_byteAt_2 : decode cX12_byteAt 2 = .ok (.getfield 121, 3) := by decide +kernel
theorem dX12_byteAt_5 : decode cX12_byteAt 5 = .ok (.if_icmp .ge 16, 3) := by decide +kernel
theorem dX12_byteAt_8 : decode cX12_byteAt 8 = .ok (.aload_n 0, 1) := by decide +kernel
theorem dX12_byteAt_9 : decode cX12_byteAt 9 = .ok (.getfield 17, 3) := by decide +kernel
theorem dX12_byteAt_12 : decode cX12_byteAt 12 = .ok (.iload_n 1, 1) := by decide +kernel
theorem dX12_byteAt_13 : decode cX12_byteAt 13 = .ok (.baload, 1) := by decide +kernel
theorem dX12_byteAt_14 : decode cX12_byteAt 14 = .ok (.sipush 255, 3) := by decide +kernel
theorem dX12_byteAt_17 : decode cX12_byteAt 17 = .ok (.iand, 1) := by decide +kernel
theorem dX12_byteAt_18 : decode cX12_byteAt 18 = .ok (.goto 4, 3) := by decide +kernel
theorem dX12_byteAt_21 : decode cX12_byteAt 21 = .ok (.iconst 0, 1) := by decide +kernel
theorem dX12_byteAt_22 : decode cX12_byteAt 22 = .ok (.ireturn, 1) := by decide +kernel
theorem dX12_isDigit_0 : decode cX12_isDigit 0 = .ok (.iload_n 0, 1) := by decide +kernel
theorem dX12_isDigit_1 : decode cX12_isDigit 1 = .ok (.bipush 48, 2) := by decide +kernel
theorem dX12_isDigit_3 : decode cX12_isDigit 3 = .ok (.if_icmp .lt 13, 3) := by decide +kernel
theorem dX12_isDigit_6 : decode cX12_isDigit 6 = .ok (.iload_n 0, 1) := by decide +kernel
theorem dX12_isDigit_7 : decode cX12_isDigit 7 = .ok (.bipush 57, 2) := by decide +kernel
theorem dX12_isDigit_9 : decode cX12_isDigit 9 = .ok (.if_icmp .gt 7, 3) := by decide +kernel
theorem dX12_isDigit_12 : decode cX12_isDigit 12 = .ok (.iconst 1, 1) := by decide +kernel
theorem dX12_isDigit_13 : decode cX12_isDigit 13 = .ok (.goto 4, 3) := by decide +kernel
theorem dX12_isDigit_16 : decode cX12_isDigit 16 = .ok (.iconst 0, 1) := by decide +kernel
theorem dX12_isDigit_17 : decode cX12_isDigit 17 = .ok (.ireturn, 1) := by decide +kernel
theorem dX12_isLetter_0 : decode cX12_isLetter 0 = .ok (.iload_n 0, 1) := by decide +kernel
theorem dX12_isLetter_1 : decode cX12_isLetter 1 = .ok (.bipush 97, 2) := by decide +kernel
theorem dX12_isLetter_3 : decode cX12_isLetter 3 = .ok (.if_icmp .lt 13, 3) := by decide +kernel
theorem dX12_isLetter_6 : decode cX12_isLetter 6 = .ok (.iload_n 0, 1) := by decide +kernel
theorem dX12_isLetter_7 : decode cX12_isLetter 7 = .ok (.bipush 122, 2) := by decide +kernel
theorem dX12_isLetter_9 : decode cX12_isLetter 9 = .ok (.if_icmp .gt 7, 3) := by decide +kernel
theorem dX12_isLetter_12 : decode cX12_isLetter 12 = .ok (.iconst 1, 1) := by decide +kernel
theorem dX12_isLetter_13 : decode cX12_isLetter 13 = .ok (.goto 4, 3) := by decide +kernel
theorem dX12_isLetter_16 : decode cX12_isLetter 16 = .ok (.iconst 0, 1) := by decide +kernel
theorem dX12_isLetter_17 : decode cX12_isLetter 17 = .ok (.ireturn, 1) := by decide +kernel
theorem dX12_appends_0 : decode cX12_appends 0 = .ok (.iload_n 2, 1) := by decide +kernel
theorem dX12_appends_1 : decode cX12_appends 1 = .ok (.ifCond .ne 7, 3) := by decide +kernel
theorem dX12_appends_4 : decode cX12_appends 4 = .ok (.lload_n 0, 1) := by decide +kernel
theorem dX12_appends_5 : decode cX12_appends 5 = .ok (.goto 16, 3) := by decide +kernel
theorem dX12_appends_8 : decode cX12_appends 8 = .ok (.ldc2_w 124, 3) := by decide +kernel
theorem dX12_appends_11 : decode cX12_appends 11 = .ok (.lload_n 0, 1) := by decide +kernel
theorem dX12_appends_12 : decode cX12_appends 12 = .ok (.lmul, 1) := by decide +kernel
theorem dX12_appends_13 : decode cX12_appends 13 = .ok (.iload_n 2, 1) := by decide +kernel
theorem dX12_appends_14 : decode cX12_appends 14 = .ok (.bipush 97, 2) := by decide +kernel
theorem dX12_appends_16 : decode cX12_appends 16 = .ok (.isub, 1) := by decide +kernel
theorem dX12_appends_17 : decode cX12_appends 17 = .ok (.iconst 1, 1) := by decide +kernel
theorem dX12_appends_18 : decode cX12_appends 18 = .ok (.iadd, 1) := by decide +kernel
theorem dX12_appends_19 : decode cX12_appends 19 = .ok (.i2l, 1) := by decide +kernel
theorem dX12_appends_20 : decode cX12_appends 20 = .ok (.ladd, 1) := by decide +kernel
theorem dX12_appends_21 : decode cX12_appends 21 = .ok (.lreturn, 1) := by decide +kernel
theorem dX12_letters_0 : decode cX12_letters 0 = .ok (.lconst 0, 1) := by decide +kernel
theorem dX12_letters_1 : decode cX12_letters 1 = .ok (.iload_n 0, 1) := by decide +kernel
theorem dX12_letters_2 : decode cX12_letters 2 = .ok (.invokestatic 126, 3) := by decide +kernel
theorem dX12_letters_5 : decode cX12_letters 5 = .ok (.iload_n 1, 1) := by decide +kernel
theorem dX12_letters_6 : decode cX12_letters 6 = .ok (.invokestatic 126, 3) := by decide +kernel
theorem dX12_letters_9 : decode cX12_letters 9 = .ok (.iload_n 2, 1) := by decide +kernel
theorem dX12_letters_10 : decode cX12_letters 10 = .ok (.invokestatic 126, 3) := by decide +kernel
theorem dX12_letters_13 : decode cX12_letters 13 = .ok (.iload_n 3, 1) := by decide +kernel
theorem dX12_letters_14 : decode cX12_letters 14 = .ok (.invokestatic 126, 3) := by decide +kernel
theorem dX12_letters_17 : decode cX12_letters 17 = .ok (.iload 4, 2) := by decide +kernel
theorem dX12_letters_19 : decode cX12_letters 19 = .ok (.invokestatic 126, 3) := by decide +kernel
theorem dX12_letters_22 : decode cX12_letters 22 = .ok (.iload 5, 2) := by decide +kernel
theorem dX12_letters_24 : decode cX12_letters 24 = .ok (.invokestatic 126, 3) := by decide +kernel
theorem dX12_letters_27 : decode cX12_letters 27 = .ok (.iload 6, 2) := by decide +kernel
theorem dX12_letters_29 : decode cX12_letters 29 = .ok (.invokestatic 126, 3) := by decide +kernel
theorem dX12_letters_32 : decode cX12_letters 32 = .ok (.lreturn, 1) := by decide +kernel
theorem dX12_token_0 : decode cX12_token 0 = .ok (.aload_n 0, 1) := by decide +kernel
theorem dX12_token_1 : decode cX12_token 1 = .ok (.getfield 20, 3) := by decide +kernel
theorem dX12_token_4 : decode cX12_token 4 = .ok (.aload_n 0, 1) := by decide +kernel
theorem dX12_token_5 : decode cX12_token 5 = .ok (.getfield 130, 3) := by decide +kernel
theorem dX12_token_8 : decode cX12_token 8 = .ok (.iload_n 1, 1) := by decide +kernel
theorem dX12_token_9 : decode cX12_token 9 = .ok (.iastore, 1) := by decide +kernel
theorem dX12_token_10 : decode cX12_token 10 = .ok (.aload_n 0, 1) := by decide +kernel
theorem dX12_token_11 : decode cX12_token 11 = .ok (.getfield 24, 3) := by decide +kernel
theorem dX12_token_14 : decode cX12_token 14 = .ok (.aload_n 0, 1) := by decide +kernel
theorem dX12_token_15 : decode cX12_token 15 = .ok (.getfield 130, 3) := by decide +kernel
theorem dX12_token_18 : decode cX12_token 18 = .ok (.iload_n 2, 1) := by decide +kernel
theorem dX12_token_19 : decode cX12_token 19 = .ok (.iastore, 1) := by decide +kernel
theorem dX12_token_20 : decode cX12_token 20 = .ok (.aload_n 0, 1) := by decide +kernel
theorem dX12_token_21 : decode cX12_token 21 = .ok (.getfield 27, 3) := by decide +kernel
theorem dX12_token_24 : decode cX12_token 24 = .ok (.aload_n 0, 1) := by decide +kernel
theorem dX12_token_25 : decode cX12_token 25 = .ok (.getfield 130, 3) := by decide +kernel
theorem dX12_token_28 : decode cX12_token 28 = .ok (.iload_n 3, 1) := by decide +kernel
theorem dX12_token_29 : decode cX12_token 29 = .ok (.iastore, 1) := by decide +kernel
theorem dX12_token_30 : decode cX12_token 30 = .ok (.aload_n 0, 1) := by decide +kernel
theorem dX12_token_31 : decode cX12_token 31 = .ok (.getfield 30, 3) := by decide +kernel
theorem dX12_token_34 : decode cX12_token 34 = .ok (.aload_n 0, 1) := by decide +kernel
theorem dX12_token_35 : decode cX12_token 35 = .ok (.getfield 130, 3) := by decide +kernel
theorem dX12_token_38 : decode cX12_token 38 = .ok (.lload 4, 2) := by decide +kernel
theorem dX12_token_40 : decode cX12_token 40 = .ok (.lastore, 1) := by decide +kernel
theorem dX12_token_41 : decode cX12_token 41 = .ok (.aload_n 0, 1) := by decide +kernel
theorem dX12_token_42 : decode cX12_token 42 = .ok (.dup, 1) := by decide +kernel
theorem dX12_token_43 : decode cX12_token 43 = .ok (.getfield 130, 3) := by decide +kernel
theorem dX12_token_46 : decode cX12_token 46 = .ok (.iconst 1, 1) := by decide +kernel
theorem dX12_token_47 : decode cX12_token 47 = .ok (.iadd, 1) := by decide +kernel
theorem dX12_token_48 : decode cX12_token 48 = .ok (.putfield 130, 3) := by decide +kernel
theorem dX12_token_51 : decode cX12_token 51 = .ok (.return_, 1) := by decide +kernel
theorem dX12_cutsText_0 : decode cX12_cutsText 0 = .ok (.aload_n 0, 1) := by decide +kernel
theorem dX12_cutsText_1 : decode cX12_cutsText 1 = .ok (.iconst 0, 1) := by decide +kernel
theorem dX12_cutsText_2 : decode cX12_cutsText 2 = .ok (.putfield 130, 3) := by decide +kernel
theorem dX12_cutsText_5 : decode cX12_cutsText 5 = .ok (.iconst 0, 1) := by decide +kernel
theorem dX12_cutsText_6 : decode cX12_cutsText 6 = .ok (.istore_n 1, 1) := by decide +kernel
theorem dX12_cutsText_7 : decode cX12_cutsText 7 = .ok (.aload_n 0, 1) := by decide +kernel
theorem dX12_cutsText_8 : decode cX12_cutsText 8 = .ok (.getfield 130, 3) := by decide +kernel
theorem dX12_cutsText_11 : decode cX12_cutsText 11 = .ok (.sipush 400, 3) := by decide +kernel
theorem dX12_cutsText_14 : decode cX12_cutsText 14 = .ok (.if_icmp .gt 280, 3) := by decide +kernel
theorem dX12_cutsText_17 : decode cX12_cutsText 17 = .ok (.aload_n 0, 1) := by decide +kernel
theorem dX12_cutsText_18 : decode cX12_cutsText 18 = .ok (.iload_n 1, 1) := by decide +kernel
theorem dX12_cutsText_19 : decode cX12_cutsText 19 = .ok (.invokevirtual 133, 3) := by decide +kernel
theorem dX12_cutsText_22 : decode cX12_cutsText 22 = .ok (.istore_n 2, 1) := by decide +kernel
theorem dX12_cutsText_23 : decode cX12_cutsText 23 = .ok (.iload_n 1, 1) := by decide +kernel
theorem dX12_cutsText_24 : decode cX12_cutsText 24 = .ok (.aload_n 0, 1) := by decide +kernel
theorem dX12_cutsText_25 : decode cX12_cutsText 25 = .ok (.getfield 121, 3) := by decide +kernel
theorem dX12_cutsText_28 : decode cX12_cutsText 28 = .ok (.if_icmp .lt 15, 3) := by decide +kernel
theorem dX12_cutsText_31 : decode cX12_cutsText 31 = .ok (.aload_n 0, 1) := by decide +kernel
theorem dX12_cutsText_32 : decode cX12_cutsText 32 = .ok (.iconst 0, 1) := by decide +kernel
theorem dX12_cutsText_33 : decode cX12_cutsText 33 = .ok (.aload_n 0, 1) := by decide +kernel
theorem dX12_cutsText_34 : decode cX12_cutsText 34 = .ok (.getfield 121, 3) := by decide +kernel
theorem dX12_cutsText_37 : decode cX12_cutsText 37 = .ok (.iconst 0, 1) := by decide +kernel
theorem dX12_cutsText_38 : decode cX12_cutsText 38 = .ok (.lconst 0, 1) := by decide +kernel
theorem dX12_cutsText_39 : decode cX12_cutsText 39 = .ok (.invokevirtual 137, 3) := by decide +kernel
theorem dX12_cutsText_42 : decode cX12_cutsText 42 = .ok (.return_, 1) := by decide +kernel
theorem dX12_cutsText_43 : decode cX12_cutsText 43 = .ok (.iload_n 2, 1) := by decide +kernel
theorem dX12_cutsText_44 : decode cX12_cutsText 44 = .ok (.bipush 9, 2) := by decide +kernel
theorem dX12_cutsText_46 : decode cX12_cutsText 46 = .ok (.if_icmp .eq 21, 3) := by decide +kernel
theorem dX12_cutsText_49 : decode cX12_cutsText 49 = .ok (.iload_n 2, 1) := by decide +kernel
theorem dX12_cutsText_50 : decode cX12_cutsText 50 = .ok (.bipush 10, 2) := by decide +kernel
theorem dX12_cutsText_52 : decode cX12_cutsText 52 = .ok (.if_icmp .eq 15, 3) := by decide +kernel
theorem dX12_cutsText_55 : decode cX12_cutsText 55 = .ok (.iload_n 2, 1) := by decide +kernel
theorem dX12_cutsText_56 : decode cX12_cutsText 56 = .ok (.bipush 13, 2) := by decide +kernel
theorem dX12_cutsText_58 : decode cX12_cutsText 58 = .ok (.if_icmp .eq 9, 3) := by decide +kernel
theorem dX12_cutsText_61 : decode cX12_cutsText 61 = .ok (.iload_n 2, 1) := by decide +kernel
theorem dX12_cutsText_62 : decode cX12_cutsText 62 = .ok (.bipush 32, 2) := by decide +kernel
theorem dX12_cutsText_64 : decode cX12_cutsText 64 = .ok (.if_icmp .ne 9, 3) := by decide +kernel
theorem dX12_cutsText_67 : decode cX12_cutsText 67 = .ok (.iinc 1 1, 3) := by decide +kernel
theorem dX12_cutsText_70 : decode cX12_cutsText 70 = .ok (.goto 221, 3) := by decide +kernel
theorem dX12_cutsText_73 : decode cX12_cutsText 73 = .ok (.iload_n 2, 1) := by decide +kernel
theorem dX12_cutsText_74 : decode cX12_cutsText 74 = .ok (.invokestatic 141, 3) := by decide +kernel
theorem dX12_cutsText_77 : decode cX12_cutsText 77 = .ok (.ifCond .eq 119, 3) := by decide +kernel
theorem dX12_cutsText_80 : decode cX12_cutsText 80 = .ok (.iconst 0, 1) := by decide +kernel
theorem dX12_cutsText_81 : decode cX12_cutsText 81 = .ok (.istore_n 3, 1) := by decide +kernel
theorem dX12_cutsText_82 : decode cX12_cutsText 82 = .ok (.lconst 0, 1) := by decide +kernel
theorem dX12_cutsText_83 : decode cX12_cutsText 83 = .ok (.lstore 4, 2) := by decide +kernel
theorem dX12_cutsText_85 : decode cX12_cutsText 85 = .ok (.aload_n 0, 1) := by decide +kernel
theorem dX12_cutsText_86 : decode cX12_cutsText 86 = .ok (.iload_n 1, 1) := by decide +kernel
theorem dX12_cutsText_87 : decode cX12_cutsText 87 = .ok (.iload_n 3, 1) := by decide +kernel
theorem dX12_cutsText_88 : decode cX12_cutsText 88 = .ok (.iadd, 1) := by decide +kernel
theorem dX12_cutsText_89 : decode cX12_cutsText 89 = .ok (.invokevirtual 133, 3) := by decide +kernel
theorem dX12_cutsText_92 : decode cX12_cutsText 92 = .ok (.invokestatic 141, 3) := by decide +kernel
theorem dX12_cutsText_95 : decode cX12_cutsText 95 = .ok (.ifCond .eq 29, 3) := by decide +kernel
theorem dX12_cutsText_98 : decode cX12_cutsText 98 = .ok (.iload_n 3, 1) := by decide +kernel
theorem dX12_cutsText_99 : decode cX12_cutsText 99 = .ok (.bipush 8, 2) := by decide +kernel
theorem dX12_cutsText_101 : decode cX12_cutsText 101 = .ok (.if_icmp .ge 17, 3) := by decide +kernel
theorem dX12_cutsText_104 : decode cX12_cutsText 104 = .ok (.lload 4, 2) := by decide +kernel
theorem dX12_cutsText_106 : decode cX12_cutsText 106 = .ok (.aload_n 0, 1) := by decide +kernel
theorem dX12_cutsText_107 : decode cX12_cutsText 107 = .ok (.iload_n 1, 1) := by decide +kernel
theorem dX12_cutsText_108 : decode cX12_cutsText 108 = .ok (.iload_n 3, 1) := by decide +kernel
theorem dX12_cutsText_109 : decode cX12_cutsText 109 = .ok (.iadd, 1) := by decide +kernel
theorem dX12_cutsText_110 : decode cX12_cutsText 110 = .ok (.invokevirtual 133, 3) := by decide +kernel
theorem dX12_cutsText_113 : decode cX12_cutsText 113 = .ok (.invokestatic 126, 3) := by decide +kernel
theorem dX12_cutsText_116 : decode cX12_cutsText 116 = .ok (.lstore 4, 2) := by decide +kernel
theorem dX12_cutsText_118 : decode cX12_cutsText 118 = .ok (.iinc 3 1, 3) := by decide +kernel
theorem dX12_cutsText_121 : decode cX12_cutsText 121 = .ok (.goto (-36), 3) := by decide +kernel
theorem dX12_cutsText_124 : decode cX12_cutsText 124 = .ok (.iload_n 3, 1) := by decide +kernel
theorem dX12_cutsText_125 : decode cX12_cutsText 125 = .ok (.bipush 8, 2) := by decide +kernel
theorem dX12_cutsText_127 : decode cX12_cutsText 127 = .ok (.if_icmp .le 7, 3) := by decide +kernel
theorem dX12_cutsText_130 : decode cX12_cutsText 130 = .ok (.iconst 3, 1) := by decide +kernel
theorem dX12_cutsText_131 : decode cX12_cutsText 131 = .ok (.goto 4, 3) := by decide +kernel
theorem dX12_cutsText_134 : decode cX12_cutsText 134 = .ok (.iconst 1, 1) := by decide +kernel
theorem dX12_cutsText_135 : decode cX12_cutsText 135 = .ok (.istore 6, 2) := by decide +kernel
theorem dX12_cutsText_137 : decode cX12_cutsText 137 = .ok (.iload_n 3, 1) := by decide +kernel
theorem dX12_cutsText_138 : decode cX12_cutsText 138 = .ok (.bipush 8, 2) := by decide +kernel
theorem dX12_cutsText_140 : decode cX12_cutsText 140 = .ok (.if_icmp .gt 39, 3) := by decide +kernel
theorem dX12_cutsText_143 : decode cX12_cutsText 143 = .ok (.iconst 0, 1) := by decide +kernel
theorem dX12_cutsText_144 : decode cX12_cutsText 144 = .ok (.istore 7, 2) := by decide +kernel
theorem dX12_cutsText_146 : decode cX12_cutsText 146 = .ok (.iload 7, 2) := by decide +kernel
theorem dX12_cutsText_148 : decode cX12_cutsText 148 = .ok (.bipush 8, 2) := by decide +kernel
theorem dX12_cutsText_150 : decode cX12_cutsText 150 = .ok (.if_icmp .ge 29, 3) := by decide +kernel
theorem dX12_cutsText_153 : decode cX12_cutsText 153 = .ok (.aload_n 0, 1) := by decide +kernel
theorem dX12_cutsText_154 : decode cX12_cutsText 154 = .ok (.getfield 34, 3) := by decide +kernel
theorem dX12_cutsText_157 : decode cX12_cutsText 157 = .ok (.iload 7, 2) := by decide +kernel
theorem dX12_cutsText_159 : decode cX12_cutsText 159 = .ok (.laload, 1) := by decide +kernel
theorem dX12_cutsText_160 : decode cX12_cutsText 160 = .ok (.lload 4, 2) := by decide +kernel
theorem dX12_cutsText_162 : decode cX12_cutsText 162 = .ok (.lcmp, 1) := by decide +kernel
theorem dX12_cutsText_163 : decode cX12_cutsText 163 = .ok (.ifCond .ne 10, 3) := by decide +kernel
theorem dX12_cutsText_166 : decode cX12_cutsText 166 = .ok (.bipush 20, 2) := by decide +kernel
theorem dX12_cutsText_168 : decode cX12_cutsText 168 = .ok (.iload 7, 2) := by decide +kernel
theorem dX12_cutsText_170 : decode cX12_cutsText 170 = .ok (.iadd, 1) := by decide +kernel
theorem dX12_cutsText_171 : decode cX12_cutsText 171 = .ok (.istore 6, 2) := by decide +kernel
theorem dX12_cutsText_173 : decode cX12_cutsText 173 = .ok (.iinc 7 1, 3) := by decide +kernel
theorem dX12_cutsText_176 : decode cX12_cutsText 176 = .ok (.goto (-30), 3) := by decide +kernel
theorem dX12_cutsText_179 : decode cX12_cutsText 179 = .ok (.aload_n 0, 1) := by decide +kernel
theorem dX12_cutsText_180 : decode cX12_cutsText 180 = .ok (.iload 6, 2) := by decide +kernel
theorem dX12_cutsText_182 : decode cX12_cutsText 182 = .ok (.iload_n 1, 1) := by decide +kernel
theorem dX12_cutsText_183 : decode cX12_cutsText 183 = .ok (.iconst 0, 1) := by decide +kernel
theorem dX12_cutsText_184 : decode cX12_cutsText 184 = .ok (.lload 4, 2) := by decide +kernel
theorem dX12_cutsText_186 : decode cX12_cutsText 186 = .ok (.invokevirtual 137, 3) := by decide +kernel
theorem dX12_cutsText_189 : decode cX12_cutsText 189 = .ok (.iload_n 1, 1) := by decide +kernel
theorem dX12_cutsText_190 : decode cX12_cutsText 190 = .ok (.iload_n 3, 1) := by decide +kernel
theorem dX12_cutsText_191 : decode cX12_cutsText 191 = .ok (.iadd, 1) := by decide +kernel
theorem dX12_cutsText_192 : decode cX12_cutsText 192 = .ok (.istore_n 1, 1) := by decide +kernel
theorem dX12_cutsText_193 : decode cX12_cutsText 193 = .ok (.goto 98, 3) := by decide +kernel
theorem dX12_cutsText_196 : decode cX12_cutsText 196 = .ok (.iload_n 2, 1) := by decide +kernel
theorem dX12_cutsText_197 : decode cX12_cutsText 197 = .ok (.invokestatic 145, 3) := by decide +kernel
theorem dX12_cutsText_200 : decode cX12_cutsText 200 = .ok (.ifCond .eq 75, 3) := by decide +kernel
theorem dX12_cutsText_203 : decode cX12_cutsText 203 = .ok (.iconst 0, 1) := by decide +kernel
theorem dX12_cutsText_204 : decode cX12_cutsText 204 = .ok (.istore_n 3, 1) := by decide +kernel
theorem dX12_cutsText_205 : decode cX12_cutsText 205 = .ok (.iconst 0, 1) := by decide +kernel
theorem dX12_cutsText_206 : decode cX12_cutsText 206 = .ok (.istore 4, 2) := by decide +kernel
theorem dX12_cutsText_208 : decode cX12_cutsText 208 = .ok (.aload_n 0, 1) := by decide +kernel
theorem dX12_cutsText_209 : decode cX12_cutsText 209 = .ok (.iload_n 1, 1) := by decide +kernel
theorem dX12_cutsText_210 : decode cX12_cutsText 210 = .ok (.iload_n 3, 1) := by decide +kernel
theorem dX12_cutsText_211 : decode cX12_cutsText 211 = .ok (.iadd, 1) := by decide +kernel
theorem dX12_cutsText_212 : decode cX12_cutsText 212 = .ok (.invokevirtual 133, 3) := by decide +kernel
theorem dX12_cutsText_215 : decode cX12_cutsText 215 = .ok (.invokestatic 145, 3) := by decide +kernel
theorem dX12_cutsText_218 : decode cX12_cutsText 218 = .ok (.ifCond .eq 32, 3) := by decide +kernel
theorem dX12_cutsText_221 : decode cX12_cutsText 221 = .ok (.iload_n 3, 1) := by decide +kernel
theorem dX12_cutsText_222 : decode cX12_cutsText 222 = .ok (.iconst 4, 1) := by decide +kernel
theorem dX12_cutsText_223 : decode cX12_cutsText 223 = .ok (.if_icmp .ge 21, 3) := by decide +kernel
theorem dX12_cutsText_226 : decode cX12_cutsText 226 = .ok (.bipush 10, 2) := by decide +kernel
theorem dX12_cutsText_228 : decode cX12_cutsText 228 = .ok (.iload 4, 2) := by decide +kernel
theorem dX12_cutsText_230 : decode cX12_cutsText 230 = .ok (.imul, 1) := by decide +kernel
theorem dX12_cutsText_231 : decode cX12_cutsText 231 = .ok (.aload_n 0, 1) := by decide +kernel
theorem dX12_cutsText_232 : decode cX12_cutsText 232 = .ok (.iload_n 1, 1) := by decide +kernel
theorem dX12_cutsText_233 : decode cX12_cutsText 233 = .ok (.iload_n 3, 1) := by decide +kernel
theorem dX12_cutsText_234 : decode cX12_cutsText 234 = .ok (.iadd, 1) := by decide +kernel
theorem dX12_cutsText_235 : decode cX12_cutsText 235 = .ok (.invokevirtual 133, 3) := by decide +kernel
theorem dX12_cutsText_238 : decode cX12_cutsText 238 = .ok (.iadd, 1) := by decide +kernel
theorem dX12_cutsText_239 : decode cX12_cutsText 239 = .ok (.bipush 48, 2) := by decide +kernel
theorem dX12_cutsText_241 : decode cX12_cutsText 241 = .ok (.isub, 1) := by decide +kernel
theorem dX12_cutsText_242 : decode cX12_cutsText 242 = .ok (.istore 4, 2) := by decide +kernel
theorem dX12_cutsText_244 : decode cX12_cutsText 244 = .ok (.iinc 3 1, 3) := by decide +kernel
theorem dX12_cutsText_247 : decode cX12_cutsText 247 = .ok (.goto (-39), 3) := by decide +kernel
theorem dX12_cutsText_250 : decode cX12_cutsText 250 = .ok (.aload_n 0, 1) := by decide +kernel
theorem dX12_cutsText_251 : decode cX12_cutsText 251 = .ok (.iload_n 3, 1) := by decide +kernel
theorem dX12_cutsText_252 : decode cX12_cutsText 252 = .ok (.iconst 4, 1) := by decide +kernel
theorem dX12_cutsText_253 : decode cX12_cutsText 253 = .ok (.if_icmp .le 7, 3) := by decide +kernel
theorem dX12_cutsText_256 : decode cX12_cutsText 256 = .ok (.iconst 3, 1) := by decide +kernel
theorem dX12_cutsText_257 : decode cX12_cutsText 257 = .ok (.goto 4, 3) := by decide +kernel
theorem dX12_cutsText_260 : decode cX12_cutsText 260 = .ok (.iconst 2, 1) := by decide +kernel
theorem dX12_cutsText_261 : decode cX12_cutsText 261 = .ok (.iload_n 1, 1) := by decide +kernel
theorem dX12_cutsText_262 : decode cX12_cutsText 262 = .ok (.iload 4, 2) := by decide +kernel
theorem dX12_cutsText_264 : decode cX12_cutsText 264 = .ok (.lconst 0, 1) := by decide +kernel
theorem dX12_cutsText_265 : decode cX12_cutsText 265 = .ok (.invokevirtual 137, 3) := by decide +kernel
theorem dX12_cutsText_268 : decode cX12_cutsText 268 = .ok (.iload_n 1, 1) := by decide +kernel
theorem dX12_cutsText_269 : decode cX12_cutsText 269 = .ok (.iload_n 3, 1) := by decide +kernel
theorem dX12_cutsText_270 : decode cX12_cutsText 270 = .ok (.iadd, 1) := by decide +kernel
theorem dX12_cutsText_271 : decode cX12_cutsText 271 = .ok (.istore_n 1, 1) := by decide +kernel
theorem dX12_cutsText_272 : decode cX12_cutsText 272 = .ok (.goto 19, 3) := by decide +kernel
theorem dX12_cutsText_275 : decode cX12_cutsText 275 = .ok (.iload_n 1, 1) := by decide +kernel
theorem dX12_cutsText_276 : decode cX12_cutsText 276 = .ok (.aload_n 0, 1) := by decide +kernel
theorem dX12_cutsText_277 : decode cX12_cutsText 277 = .ok (.iload_n 1, 1) := by decide +kernel
theorem dX12_cutsText_278 : decode cX12_cutsText 278 = .ok (.iload_n 2, 1) := by decide +kernel
theorem dX12_cutsText_279 : decode cX12_cutsText 279 = .ok (.aload_n 0, 1) := by decide +kernel
theorem dX12_cutsText_280 : decode cX12_cutsText 280 = .ok (.iload_n 1, 1) := by decide +kernel
theorem dX12_cutsText_281 : decode cX12_cutsText 281 = .ok (.iconst 1, 1) := by decide +kernel
theorem dX12_cutsText_282 : decode cX12_cutsText 282 = .ok (.iadd, 1) := by decide +kernel
theorem dX12_cutsText_283 : decode cX12_cutsText 283 = .ok (.invokevirtual 133, 3) := by decide +kernel
theorem dX12_cutsText_286 : decode cX12_cutsText 286 = .ok (.invokevirtual 148, 3) := by decide +kernel
theorem dX12_cutsText_289 : decode cX12_cutsText 289 = .ok (.iadd, 1) := by decide +kernel
theorem dX12_cutsText_290 : decode cX12_cutsText 290 = .ok (.istore_n 1, 1) := by decide +kernel
theorem dX12_cutsText_291 : decode cX12_cutsText 291 = .ok (.goto (-284), 3) := by decide +kernel
theorem dX12_cutsText_294 : decode cX12_cutsText 294 = .ok (.return_, 1) := by decide +kernel
theorem dX12_sign_0 : decode cX12_sign 0 = .ok (.aload_n 0, 1) := by decide +kernel
theorem dX12_sign_1 : decode cX12_sign 1 = .ok (.iload_n 2, 1) := by decide +kernel
theorem dX12_sign_2 : decode cX12_sign 2 = .ok (.bipush 59, 2) := by decide +kernel
theorem dX12_sign_4 : decode cX12_sign 4 = .ok (.if_icmp .ne 7, 3) := by decide +kernel
theorem dX12_sign_7 : decode cX12_sign 7 = .ok (.iconst 4, 1) := by decide +kernel
theorem dX12_sign_8 : decode cX12_sign 8 = .ok (.goto 4, 3) := by decide +kernel
theorem dX12_sign_11 : decode cX12_sign 11 = .ok (.iconst 3, 1) := by decide +kernel
theorem dX12_sign_12 : decode cX12_sign 12 = .ok (.iload_n 1, 1) := by decide +kernel
theorem dX12_sign_13 : decode cX12_sign 13 = .ok (.iconst 0, 1) := by decide +kernel
theorem dX12_sign_14 : decode cX12_sign 14 = .ok (.lconst 0, 1) := by decide +kernel
theorem dX12_sign_15 : decode cX12_sign 15 = .ok (.invokevirtual 137, 3) := by decide +kernel
theorem dX12_sign_18 : decode cX12_sign 18 = .ok (.iconst 1, 1) := by decide +kernel
theorem dX12_sign_19 : decode cX12_sign 19 = .ok (.ireturn, 1) := by decide +kernel
theorem dX12_is_0 : decode cX12_is 0 = .ok (.aload_n 0, 1) := by decide +kernel
theorem dX12_is_1 : decode cX12_is 1 = .ok (.getfield 152, 3) := by decide +kernel
theorem dX12_is_4 : decode cX12_is 4 = .ok (.ifCond .ne 20, 3) := by decide +kernel
theorem dX12_is_7 : decode cX12_is 7 = .ok (.aload_n 0, 1) := by decide +kernel
theorem dX12_is_8 : decode cX12_is 8 = .ok (.getfield 20, 3) := by decide +kernel
theorem dX12_is_11 : decode cX12_is 11 = .ok (.aload_n 0, 1) := by decide +kernel
theorem dX12_is_12 : decode cX12_is 12 = .ok (.getfield 155, 3) := by decide +kernel
theorem dX12_is_15 : decode cX12_is 15 = .ok (.iaload, 1) := by decide +kernel
theorem dX12_is_16 : decode cX12_is 16 = .ok (.iload_n 1, 1) := by decide +kernel
theorem dX12_is_17 : decode cX12_is 17 = .ok (.if_icmp .ne 7, 3) := by decide +kernel
theorem dX12_is_20 : decode cX12_is 20 = .ok (.iconst 1, 1) := by decide +kernel
theorem dX12_is_21 : decode cX12_is 21 = .ok (.goto 4, 3) := by decide +kernel
theorem dX12_is_24 : decode cX12_is 24 = .ok (.iconst 0, 1) := by decide +kernel
theorem dX12_is_25 : decode cX12_is 25 = .ok (.ireturn, 1) := by decide +kernel
theorem dX12_fail_0 : decode cX12_fail 0 = .ok (.aload_n 0, 1) := by decide +kernel
theorem dX12_fail_1 : decode cX12_fail 1 = .ok (.getfield 152, 3) := by decide +kernel
theorem dX12_fail_4 : decode cX12_fail 4 = .ok (.ifCond .le 4, 3) := by decide +kernel
theorem dX12_fail_7 : decode cX12_fail 7 = .ok (.return_, 1) := by decide +kernel
theorem dX12_fail_8 : decode cX12_fail 8 = .ok (.aload_n 0, 1) := by decide +kernel
theorem dX12_fail_9 : decode cX12_fail 9 = .ok (.iload_n 1, 1) := by decide +kernel
theorem dX12_fail_10 : decode cX12_fail 10 = .ok (.putfield 152, 3) := by decide +kernel
theorem dX12_fail_13 : decode cX12_fail 13 = .ok (.aload_n 0, 1) := by decide +kernel
theorem dX12_fail_14 : decode cX12_fail 14 = .ok (.aload_n 0, 1) := by decide +kernel
theorem dX12_fail_15 : decode cX12_fail 15 = .ok (.getfield 24, 3) := by decide +kernel
theorem dX12_fail_18 : decode cX12_fail 18 = .ok (.aload_n 0, 1) := by decide +kernel
theorem dX12_fail_19 : decode cX12_fail 19 = .ok (.getfield 155, 3) := by decide +kernel
theorem dX12_fail_22 : decode cX12_fail 22 = .ok (.iaload, 1) := by decide +kernel
theorem dX12_fail_23 : decode cX12_fail 23 = .ok (.putfield 158, 3) := by decide +kernel
theorem dX12_fail_26 : decode cX12_fail 26 = .ok (.return_, 1) := by decide +kernel
theorem dX12_wrong_0 : decode cX12_wrong 0 = .ok (.aload_n 0, 1) := by decide +kernel
theorem dX12_wrong_1 : decode cX12_wrong 1 = .ok (.getfield 24, 3) := by decide +kernel
theorem dX12_wrong_4 : decode cX12_wrong 4 = .ok (.iload_n 2, 1) := by decide +kernel
theorem dX12_wrong_5 : decode cX12_wrong 5 = .ok (.iaload, 1) := by decide +kernel
theorem dX12_wrong_6 : decode cX12_wrong 6 = .ok (.istore_n 3, 1) := by decide +kernel
theorem dX12_wrong_7 : decode cX12_wrong 7 = .ok (.aload_n 0, 1) := by decide +kernel
theorem dX12_wrong_8 : decode cX12_wrong 8 = .ok (.getfield 152, 3) := by decide +kernel
theorem dX12_wrong_11 : decode cX12_wrong 11 = .ok (.ifCond .gt 34, 3) := by decide +kernel
theorem dX12_wrong_14 : decode cX12_wrong 14 = .ok (.aload_n 0, 1) := by decide +kernel
theorem dX12_wrong_15 : decode cX12_wrong 15 = .ok (.getfield 161, 3) := by decide +kernel
theorem dX12_wrong_18 : decode cX12_wrong 18 = .ok (.ifCond .eq 28, 3) := by decide +kernel
theorem dX12_wrong_21 : decode cX12_wrong 21 = .ok (.iload_n 3, 1) := by decide +kernel
theorem dX12_wrong_22 : decode cX12_wrong 22 = .ok (.aload_n 0, 1) := by decide +kernel
theorem dX12_wrong_23 : decode cX12_wrong 23 = .ok (.getfield 164, 3) := by decide +kernel
theorem dX12_wrong_26 : decode cX12_wrong 26 = .ok (.if_icmp .gt 19, 3) := by decide +kernel
theorem dX12_wrong_29 : decode cX12_wrong 29 = .ok (.iload_n 3, 1) := by decide +kernel
theorem dX12_wrong_30 : decode cX12_wrong 30 = .ok (.aload_n 0, 1) := by decide +kernel
theorem dX12_wrong_31 : decode cX12_wrong 31 = .ok (.getfield 164, 3) := by decide +kernel
theorem dX12_wrong_34 : decode cX12_wrong 34 = .ok (.if_icmp .ne 12, 3) := by decide +kernel
theorem dX12_wrong_37 : decode cX12_wrong 37 = .ok (.iload_n 1, 1) := by decide +kernel
theorem dX12_wrong_38 : decode cX12_wrong 38 = .ok (.aload_n 0, 1) := by decide +kernel
theorem dX12_wrong_39 : decode cX12_wrong 39 = .ok (.getfield 161, 3) := by decide +kernel
theorem dX12_wrong_42 : decode cX12_wrong 42 = .ok (.if_icmp .lt 4, 3) := by decide +kernel
theorem dX12_wrong_45 : decode cX12_wrong 45 = .ok (.return_, 1) := by decide +kernel
theorem dX12_wrong_46 : decode cX12_wrong 46 = .ok (.aload_n 0, 1) := by decide +kernel
theorem dX12_wrong_47 : decode cX12_wrong 47 = .ok (.iload_n 1, 1) := by decide +kernel
theorem dX12_wrong_48 : decode cX12_wrong 48 = .ok (.putfield 161, 3) := by decide +kernel
theorem dX12_wrong_51 : decode cX12_wrong 51 = .ok (.aload_n 0, 1) := by decide +kernel
theorem dX12_wrong_52 : decode cX12_wrong 52 = .ok (.iload_n 3, 1) := by decide +kernel
theorem dX12_wrong_53 : decode cX12_wrong 53 = .ok (.putfield 164, 3) := by decide +kernel
theorem dX12_wrong_56 : decode cX12_wrong 56 = .ok (.return_, 1) := by decide +kernel
theorem dX12_passes_0 : decode cX12_passes 0 = .ok (.aload_n 0, 1) := by decide +kernel
theorem dX12_passes_1 : decode cX12_passes 1 = .ok (.getfield 155, 3) := by decide +kernel
theorem dX12_passes_4 : decode cX12_passes 4 = .ok (.sipush 400, 3) := by decide +kernel
theorem dX12_passes_7 : decode cX12_passes 7 = .ok (.if_icmp .ne 11, 3) := by decide +kernel
theorem dX12_passes_10 : decode cX12_passes 10 = .ok (.aload_n 0, 1) := by decide +kernel
theorem dX12_passes_11 : decode cX12_passes 11 = .ok (.iconst 2, 1) := by decide +kernel
theorem dX12_passes_12 : decode cX12_passes 12 = .ok (.invokevirtual 167, 3) := by decide +kernel
theorem dX12_passes_15 : decode cX12_passes 15 = .ok (.goto 13, 3) := by decide +kernel
theorem dX12_passes_18 : decode cX12_passes 18 = .ok (.aload_n 0, 1) := by decide +kernel
theorem dX12_passes_19 : decode cX12_passes 19 = .ok (.dup, 1) := by decide +kernel
theorem dX12_passes_20 : decode cX12_passes 20 = .ok (.getfield 155, 3) := by decide +kernel
theorem dX12_passes_23 : decode cX12_passes 23 = .ok (.iconst 1, 1) := by decide +kernel
theorem dX12_passes_24 : decode cX12_passes 24 = .ok (.iadd, 1) := by decide +kernel
theorem dX12_passes_25 : decode cX12_passes 25 = .ok (.putfield 155, 3) := by decide +kernel
theorem dX12_passes_28 : decode cX12_passes 28 = .ok (.return_, 1) := by decide +kernel
theorem dX12_must_0 : decode cX12_must 0 = .ok (.aload_n 0, 1) := by decide +kernel
theorem dX12_must_1 : decode cX12_must 1 = .ok (.iload_n 1, 1) := by decide +kernel
theorem dX12_must_2 : decode cX12_must 2 = .ok (.invokevirtual 170, 3) := by decide +kernel
theorem dX12_must_5 : decode cX12_must 5 = .ok (.ifCond .eq 10, 3) := by decide +kernel
theorem dX12_must_8 : decode cX12_must 8 = .ok (.aload_n 0, 1) := by decide +kernel
theorem dX12_must_9 : decode cX12_must 9 = .ok (.invokevirtual 173, 3) := by decide +kernel
theorem dX12_must_12 : decode cX12_must 12 = .ok (.goto 8, 3) := by decide +kernel
theorem dX12_must_15 : decode cX12_must 15 = .ok (.aload_n 0, 1) := by decide +kernel
theorem dX12_must_16 : decode cX12_must 16 = .ok (.iconst 1, 1) := by decide +kernel
theorem dX12_must_17 : decode cX12_must 17 = .ok (.invokevirtual 167, 3) := by decide +kernel
theorem dX12_must_20 : decode cX12_must 20 = .ok (.return_, 1) := by decide +kernel
theorem dX12_read_0 : decode cX12_read 0 = .ok (.aload_n 0, 1) := by decide +kernel
theorem dX12_read_1 : decode cX12_read 1 = .ok (.aload_n 0, 1) := by decide +kernel
theorem dX12_read_2 : decode cX12_read 2 = .ok (.getfield 114, 3) := by decide +kernel
theorem dX12_read_5 : decode cX12_read 5 = .ok (.putfield 121, 3) := by decide +kernel
theorem dX12_read_8 : decode cX12_read 8 = .ok (.iconst 0, 1) := by decide +kernel
theorem dX12_read_9 : decode cX12_read 9 = .ok (.istore_n 1, 1) := by decide +kernel
theorem dX12_read_10 : decode cX12_read 10 = .ok (.iload_n 1, 1) := by decide +kernel
theorem dX12_read_11 : decode cX12_read 11 = .ok (.aload_n 0, 1) := by decide +kernel
theorem dX12_read_12 : decode cX12_read 12 = .ok (.getfield 121, 3) := by decide +kernel
theorem dX12_read_15 : decode cX12_read 15 = .ok (.if_icmp .ge 21, 3) := by decide +kernel
theorem dX12_read_18 : decode cX12_read 18 = .ok (.aload_n 0, 1) := by decide +kernel
theorem dX12_read_19 : decode cX12_read 19 = .ok (.getfield 17, 3) := by decide +kernel
theorem dX12_read_22 : decode cX12_read 22 = .ok (.iload_n 1, 1) := by decide +kernel
theorem dX12_read_23 : decode cX12_read 23 = .ok (.aload_n 0, 1) := by decide +kernel
theorem dX12_read_24 : decode cX12_read 24 = .ok (.getfield 13, 3) := by decide +kernel
theorem dX12_read_27 : decode cX12_read 27 = .ok (.iload_n 1, 1) := by decide +kernel
theorem dX12_read_28 : decode cX12_read 28 = .ok (.baload, 1) := by decide +kernel
theorem dX12_read_29 : decode cX12_read 29 = .ok (.bastore, 1) := by decide +kernel
theorem dX12_read_30 : decode cX12_read 30 = .ok (.iinc 1 1, 3) := by decide +kernel
theorem dX12_read_33 : decode cX12_read 33 = .ok (.goto (-23), 3) := by decide +kernel
theorem dX12_read_36 : decode cX12_read 36 = .ok (.aload_n 0, 1) := by decide +kernel
theorem dX12_read_37 : decode cX12_read 37 = .ok (.iconst 0, 1) := by decide +kernel
theorem dX12_read_38 : decode cX12_read 38 = .ok (.putfield 114, 3) := by decide +kernel
theorem dX12_read_41 : decode cX12_read 41 = .ok (.aload_n 0, 1) := by decide +kernel
theorem dX12_read_42 : decode cX12_read 42 = .ok (.invokevirtual 176, 3) := by decide +kernel
theorem dX12_read_45 : decode cX12_read 45 = .ok (.aload_n 0, 1) := by decide +kernel
theorem dX12_read_46 : decode cX12_read 46 = .ok (.iconst 0, 1) := by decide +kernel
theorem dX12_read_47 : decode cX12_read 47 = .ok (.putfield 155, 3) := by decide +kernel
theorem dX12_read_50 : decode cX12_read 50 = .ok (.aload_n 0, 1) := by decide +kernel
theorem dX12_read_51 : decode cX12_read 51 = .ok (.iconst 0, 1) := by decide +kernel
theorem dX12_read_52 : decode cX12_read 52 = .ok (.putfield 152, 3) := by decide +kernel
theorem dX12_read_55 : decode cX12_read 55 = .ok (.aload_n 0, 1) := by decide +kernel
theorem dX12_read_56 : decode cX12_read 56 = .ok (.iconst 0, 1) := by decide +kernel
theorem dX12_read_57 : decode cX12_read 57 = .ok (.putfield 161, 3) := by decide +kernel
theorem dX12_read_60 : decode cX12_read 60 = .ok (.aload_n 0, 1) := by decide +kernel
theorem dX12_read_61 : decode cX12_read 61 = .ok (.iconst 0, 1) := by decide +kernel
theorem dX12_read_62 : decode cX12_read 62 = .ok (.putfield 179, 3) := by decide +kernel
theorem dX12_read_65 : decode cX12_read 65 = .ok (.aload_n 0, 1) := by decide +kernel
theorem dX12_read_66 : decode cX12_read 66 = .ok (.iconst 0, 1) := by decide +kernel
theorem dX12_read_67 : decode cX12_read 67 = .ok (.putfield 182, 3) := by decide +kernel
theorem dX12_read_70 : decode cX12_read 70 = .ok (.aload_n 0, 1) := by decide +kernel
theorem dX12_read_71 : decode cX12_read 71 = .ok (.iconst 0, 1) := by decide +kernel
theorem dX12_read_72 : decode cX12_read 72 = .ok (.putfield 185, 3) := by decide +kernel
theorem dX12_read_75 : decode cX12_read 75 = .ok (.aload_n 0, 1) := by decide +kernel
theorem dX12_read_76 : decode cX12_read 76 = .ok (.iconst 0, 1) := by decide +kernel
theorem dX12_read_77 : decode cX12_read 77 = .ok (.putfield 188, 3) := by decide +kernel
theorem dX12_read_80 : decode cX12_read 80 = .ok (.aload_n 0, 1) := by decide +kernel
theorem dX12_read_81 : decode cX12_read 81 = .ok (.getfield 152, 3) := by decide +kernel
theorem dX12_read_84 : decode cX12_read 84 = .ok (.ifCond .ne 18, 3) := by decide +kernel
theorem dX12_read_87 : decode cX12_read 87 = .ok (.aload_n 0, 1) := by decide +kernel
theorem dX12_read_88 : decode cX12_read 88 = .ok (.iconst 0, 1) := by decide +kernel
theorem dX12_read_89 : decode cX12_read 89 = .ok (.invokevirtual 170, 3) := by decide +kernel
theorem dX12_read_92 : decode cX12_read 92 = .ok (.ifCond .ne 10, 3) := by decide +kernel
theorem dX12_read_95 : decode cX12_read 95 = .ok (.aload_n 0, 1) := by decide +kernel
theorem dX12_read_96 : decode cX12_read 96 = .ok (.invokevirtual 191, 3) := by decide +kernel
theorem dX12_read_99 : decode cX12_read 99 = .ok (.goto (-19), 3) := by decide +kernel
theorem dX12_read_102 : decode cX12_read 102 = .ok (.aload_n 0, 1) := by decide +kernel
theorem dX12_read_103 : decode cX12_read 103 = .ok (.getfield 152, 3) := by decide +kernel
theorem dX12_read_106 : decode cX12_read 106 = .ok (.ifCond .ne 7, 3) := by decide +kernel
theorem dX12_read_109 : decode cX12_read 109 = .ok (.aload_n 0, 1) := by decide +kernel
theorem dX12_read_110 : decode cX12_read 110 = .ok (.invokevirtual 194, 3) := by decide +kernel
theorem dX12_read_113 : decode cX12_read 113 = .ok (.aload_n 0, 1) := by decide +kernel
theorem dX12_read_114 : decode cX12_read 114 = .ok (.aload_n 0, 1) := by decide +kernel
theorem dX12_read_115 : decode cX12_read 115 = .ok (.getfield 152, 3) := by decide +kernel
theorem dX12_read_118 : decode cX12_read 118 = .ok (.ifCond .le 10, 3) := by decide +kernel
theorem dX12_read_121 : decode cX12_read 121 = .ok (.aload_n 0, 1) := by decide +kernel
theorem dX12_read_122 : decode cX12_read 122 = .ok (.getfield 158, 3) := by decide +kernel
theorem dX12_read_125 : decode cX12_read 125 = .ok (.goto 18, 3) := by decide +kernel
theorem dX12_read_128 : decode cX12_read 128 = .ok (.aload_n 0, 1) := by decide +kernel
theorem dX12_read_129 : decode cX12_read 129 = .ok (.getfield 161, 3) := by decide +kernel
theorem dX12_read_132 : decode cX12_read 132 = .ok (.ifCond .le 10, 3) := by decide +kernel
theorem dX12_read_135 : decode cX12_read 135 = .ok (.aload_n 0, 1) := by decide +kernel
theorem dX12_read_136 : decode cX12_read 136 = .ok (.getfield 164, 3) := by decide +kernel
theorem dX12_read_139 : decode cX12_read 139 = .ok (.goto 4, 3) := by decide +kernel
theorem dX12_read_142 : decode cX12_read 142 = .ok (.iconst (-1), 1) := by decide +kernel
theorem dX12_read_143 : decode cX12_read 143 = .ok (.putfield 37, 3) := by decide +kernel
theorem dX12_read_146 : decode cX12_read 146 = .ok (.aload_n 0, 1) := by decide +kernel
theorem dX12_read_147 : decode cX12_read 147 = .ok (.getfield 152, 3) := by decide +kernel
theorem dX12_read_150 : decode cX12_read 150 = .ok (.ifCond .le 8, 3) := by decide +kernel
theorem dX12_read_153 : decode cX12_read 153 = .ok (.aload_n 0, 1) := by decide +kernel
theorem dX12_read_154 : decode cX12_read 154 = .ok (.getfield 152, 3) := by decide +kernel
theorem dX12_read_157 : decode cX12_read 157 = .ok (.ireturn, 1) := by decide +kernel
theorem dX12_read_158 : decode cX12_read 158 = .ok (.aload_n 0, 1) := by decide +kernel
theorem dX12_read_159 : decode cX12_read 159 = .ok (.getfield 161, 3) := by decide +kernel
theorem dX12_read_162 : decode cX12_read 162 = .ok (.ifCond .le 8, 3) := by decide +kernel
theorem dX12_read_165 : decode cX12_read 165 = .ok (.aload_n 0, 1) := by decide +kernel
theorem dX12_read_166 : decode cX12_read 166 = .ok (.getfield 161, 3) := by decide +kernel
theorem dX12_read_169 : decode cX12_read 169 = .ok (.ireturn, 1) := by decide +kernel
theorem dX12_read_170 : decode cX12_read 170 = .ok (.aload_n 0, 1) := by decide +kernel
theorem dX12_read_171 : decode cX12_read 171 = .ok (.aload_n 0, 1) := by decide +kernel
theorem dX12_read_172 : decode cX12_read 172 = .ok (.getfield 179, 3) := by decide +kernel
theorem dX12_read_175 : decode cX12_read 175 = .ok (.putfield 197, 3) := by decide +kernel
theorem dX12_read_178 : decode cX12_read 178 = .ok (.aload_n 0, 1) := by decide +kernel
theorem dX12_read_179 : decode cX12_read 179 = .ok (.aload_n 0, 1) := by decide +kernel
theorem dX12_read_180 : decode cX12_read 180 = .ok (.getfield 182, 3) := by decide +kernel
theorem dX12_read_183 : decode cX12_read 183 = .ok (.putfield 200, 3) := by decide +kernel
theorem dX12_read_186 : decode cX12_read 186 = .ok (.aload_n 0, 1) := by decide +kernel
theorem dX12_read_187 : decode cX12_read 187 = .ok (.aload_n 0, 1) := by decide +kernel
theorem dX12_read_188 : decode cX12_read 188 = .ok (.getfield 188, 3) := by decide +kernel
theorem dX12_read_191 : decode cX12_read 191 = .ok (.putfield 203, 3) := by decide +kernel
theorem dX12_read_194 : decode cX12_read 194 = .ok (.aload_n 0, 1) := by decide +kernel
theorem dX12_read_195 : decode cX12_read 195 = .ok (.aload_n 0, 1) := by decide +kernel
theorem dX12_read_196 : decode cX12_read 196 = .ok (.getfield 206, 3) := by decide +kernel
theorem dX12_read_199 : decode cX12_read 199 = .ok (.putfield 111, 3) := by decide +kernel
theorem dX12_read_202 : decode cX12_read 202 = .ok (.aload_n 0, 1) := by decide +kernel
theorem dX12_read_203 : decode cX12_read 203 = .ok (.aload_n 0, 1) := by decide +kernel
theorem dX12_read_204 : decode cX12_read 204 = .ok (.getfield 209, 3) := by decide +kernel
theorem dX12_read_207 : decode cX12_read 207 = .ok (.putfield 212, 3) := by decide +kernel
theorem dX12_read_210 : decode cX12_read 210 = .ok (.iconst 0, 1) := by decide +kernel
theorem dX12_read_211 : decode cX12_read 211 = .ok (.istore_n 1, 1) := by decide +kernel
theorem dX12_read_212 : decode cX12_read 212 = .ok (.iload_n 1, 1) := by decide +kernel
theorem dX12_read_213 : decode cX12_read 213 = .ok (.bipush 12, 2) := by decide +kernel
theorem dX12_read_215 : decode cX12_read 215 = .ok (.if_icmp .ge 45, 3) := by decide +kernel
theorem dX12_read_218 : decode cX12_read 218 = .ok (.aload_n 0, 1) := by decide +kernel
theorem dX12_read_219 : decode cX12_read 219 = .ok (.getfield 40, 3) := by decide +kernel
theorem dX12_read_222 : decode cX12_read 222 = .ok (.iload_n 1, 1) := by decide +kernel
theorem dX12_read_223 : decode cX12_read 223 = .ok (.aload_n 0, 1) := by decide +kernel
theorem dX12_read_224 : decode cX12_read 224 = .ok (.getfield 49, 3) := by decide +kernel
theorem dX12_read_227 : decode cX12_read 227 = .ok (.iload_n 1, 1) := by decide +kernel
theorem dX12_read_228 : decode cX12_read 228 = .ok (.iaload, 1) := by decide +kernel
theorem dX12_read_229 : decode cX12_read 229 = .ok (.iastore, 1) := by decide +kernel
theorem dX12_read_230 : decode cX12_read 230 = .ok (.aload_n 0, 1) := by decide +kernel
theorem dX12_read_231 : decode cX12_read 231 = .ok (.getfield 43, 3) := by decide +kernel
theorem dX12_read_234 : decode cX12_read 234 = .ok (.iload_n 1, 1) := by decide +kernel
theorem dX12_read_235 : decode cX12_read 235 = .ok (.aload_n 0, 1) := by decide +kernel
theorem dX12_read_236 : decode cX12_read 236 = .ok (.getfield 52, 3) := by decide +kernel
theorem dX12_read_239 : decode cX12_read 239 = .ok (.iload_n 1, 1) := by decide +kernel
theorem dX12_read_240 : decode cX12_read 240 = .ok (.iaload, 1) := by decide +kernel
theorem dX12_read_241 : decode cX12_read 241 = .ok (.iastore, 1) := by decide +kernel
theorem dX12_read_242 : decode cX12_read 242 = .ok (.aload_n 0, 1) := by decide +kernel
theorem dX12_read_243 : decode cX12_read 243 = .ok (.getfield 46, 3) := by decide +kernel
theorem dX12_read_246 : decode cX12_read 246 = .ok (.iload_n 1, 1) := by decide +kernel
theorem dX12_read_247 : decode cX12_read 247 = .ok (.aload_n 0, 1) := by decide +kernel
theorem dX12_read_248 : decode cX12_read 248 = .ok (.getfield 55, 3) := by decide +kernel
theorem dX12_read_251 : decode cX12_read 251 = .ok (.iload_n 1, 1) := by decide +kernel
theorem dX12_read_252 : decode cX12_read 252 = .ok (.iaload, 1) := by decide +kernel
theorem dX12_read_253 : decode cX12_read 253 = .ok (.iastore, 1) := by decide +kernel
theorem dX12_read_254 : decode cX12_read 254 = .ok (.iinc 1 1, 3) := by decide +kernel
theorem dX12_read_257 : decode cX12_read 257 = .ok (.goto (-45), 3) := by decide +kernel
theorem dX12_read_260 : decode cX12_read 260 = .ok (.iconst 0, 1) := by decide +kernel
theorem dX12_read_261 : decode cX12_read 261 = .ok (.istore_n 1, 1) := by decide +kernel
theorem dX12_read_262 : decode cX12_read 262 = .ok (.iload_n 1, 1) := by decide +kernel
theorem dX12_read_263 : decode cX12_read 263 = .ok (.bipush 121, 2) := by decide +kernel
theorem dX12_read_265 : decode cX12_read 265 = .ok (.if_icmp .ge 21, 3) := by decide +kernel
theorem dX12_read_268 : decode cX12_read 268 = .ok (.aload_n 0, 1) := by decide +kernel
theorem dX12_read_269 : decode cX12_read 269 = .ok (.getfield 58, 3) := by decide +kernel
theorem dX12_read_272 : decode cX12_read 272 = .ok (.iload_n 1, 1) := by decide +kernel
theorem dX12_read_273 : decode cX12_read 273 = .ok (.aload_n 0, 1) := by decide +kernel
theorem dX12_read_274 : decode cX12_read 274 = .ok (.getfield 61, 3) := by decide +kernel
theorem dX12_read_277 : decode cX12_read 277 = .ok (.iload_n 1, 1) := by decide +kernel
theorem dX12_read_278 : decode cX12_read 278 = .ok (.iaload, 1) := by decide +kernel
theorem dX12_read_279 : decode cX12_read 279 = .ok (.iastore, 1) := by decide +kernel
theorem dX12_read_280 : decode cX12_read 280 = .ok (.iinc 1 1, 3) := by decide +kernel
theorem dX12_read_283 : decode cX12_read 283 = .ok (.goto (-21), 3) := by decide +kernel
theorem dX12_read_286 : decode cX12_read 286 = .ok (.aload_n 0, 1) := by decide +kernel
theorem dX12_read_287 : decode cX12_read 287 = .ok (.iconst 0, 1) := by decide +kernel
theorem dX12_read_288 : decode cX12_read 288 = .ok (.putfield 215, 3) := by decide +kernel
theorem dX12_read_291 : decode cX12_read 291 = .ok (.iconst 0, 1) := by decide +kernel
theorem dX12_read_292 : decode cX12_read 292 = .ok (.istore_n 1, 1) := by decide +kernel
theorem dX12_read_293 : decode cX12_read 293 = .ok (.iload_n 1, 1) := by decide +kernel
theorem dX12_read_294 : decode cX12_read 294 = .ok (.iconst 3, 1) := by decide +kernel
theorem dX12_read_295 : decode cX12_read 295 = .ok (.if_icmp .ge 16, 3) := by decide +kernel
theorem dX12_read_298 : decode cX12_read 298 = .ok (.aload_n 0, 1) := by decide +kernel
theorem dX12_read_299 : decode cX12_read 299 = .ok (.getfield 70, 3) := by decide +kernel
theorem dX12_read_302 : decode cX12_read 302 = .ok (.iload_n 1, 1) := by decide +kernel
theorem dX12_read_303 : decode cX12_read 303 = .ok (.iconst 0, 1) := by decide +kernel
theorem dX12_read_304 : decode cX12_read 304 = .ok (.bastore, 1) := by decide +kernel
theorem dX12_read_305 : decode cX12_read 305 = .ok (.iinc 1 1, 3) := by decide +kernel
theorem dX12_read_308 : decode cX12_read 308 = .ok (.goto (-15), 3) := by decide +kernel
theorem dX12_read_311 : decode cX12_read 311 = .ok (.aload_n 0, 1) := by decide +kernel
theorem dX12_read_312 : decode cX12_read 312 = .ok (.invokevirtual 218, 3) := by decide +kernel
theorem dX12_read_315 : decode cX12_read 315 = .ok (.iconst 0, 1) := by decide +kernel
theorem dX12_read_316 : decode cX12_read 316 = .ok (.ireturn, 1) := by decide +kernel
theorem dX12_place_0 : decode cX12_place 0 = .ok (.aload_n 0, 1) := by decide +kernel
theorem dX12_place_1 : decode cX12_place 1 = .ok (.getfield 37, 3) := by decide +kernel
theorem dX12_place_4 : decode cX12_place 4 = .ok (.ireturn, 1) := by decide +kernel
theorem dX12_isRoom_0 : decode cX12_isRoom 0 = .ok (.iload_n 1, 1) := by decide +kernel
theorem dX12_isRoom_1 : decode cX12_isRoom 1 = .ok (.bipush 20, 2) := by decide +kernel
theorem dX12_isRoom_3 : decode cX12_isRoom 3 = .ok (.if_icmp .ne 20, 3) := by decide +kernel
theorem dX12_isRoom_6 : decode cX12_isRoom 6 = .ok (.aload_n 0, 1) := by decide +kernel
theorem dX12_isRoom_7 : decode cX12_isRoom 7 = .ok (.getfield 179, 3) := by decide +kernel
theorem dX12_isRoom_10 : decode cX12_isRoom 10 = .ok (.bipush 8, 2) := by decide +kernel
theorem dX12_isRoom_12 : decode cX12_isRoom 12 = .ok (.if_icmp .ge 7, 3) := by decide +kernel
theorem dX12_isRoom_15 : decode cX12_isRoom 15 = .ok (.iconst 1, 1) := by decide +kernel
theorem dX12_isRoom_16 : decode cX12_isRoom 16 = .ok (.goto 72, 3) := by decide +kernel
theorem dX12_isRoom_19 : decode cX12_isRoom 19 = .ok (.iconst 0, 1) := by decide +kernel
theorem dX12_isRoom_20 : decode cX12_isRoom 20 = .ok (.goto 68, 3) := by decide +kernel
theorem dX12_isRoom_23 : decode cX12_isRoom 23 = .ok (.iload_n 1, 1) := by decide +kernel
theorem dX12_isRoom_24 : decode cX12_isRoom 24 = .ok (.bipush 21, 2) := by decide +kernel
theorem dX12_isRoom_26 : decode cX12_isRoom 26 = .ok (.if_icmp .ne 20, 3) := by decide +kernel
theorem dX12_isRoom_29 : decode cX12_isRoom 29 = .ok (.aload_n 0, 1) := by decide +kernel
theorem dX12_isRoom_30 : decode cX12_isRoom 30 = .ok (.getfield 182, 3) := by decide +kernel
theorem dX12_isRoom_33 : decode cX12_isRoom 33 = .ok (.bipush 12, 2) := by decide +kernel
theorem dX12_isRoom_35 : decode cX12_isRoom 35 = .ok (.if_icmp .ge 7, 3) := by decide +kernel
theorem dX12_isRoom_38 : decode cX12_isRoom 38 = .ok (.iconst 1, 1) := by decide +kernel
theorem dX12_isRoom_39 : decode cX12_isRoom 39 = .ok (.goto 49, 3) := by decide +kernel
theorem dX12_isRoom_42 : decode cX12_isRoom 42 = .ok (.iconst 0, 1) := by decide +kernel
theorem dX12_isRoom_43 : decode cX12_isRoom 43 = .ok (.goto 45, 3) := by decide +kernel
theorem dX12_isRoom_46 : decode cX12_isRoom 46 = .ok (.iload_n 1, 1) := by decide +kernel
theorem dX12_isRoom_47 : decode cX12_isRoom 47 = .ok (.bipush 22, 2) := by decide +kernel
theorem dX12_isRoom_49 : decode cX12_isRoom 49 = .ok (.if_icmp .ne 20, 3) := by decide +kernel
theorem dX12_isRoom_52 : decode cX12_isRoom 52 = .ok (.aload_n 0, 1) := by decide +kernel
theorem dX12_isRoom_53 : decode cX12_isRoom 53 = .ok (.getfield 185, 3) := by decide +kernel
theorem dX12_isRoom_56 : decode cX12_isRoom 56 = .ok (.bipush 12, 2) := by decide +kernel
theorem dX12_isRoom_58 : decode cX12_isRoom 58 = .ok (.if_icmp .ge 7, 3) := by decide +kernel
theorem dX12_isRoom_61 : decode cX12_isRoom 61 = .ok (.iconst 1, 1) := by decide +kernel
theorem dX12_isRoom_62 : decode cX12_isRoom 62 = .ok (.goto 26, 3) := by decide +kernel
theorem dX12_isRoom_65 : decode cX12_isRoom 65 = .ok (.iconst 0, 1) := by decide +kernel
theorem dX12_isRoom_66 : decode cX12_isRoom 66 = .ok (.goto 22, 3) := by decide +kernel
theorem dX12_isRoom_69 : decode cX12_isRoom 69 = .ok (.iload_n 1, 1) := by decide +kernel
theorem dX12_isRoom_70 : decode cX12_isRoom 70 = .ok (.bipush 25, 2) := by decide +kernel
theorem dX12_isRoom_72 : decode cX12_isRoom 72 = .ok (.if_icmp .ne 11, 3) := by decide +kernel
theorem dX12_isRoom_75 : decode cX12_isRoom 75 = .ok (.aload_n 0, 1) := by decide +kernel
theorem dX12_isRoom_76 : decode cX12_isRoom 76 = .ok (.getfield 188, 3) := by decide +kernel
theorem dX12_isRoom_79 : decode cX12_isRoom 79 = .ok (.iconst 4, 1) := by decide +kernel
theorem dX12_isRoom_80 : decode cX12_isRoom 80 = .ok (.if_icmp .ge 7, 3) := by decide +kernel
theorem dX12_isRoom_83 : decode cX12_isRoom 83 = .ok (.iconst 1, 1) := by decide +kernel
theorem dX12_isRoom_84 : decode cX12_isRoom 84 = .ok (.goto 4, 3) := by decide +kernel
theorem dX12_isRoom_87 : decode cX12_isRoom 87 = .ok (.iconst 0, 1) := by decide +kernel
theorem dX12_isRoom_88 : decode cX12_isRoom 88 = .ok (.ireturn, 1) := by decide +kernel
theorem dX12_line_0 : decode cX12_line 0 = .ok (.aload_n 0, 1) := by decide +kernel
theorem dX12_line_1 : decode cX12_line 1 = .ok (.getfield 20, 3) := by decide +kernel
theorem dX12_line_4 : decode cX12_line 4 = .ok (.aload_n 0, 1) := by decide +kernel
theorem dX12_line_5 : decode cX12_line 5 = .ok (.getfield 155, 3) := by decide +kernel
theorem dX12_line_8 : decode cX12_line 8 = .ok (.iaload, 1) := by decide +kernel
theorem dX12_line_9 : decode cX12_line 9 = .ok (.istore_n 1, 1) := by decide +kernel
theorem dX12_line_10 : decode cX12_line 10 = .ok (.iload_n 1, 1) := by decide +kernel
theorem dX12_line_11 : decode cX12_line 11 = .ok (.bipush 20, 2) := by decide +kernel
theorem dX12_line_13 : decode cX12_line 13 = .ok (.if_icmp .lt 9, 3) := by decide +kernel
theorem dX12_line_16 : decode cX12_line 16 = .ok (.iload_n 1, 1) := by decide +kernel
theorem dX12_line_17 : decode cX12_line 17 = .ok (.bipush 27, 2) := by decide +kernel
theorem dX12_line_19 : decode cX12_line 19 = .ok (.if_icmp .le 9, 3) := by decide +kernel
theorem dX12_line_22 : decode cX12_line 22 = .ok (.aload_n 0, 1) := by decide +kernel
theorem dX12_line_23 : decode cX12_line 23 = .ok (.iconst 1, 1) := by decide +kernel
theorem dX12_line_24 : decode cX12_line 24 = .ok (.invokevirtual 167, 3) := by decide +kernel
theorem dX12_line_27 : decode cX12_line 27 = .ok (.return_, 1) := by decide +kernel
theorem dX12_line_28 : decode cX12_line 28 = .ok (.aload_n 0, 1) := by decide +kernel
theorem dX12_line_29 : decode cX12_line 29 = .ok (.iload_n 1, 1) := by decide +kernel
theorem dX12_line_30 : decode cX12_line 30 = .ok (.invokevirtual 221, 3) := by decide +kernel
theorem dX12_line_33 : decode cX12_line 33 = .ok (.ifCond .ne 9, 3) := by decide +kernel
theorem dX12_line_36 : decode cX12_line 36 = .ok (.aload_n 0, 1) := by decide +kernel
theorem dX12_line_37 : decode cX12_line 37 = .ok (.iconst 2, 1) := by decide +kernel
theorem dX12_line_38 : decode cX12_line 38 = .ok (.invokevirtual 167, 3) := by decide +kernel
theorem dX12_line_41 : decode cX12_line 41 = .ok (.return_, 1) := by decide +kernel
theorem dX12_line_42 : decode cX12_line 42 = .ok (.aload_n 0, 1) := by decide +kernel
theorem dX12_line_43 : decode cX12_line 43 = .ok (.invokevirtual 173, 3) := by decide +kernel
theorem dX12_line_46 : decode cX12_line 46 = .ok (.iload_n 1, 1) := by decide +kernel
theorem dX12_line_47 : decode cX12_line 47 = .ok (.bipush 20, 2) := by decide +kernel
theorem dX12_line_49 : decode cX12_line 49 = .ok (.if_icmp .ne 13, 3) := by decide +kernel
theorem dX12_line_52 : decode cX12_line 52 = .ok (.aload_n 0, 1) := by decide +kernel
theorem dX12_line_53 : decode cX12_line 53 = .ok (.dup, 1) := by decide +kernel
theorem dX12_line_54 : decode cX12_line 54 = .ok (.getfield 179, 3) := by decide +kernel
theorem dX12_line_57 : decode cX12_line 57 = .ok (.iconst 1, 1) := by decide +kernel
theorem dX12_line_58 : decode cX12_line 58 = .ok (.iadd, 1) := by decide +kernel
theorem dX12_line_59 : decode cX12_line 59 = .ok (.putfield 179, 3) := by decide +kernel
theorem dX12_line_62 : decode cX12_line 62 = .ok (.iload_n 1, 1) := by decide +kernel
theorem dX12_line_63 : decode cX12_line 63 = .ok (.bipush 21, 2) := by decide +kernel
theorem dX12_line_65 : decode cX12_line 65 = .ok (.if_icmp .ne 13, 3) := by decide +kernel
theorem dX12_line_68 : decode cX12_line 68 = .ok (.aload_n 0, 1) := by decide +kernel
theorem dX12_line_69 : decode cX12_line 69 = .ok (.dup, 1) := by decide +kernel
theorem dX12_line_70 : decode cX12_line 70 = .ok (.getfield 182, 3) := by decide +kernel
theorem dX12_line_73 : decode cX12_line 73 = .ok (.iconst 1, 1) := by decide +kernel
theorem dX12_line_74 : decode cX12_line 74 = .ok (.iadd, 1) := by decide +kernel
theorem dX12_line_75 : decode cX12_line 75 = .ok (.putfield 182, 3) := by decide +kernel
theorem dX12_line_78 : decode cX12_line 78 = .ok (.iload_n 1, 1) := by decide +kernel
theorem dX12_line_79 : decode cX12_line 79 = .ok (.bipush 22, 2) := by decide +kernel
theorem dX12_line_81 : decode cX12_line 81 = .ok (.if_icmp .ne 13, 3) := by decide +kernel
theorem dX12_line_84 : decode cX12_line 84 = .ok (.aload_n 0, 1) := by decide +kernel
theorem dX12_line_85 : decode cX12_line 85 = .ok (.dup, 1) := by decide +kernel
theorem dX12_line_86 : decode cX12_line 86 = .ok (.getfield 185, 3) := by decide +kernel
theorem dX12_line_89 : decode cX12_line 89 = .ok (.iconst 1, 1) := by decide +kernel
theorem dX12_line_90 : decode cX12_line 90 = .ok (.iadd, 1) := by decide +kernel
theorem dX12_line_91 : decode cX12_line 91 = .ok (.putfield 185, 3) := by decide +kernel
theorem dX12_line_94 : decode cX12_line 94 = .ok (.iload_n 1, 1) := by decide +kernel
theorem dX12_line_95 : decode cX12_line 95 = .ok (.bipush 25, 2) := by decide +kernel
theorem dX12_line_97 : decode cX12_line 97 = .ok (.if_icmp .ne 13, 3) := by decide +kernel
theorem dX12_line_100 : decode cX12_line 100 = .ok (.aload_n 0, 1) := by decide +kernel
theorem dX12_line_101 : decode cX12_line 101 = .ok (.dup, 1) := by decide +kernel
theorem dX12_line_102 : decode cX12_line 102 = .ok (.getfield 188, 3) := by decide +kernel
theorem dX12_line_105 : decode cX12_line 105 = .ok (.iconst 1, 1) := by decide +kernel
theorem dX12_line_106 : decode cX12_line 106 = .ok (.iadd, 1) := by decide +kernel
theorem dX12_line_107 : decode cX12_line 107 = .ok (.putfield 188, 3) := by decide +kernel
theorem dX12_line_110 : decode cX12_line 110 = .ok (.iload_n 1, 1) := by decide +kernel
theorem dX12_line_111 : decode cX12_line 111 = .ok (.bipush 26, 2) := by decide +kernel
theorem dX12_line_113 : decode cX12_line 113 = .ok (.if_icmp .ge 8, 3) := by decide +kernel
theorem dX12_line_116 : decode cX12_line 116 = .ok (.aload_n 0, 1) := by decide +kernel
theorem dX12_line_117 : decode cX12_line 117 = .ok (.iconst 1, 1) := by decide +kernel
theorem dX12_line_118 : decode cX12_line 118 = .ok (.invokevirtual 224, 3) := by decide +kernel
theorem dX12_line_121 : decode cX12_line 121 = .ok (.iload_n 1, 1) := by decide +kernel
theorem dX12_line_122 : decode cX12_line 122 = .ok (.bipush 21, 2) := by decide +kernel
theorem dX12_line_124 : decode cX12_line 124 = .ok (.if_icmp .ne 8, 3) := by decide +kernel
theorem dX12_line_127 : decode cX12_line 127 = .ok (.aload_n 0, 1) := by decide +kernel
theorem dX12_line_128 : decode cX12_line 128 = .ok (.iconst 1, 1) := by decide +kernel
theorem dX12_line_129 : decode cX12_line 129 = .ok (.invokevirtual 224, 3) := by decide +kernel
theorem dX12_line_132 : decode cX12_line 132 = .ok (.iload_n 1, 1) := by decide +kernel
theorem dX12_line_133 : decode cX12_line 133 = .ok (.bipush 22, 2) := by decide +kernel
theorem dX12_line_135 : decode cX12_line 135 = .ok (.if_icmp .ne 7, 3) := by decide +kernel
theorem dX12_line_138 : decode cX12_line 138 = .ok (.aload_n 0, 1) := by decide +kernel
theorem dX12_line_139 : decode cX12_line 139 = .ok (.invokevirtual 227, 3) := by decide +kernel
theorem dX12_line_142 : decode cX12_line 142 = .ok (.iload_n 1, 1) := by decide +kernel
theorem dX12_line_143 : decode cX12_line 143 = .ok (.bipush 21, 2) := by decide +kernel
theorem dX12_line_145 : decode cX12_line 145 = .ok (.if_icmp .eq 9, 3) := by decide +kernel
theorem dX12_line_148 : decode cX12_line 148 = .ok (.iload_n 1, 1) := by decide +kernel
theorem dX12_line_149 : decode cX12_line 149 = .ok (.bipush 26, 2) := by decide +kernel
theorem dX12_line_151 : decode cX12_line 151 = .ok (.if_icmp .lt 8, 3) := by decide +kernel
theorem dX12_line_154 : decode cX12_line 154 = .ok (.aload_n 0, 1) := by decide +kernel
theorem dX12_line_155 : decode cX12_line 155 = .ok (.iconst 2, 1) := by decide +kernel
theorem dX12_line_156 : decode cX12_line 156 = .ok (.invokevirtual 224, 3) := by decide +kernel
theorem dX12_line_159 : decode cX12_line 159 = .ok (.aload_n 0, 1) := by decide +kernel
theorem dX12_line_160 : decode cX12_line 160 = .ok (.iconst 4, 1) := by decide +kernel
theorem dX12_line_161 : decode cX12_line 161 = .ok (.invokevirtual 224, 3) := by decide +kernel
theorem dX12_line_164 : decode cX12_line 164 = .ok (.return_, 1) := by decide +kernel
theorem dX12_wayRow_0 : decode cX12_wayRow 0 = .ok (.aload_n 0, 1) := by decide +kernel
theorem dX12_wayRow_1 : decode cX12_wayRow 1 = .ok (.iconst 1, 1) := by decide +kernel
theorem dX12_wayRow_2 : decode cX12_wayRow 2 = .ok (.invokevirtual 224, 3) := by decide +kernel
theorem dX12_wayRow_5 : decode cX12_wayRow 5 = .ok (.aload_n 0, 1) := by decide +kernel
theorem dX12_wayRow_6 : decode cX12_wayRow 6 = .ok (.iconst 1, 1) := by decide +kernel
theorem dX12_wayRow_7 : decode cX12_wayRow 7 = .ok (.invokevirtual 224, 3) := by decide +kernel
theorem dX12_wayRow_10 : decode cX12_wayRow 10 = .ok (.iconst 2, 1) := by decide +kernel
theorem dX12_wayRow_11 : decode cX12_wayRow 11 = .ok (.istore_n 1, 1) := by decide +kernel
theorem dX12_wayRow_12 : decode cX12_wayRow 12 = .ok (.aload_n 0, 1) := by decide +kernel
theorem dX12_wayRow_13 : decode cX12_wayRow 13 = .ok (.iconst 1, 1) := by decide +kernel
theorem dX12_wayRow_14 : decode cX12_wayRow 14 = .ok (.invokevirtual 170, 3) := by decide +kernel
theorem dX12_wayRow_17 : decode cX12_wayRow 17 = .ok (.ifCond .eq 27, 3) := by decide +kernel
theorem dX12_wayRow_20 : decode cX12_wayRow 20 = .ok (.iload_n 1, 1) := by decide +kernel
theorem dX12_wayRow_21 : decode cX12_wayRow 21 = .ok (.bipush 8, 2) := by decide +kernel
theorem dX12_wayRow_23 : decode cX12_wayRow 23 = .ok (.if_icmp .ne 11, 3) := by decide +kernel
theorem dX12_wayRow_26 : decode cX12_wayRow 26 = .ok (.aload_n 0, 1) := by decide +kernel
theorem dX12_wayRow_27 : decode cX12_wayRow 27 = .ok (.iconst 2, 1) := by decide +kernel
theorem dX12_wayRow_28 : decode cX12_wayRow 28 = .ok (.invokevirtual 167, 3) := by decide +kernel
theorem dX12_wayRow_31 : decode cX12_wayRow 31 = .ok (.goto 7, 3) := by decide +kernel
theorem dX12_wayRow_34 : decode cX12_wayRow 34 = .ok (.aload_n 0, 1) := by decide +kernel
theorem dX12_wayRow_35 : decode cX12_wayRow 35 = .ok (.invokevirtual 173, 3) := by decide +kernel
theorem dX12_wayRow_38 : decode cX12_wayRow 38 = .ok (.iinc 1 1, 3) := by decide +kernel
theorem dX12_wayRow_41 : decode cX12_wayRow 41 = .ok (.goto (-29), 3) := by decide +kernel
theorem dX12_wayRow_44 : decode cX12_wayRow 44 = .ok (.return_, 1) := by decide +kernel
theorem dX12_lineOf_0 : decode cX12_lineOf 0 = .ok (.iconst 0, 1) := by decide +kernel
theorem dX12_lineOf_1 : decode cX12_lineOf 1 = .ok (.istore_n 3, 1) := by decide +kernel
theorem dX12_lineOf_2 : decode cX12_lineOf 2 = .ok (.iload_n 3, 1) := by decide +kernel
theorem dX12_lineOf_3 : decode cX12_lineOf 3 = .ok (.iload_n 2, 1) := by decide +kernel
theorem dX12_lineOf_4 : decode cX12_lineOf 4 = .ok (.if_icmp .ge 51, 3) := by decide +kernel
theorem dX12_lineOf_7 : decode cX12_lineOf 7 = .ok (.aload_n 0, 1) := by decide +kernel
theorem dX12_lineOf_8 : decode cX12_lineOf 8 = .ok (.getfield 20, 3) := by decide +kernel
theorem dX12_lineOf_11 : decode cX12_lineOf 11 = .ok (.iload_n 3, 1) := by decide +kernel
theorem dX12_lineOf_12 : decode cX12_lineOf 12 = .ok (.iaload, 1) := by decide +kernel
theorem dX12_lineOf_13 : decode cX12_lineOf 13 = .ok (.bipush 20, 2) := by decide +kernel
theorem dX12_lineOf_15 : decode cX12_lineOf 15 = .ok (.if_icmp .eq 14, 3) := by decide +kernel
theorem dX12_lineOf_18 : decode cX12_lineOf 18 = .ok (.aload_n 0, 1) := by decide +kernel
theorem dX12_lineOf_19 : decode cX12_lineOf 19 = .ok (.getfield 20, 3) := by decide +kernel
theorem dX12_lineOf_22 : decode cX12_lineOf 22 = .ok (.iload_n 3, 1) := by decide +kernel
theorem dX12_lineOf_23 : decode cX12_lineOf 23 = .ok (.iaload, 1) := by decide +kernel
theorem dX12_lineOf_24 : decode cX12_lineOf 24 = .ok (.bipush 22, 2) := by decide +kernel
theorem dX12_lineOf_26 : decode cX12_lineOf 26 = .ok (.if_icmp .ne 23, 3) := by decide +kernel
theorem dX12_lineOf_29 : decode cX12_lineOf 29 = .ok (.aload_n 0, 1) := by decide +kernel
theorem dX12_lineOf_30 : decode cX12_lineOf 30 = .ok (.getfield 30, 3) := by decide +kernel
theorem dX12_lineOf_33 : decode cX12_lineOf 33 = .ok (.iload_n 3, 1) := by decide +kernel
theorem dX12_lineOf_34 : decode cX12_lineOf 34 = .ok (.iconst 1, 1) := by decide +kernel
theorem dX12_lineOf_35 : decode cX12_lineOf 35 = .ok (.iadd, 1) := by decide +kernel
theorem dX12_lineOf_36 : decode cX12_lineOf 36 = .ok (.laload, 1) := by decide +kernel
theorem dX12_lineOf_37 : decode cX12_lineOf 37 = .ok (.aload_n 0, 1) := by decide +kernel
theorem dX12_lineOf_38 : decode cX12_lineOf 38 = .ok (.getfield 30, 3) := by decide +kernel
theorem dX12_lineOf_41 : decode cX12_lineOf 41 = .ok (.iload_n 1, 1) := by decide +kernel
theorem dX12_lineOf_42 : decode cX12_lineOf 42 = .ok (.laload, 1) := by decide +kernel
theorem dX12_lineOf_43 : decode cX12_lineOf 43 = .ok (.lcmp, 1) := by decide +kernel
theorem dX12_lineOf_44 : decode cX12_lineOf 44 = .ok (.ifCond .ne 5, 3) := by decide +kernel
theorem dX12_lineOf_47 : decode cX12_lineOf 47 = .ok (.iload_n 3, 1) := by decide +kernel
theorem dX12_lineOf_48 : decode cX12_lineOf 48 = .ok (.ireturn, 1) := by decide +kernel
theorem dX12_lineOf_49 : decode cX12_lineOf 49 = .ok (.iinc 3 1, 3) := by decide +kernel
theorem dX12_lineOf_52 : decode cX12_lineOf 52 = .ok (.goto (-50), 3) := by decide +kernel
theorem dX12_lineOf_55 : decode cX12_lineOf 55 = .ok (.iconst (-1), 1) := by decide +kernel
theorem dX12_lineOf_56 : decode cX12_lineOf 56 = .ok (.ireturn, 1) := by decide +kernel
theorem dX12_named_0 : decode cX12_named 0 = .ok (.aload_n 0, 1) := by decide +kernel
theorem dX12_named_1 : decode cX12_named 1 = .ok (.iload_n 1, 1) := by decide +kernel
theorem dX12_named_2 : decode cX12_named 2 = .ok (.aload_n 0, 1) := by decide +kernel
theorem dX12_named_3 : decode cX12_named 3 = .ok (.getfield 130, 3) := by decide +kernel
theorem dX12_named_6 : decode cX12_named 6 = .ok (.invokevirtual 230, 3) := by decide +kernel
theorem dX12_named_9 : decode cX12_named 9 = .ok (.istore_n 3, 1) := by decide +kernel
theorem dX12_named_10 : decode cX12_named 10 = .ok (.iload_n 3, 1) := by decide +kernel
theorem dX12_named_11 : decode cX12_named 11 = .ok (.ifCond .lt 13, 3) := by decide +kernel
theorem dX12_named_14 : decode cX12_named 14 = .ok (.aload_n 0, 1) := by decide +kernel
theorem dX12_named_15 : decode cX12_named 15 = .ok (.getfield 20, 3) := by decide +kernel
theorem dX12_named_18 : decode cX12_named 18 = .ok (.iload_n 3, 1) := by decide +kernel
theorem dX12_named_19 : decode cX12_named 19 = .ok (.iaload, 1) := by decide +kernel
theorem dX12_named_20 : decode cX12_named 20 = .ok (.iload_n 2, 1) := by decide +kernel
theorem dX12_named_21 : decode cX12_named 21 = .ok (.if_icmp .eq 5, 3) := by decide +kernel
theorem dX12_named_24 : decode cX12_named 24 = .ok (.iconst (-1), 1) := by decide +kernel
theorem dX12_named_25 : decode cX12_named 25 = .ok (.ireturn, 1) := by decide +kernel
theorem dX12_named_26 : decode cX12_named 26 = .ok (.iconst 0, 1) := by decide +kernel
theorem dX12_named_27 : decode cX12_named 27 = .ok (.istore 4, 2) := by decide +kernel
theorem dX12_named_29 : decode cX12_named 29 = .ok (.iconst 0, 1) := by decide +kernel
theorem dX12_named_30 : decode cX12_named 30 = .ok (.istore 5, 2) := by decide +kernel
theorem dX12_named_32 : decode cX12_named 32 = .ok (.iload 5, 2) := by decide +kernel
theorem dX12_named_34 : decode cX12_named 34 = .ok (.iload_n 3, 1) := by decide +kernel
theorem dX12_named_35 : decode cX12_named 35 = .ok (.if_icmp .ge 23, 3) := by decide +kernel
theorem dX12_named_38 : decode cX12_named 38 = .ok (.aload_n 0, 1) := by decide +kernel
theorem dX12_named_39 : decode cX12_named 39 = .ok (.getfield 20, 3) := by decide +kernel
theorem dX12_named_42 : decode cX12_named 42 = .ok (.iload 5, 2) := by decide +kernel
theorem dX12_named_44 : decode cX12_named 44 = .ok (.iaload, 1) := by decide +kernel
theorem dX12_named_45 : decode cX12_named 45 = .ok (.iload_n 2, 1) := by decide +kernel
theorem dX12_named_46 : decode cX12_named 46 = .ok (.if_icmp .ne 6, 3) := by decide +kernel
theorem dX12_named_49 : decode cX12_named 49 = .ok (.iinc 4 1, 3) := by decide +kernel
theorem dX12_named_52 : decode cX12_named 52 = .ok (.iinc 5 1, 3) := by decide +kernel
theorem dX12_named_55 : decode cX12_named 55 = .ok (.goto (-23), 3) := by decide +kernel
theorem dX12_named_58 : decode cX12_named 58 = .ok (.iload 4, 2) := by decide +kernel
theorem dX12_named_60 : decode cX12_named 60 = .ok (.ireturn, 1) := by decide +kernel
theorem dX12_known_0 : decode cX12_known 0 = .ok (.aload_n 0, 1) := by decide +kernel
theorem dX12_known_1 : decode cX12_known 1 = .ok (.iload_n 1, 1) := by decide +kernel
theorem dX12_known_2 : decode cX12_known 2 = .ok (.iload_n 2, 1) := by decide +kernel
theorem dX12_known_3 : decode cX12_known 3 = .ok (.invokevirtual 234, 3) := by decide +kernel
theorem dX12_known_6 : decode cX12_known 6 = .ok (.istore_n 3, 1) := by decide +kernel
theorem dX12_known_7 : decode cX12_known 7 = .ok (.iload_n 3, 1) := by decide +kernel
theorem dX12_known_8 : decode cX12_known 8 = .ok (.ifCond .ge 9, 3) := by decide +kernel
theorem dX12_known_11 : decode cX12_known 11 = .ok (.aload_n 0, 1) := by decide +kernel
theorem dX12_known_12 : decode cX12_known 12 = .ok (.iconst 4, 1) := by decide +kernel
theorem dX12_known_13 : decode cX12_known 13 = .ok (.iload_n 1, 1) := by decide +kernel
theorem dX12_known_14 : decode cX12_known 14 = .ok (.invokevirtual 237, 3) := by decide +kernel
theorem dX12_known_17 : decode cX12_known 17 = .ok (.iload_n 3, 1) := by decide +kernel
theorem dX12_known_18 : decode cX12_known 18 = .ok (.ireturn, 1) := by decide +kernel
theorem dX12_isLinked_0 : decode cX12_isLinked 0 = .ok (.iconst 0, 1) := by decide +kernel
theorem dX12_isLinked_1 : decode cX12_isLinked 1 = .ok (.istore 4, 2) := by decide +kernel
theorem dX12_isLinked_3 : decode cX12_isLinked 3 = .ok (.iload 4, 2) := by decide +kernel
theorem dX12_isLinked_5 : decode cX12_isLinked 5 = .ok (.iload_n 3, 1) := by decide +kernel
theorem dX12_isLinked_6 : decode cX12_isLinked 6 = .ok (.if_icmp .ge 79, 3) := by decide +kernel
theorem dX12_isLinked_9 : decode cX12_isLinked 9 = .ok (.aload_n 0, 1) := by decide +kernel
theorem dX12_isLinked_10 : decode cX12_isLinked 10 = .ok (.getfield 20, 3) := by decide +kernel
theorem dX12_isLinked_13 : decode cX12_isLinked 13 = .ok (.iload 4, 2) := by decide +kernel
theorem dX12_isLinked_15 : decode cX12_isLinked 15 = .ok (.iaload, 1) := by decide +kernel
theorem dX12_isLinked_16 : decode cX12_isLinked 16 = .ok (.bipush 21, 2) := by decide +kernel
theorem dX12_isLinked_18 : decode cX12_isLinked 18 = .ok (.if_icmp .eq 6, 3) := by decide +kernel
theorem dX12_isLinked_21 : decode cX12_isLinked 21 = .ok (.goto 58, 3) := by decide +kernel
theorem dX12_isLinked_24 : decode cX12_isLinked 24 = .ok (.aload_n 0, 1) := by decide +kernel
theorem dX12_isLinked_25 : decode cX12_isLinked 25 = .ok (.iload 4, 2) := by decide +kernel
theorem dX12_isLinked_27 : decode cX12_isLinked 27 = .ok (.iconst 1, 1) := by decide +kernel
theorem dX12_isLinked_28 : decode cX12_isLinked 28 = .ok (.iadd, 1) := by decide +kernel
theorem dX12_isLinked_29 : decode cX12_isLinked 29 = .ok (.bipush 20, 2) := by decide +kernel
theorem dX12_isLinked_31 : decode cX12_isLinked 31 = .ok (.invokevirtual 234, 3) := by decide +kernel
theorem dX12_isLinked_34 : decode cX12_isLinked 34 = .ok (.istore 5, 2) := by decide +kernel
theorem dX12_isLinked_36 : decode cX12_isLinked 36 = .ok (.aload_n 0, 1) := by decide +kernel
theorem dX12_isLinked_37 : decode cX12_isLinked 37 = .ok (.iload 4, 2) := by decide +kernel
theorem dX12_isLinked_39 : decode cX12_isLinked 39 = .ok (.iconst 2, 1) := by decide +kernel
theorem dX12_isLinked_40 : decode cX12_isLinked 40 = .ok (.iadd, 1) := by decide +kernel
theorem dX12_isLinked_41 : decode cX12_isLinked 41 = .ok (.bipush 20, 2) := by decide +kernel
theorem dX12_isLinked_43 : decode cX12_isLinked 43 = .ok (.invokevirtual 234, 3) := by decide +kernel
theorem dX12_isLinked_46 : decode cX12_isLinked 46 = .ok (.istore 6, 2) := by decide +kernel
theorem dX12_isLinked_48 : decode cX12_isLinked 48 = .ok (.iload_n 1, 1) := by decide +kernel
theorem dX12_isLinked_49 : decode cX12_isLinked 49 = .ok (.iload_n 2, 1) := by decide +kernel
theorem dX12_isLinked_50 : decode cX12_isLinked 50 = .ok (.if_icmp .eq 29, 3) := by decide +kernel
theorem dX12_isLinked_53 : decode cX12_isLinked 53 = .ok (.iload 5, 2) := by decide +kernel
theorem dX12_isLinked_55 : decode cX12_isLinked 55 = .ok (.iload_n 1, 1) := by decide +kernel
theorem dX12_isLinked_56 : decode cX12_isLinked 56 = .ok (.if_icmp .ne 9, 3) := by decide +kernel
theorem dX12_isLinked_59 : decode cX12_isLinked 59 = .ok (.iload 6, 2) := by decide +kernel
theorem dX12_isLinked_61 : decode cX12_isLinked 61 = .ok (.iload_n 2, 1) := by decide +kernel
theorem dX12_isLinked_62 : decode cX12_isLinked 62 = .ok (.if_icmp .eq 15, 3) := by decide +kernel
theorem dX12_isLinked_65 : decode cX12_isLinked 65 = .ok (.iload 5, 2) := by decide +kernel
theorem dX12_isLinked_67 : decode cX12_isLinked 67 = .ok (.iload_n 2, 1) := by decide +kernel
theorem dX12_isLinked_68 : decode cX12_isLinked 68 = .ok (.if_icmp .ne 11, 3) := by decide +kernel
theorem dX12_isLinked_71 : decode cX12_isLinked 71 = .ok (.iload 6, 2) := by decide +kernel
theorem dX12_isLinked_73 : decode cX12_isLinked 73 = .ok (.iload_n 1, 1) := by decide +kernel
theorem dX12_isLinked_74 : decode cX12_isLinked 74 = .ok (.if_icmp .ne 5, 3) := by decide +kernel
theorem dX12_isLinked_77 : decode cX12_isLinked 77 = .ok (.iconst 1, 1) := by decide +kernel
theorem dX12_isLinked_78 : decode cX12_isLinked 78 = .ok (.ireturn, 1) := by decide +kernel
theorem dX12_isLinked_79 : decode cX12_isLinked 79 = .ok (.iinc 4 1, 3) := by decide +kernel
theorem dX12_isLinked_82 : decode cX12_isLinked 82 = .ok (.goto (-79), 3) := by decide +kernel
theorem dX12_isLinked_85 : decode cX12_isLinked 85 = .ok (.iconst 0, 1) := by decide +kernel
theorem dX12_isLinked_86 : decode cX12_isLinked 86 = .ok (.ireturn, 1) := by decide +kernel
theorem dX12_means_0 : decode cX12_means 0 = .ok (.iconst 0, 1) := by decide +kernel
theorem dX12_means_1 : decode cX12_means 1 = .ok (.istore_n 1, 1) := by decide +kernel
theorem dX12_means_2 : decode cX12_means 2 = .ok (.iload_n 1, 1) := by decide +kernel
theorem dX12_means_3 : decode cX12_means 3 = .ok (.bipush 121, 2) := by decide +kernel
theorem dX12_means_5 : decode cX12_means 5 = .ok (.if_icmp .ge 16, 3) := by decide +kernel
theorem dX12_means_8 : decode cX12_means 8 = .ok (.aload_n 0, 1) := by decide +kernel
theorem dX12_means_9 : decode cX12_means 9 = .ok (.getfield 61, 3) := by decide +kernel
theorem dX12_means_12 : decode cX12_means 12 = .ok (.iload_n 1, 1) := by decide +kernel
theorem dX12_means_13 : decode cX12_means 13 = .ok (.iconst 0, 1) := by decide +kernel
theorem dX12_means_14 : decode cX12_means 14 = .ok (.iastore, 1) := by decide +kernel
theorem dX12_means_15 : decode cX12_means 15 = .ok (.iinc 1 1, 3) := by decide +kernel
theorem dX12_means_18 : decode cX12_means 18 = .ok (.goto (-16), 3) := by decide +kernel
theorem dX12_means_21 : decode cX12_means 21 = .ok (.aload_n 0, 1) := by decide +kernel
theorem dX12_means_22 : decode cX12_means 22 = .ok (.iconst 0, 1) := by decide +kernel
theorem dX12_means_23 : decode cX12_means 23 = .ok (.putfield 188, 3) := by decide +kernel
theorem dX12_means_26 : decode cX12_means 26 = .ok (.aload_n 0, 1) := by decide +kernel
theorem dX12_means_27 : decode cX12_means 27 = .ok (.iconst 0, 1) := by decide +kernel
theorem dX12_means_28 : decode cX12_means 28 = .ok (.putfield 182, 3) := by decide +kernel
theorem dX12_means_31 : decode cX12_means 31 = .ok (.aload_n 0, 1) := by decide +kernel
theorem dX12_means_32 : decode cX12_means 32 = .ok (.bipush 20, 2) := by decide +kernel
theorem dX12_means_34 : decode cX12_means 34 = .ok (.putfield 206, 3) := by decide +kernel
theorem dX12_means_37 : decode cX12_means 37 = .ok (.aload_n 0, 1) := by decide +kernel
theorem dX12_means_38 : decode cX12_means 38 = .ok (.iconst 0, 1) := by decide +kernel
theorem dX12_means_39 : decode cX12_means 39 = .ok (.putfield 209, 3) := by decide +kernel
theorem dX12_means_42 : decode cX12_means 42 = .ok (.iconst 0, 1) := by decide +kernel
theorem dX12_means_43 : decode cX12_means 43 = .ok (.istore_n 1, 1) := by decide +kernel
theorem dX12_means_44 : decode cX12_means 44 = .ok (.iload_n 1, 1) := by decide +kernel
theorem dX12_means_45 : decode cX12_means 45 = .ok (.aload_n 0, 1) := by decide +kernel
theorem dX12_means_46 : decode cX12_means 46 = .ok (.getfield 130, 3) := by decide +kernel
theorem dX12_means_49 : decode cX12_means 49 = .ok (.if_icmp .ge 198, 3) := by decide +kernel
theorem dX12_means_52 : decode cX12_means 52 = .ok (.aload_n 0, 1) := by decide +kernel
theorem dX12_means_53 : decode cX12_means 53 = .ok (.getfield 20, 3) := by decide +kernel
theorem dX12_means_56 : decode cX12_means 56 = .ok (.iload_n 1, 1) := by decide +kernel
theorem dX12_means_57 : decode cX12_means 57 = .ok (.iaload, 1) := by decide +kernel
theorem dX12_means_58 : decode cX12_means 58 = .ok (.tableswitch 183 20 27 #[46, 68, 76, 183, 183, 103, 132, 168], 46) := by decide +kernel
theorem dX12_means_104 : decode cX12_means 104 = .ok (.aload_n 0, 1) := by decide +kernel
theorem dX12_means_105 : decode cX12_means 105 = .ok (.iload_n 1, 1) := by decide +kernel
theorem dX12_means_106 : decode cX12_means 106 = .ok (.iconst 1, 1) := by decide +kernel
theorem dX12_means_107 : decode cX12_means 107 = .ok (.iadd, 1) := by decide +kernel
theorem dX12_means_108 : decode cX12_means 108 = .ok (.iload_n 1, 1) := by decide +kernel
theorem dX12_means_109 : decode cX12_means 109 = .ok (.invokevirtual 230, 3) := by decide +kernel
theorem dX12_means_112 : decode cX12_means 112 = .ok (.ifCond .lt 129, 3) := by decide +kernel
theorem dX12_means_115 : decode cX12_means 115 = .ok (.aload_n 0, 1) := by decide +kernel
theorem dX12_means_116 : decode cX12_means 116 = .ok (.iconst 3, 1) := by decide +kernel
theorem dX12_means_117 : decode cX12_means 117 = .ok (.iload_n 1, 1) := by decide +kernel
theorem dX12_means_118 : decode cX12_means 118 = .ok (.iconst 1, 1) := by decide +kernel
theorem dX12_means_119 : decode cX12_means 119 = .ok (.iadd, 1) := by decide +kernel
theorem dX12_means_120 : decode cX12_means 120 = .ok (.invokevirtual 237, 3) := by decide +kernel
theorem dX12_means_123 : decode cX12_means 123 = .ok (.goto 118, 3) := by decide +kernel
theorem dX12_means_126 : decode cX12_means 126 = .ok (.aload_n 0, 1) := by decide +kernel
theorem dX12_means_127 : decode cX12_means 127 = .ok (.iload_n 1, 1) := by decide +kernel
theorem dX12_means_128 : decode cX12_means 128 = .ok (.invokevirtual 241, 3) := by decide +kernel
theorem dX12_means_131 : decode cX12_means 131 = .ok (.goto 110, 3) := by decide +kernel
theorem dX12_means_134 : decode cX12_means 134 = .ok (.aload_n 0, 1) := by decide +kernel
theorem dX12_means_135 : decode cX12_means 135 = .ok (.iload_n 1, 1) := by decide +kernel
theorem dX12_means_136 : decode cX12_means 136 = .ok (.iconst 1, 1) := by decide +kernel
theorem dX12_means_137 : decode cX12_means 137 = .ok (.iadd, 1) := by decide +kernel
theorem dX12_means_138 : decode cX12_means 138 = .ok (.iload_n 1, 1) := by decide +kernel
theorem dX12_means_139 : decode cX12_means 139 = .ok (.invokevirtual 230, 3) := by decide +kernel
theorem dX12_means_142 : decode cX12_means 142 = .ok (.ifCond .lt 11, 3) := by decide +kernel
theorem dX12_means_145 : decode cX12_means 145 = .ok (.aload_n 0, 1) := by decide +kernel
theorem dX12_means_146 : decode cX12_means 146 = .ok (.iconst 3, 1) := by decide +kernel
theorem dX12_means_147 : decode cX12_means 147 = .ok (.iload_n 1, 1) := by decide +kernel
theorem dX12_means_148 : decode cX12_means 148 = .ok (.iconst 1, 1) := by decide +kernel
theorem dX12_means_149 : decode cX12_means 149 = .ok (.iadd, 1) := by decide +kernel
theorem dX12_means_150 : decode cX12_means 150 = .ok (.invokevirtual 237, 3) := by decide +kernel
theorem dX12_means_153 : decode cX12_means 153 = .ok (.aload_n 0, 1) := by decide +kernel
theorem dX12_means_154 : decode cX12_means 154 = .ok (.iload_n 1, 1) := by decide +kernel
theorem dX12_means_155 : decode cX12_means 155 = .ok (.invokevirtual 244, 3) := by decide +kernel
theorem dX12_means_158 : decode cX12_means 158 = .ok (.goto 83, 3) := by decide +kernel
theorem dX12_means_161 : decode cX12_means 161 = .ok (.aload_n 0, 1) := by decide +kernel
theorem dX12_means_162 : decode cX12_means 162 = .ok (.iload_n 1, 1) := by decide +kernel
theorem dX12_means_163 : decode cX12_means 163 = .ok (.iconst 1, 1) := by decide +kernel
theorem dX12_means_164 : decode cX12_means 164 = .ok (.iadd, 1) := by decide +kernel
theorem dX12_means_165 : decode cX12_means 165 = .ok (.bipush 20, 2) := by decide +kernel
theorem dX12_means_167 : decode cX12_means 167 = .ok (.invokevirtual 247, 3) := by decide +kernel
theorem dX12_means_170 : decode cX12_means 170 = .ok (.istore_n 2, 1) := by decide +kernel
theorem dX12_means_171 : decode cX12_means 171 = .ok (.iload_n 2, 1) := by decide +kernel
theorem dX12_means_172 : decode cX12_means 172 = .ok (.ifCond .lt 69, 3) := by decide +kernel
theorem dX12_means_175 : decode cX12_means 175 = .ok (.aload_n 0, 1) := by decide +kernel
theorem dX12_means_176 : decode cX12_means 176 = .ok (.dup, 1) := by decide +kernel
theorem dX12_means_177 : decode cX12_means 177 = .ok (.getfield 188, 3) := by decide +kernel
theorem dX12_means_180 : decode cX12_means 180 = .ok (.iconst 1, 1) := by decide +kernel
theorem dX12_means_181 : decode cX12_means 181 = .ok (.iload_n 2, 1) := by decide +kernel
theorem dX12_means_182 : decode cX12_means 182 = .ok (.ishl, 1) := by decide +kernel
theorem dX12_means_183 : decode cX12_means 183 = .ok (.ior, 1) := by decide +kernel
theorem dX12_means_184 : decode cX12_means 184 = .ok (.putfield 188, 3) := by decide +kernel
theorem dX12_means_187 : decode cX12_means 187 = .ok (.goto 54, 3) := by decide +kernel
theorem dX12_means_190 : decode cX12_means 190 = .ok (.aload_n 0, 1) := by decide +kernel
theorem dX12_means_191 : decode cX12_means 191 = .ok (.aload_n 0, 1) := by decide +kernel
theorem dX12_means_192 : decode cX12_means 192 = .ok (.getfield 27, 3) := by decide +kernel
theorem dX12_means_195 : decode cX12_means 195 = .ok (.iload_n 1, 1) := by decide +kernel
theorem dX12_means_196 : decode cX12_means 196 = .ok (.iconst 1, 1) := by decide +kernel
theorem dX12_means_197 : decode cX12_means 197 = .ok (.iadd, 1) := by decide +kernel
theorem dX12_means_198 : decode cX12_means 198 = .ok (.iaload, 1) := by decide +kernel
theorem dX12_means_199 : decode cX12_means 199 = .ok (.putfield 206, 3) := by decide +kernel
theorem dX12_means_202 : decode cX12_means 202 = .ok (.aload_n 0, 1) := by decide +kernel
theorem dX12_means_203 : decode cX12_means 203 = .ok (.getfield 206, 3) := by decide +kernel
theorem dX12_means_206 : decode cX12_means 206 = .ok (.iconst 1, 1) := by decide +kernel
theorem dX12_means_207 : decode cX12_means 207 = .ok (.bipush 99, 2) := by decide +kernel
theorem dX12_means_209 : decode cX12_means 209 = .ok (.invokestatic 250, 3) := by decide +kernel
theorem dX12_means_212 : decode cX12_means 212 = .ok (.ifCond .ne 29, 3) := by decide +kernel
theorem dX12_means_215 : decode cX12_means 215 = .ok (.aload_n 0, 1) := by decide +kernel
theorem dX12_means_216 : decode cX12_means 216 = .ok (.iconst 5, 1) := by decide +kernel
theorem dX12_means_217 : decode cX12_means 217 = .ok (.iload_n 1, 1) := by decide +kernel
theorem dX12_means_218 : decode cX12_means 218 = .ok (.iconst 1, 1) := by decide +kernel
theorem dX12_means_219 : decode cX12_means 219 = .ok (.iadd, 1) := by decide +kernel
theorem dX12_means_220 : decode cX12_means 220 = .ok (.invokevirtual 237, 3) := by decide +kernel
theorem dX12_means_223 : decode cX12_means 223 = .ok (.goto 18, 3) := by decide +kernel
theorem dX12_means_226 : decode cX12_means 226 = .ok (.aload_n 0, 1) := by decide +kernel
theorem dX12_means_227 : decode cX12_means 227 = .ok (.aload_n 0, 1) := by decide +kernel
theorem dX12_means_228 : decode cX12_means 228 = .ok (.getfield 27, 3) := by decide +kernel
theorem dX12_means_231 : decode cX12_means 231 = .ok (.iload_n 1, 1) := by decide +kernel
theorem dX12_means_232 : decode cX12_means 232 = .ok (.iconst 1, 1) := by decide +kernel
theorem dX12_means_233 : decode cX12_means 233 = .ok (.iadd, 1) := by decide +kernel
theorem dX12_means_234 : decode cX12_means 234 = .ok (.iaload, 1) := by decide +kernel
theorem dX12_means_235 : decode cX12_means 235 = .ok (.putfield 209, 3) := by decide +kernel
theorem dX12_means_238 : decode cX12_means 238 = .ok (.goto 3, 3) := by decide +kernel
theorem dX12_means_241 : decode cX12_means 241 = .ok (.iinc 1 1, 3) := by decide +kernel
theorem dX12_means_244 : decode cX12_means 244 = .ok (.goto (-200), 3) := by decide +kernel
theorem dX12_means_247 : decode cX12_means 247 = .ok (.iconst 0, 1) := by decide +kernel
theorem dX12_means_248 : decode cX12_means 248 = .ok (.istore_n 1, 1) := by decide +kernel
theorem dX12_means_249 : decode cX12_means 249 = .ok (.iload_n 1, 1) := by decide +kernel
theorem dX12_means_250 : decode cX12_means 250 = .ok (.aload_n 0, 1) := by decide +kernel
theorem dX12_means_251 : decode cX12_means 251 = .ok (.getfield 130, 3) := by decide +kernel
theorem dX12_means_254 : decode cX12_means 254 = .ok (.if_icmp .ge 72, 3) := by decide +kernel
theorem dX12_means_257 : decode cX12_means 257 = .ok (.aload_n 0, 1) := by decide +kernel
theorem dX12_means_258 : decode cX12_means 258 = .ok (.getfield 20, 3) := by decide +kernel
theorem dX12_means_261 : decode cX12_means 261 = .ok (.iload_n 1, 1) := by decide +kernel
theorem dX12_means_262 : decode cX12_means 262 = .ok (.iaload, 1) := by decide +kernel
theorem dX12_means_263 : decode cX12_means 263 = .ok (.bipush 23, 2) := by decide +kernel
theorem dX12_means_265 : decode cX12_means 265 = .ok (.if_icmp .eq 17, 3) := by decide +kernel
theorem dX12_means_268 : decode cX12_means 268 = .ok (.aload_n 0, 1) := by decide +kernel
theorem dX12_means_269 : decode cX12_means 269 = .ok (.getfield 20, 3) := by decide +kernel
theorem dX12_means_272 : decode cX12_means 272 = .ok (.iload_n 1, 1) := by decide +kernel
theorem dX12_means_273 : decode cX12_means 273 = .ok (.iaload, 1) := by decide +kernel
theorem dX12_means_274 : decode cX12_means 274 = .ok (.bipush 24, 2) := by decide +kernel
theorem dX12_means_276 : decode cX12_means 276 = .ok (.if_icmp .eq 6, 3) := by decide +kernel
theorem dX12_means_279 : decode cX12_means 279 = .ok (.goto 41, 3) := by decide +kernel
theorem dX12_means_282 : decode cX12_means 282 = .ok (.aload_n 0, 1) := by decide +kernel
theorem dX12_means_283 : decode cX12_means 283 = .ok (.iload_n 1, 1) := by decide +kernel
theorem dX12_means_284 : decode cX12_means 284 = .ok (.iconst 1, 1) := by decide +kernel
theorem dX12_means_285 : decode cX12_means 285 = .ok (.iadd, 1) := by decide +kernel
theorem dX12_means_286 : decode cX12_means 286 = .ok (.bipush 22, 2) := by decide +kernel
theorem dX12_means_288 : decode cX12_means 288 = .ok (.invokevirtual 247, 3) := by decide +kernel
theorem dX12_means_291 : decode cX12_means 291 = .ok (.istore_n 2, 1) := by decide +kernel
theorem dX12_means_292 : decode cX12_means 292 = .ok (.iload_n 2, 1) := by decide +kernel
theorem dX12_means_293 : decode cX12_means 293 = .ok (.ifCond .lt 27, 3) := by decide +kernel
theorem dX12_means_296 : decode cX12_means 296 = .ok (.aload_n 0, 1) := by decide +kernel
theorem dX12_means_297 : decode cX12_means 297 = .ok (.getfield 61, 3) := by decide +kernel
theorem dX12_means_300 : decode cX12_means 300 = .ok (.iconst 1, 1) := by decide +kernel
theorem dX12_means_301 : decode cX12_means 301 = .ok (.iload_n 2, 1) := by decide +kernel
theorem dX12_means_302 : decode cX12_means 302 = .ok (.iadd, 1) := by decide +kernel
theorem dX12_means_303 : decode cX12_means 303 = .ok (.aload_n 0, 1) := by decide +kernel
theorem dX12_means_304 : decode cX12_means 304 = .ok (.getfield 20, 3) := by decide +kernel
theorem dX12_means_307 : decode cX12_means 307 = .ok (.iload_n 1, 1) := by decide +kernel
theorem dX12_means_308 : decode cX12_means 308 = .ok (.iaload, 1) := by decide +kernel
theorem dX12_means_309 : decode cX12_means 309 = .ok (.bipush 23, 2) := by decide +kernel
theorem dX12_means_311 : decode cX12_means 311 = .ok (.if_icmp .ne 7, 3) := by decide +kernel
theorem dX12_means_314 : decode cX12_means 314 = .ok (.iconst 1, 1) := by decide +kernel
theorem dX12_means_315 : decode cX12_means 315 = .ok (.goto 4, 3) := by decide +kernel
theorem dX12_means_318 : decode cX12_means 318 = .ok (.iconst 2, 1) := by decide +kernel
theorem dX12_means_319 : decode cX12_means 319 = .ok (.iastore, 1) := by decide +kernel
theorem dX12_means_320 : decode cX12_means 320 = .ok (.iinc 1 1, 3) := by decide +kernel
theorem dX12_means_323 : decode cX12_means 323 = .ok (.goto (-74), 3) := by decide +kernel
theorem dX12_means_326 : decode cX12_means 326 = .ok (.return_, 1) := by decide +kernel
theorem dX12_meansLink_0 : decode cX12_meansLink 0 = .ok (.aload_n 0, 1) := by decide +kernel
theorem dX12_meansLink_1 : decode cX12_meansLink 1 = .ok (.iload_n 1, 1) := by decide +kernel
theorem dX12_meansLink_2 : decode cX12_meansLink 2 = .ok (.iconst 1, 1) := by decide +kernel
theorem dX12_meansLink_3 : decode cX12_meansLink 3 = .ok (.iadd, 1) := by decide +kernel
theorem dX12_meansLink_4 : decode cX12_meansLink 4 = .ok (.bipush 20, 2) := by decide +kernel
theorem dX12_meansLink_6 : decode cX12_meansLink 6 = .ok (.invokevirtual 247, 3) := by decide +kernel
theorem dX12_meansLink_9 : decode cX12_meansLink 9 = .ok (.istore_n 2, 1) := by decide +kernel
theorem dX12_meansLink_10 : decode cX12_meansLink 10 = .ok (.aload_n 0, 1) := by decide +kernel
theorem dX12_meansLink_11 : decode cX12_meansLink 11 = .ok (.iload_n 1, 1) := by decide +kernel
theorem dX12_meansLink_12 : decode cX12_meansLink 12 = .ok (.iconst 2, 1) := by decide +kernel
theorem dX12_meansLink_13 : decode cX12_meansLink 13 = .ok (.iadd, 1) := by decide +kernel
theorem dX12_meansLink_14 : decode cX12_meansLink 14 = .ok (.bipush 20, 2) := by decide +kernel
theorem dX12_meansLink_16 : decode cX12_meansLink 16 = .ok (.invokevirtual 247, 3) := by decide +kernel
theorem dX12_meansLink_19 : decode cX12_meansLink 19 = .ok (.istore_n 3, 1) := by decide +kernel
theorem dX12_meansLink_20 : decode cX12_meansLink 20 = .ok (.iload_n 2, 1) := by decide +kernel
theorem dX12_meansLink_21 : decode cX12_meansLink 21 = .ok (.ifCond .lt 30, 3) := by decide +kernel
theorem dX12_meansLink_24 : decode cX12_meansLink 24 = .ok (.iload_n 3, 1) := by decide +kernel
theorem dX12_meansLink_25 : decode cX12_meansLink 25 = .ok (.ifCond .lt 26, 3) := by decide +kernel
theorem dX12_meansLink_28 : decode cX12_meansLink 28 = .ok (.iload_n 2, 1) := by decide +kernel
theorem dX12_meansLink_29 : decode cX12_meansLink 29 = .ok (.iload_n 3, 1) := by decide +kernel
theorem dX12_meansLink_30 : decode cX12_meansLink 30 = .ok (.if_icmp .eq 13, 3) := by decide +kernel
theorem dX12_meansLink_33 : decode cX12_meansLink 33 = .ok (.aload_n 0, 1) := by decide +kernel
theorem dX12_meansLink_34 : decode cX12_meansLink 34 = .ok (.iload_n 2, 1) := by decide +kernel
theorem dX12_meansLink_35 : decode cX12_meansLink 35 = .ok (.iload_n 3, 1) := by decide +kernel
theorem dX12_meansLink_36 : decode cX12_meansLink 36 = .ok (.iload_n 1, 1) := by decide +kernel
theorem dX12_meansLink_37 : decode cX12_meansLink 37 = .ok (.invokevirtual 254, 3) := by decide +kernel
theorem dX12_meansLink_40 : decode cX12_meansLink 40 = .ok (.ifCond .eq 11, 3) := by decide +kernel
theorem dX12_meansLink_43 : decode cX12_meansLink 43 = .ok (.aload_n 0, 1) := by decide +kernel
theorem dX12_meansLink_44 : decode cX12_meansLink 44 = .ok (.iconst 3, 1) := by decide +kernel
theorem dX12_meansLink_45 : decode cX12_meansLink 45 = .ok (.iload_n 1, 1) := by decide +kernel
theorem dX12_meansLink_46 : decode cX12_meansLink 46 = .ok (.iconst 2, 1) := by decide +kernel
theorem dX12_meansLink_47 : decode cX12_meansLink 47 = .ok (.iadd, 1) := by decide +kernel
theorem dX12_meansLink_48 : decode cX12_meansLink 48 = .ok (.invokevirtual 237, 3) := by decide +kernel
theorem dX12_meansLink_51 : decode cX12_meansLink 51 = .ok (.aload_n 0, 1) := by decide +kernel
theorem dX12_meansLink_52 : decode cX12_meansLink 52 = .ok (.getfield 27, 3) := by decide +kernel
theorem dX12_meansLink_55 : decode cX12_meansLink 55 = .ok (.iload_n 1, 1) := by decide +kernel
theorem dX12_meansLink_56 : decode cX12_meansLink 56 = .ok (.iconst 3, 1) := by decide +kernel
theorem dX12_meansLink_57 : decode cX12_meansLink 57 = .ok (.iadd, 1) := by decide +kernel
theorem dX12_meansLink_58 : decode cX12_meansLink 58 = .ok (.iaload, 1) := by decide +kernel
theorem dX12_meansLink_59 : decode cX12_meansLink 59 = .ok (.iconst 1, 1) := by decide +kernel
theorem dX12_meansLink_60 : decode cX12_meansLink 60 = .ok (.bipush 9, 2) := by decide +kernel
theorem dX12_meansLink_62 : decode cX12_meansLink 62 = .ok (.invokestatic 250, 3) := by decide +kernel
theorem dX12_meansLink_65 : decode cX12_meansLink 65 = .ok (.ifCond .ne 11, 3) := by decide +kernel
theorem dX12_meansLink_68 : decode cX12_meansLink 68 = .ok (.aload_n 0, 1) := by decide +kernel
theorem dX12_meansLink_69 : decode cX12_meansLink 69 = .ok (.iconst 5, 1) := by decide +kernel
theorem dX12_meansLink_70 : decode cX12_meansLink 70 = .ok (.iload_n 1, 1) := by decide +kernel
theorem dX12_meansLink_71 : decode cX12_meansLink 71 = .ok (.iconst 3, 1) := by decide +kernel
theorem dX12_meansLink_72 : decode cX12_meansLink 72 = .ok (.iadd, 1) := by decide +kernel
theorem dX12_meansLink_73 : decode cX12_meansLink 73 = .ok (.invokevirtual 237, 3) := by decide +kernel
theorem dX12_meansLink_76 : decode cX12_meansLink 76 = .ok (.aload_n 0, 1) := by decide +kernel
theorem dX12_meansLink_77 : decode cX12_meansLink 77 = .ok (.getfield 49, 3) := by decide +kernel
theorem dX12_meansLink_80 : decode cX12_meansLink 80 = .ok (.aload_n 0, 1) := by decide +kernel
theorem dX12_meansLink_81 : decode cX12_meansLink 81 = .ok (.getfield 182, 3) := by decide +kernel
theorem dX12_meansLink_84 : decode cX12_meansLink 84 = .ok (.iload_n 2, 1) := by decide +kernel
theorem dX12_meansLink_85 : decode cX12_meansLink 85 = .ok (.iload_n 3, 1) := by decide +kernel
theorem dX12_meansLink_86 : decode cX12_meansLink 86 = .ok (.if_icmp .ge 7, 3) := by decide +kernel
theorem dX12_meansLink_89 : decode cX12_meansLink 89 = .ok (.iload_n 2, 1) := by decide +kernel
theorem dX12_meansLink_90 : decode cX12_meansLink 90 = .ok (.goto 4, 3) := by decide +kernel
theorem dX12_meansLink_93 : decode cX12_meansLink 93 = .ok (.iload_n 3, 1) := by decide +kernel
theorem dX12_meansLink_94 : decode cX12_meansLink 94 = .ok (.iastore, 1) := by decide +kernel
theorem dX12_meansLink_95 : decode cX12_meansLink 95 = .ok (.aload_n 0, 1) := by decide +kernel
theorem dX12_meansLink_96 : decode cX12_meansLink 96 = .ok (.getfield 52, 3) := by decide +kernel
theorem dX12_meansLink_99 : decode cX12_meansLink 99 = .ok (.aload_n 0, 1) := by decide +kernel
theorem dX12_meansLink_100 : decode cX12_meansLink 100 = .ok (.getfield 182, 3) := by decide +kernel
theorem dX12_meansLink_103 : decode cX12_meansLink 103 = .ok (.iload_n 2, 1) := by decide +kernel
theorem dX12_meansLink_104 : decode cX12_meansLink 104 = .ok (.iload_n 3, 1) := by decide +kernel
theorem dX12_meansLink_105 : decode cX12_meansLink 105 = .ok (.if_icmp .ge 7, 3) := by decide +kernel
theorem dX12_meansLink_108 : decode cX12_meansLink 108 = .ok (.iload_n 3, 1) := by decide +kernel
theorem dX12_meansLink_109 : decode cX12_meansLink 109 = .ok (.goto 4, 3) := by decide +kernel
theorem dX12_meansLink_112 : decode cX12_meansLink 112 = .ok (.iload_n 2, 1) := by decide +kernel
theorem dX12_meansLink_113 : decode cX12_meansLink 113 = .ok (.iastore, 1) := by decide +kernel
theorem dX12_meansLink_114 : decode cX12_meansLink 114 = .ok (.aload_n 0, 1) := by decide +kernel
theorem dX12_meansLink_115 : decode cX12_meansLink 115 = .ok (.getfield 55, 3) := by decide +kernel
theorem dX12_meansLink_118 : decode cX12_meansLink 118 = .ok (.aload_n 0, 1) := by decide +kernel
theorem dX12_meansLink_119 : decode cX12_meansLink 119 = .ok (.getfield 182, 3) := by decide +kernel
theorem dX12_meansLink_122 : decode cX12_meansLink 122 = .ok (.aload_n 0, 1) := by decide +kernel
theorem dX12_meansLink_123 : decode cX12_meansLink 123 = .ok (.getfield 27, 3) := by decide +kernel
theorem dX12_meansLink_126 : decode cX12_meansLink 126 = .ok (.iload_n 1, 1) := by decide +kernel
theorem dX12_meansLink_127 : decode cX12_meansLink 127 = .ok (.iconst 3, 1) := by decide +kernel
theorem dX12_meansLink_128 : decode cX12_meansLink 128 = .ok (.iadd, 1) := by decide +kernel
theorem dX12_meansLink_129 : decode cX12_meansLink 129 = .ok (.iaload, 1) := by decide +kernel
theorem dX12_meansLink_130 : decode cX12_meansLink 130 = .ok (.iastore, 1) := by decide +kernel
theorem dX12_meansLink_131 : decode cX12_meansLink 131 = .ok (.aload_n 0, 1) := by decide +kernel
theorem dX12_meansLink_132 : decode cX12_meansLink 132 = .ok (.dup, 1) := by decide +kernel
theorem dX12_meansLink_133 : decode cX12_meansLink 133 = .ok (.getfield 182, 3) := by decide +kernel
theorem dX12_meansLink_136 : decode cX12_meansLink 136 = .ok (.iconst 1, 1) := by decide +kernel
theorem dX12_meansLink_137 : decode cX12_meansLink 137 = .ok (.iadd, 1) := by decide +kernel
theorem dX12_meansLink_138 : decode cX12_meansLink 138 = .ok (.putfield 182, 3) := by decide +kernel
theorem dX12_meansLink_141 : decode cX12_meansLink 141 = .ok (.return_, 1) := by decide +kernel
theorem dX12_meansWay_0 : decode cX12_meansWay 0 = .ok (.aload_n 0, 1) := by decide +kernel
theorem dX12_meansWay_1 : decode cX12_meansWay 1 = .ok (.getfield 61, 3) := by decide +kernel
theorem dX12_meansWay_4 : decode cX12_meansWay 4 = .ok (.iconst 0, 1) := by decide +kernel
theorem dX12_meansWay_5 : decode cX12_meansWay 5 = .ok (.iaload, 1) := by decide +kernel
theorem dX12_meansWay_6 : decode cX12_meansWay 6 = .ok (.istore_n 2, 1) := by decide +kernel
theorem dX12_meansWay_7 : decode cX12_meansWay 7 = .ok (.iconst 0, 1) := by decide +kernel
theorem dX12_meansWay_8 : decode cX12_meansWay 8 = .ok (.istore_n 3, 1) := by decide +kernel
theorem dX12_meansWay_9 : decode cX12_meansWay 9 = .ok (.iconst 0, 1) := by decide +kernel
theorem dX12_meansWay_10 : decode cX12_meansWay 10 = .ok (.istore 4, 2) := by decide +kernel
theorem dX12_meansWay_12 : decode cX12_meansWay 12 = .ok (.iconst (-1), 1) := by decide +kernel
theorem dX12_meansWay_13 : decode cX12_meansWay 13 = .ok (.istore 5, 2) := by decide +kernel
theorem dX12_meansWay_15 : decode cX12_meansWay 15 = .ok (.iload_n 1, 1) := by decide +kernel
theorem dX12_meansWay_16 : decode cX12_meansWay 16 = .ok (.iconst 2, 1) := by decide +kernel
theorem dX12_meansWay_17 : decode cX12_meansWay 17 = .ok (.iadd, 1) := by decide +kernel
theorem dX12_meansWay_18 : decode cX12_meansWay 18 = .ok (.istore 6, 2) := by decide +kernel
theorem dX12_meansWay_20 : decode cX12_meansWay 20 = .ok (.aload_n 0, 1) := by decide +kernel
theorem dX12_meansWay_21 : decode cX12_meansWay 21 = .ok (.getfield 20, 3) := by decide +kernel
theorem dX12_meansWay_24 : decode cX12_meansWay 24 = .ok (.iload 6, 2) := by decide +kernel
theorem dX12_meansWay_26 : decode cX12_meansWay 26 = .ok (.iaload, 1) := by decide +kernel
theorem dX12_meansWay_27 : decode cX12_meansWay 27 = .ok (.iconst 1, 1) := by decide +kernel
theorem dX12_meansWay_28 : decode cX12_meansWay 28 = .ok (.if_icmp .ne 97, 3) := by decide +kernel
theorem dX12_meansWay_31 : decode cX12_meansWay 31 = .ok (.aload_n 0, 1) := by decide +kernel
theorem dX12_meansWay_32 : decode cX12_meansWay 32 = .ok (.iload 6, 2) := by decide +kernel
theorem dX12_meansWay_34 : decode cX12_meansWay 34 = .ok (.bipush 20, 2) := by decide +kernel
theorem dX12_meansWay_36 : decode cX12_meansWay 36 = .ok (.invokevirtual 247, 3) := by decide +kernel
theorem dX12_meansWay_39 : decode cX12_meansWay 39 = .ok (.istore 7, 2) := by decide +kernel
theorem dX12_meansWay_41 : decode cX12_meansWay 41 = .ok (.iload 7, 2) := by decide +kernel
theorem dX12_meansWay_43 : decode cX12_meansWay 43 = .ok (.ifCond .lt 53, 3) := by decide +kernel
theorem dX12_meansWay_46 : decode cX12_meansWay 46 = .ok (.iload 4, 2) := by decide +kernel
theorem dX12_meansWay_48 : decode cX12_meansWay 48 = .ok (.iload 7, 2) := by decide +kernel
theorem dX12_meansWay_50 : decode cX12_meansWay 50 = .ok (.invokestatic 257, 3) := by decide +kernel
theorem dX12_meansWay_53 : decode cX12_meansWay 53 = .ok (.ifCond .ne 27, 3) := by decide +kernel
theorem dX12_meansWay_56 : decode cX12_meansWay 56 = .ok (.iload_n 3, 1) := by decide +kernel
theorem dX12_meansWay_57 : decode cX12_meansWay 57 = .ok (.ifCond .le 30, 3) := by decide +kernel
theorem dX12_meansWay_60 : decode cX12_meansWay 60 = .ok (.iload 5, 2) := by decide +kernel
theorem dX12_meansWay_62 : decode cX12_meansWay 62 = .ok (.ifCond .lt 25, 3) := by decide +kernel
theorem dX12_meansWay_65 : decode cX12_meansWay 65 = .ok (.aload_n 0, 1) := by decide +kernel
theorem dX12_meansWay_66 : decode cX12_meansWay 66 = .ok (.iload 5, 2) := by decide +kernel
theorem dX12_meansWay_68 : decode cX12_meansWay 68 = .ok (.iload 7, 2) := by decide +kernel
theorem dX12_meansWay_70 : decode cX12_meansWay 70 = .ok (.aload_n 0, 1) := by decide +kernel
theorem dX12_meansWay_71 : decode cX12_meansWay 71 = .ok (.getfield 130, 3) := by decide +kernel
theorem dX12_meansWay_74 : decode cX12_meansWay 74 = .ok (.invokevirtual 254, 3) := by decide +kernel
theorem dX12_meansWay_77 : decode cX12_meansWay 77 = .ok (.ifCond .ne 10, 3) := by decide +kernel
theorem dX12_meansWay_80 : decode cX12_meansWay 80 = .ok (.aload_n 0, 1) := by decide +kernel
theorem dX12_meansWay_81 : decode cX12_meansWay 81 = .ok (.iconst 5, 1) := by decide +kernel
theorem dX12_meansWay_82 : decode cX12_meansWay 82 = .ok (.iload 6, 2) := by decide +kernel
theorem dX12_meansWay_84 : decode cX12_meansWay 84 = .ok (.invokevirtual 237, 3) := by decide +kernel
theorem dX12_meansWay_87 : decode cX12_meansWay 87 = .ok (.iload 4, 2) := by decide +kernel
theorem dX12_meansWay_89 : decode cX12_meansWay 89 = .ok (.iconst 1, 1) := by decide +kernel
theorem dX12_meansWay_90 : decode cX12_meansWay 90 = .ok (.iload 7, 2) := by decide +kernel
theorem dX12_meansWay_92 : decode cX12_meansWay 92 = .ok (.ishl, 1) := by decide +kernel
theorem dX12_meansWay_93 : decode cX12_meansWay 93 = .ok (.ior, 1) := by decide +kernel
theorem dX12_meansWay_94 : decode cX12_meansWay 94 = .ok (.istore 4, 2) := by decide +kernel
theorem dX12_meansWay_96 : decode cX12_meansWay 96 = .ok (.aload_n 0, 1) := by decide +kernel
theorem dX12_meansWay_97 : decode cX12_meansWay 97 = .ok (.getfield 61, 3) := by decide +kernel
theorem dX12_meansWay_100 : decode cX12_meansWay 100 = .ok (.bipush 25, 2) := by decide +kernel
theorem dX12_meansWay_102 : decode cX12_meansWay 102 = .ok (.bipush 8, 2) := by decide +kernel
theorem dX12_meansWay_104 : decode cX12_meansWay 104 = .ok (.iload_n 2, 1) := by decide +kernel
theorem dX12_meansWay_105 : decode cX12_meansWay 105 = .ok (.imul, 1) := by decide +kernel
theorem dX12_meansWay_106 : decode cX12_meansWay 106 = .ok (.iadd, 1) := by decide +kernel
theorem dX12_meansWay_107 : decode cX12_meansWay 107 = .ok (.iload_n 3, 1) := by decide +kernel
theorem dX12_meansWay_108 : decode cX12_meansWay 108 = .ok (.iadd, 1) := by decide +kernel
theorem dX12_meansWay_109 : decode cX12_meansWay 109 = .ok (.iload 7, 2) := by decide +kernel
theorem dX12_meansWay_111 : decode cX12_meansWay 111 = .ok (.iastore, 1) := by decide +kernel
theorem dX12_meansWay_112 : decode cX12_meansWay 112 = .ok (.iload 7, 2) := by decide +kernel
theorem dX12_meansWay_114 : decode cX12_meansWay 114 = .ok (.istore 5, 2) := by decide +kernel
theorem dX12_meansWay_116 : decode cX12_meansWay 116 = .ok (.iinc 3 1, 3) := by decide +kernel
theorem dX12_meansWay_119 : decode cX12_meansWay 119 = .ok (.iinc 6 1, 3) := by decide +kernel
theorem dX12_meansWay_122 : decode cX12_meansWay 122 = .ok (.goto (-102), 3) := by decide +kernel
theorem dX12_meansWay_125 : decode cX12_meansWay 125 = .ok (.aload_n 0, 1) := by decide +kernel
theorem dX12_meansWay_126 : decode cX12_meansWay 126 = .ok (.getfield 61, 3) := by decide +kernel
theorem dX12_meansWay_129 : decode cX12_meansWay 129 = .ok (.bipush 13, 2) := by decide +kernel
theorem dX12_meansWay_131 : decode cX12_meansWay 131 = .ok (.iload_n 2, 1) := by decide +kernel
theorem dX12_meansWay_132 : decode cX12_meansWay 132 = .ok (.iadd, 1) := by decide +kernel
theorem dX12_meansWay_133 : decode cX12_meansWay 133 = .ok (.iload_n 3, 1) := by decide +kernel
theorem dX12_meansWay_134 : decode cX12_meansWay 134 = .ok (.iastore, 1) := by decide +kernel
theorem dX12_meansWay_135 : decode cX12_meansWay 135 = .ok (.aload_n 0, 1) := by decide +kernel
theorem dX12_meansWay_136 : decode cX12_meansWay 136 = .ok (.getfield 61, 3) := by decide +kernel
theorem dX12_meansWay_139 : decode cX12_meansWay 139 = .ok (.iconst 0, 1) := by decide +kernel
theorem dX12_meansWay_140 : decode cX12_meansWay 140 = .ok (.dup2, 1) := by decide +kernel
theorem dX12_meansWay_141 : decode cX12_meansWay 141 = .ok (.iaload, 1) := by decide +kernel
theorem dX12_meansWay_142 : decode cX12_meansWay 142 = .ok (.iconst 1, 1) := by decide +kernel
theorem dX12_meansWay_143 : decode cX12_meansWay 143 = .ok (.iadd, 1) := by decide +kernel
theorem dX12_meansWay_144 : decode cX12_meansWay 144 = .ok (.iastore, 1) := by decide +kernel
theorem dX12_meansWay_145 : decode cX12_meansWay 145 = .ok (.return_, 1) := by decide +kernel
theorem dX12_in_0 : decode cX12_in 0 = .ok (.iload_n 0, 1) := by decide +kernel
theorem dX12_in_1 : decode cX12_in 1 = .ok (.iload_n 1, 1) := by decide +kernel
theorem dX12_in_2 : decode cX12_in 2 = .ok (.if_icmp .lt 12, 3) := by decide +kernel
theorem dX12_in_5 : decode cX12_in 5 = .ok (.iload_n 0, 1) := by decide +kernel
theorem dX12_in_6 : decode cX12_in 6 = .ok (.iload_n 2, 1) := by decide +kernel
theorem dX12_in_7 : decode cX12_in 7 = .ok (.if_icmp .gt 7, 3) := by decide +kernel
theorem dX12_in_10 : decode cX12_in 10 = .ok (.iconst 1, 1) := by decide +kernel
theorem dX12_in_11 : decode cX12_in 11 = .ok (.goto 4, 3) := by decide +kernel
theorem dX12_in_14 : decode cX12_in 14 = .ok (.iconst 0, 1) := by decide +kernel
theorem dX12_in_15 : decode cX12_in 15 = .ok (.ireturn, 1) := by decide +kernel
theorem dX12_has_0 : decode cX12_has 0 = .ok (.iload_n 0, 1) := by decide +kernel
theorem dX12_has_1 : decode cX12_has 1 = .ok (.iload_n 1, 1) := by decide +kernel
theorem dX12_has_2 : decode cX12_has 2 = .ok (.ishr, 1) := by decide +kernel
theorem dX12_has_3 : decode cX12_has 3 = .ok (.iconst 1, 1) := by decide +kernel
theorem dX12_has_4 : decode cX12_has 4 = .ok (.iand, 1) := by decide +kernel
theorem dX12_has_5 : decode cX12_has 5 = .ok (.iconst 1, 1) := by decide +kernel
theorem dX12_has_6 : decode cX12_has 6 = .ok (.if_icmp .ne 7, 3) := by decide +kernel
theorem dX12_has_9 : decode cX12_has 9 = .ok (.iconst 1, 1) := by decide +kernel
theorem dX12_has_10 : decode cX12_has 10 = .ok (.goto 4, 3) := by decide +kernel
theorem dX12_has_13 : decode cX12_has 13 = .ok (.iconst 0, 1) := by decide +kernel
theorem dX12_has_14 : decode cX12_has 14 = .ok (.ireturn, 1) := by decide +kernel
theorem dX12_bitsOf_0 : decode cX12_bitsOf 0 = .ok (.iconst 0, 1) := by decide +kernel
theorem dX12_bitsOf_1 : decode cX12_bitsOf 1 = .ok (.istore_n 1, 1) := by decide +kernel
theorem dX12_bitsOf_2 : decode cX12_bitsOf 2 = .ok (.iload_n 0, 1) := by decide +kernel
theorem dX12_bitsOf_3 : decode cX12_bitsOf 3 = .ok (.istore_n 2, 1) := by decide +kernel
theorem dX12_bitsOf_4 : decode cX12_bitsOf 4 = .ok (.iload_n 2, 1) := by decide +kernel
theorem dX12_bitsOf_5 : decode cX12_bitsOf 5 = .ok (.ifCond .le 16, 3) := by decide +kernel
theorem dX12_bitsOf_8 : decode cX12_bitsOf 8 = .ok (.iload_n 1, 1) := by decide +kernel
theorem dX12_bitsOf_9 : decode cX12_bitsOf 9 = .ok (.iload_n 2, 1) := by decide +kernel
theorem dX12_bitsOf_10 : decode cX12_bitsOf 10 = .ok (.iconst 1, 1) := by decide +kernel
theorem dX12_bitsOf_11 : decode cX12_bitsOf 11 = .ok (.iand, 1) := by decide +kernel
theorem dX12_bitsOf_12 : decode cX12_bitsOf 12 = .ok (.iadd, 1) := by decide +kernel
theorem dX12_bitsOf_13 : decode cX12_bitsOf 13 = .ok (.istore_n 1, 1) := by decide +kernel
theorem dX12_bitsOf_14 : decode cX12_bitsOf 14 = .ok (.iload_n 2, 1) := by decide +kernel
theorem dX12_bitsOf_15 : decode cX12_bitsOf 15 = .ok (.iconst 1, 1) := by decide +kernel
theorem dX12_bitsOf_16 : decode cX12_bitsOf 16 = .ok (.ishr, 1) := by decide +kernel
theorem dX12_bitsOf_17 : decode cX12_bitsOf 17 = .ok (.istore_n 2, 1) := by decide +kernel
theorem dX12_bitsOf_18 : decode cX12_bitsOf 18 = .ok (.goto (-14), 3) := by decide +kernel
theorem dX12_bitsOf_21 : decode cX12_bitsOf 21 = .ok (.iload_n 1, 1) := by decide +kernel
theorem dX12_bitsOf_22 : decode cX12_bitsOf 22 = .ok (.ireturn, 1) := by decide +kernel
theorem dX12_changes_0 : decode cX12_changes 0 = .ok (.aload_n 0, 1) := by decide +kernel
theorem dX12_changes_1 : decode cX12_changes 1 = .ok (.iconst 0, 1) := by decide +kernel
theorem dX12_changes_2 : decode cX12_changes 2 = .ok (.putfield 261, 3) := by decide +kernel
theorem dX12_changes_5 : decode cX12_changes 5 = .ok (.iconst 0, 1) := by decide +kernel
theorem dX12_changes_6 : decode cX12_changes 6 = .ok (.istore_n 1, 1) := by decide +kernel
theorem dX12_changes_7 : decode cX12_changes 7 = .ok (.iload_n 1, 1) := by decide +kernel
theorem dX12_changes_8 : decode cX12_changes 8 = .ok (.aload_n 0, 1) := by decide +kernel
theorem dX12_changes_9 : decode cX12_changes 9 = .ok (.getfield 58, 3) := by decide +kernel
theorem dX12_changes_12 : decode cX12_changes 12 = .ok (.iconst 0, 1) := by decide +kernel
theorem dX12_changes_13 : decode cX12_changes 13 = .ok (.iaload, 1) := by decide +kernel
theorem dX12_changes_14 : decode cX12_changes 14 = .ok (.if_icmp .ge 82, 3) := by decide +kernel
theorem dX12_changes_17 : decode cX12_changes 17 = .ok (.aload_n 0, 1) := by decide +kernel
theorem dX12_changes_18 : decode cX12_changes 18 = .ok (.getfield 74, 3) := by decide +kernel
theorem dX12_changes_21 : decode cX12_changes 21 = .ok (.iload_n 1, 1) := by decide +kernel
theorem dX12_changes_22 : decode cX12_changes 22 = .ok (.iconst 0, 1) := by decide +kernel
theorem dX12_changes_23 : decode cX12_changes 23 = .ok (.iastore, 1) := by decide +kernel
theorem dX12_changes_24 : decode cX12_changes 24 = .ok (.iconst 1, 1) := by decide +kernel
theorem dX12_changes_25 : decode cX12_changes 25 = .ok (.istore_n 2, 1) := by decide +kernel
theorem dX12_changes_26 : decode cX12_changes 26 = .ok (.iload_n 2, 1) := by decide +kernel
theorem dX12_changes_27 : decode cX12_changes 27 = .ok (.aload_n 0, 1) := by decide +kernel
theorem dX12_changes_28 : decode cX12_changes 28 = .ok (.getfield 58, 3) := by decide +kernel
theorem dX12_changes_31 : decode cX12_changes 31 = .ok (.bipush 13, 2) := by decide +kernel
theorem dX12_changes_33 : decode cX12_changes 33 = .ok (.iload_n 1, 1) := by decide +kernel
theorem dX12_changes_34 : decode cX12_changes 34 = .ok (.iadd, 1) := by decide +kernel
theorem dX12_changes_35 : decode cX12_changes 35 = .ok (.iaload, 1) := by decide +kernel
theorem dX12_changes_36 : decode cX12_changes 36 = .ok (.if_icmp .ge 54, 3) := by decide +kernel
theorem dX12_changes_39 : decode cX12_changes 39 = .ok (.aload_n 0, 1) := by decide +kernel
theorem dX12_changes_40 : decode cX12_changes 40 = .ok (.getfield 74, 3) := by decide +kernel
theorem dX12_changes_43 : decode cX12_changes 43 = .ok (.iload_n 1, 1) := by decide +kernel
theorem dX12_changes_44 : decode cX12_changes 44 = .ok (.dup2, 1) := by decide +kernel
theorem dX12_changes_45 : decode cX12_changes 45 = .ok (.iaload, 1) := by decide +kernel
theorem dX12_changes_46 : decode cX12_changes 46 = .ok (.iconst 1, 1) := by decide +kernel
theorem dX12_changes_47 : decode cX12_changes 47 = .ok (.aload_n 0, 1) := by decide +kernel
theorem dX12_changes_48 : decode cX12_changes 48 = .ok (.aload_n 0, 1) := by decide +kernel
theorem dX12_changes_49 : decode cX12_changes 49 = .ok (.getfield 58, 3) := by decide +kernel
theorem dX12_changes_52 : decode cX12_changes 52 = .ok (.bipush 25, 2) := by decide +kernel
theorem dX12_changes_54 : decode cX12_changes 54 = .ok (.bipush 8, 2) := by decide +kernel
theorem dX12_changes_56 : decode cX12_changes 56 = .ok (.iload_n 1, 1) := by decide +kernel
theorem dX12_changes_57 : decode cX12_changes 57 = .ok (.imul, 1) := by decide +kernel
theorem dX12_changes_58 : decode cX12_changes 58 = .ok (.iadd, 1) := by decide +kernel
theorem dX12_changes_59 : decode cX12_changes 59 = .ok (.iload_n 2, 1) := by decide +kernel
theorem dX12_changes_60 : decode cX12_changes 60 = .ok (.iadd, 1) := by decide +kernel
theorem dX12_changes_61 : decode cX12_changes 61 = .ok (.iconst 1, 1) := by decide +kernel
theorem dX12_changes_62 : decode cX12_changes 62 = .ok (.isub, 1) := by decide +kernel
theorem dX12_changes_63 : decode cX12_changes 63 = .ok (.iaload, 1) := by decide +kernel
theorem dX12_changes_64 : decode cX12_changes 64 = .ok (.aload_n 0, 1) := by decide +kernel
theorem dX12_changes_65 : decode cX12_changes 65 = .ok (.getfield 58, 3) := by decide +kernel
theorem dX12_changes_68 : decode cX12_changes 68 = .ok (.bipush 25, 2) := by decide +kernel
theorem dX12_changes_70 : decode cX12_changes 70 = .ok (.bipush 8, 2) := by decide +kernel
theorem dX12_changes_72 : decode cX12_changes 72 = .ok (.iload_n 1, 1) := by decide +kernel
theorem dX12_changes_73 : decode cX12_changes 73 = .ok (.imul, 1) := by decide +kernel
theorem dX12_changes_74 : decode cX12_changes 74 = .ok (.iadd, 1) := by decide +kernel
theorem dX12_changes_75 : decode cX12_changes 75 = .ok (.iload_n 2, 1) := by decide +kernel
theorem dX12_changes_76 : decode cX12_changes 76 = .ok (.iadd, 1) := by decide +kernel
theorem dX12_changes_77 : decode cX12_changes 77 = .ok (.iaload, 1) := by decide +kernel
theorem dX12_changes_78 : decode cX12_changes 78 = .ok (.invokevirtual 265, 3) := by decide +kernel
theorem dX12_changes_81 : decode cX12_changes 81 = .ok (.ishl, 1) := by decide +kernel
theorem dX12_changes_82 : decode cX12_changes 82 = .ok (.ior, 1) := by decide +kernel
theorem dX12_changes_83 : decode cX12_changes 83 = .ok (.iastore, 1) := by decide +kernel
theorem dX12_changes_84 : decode cX12_changes 84 = .ok (.iinc 2 1, 3) := by decide +kernel
theorem dX12_changes_87 : decode cX12_changes 87 = .ok (.goto (-61), 3) := by decide +kernel
theorem dX12_changes_90 : decode cX12_changes 90 = .ok (.iinc 1 1, 3) := by decide +kernel
theorem dX12_changes_93 : decode cX12_changes 93 = .ok (.goto (-86), 3) := by decide +kernel
theorem dX12_changes_96 : decode cX12_changes 96 = .ok (.return_, 1) := by decide +kernel
theorem dX12_marks_0 : decode cX12_marks 0 = .ok (.aload_n 0, 1) := by decide +kernel
theorem dX12_marks_1 : decode cX12_marks 1 = .ok (.getfield 215, 3) := by decide +kernel
theorem dX12_marks_4 : decode cX12_marks 4 = .ok (.bipush 40, 2) := by decide +kernel
theorem dX12_marks_6 : decode cX12_marks 6 = .ok (.if_icmp .ne 26, 3) := by decide +kernel
theorem dX12_marks_9 : decode cX12_marks 9 = .ok (.aload_n 0, 1) := by decide +kernel
theorem dX12_marks_10 : decode cX12_marks 10 = .ok (.aload_n 0, 1) := by decide +kernel
theorem dX12_marks_11 : decode cX12_marks 11 = .ok (.getfield 268, 3) := by decide +kernel
theorem dX12_marks_14 : decode cX12_marks 14 = .ok (.iconst 1, 1) := by decide +kernel
theorem dX12_marks_15 : decode cX12_marks 15 = .ok (.iadd, 1) := by decide +kernel
theorem dX12_marks_16 : decode cX12_marks 16 = .ok (.bipush 40, 2) := by decide +kernel
theorem dX12_marks_18 : decode cX12_marks 18 = .ok (.irem, 1) := by decide +kernel
theorem dX12_marks_19 : decode cX12_marks 19 = .ok (.putfield 268, 3) := by decide +kernel
theorem dX12_marks_22 : decode cX12_marks 22 = .ok (.aload_n 0, 1) := by decide +kernel
theorem dX12_marks_23 : decode cX12_marks 23 = .ok (.dup, 1) := by decide +kernel
theorem dX12_marks_24 : decode cX12_marks 24 = .ok (.getfield 215, 3) := by decide +kernel
theorem dX12_marks_27 : decode cX12_marks 27 = .ok (.iconst 1, 1) := by decide +kernel
theorem dX12_marks_28 : decode cX12_marks 28 = .ok (.isub, 1) := by decide +kernel
theorem dX12_marks_29 : decode cX12_marks 29 = .ok (.putfield 215, 3) := by decide +kernel
theorem dX12_marks_32 : decode cX12_marks 32 = .ok (.bipush 121, 2) := by decide +kernel
theorem dX12_marks_34 : decode cX12_marks 34 = .ok (.aload_n 0, 1) := by decide +kernel
theorem dX12_marks_35 : decode cX12_marks 35 = .ok (.getfield 268, 3) := by decide +kernel
theorem dX12_marks_38 : decode cX12_marks 38 = .ok (.aload_n 0, 1) := by decide +kernel
theorem dX12_marks_39 : decode cX12_marks 39 = .ok (.getfield 215, 3) := by decide +kernel
theorem dX12_marks_42 : decode cX12_marks 42 = .ok (.iadd, 1) := by decide +kernel
theorem dX12_marks_43 : decode cX12_marks 43 = .ok (.bipush 40, 2) := by decide +kernel
theorem dX12_marks_45 : decode cX12_marks 45 = .ok (.irem, 1) := by decide +kernel
theorem dX12_marks_46 : decode cX12_marks 46 = .ok (.imul, 1) := by decide +kernel
theorem dX12_marks_47 : decode cX12_marks 47 = .ok (.istore_n 1, 1) := by decide +kernel
theorem dX12_marks_48 : decode cX12_marks 48 = .ok (.iconst 0, 1) := by decide +kernel
theorem dX12_marks_49 : decode cX12_marks 49 = .ok (.istore_n 2, 1) := by decide +kernel
theorem dX12_marks_50 : decode cX12_marks 50 = .ok (.iload_n 2, 1) := by decide +kernel
theorem dX12_marks_51 : decode cX12_marks 51 = .ok (.bipush 121, 2) := by decide +kernel
theorem dX12_marks_53 : decode cX12_marks 53 = .ok (.if_icmp .ge 23, 3) := by decide +kernel
theorem dX12_marks_56 : decode cX12_marks 56 = .ok (.aload_n 0, 1) := by decide +kernel
theorem dX12_marks_57 : decode cX12_marks 57 = .ok (.getfield 64, 3) := by decide +kernel
theorem dX12_marks_60 : decode cX12_marks 60 = .ok (.iload_n 1, 1) := by decide +kernel
theorem dX12_marks_61 : decode cX12_marks 61 = .ok (.iload_n 2, 1) := by decide +kernel
theorem dX12_marks_62 : decode cX12_marks 62 = .ok (.iadd, 1) := by decide +kernel
theorem dX12_marks_63 : decode cX12_marks 63 = .ok (.aload_n 0, 1) := by decide +kernel
theorem dX12_marks_64 : decode cX12_marks 64 = .ok (.getfield 58, 3) := by decide +kernel
theorem dX12_marks_67 : decode cX12_marks 67 = .ok (.iload_n 2, 1) := by decide +kernel
theorem dX12_marks_68 : decode cX12_marks 68 = .ok (.iaload, 1) := by decide +kernel
theorem dX12_marks_69 : decode cX12_marks 69 = .ok (.iastore, 1) := by decide +kernel
theorem dX12_marks_70 : decode cX12_marks 70 = .ok (.iinc 2 1, 3) := by decide +kernel
theorem dX12_marks_73 : decode cX12_marks 73 = .ok (.goto (-23), 3) := by decide +kernel
theorem dX12_marks_76 : decode cX12_marks 76 = .ok (.aload_n 0, 1) := by decide +kernel
theorem dX12_marks_77 : decode cX12_marks 77 = .ok (.dup, 1) := by decide +kernel
theorem dX12_marks_78 : decode cX12_marks 78 = .ok (.getfield 215, 3) := by decide +kernel
theorem dX12_marks_81 : decode cX12_marks 81 = .ok (.iconst 1, 1) := by decide +kernel
theorem dX12_marks_82 : decode cX12_marks 82 = .ok (.iadd, 1) := by decide +kernel
theorem dX12_marks_83 : decode cX12_marks 83 = .ok (.putfield 215, 3) := by decide +kernel
theorem dX12_marks_86 : decode cX12_marks 86 = .ok (.return_, 1) := by decide +kernel
theorem dX12_isWay_0 : decode cX12_isWay 0 = .ok (.iload_n 1, 1) := by decide +kernel
theorem dX12_isWay_1 : decode cX12_isWay 1 = .ok (.iconst 0, 1) := by decide +kernel
theorem dX12_isWay_2 : decode cX12_isWay 2 = .ok (.aload_n 0, 1) := by decide +kernel
theorem dX12_isWay_3 : decode cX12_isWay 3 = .ok (.getfield 58, 3) := by decide +kernel
theorem dX12_isWay_6 : decode cX12_isWay 6 = .ok (.iconst 0, 1) := by decide +kernel
theorem dX12_isWay_7 : decode cX12_isWay 7 = .ok (.iaload, 1) := by decide +kernel
theorem dX12_isWay_8 : decode cX12_isWay 8 = .ok (.iconst 1, 1) := by decide +kernel
theorem dX12_isWay_9 : decode cX12_isWay 9 = .ok (.isub, 1) := by decide +kernel
theorem dX12_isWay_10 : decode cX12_isWay 10 = .ok (.invokestatic 250, 3) := by decide +kernel
theorem dX12_isWay_13 : decode cX12_isWay 13 = .ok (.ireturn, 1) := by decide +kernel
theorem dX12_isLink_0 : decode cX12_isLink 0 = .ok (.iload_n 1, 1) := by decide +kernel
theorem dX12_isLink_1 : decode cX12_isLink 1 = .ok (.iconst 0, 1) := by decide +kernel
theorem dX12_isLink_2 : decode cX12_isLink 2 = .ok (.aload_n 0, 1) := by decide +kernel
theorem dX12_isLink_3 : decode cX12_isLink 3 = .ok (.getfield 200, 3) := by decide +kernel
theorem dX12_isLink_6 : decode cX12_isLink 6 = .ok (.iconst 1, 1) := by decide +kernel
theorem dX12_isLink_7 : decode cX12_isLink 7 = .ok (.isub, 1) := by decide +kernel
theorem dX12_isLink_8 : decode cX12_isLink 8 = .ok (.invokestatic 250, 3) := by decide +kernel
theorem dX12_isLink_11 : decode cX12_isLink 11 = .ok (.ireturn, 1) := by decide +kernel
theorem dX12_isPost_0 : decode cX12_isPost 0 = .ok (.iload_n 1, 1) := by decide +kernel
theorem dX12_isPost_1 : decode cX12_isPost 1 = .ok (.iconst 0, 1) := by decide +kernel
theorem dX12_isPost_2 : decode cX12_isPost 2 = .ok (.aload_n 0, 1) := by decide +kernel
theorem dX12_isPost_3 : decode cX12_isPost 3 = .ok (.getfield 197, 3) := by decide +kernel
theorem dX12_isPost_6 : decode cX12_isPost 6 = .ok (.iconst 1, 1) := by decide +kernel
theorem dX12_isPost_7 : decode cX12_isPost 7 = .ok (.isub, 1) := by decide +kernel
theorem dX12_isPost_8 : decode cX12_isPost 8 = .ok (.invokestatic 250, 3) := by decide +kernel
theorem dX12_isPost_11 : decode cX12_isPost 11 = .ok (.ireturn, 1) := by decide +kernel
theorem dX12_isSet_0 : decode cX12_isSet 0 = .ok (.iload_n 1, 1) := by decide +kernel
theorem dX12_isSet_1 : decode cX12_isSet 1 = .ok (.iconst 0, 1) := by decide +kernel
theorem dX12_isSet_2 : decode cX12_isSet 2 = .ok (.iconst 1, 1) := by decide +kernel
theorem dX12_isSet_3 : decode cX12_isSet 3 = .ok (.aload_n 0, 1) := by decide +kernel
theorem dX12_isSet_4 : decode cX12_isSet 4 = .ok (.getfield 200, 3) := by decide +kernel
theorem dX12_isSet_7 : decode cX12_isSet 7 = .ok (.ishl, 1) := by decide +kernel
theorem dX12_isSet_8 : decode cX12_isSet 8 = .ok (.iconst 1, 1) := by decide +kernel
theorem dX12_isSet_9 : decode cX12_isSet 9 = .ok (.isub, 1) := by decide +kernel
theorem dX12_isSet_10 : decode cX12_isSet 10 = .ok (.invokestatic 250, 3) := by decide +kernel
theorem dX12_isSet_13 : decode cX12_isSet 13 = .ok (.ireturn, 1) := by decide +kernel
theorem dX12_between_0 : decode cX12_between 0 = .ok (.iconst 0, 1) := by decide +kernel
theorem dX12_between_1 : decode cX12_between 1 = .ok (.istore_n 3, 1) := by decide +kernel
theorem dX12_between_2 : decode cX12_between 2 = .ok (.iload_n 3, 1) := by decide +kernel
theorem dX12_between_3 : decode cX12_between 3 = .ok (.aload_n 0, 1) := by decide +kernel
theorem dX12_between_4 : decode cX12_between 4 = .ok (.getfield 200, 3) := by decide +kernel
theorem dX12_between_7 : decode cX12_between 7 = .ok (.if_icmp .ge 51, 3) := by decide +kernel
theorem dX12_between_10 : decode cX12_between 10 = .ok (.aload_n 0, 1) := by decide +kernel
theorem dX12_between_11 : decode cX12_between 11 = .ok (.getfield 40, 3) := by decide +kernel
theorem dX12_between_14 : decode cX12_between 14 = .ok (.iload_n 3, 1) := by decide +kernel
theorem dX12_between_15 : decode cX12_between 15 = .ok (.iaload, 1) := by decide +kernel
theorem dX12_between_16 : decode cX12_between 16 = .ok (.iload_n 1, 1) := by decide +kernel
theorem dX12_between_17 : decode cX12_between 17 = .ok (.if_icmp .ne 13, 3) := by decide +kernel
theorem dX12_between_20 : decode cX12_between 20 = .ok (.aload_n 0, 1) := by decide +kernel
theorem dX12_between_21 : decode cX12_between 21 = .ok (.getfield 43, 3) := by decide +kernel
theorem dX12_between_24 : decode cX12_between 24 = .ok (.iload_n 3, 1) := by decide +kernel
theorem dX12_between_25 : decode cX12_between 25 = .ok (.iaload, 1) := by decide +kernel
theorem dX12_between_26 : decode cX12_between 26 = .ok (.iload_n 2, 1) := by decide +kernel
theorem dX12_between_27 : decode cX12_between 27 = .ok (.if_icmp .eq 23, 3) := by decide +kernel
theorem dX12_between_30 : decode cX12_between 30 = .ok (.aload_n 0, 1) := by decide +kernel
theorem dX12_between_31 : decode cX12_between 31 = .ok (.getfield 40, 3) := by decide +kernel
theorem dX12_between_34 : decode cX12_between 34 = .ok (.iload_n 3, 1) := by decide +kernel
theorem dX12_between_35 : decode cX12_between 35 = .ok (.iaload, 1) := by decide +kernel
theorem dX12_between_36 : decode cX12_between 36 = .ok (.iload_n 2, 1) := by decide +kernel
theorem dX12_between_37 : decode cX12_between 37 = .ok (.if_icmp .ne 15, 3) := by decide +kernel
theorem dX12_between_40 : decode cX12_between 40 = .ok (.aload_n 0, 1) := by decide +kernel
theorem dX12_between_41 : decode cX12_between 41 = .ok (.getfield 43, 3) := by decide +kernel
theorem dX12_between_44 : decode cX12_between 44 = .ok (.iload_n 3, 1) := by decide +kernel
theorem dX12_between_45 : decode cX12_between 45 = .ok (.iaload, 1) := by decide +kernel
theorem dX12_between_46 : decode cX12_between 46 = .ok (.iload_n 1, 1) := by decide +kernel
theorem dX12_between_47 : decode cX12_between 47 = .ok (.if_icmp .ne 5, 3) := by decide +kernel
theorem dX12_between_50 : decode cX12_between 50 = .ok (.iload_n 3, 1) := by decide +kernel
theorem dX12_between_51 : decode cX12_between 51 = .ok (.ireturn, 1) := by decide +kernel
theorem dX12_between_52 : decode cX12_between 52 = .ok (.iinc 3 1, 3) := by decide +kernel
theorem dX12_between_55 : decode cX12_between 55 = .ok (.goto (-53), 3) := by decide +kernel
theorem dX12_between_58 : decode cX12_between 58 = .ok (.iconst (-1), 1) := by decide +kernel
theorem dX12_between_59 : decode cX12_between 59 = .ok (.ireturn, 1) := by decide +kernel
theorem dX12_tell_0 : decode cX12_tell 0 = .ok (.aload_n 0, 1) := by decide +kernel
theorem dX12_tell_1 : decode cX12_tell 1 = .ok (.iload_n 1, 1) := by decide +kernel
theorem dX12_tell_2 : decode cX12_tell 2 = .ok (.invokevirtual 271, 3) := by decide +kernel
theorem dX12_tell_5 : decode cX12_tell 5 = .ok (.ifCond .eq 24, 3) := by decide +kernel
theorem dX12_tell_8 : decode cX12_tell 8 = .ok (.iload_n 2, 1) := by decide +kernel
theorem dX12_tell_9 : decode cX12_tell 9 = .ok (.iconst 0, 1) := by decide +kernel
theorem dX12_tell_10 : decode cX12_tell 10 = .ok (.iconst 2, 1) := by decide +kernel
theorem dX12_tell_11 : decode cX12_tell 11 = .ok (.invokestatic 250, 3) := by decide +kernel
theorem dX12_tell_14 : decode cX12_tell 14 = .ok (.ifCond .eq 15, 3) := by decide +kernel
theorem dX12_tell_17 : decode cX12_tell 17 = .ok (.aload_n 0, 1) := by decide +kernel
theorem dX12_tell_18 : decode cX12_tell 18 = .ok (.getfield 58, 3) := by decide +kernel
theorem dX12_tell_21 : decode cX12_tell 21 = .ok (.iconst 1, 1) := by decide +kernel
theorem dX12_tell_22 : decode cX12_tell 22 = .ok (.iload_n 1, 1) := by decide +kernel
theorem dX12_tell_23 : decode cX12_tell 23 = .ok (.iadd, 1) := by decide +kernel
theorem dX12_tell_24 : decode cX12_tell 24 = .ok (.iaload, 1) := by decide +kernel
theorem dX12_tell_25 : decode cX12_tell 25 = .ok (.iload_n 2, 1) := by decide +kernel
theorem dX12_tell_26 : decode cX12_tell 26 = .ok (.if_icmp .ne 5, 3) := by decide +kernel
theorem dX12_tell_29 : decode cX12_tell 29 = .ok (.iconst 0, 1) := by decide +kernel
theorem dX12_tell_30 : decode cX12_tell 30 = .ok (.ireturn, 1) := by decide +kernel
theorem dX12_tell_31 : decode cX12_tell 31 = .ok (.aload_n 0, 1) := by decide +kernel
theorem dX12_tell_32 : decode cX12_tell 32 = .ok (.invokevirtual 274, 3) := by decide +kernel
theorem dX12_tell_35 : decode cX12_tell 35 = .ok (.aload_n 0, 1) := by decide +kernel
theorem dX12_tell_36 : decode cX12_tell 36 = .ok (.getfield 58, 3) := by decide +kernel
theorem dX12_tell_39 : decode cX12_tell 39 = .ok (.iconst 1, 1) := by decide +kernel
theorem dX12_tell_40 : decode cX12_tell 40 = .ok (.iload_n 1, 1) := by decide +kernel
theorem dX12_tell_41 : decode cX12_tell 41 = .ok (.iadd, 1) := by decide +kernel
theorem dX12_tell_42 : decode cX12_tell 42 = .ok (.iload_n 2, 1) := by decide +kernel
theorem dX12_tell_43 : decode cX12_tell 43 = .ok (.iastore, 1) := by decide +kernel
theorem dX12_tell_44 : decode cX12_tell 44 = .ok (.aload_n 0, 1) := by decide +kernel
theorem dX12_tell_45 : decode cX12_tell 45 = .ok (.invokevirtual 218, 3) := by decide +kernel
theorem dX12_tell_48 : decode cX12_tell 48 = .ok (.iconst 1, 1) := by decide +kernel
theorem dX12_tell_49 : decode cX12_tell 49 = .ok (.ireturn, 1) := by decide +kernel
theorem dX12_lay_0 : decode cX12_lay 0 = .ok (.aload_n 0, 1) := by decide +kernel
theorem dX12_lay_1 : decode cX12_lay 1 = .ok (.getfield 58, 3) := by decide +kernel
theorem dX12_lay_4 : decode cX12_lay 4 = .ok (.iconst 0, 1) := by decide +kernel
theorem dX12_lay_5 : decode cX12_lay 5 = .ok (.iaload, 1) := by decide +kernel
theorem dX12_lay_6 : decode cX12_lay 6 = .ok (.bipush 12, 2) := by decide +kernel
theorem dX12_lay_8 : decode cX12_lay 8 = .ok (.if_icmp .eq 12, 3) := by decide +kernel
theorem dX12_lay_11 : decode cX12_lay 11 = .ok (.aload_n 0, 1) := by decide +kernel
theorem dX12_lay_12 : decode cX12_lay 12 = .ok (.iload_n 1, 1) := by decide +kernel
theorem dX12_lay_13 : decode cX12_lay 13 = .ok (.iload_n 2, 1) := by decide +kernel
theorem dX12_lay_14 : decode cX12_lay 14 = .ok (.invokevirtual 277, 3) := by decide +kernel
theorem dX12_lay_17 : decode cX12_lay 17 = .ok (.ifCond .ne 5, 3) := by decide +kernel
theorem dX12_lay_20 : decode cX12_lay 20 = .ok (.iconst (-1), 1) := by decide +kernel
theorem dX12_lay_21 : decode cX12_lay 21 = .ok (.ireturn, 1) := by decide +kernel
theorem dX12_lay_22 : decode cX12_lay 22 = .ok (.aload_n 0, 1) := by decide +kernel
theorem dX12_lay_23 : decode cX12_lay 23 = .ok (.iload_n 1, 1) := by decide +kernel
theorem dX12_lay_24 : decode cX12_lay 24 = .ok (.iload_n 2, 1) := by decide +kernel
theorem dX12_lay_25 : decode cX12_lay 25 = .ok (.bipush 8, 2) := by decide +kernel
theorem dX12_lay_27 : decode cX12_lay 27 = .ok (.invokevirtual 280, 3) := by decide +kernel
theorem dX12_lay_30 : decode cX12_lay 30 = .ok (.iload_n 3, 1) := by decide +kernel
theorem dX12_lay_31 : decode cX12_lay 31 = .ok (.iconst 0, 1) := by decide +kernel
theorem dX12_lay_32 : decode cX12_lay 32 = .ok (.aload_n 0, 1) := by decide +kernel
theorem dX12_lay_33 : decode cX12_lay 33 = .ok (.getfield 284, 3) := by decide +kernel
theorem dX12_lay_36 : decode cX12_lay 36 = .ok (.iconst 1, 1) := by decide +kernel
theorem dX12_lay_37 : decode cX12_lay 37 = .ok (.isub, 1) := by decide +kernel
theorem dX12_lay_38 : decode cX12_lay 38 = .ok (.invokestatic 250, 3) := by decide +kernel
theorem dX12_lay_41 : decode cX12_lay 41 = .ok (.ifCond .ne 5, 3) := by decide +kernel
theorem dX12_lay_44 : decode cX12_lay 44 = .ok (.iconst (-1), 1) := by decide +kernel
theorem dX12_lay_45 : decode cX12_lay 45 = .ok (.ireturn, 1) := by decide +kernel
theorem dX12_lay_46 : decode cX12_lay 46 = .ok (.aload_n 0, 1) := by decide +kernel
theorem dX12_lay_47 : decode cX12_lay 47 = .ok (.invokevirtual 274, 3) := by decide +kernel
theorem dX12_lay_50 : decode cX12_lay 50 = .ok (.aload_n 0, 1) := by decide +kernel
theorem dX12_lay_51 : decode cX12_lay 51 = .ok (.getfield 58, 3) := by decide +kernel
theorem dX12_lay_54 : decode cX12_lay 54 = .ok (.iconst 0, 1) := by decide +kernel
theorem dX12_lay_55 : decode cX12_lay 55 = .ok (.iaload, 1) := by decide +kernel
theorem dX12_lay_56 : decode cX12_lay 56 = .ok (.istore 4, 2) := by decide +kernel
theorem dX12_lay_58 : decode cX12_lay 58 = .ok (.aload_n 0, 1) := by decide +kernel
theorem dX12_lay_59 : decode cX12_lay 59 = .ok (.getfield 58, 3) := by decide +kernel
theorem dX12_lay_62 : decode cX12_lay 62 = .ok (.iconst 1, 1) := by decide +kernel
theorem dX12_lay_63 : decode cX12_lay 63 = .ok (.iload 4, 2) := by decide +kernel
theorem dX12_lay_65 : decode cX12_lay 65 = .ok (.iadd, 1) := by decide +kernel
theorem dX12_lay_66 : decode cX12_lay 66 = .ok (.iconst 0, 1) := by decide +kernel
theorem dX12_lay_67 : decode cX12_lay 67 = .ok (.iastore, 1) := by decide +kernel
theorem dX12_lay_68 : decode cX12_lay 68 = .ok (.aload_n 0, 1) := by decide +kernel
theorem dX12_lay_69 : decode cX12_lay 69 = .ok (.getfield 58, 3) := by decide +kernel
theorem dX12_lay_72 : decode cX12_lay 72 = .ok (.bipush 13, 2) := by decide +kernel
theorem dX12_lay_74 : decode cX12_lay 74 = .ok (.iload 4, 2) := by decide +kernel
theorem dX12_lay_76 : decode cX12_lay 76 = .ok (.iadd, 1) := by decide +kernel
theorem dX12_lay_77 : decode cX12_lay 77 = .ok (.aload_n 0, 1) := by decide +kernel
theorem dX12_lay_78 : decode cX12_lay 78 = .ok (.getfield 89, 3) := by decide +kernel
theorem dX12_lay_81 : decode cX12_lay 81 = .ok (.iload_n 3, 1) := by decide +kernel
theorem dX12_lay_82 : decode cX12_lay 82 = .ok (.iaload, 1) := by decide +kernel
theorem dX12_lay_83 : decode cX12_lay 83 = .ok (.iastore, 1) := by decide +kernel
theorem dX12_lay_84 : decode cX12_lay 84 = .ok (.iconst 0, 1) := by decide +kernel
theorem dX12_lay_85 : decode cX12_lay 85 = .ok (.istore 5, 2) := by decide +kernel
theorem dX12_lay_87 : decode cX12_lay 87 = .ok (.iload 5, 2) := by decide +kernel
theorem dX12_lay_89 : decode cX12_lay 89 = .ok (.bipush 8, 2) := by decide +kernel
theorem dX12_lay_91 : decode cX12_lay 91 = .ok (.if_icmp .ge 37, 3) := by decide +kernel
theorem dX12_lay_94 : decode cX12_lay 94 = .ok (.aload_n 0, 1) := by decide +kernel
theorem dX12_lay_95 : decode cX12_lay 95 = .ok (.getfield 58, 3) := by decide +kernel
theorem dX12_lay_98 : decode cX12_lay 98 = .ok (.bipush 25, 2) := by decide +kernel
theorem dX12_lay_100 : decode cX12_lay 100 = .ok (.bipush 8, 2) := by decide +kernel
theorem dX12_lay_102 : decode cX12_lay 102 = .ok (.iload 4, 2) := by decide +kernel
theorem dX12_lay_104 : decode cX12_lay 104 = .ok (.imul, 1) := by decide +kernel
theorem dX12_lay_105 : decode cX12_lay 105 = .ok (.iadd, 1) := by decide +kernel
theorem dX12_lay_106 : decode cX12_lay 106 = .ok (.iload 5, 2) := by decide +kernel
theorem dX12_lay_108 : decode cX12_lay 108 = .ok (.iadd, 1) := by decide +kernel
theorem dX12_lay_109 : decode cX12_lay 109 = .ok (.aload_n 0, 1) := by decide +kernel
theorem dX12_lay_110 : decode cX12_lay 110 = .ok (.getfield 92, 3) := by decide +kernel
theorem dX12_lay_113 : decode cX12_lay 113 = .ok (.bipush 8, 2) := by decide +kernel
theorem dX12_lay_115 : decode cX12_lay 115 = .ok (.iload_n 3, 1) := by decide +kernel
theorem dX12_lay_116 : decode cX12_lay 116 = .ok (.imul, 1) := by decide +kernel
theorem dX12_lay_117 : decode cX12_lay 117 = .ok (.iload 5, 2) := by decide +kernel
theorem dX12_lay_119 : decode cX12_lay 119 = .ok (.iadd, 1) := by decide +kernel
theorem dX12_lay_120 : decode cX12_lay 120 = .ok (.iaload, 1) := by decide +kernel
theorem dX12_lay_121 : decode cX12_lay 121 = .ok (.iastore, 1) := by decide +kernel
theorem dX12_lay_122 : decode cX12_lay 122 = .ok (.iinc 5 1, 3) := by decide +kernel
theorem dX12_lay_125 : decode cX12_lay 125 = .ok (.goto (-38), 3) := by decide +kernel
theorem dX12_lay_128 : decode cX12_lay 128 = .ok (.aload_n 0, 1) := by decide +kernel
theorem dX12_lay_129 : decode cX12_lay 129 = .ok (.getfield 58, 3) := by decide +kernel
theorem dX12_lay_132 : decode cX12_lay 132 = .ok (.iconst 0, 1) := by decide +kernel
theorem dX12_lay_133 : decode cX12_lay 133 = .ok (.dup2, 1) := by decide +kernel
theorem dX12_lay_134 : decode cX12_lay 134 = .ok (.iaload, 1) := by decide +kernel
theorem dX12_lay_135 : decode cX12_lay 135 = .ok (.iconst 1, 1) := by decide +kernel
theorem dX12_lay_136 : decode cX12_lay 136 = .ok (.iadd, 1) := by decide +kernel
theorem dX12_lay_137 : decode cX12_lay 137 = .ok (.iastore, 1) := by decide +kernel
theorem dX12_lay_138 : decode cX12_lay 138 = .ok (.aload_n 0, 1) := by decide +kernel
theorem dX12_lay_139 : decode cX12_lay 139 = .ok (.invokevirtual 218, 3) := by decide +kernel
theorem dX12_lay_142 : decode cX12_lay 142 = .ok (.iload 4, 2) := by decide +kernel
theorem dX12_lay_144 : decode cX12_lay 144 = .ok (.ireturn, 1) := by decide +kernel
theorem dX12_undo_0 : decode cX12_undo 0 = .ok (.aload_n 0, 1) := by decide +kernel
theorem dX12_undo_1 : decode cX12_undo 1 = .ok (.getfield 215, 3) := by decide +kernel
theorem dX12_undo_4 : decode cX12_undo 4 = .ok (.ifCond .ne 5, 3) := by decide +kernel
theorem dX12_undo_7 : decode cX12_undo 7 = .ok (.iconst 0, 1) := by decide +kernel
theorem dX12_undo_8 : decode cX12_undo 8 = .ok (.ireturn, 1) := by decide +kernel
theorem dX12_undo_9 : decode cX12_undo 9 = .ok (.aload_n 0, 1) := by decide +kernel
theorem dX12_undo_10 : decode cX12_undo 10 = .ok (.dup, 1) := by decide +kernel
theorem dX12_undo_11 : decode cX12_undo 11 = .ok (.getfield 215, 3) := by decide +kernel
theorem dX12_undo_14 : decode cX12_undo 14 = .ok (.iconst 1, 1) := by decide +kernel
theorem dX12_undo_15 : decode cX12_undo 15 = .ok (.isub, 1) := by decide +kernel
theorem dX12_undo_16 : decode cX12_undo 16 = .ok (.putfield 215, 3) := by decide +kernel
theorem dX12_undo_19 : decode cX12_undo 19 = .ok (.bipush 121, 2) := by decide +kernel
theorem dX12_undo_21 : decode cX12_undo 21 = .ok (.aload_n 0, 1) := by decide +kernel
theorem dX12_undo_22 : decode cX12_undo 22 = .ok (.getfield 268, 3) := by decide +kernel
theorem dX12_undo_25 : decode cX12_undo 25 = .ok (.aload_n 0, 1) := by decide +kernel
theorem dX12_undo_26 : decode cX12_undo 26 = .ok (.getfield 215, 3) := by decide +kernel
theorem dX12_undo_29 : decode cX12_undo 29 = .ok (.iadd, 1) := by decide +kernel
theorem dX12_undo_30 : decode cX12_undo 30 = .ok (.bipush 40, 2) := by decide +kernel
theorem dX12_undo_32 : decode cX12_undo 32 = .ok (.irem, 1) := by decide +kernel
theorem dX12_undo_33 : decode cX12_undo 33 = .ok (.imul, 1) := by decide +kernel
theorem dX12_undo_34 : decode cX12_undo 34 = .ok (.istore_n 1, 1) := by decide +kernel
theorem dX12_undo_35 : decode cX12_undo 35 = .ok (.iconst 0, 1) := by decide +kernel
theorem dX12_undo_36 : decode cX12_undo 36 = .ok (.istore_n 2, 1) := by decide +kernel
theorem dX12_undo_37 : decode cX12_undo 37 = .ok (.iload_n 2, 1) := by decide +kernel
theorem dX12_undo_38 : decode cX12_undo 38 = .ok (.bipush 121, 2) := by decide +kernel
theorem dX12_undo_40 : decode cX12_undo 40 = .ok (.if_icmp .ge 23, 3) := by decide +kernel
theorem dX12_undo_43 : decode cX12_undo 43 = .ok (.aload_n 0, 1) := by decide +kernel
theorem dX12_undo_44 : decode cX12_undo 44 = .ok (.getfield 58, 3) := by decide +kernel
theorem dX12_undo_47 : decode cX12_undo 47 = .ok (.iload_n 2, 1) := by decide +kernel
theorem dX12_undo_48 : decode cX12_undo 48 = .ok (.aload_n 0, 1) := by decide +kernel
theorem dX12_undo_49 : decode cX12_undo 49 = .ok (.getfield 64, 3) := by decide +kernel
theorem dX12_undo_52 : decode cX12_undo 52 = .ok (.iload_n 1, 1) := by decide +kernel
theorem dX12_undo_53 : decode cX12_undo 53 = .ok (.iload_n 2, 1) := by decide +kernel
theorem dX12_undo_54 : decode cX12_undo 54 = .ok (.iadd, 1) := by decide +kernel
theorem dX12_undo_55 : decode cX12_undo 55 = .ok (.iaload, 1) := by decide +kernel
theorem dX12_undo_56 : decode cX12_undo 56 = .ok (.iastore, 1) := by decide +kernel
theorem dX12_undo_57 : decode cX12_undo 57 = .ok (.iinc 2 1, 3) := by decide +kernel
theorem dX12_undo_60 : decode cX12_undo 60 = .ok (.goto (-23), 3) := by decide +kernel
theorem dX12_undo_63 : decode cX12_undo 63 = .ok (.aload_n 0, 1) := by decide +kernel
theorem dX12_undo_64 : decode cX12_undo 64 = .ok (.invokevirtual 218, 3) := by decide +kernel
theorem dX12_undo_67 : decode cX12_undo 67 = .ok (.iconst 1, 1) := by decide +kernel
theorem dX12_undo_68 : decode cX12_undo 68 = .ok (.ireturn, 1) := by decide +kernel
theorem dX12_hold_0 : decode cX12_hold 0 = .ok (.iload_n 1, 1) := by decide +kernel
theorem dX12_hold_1 : decode cX12_hold 1 = .ok (.iconst 0, 1) := by decide +kernel
theorem dX12_hold_2 : decode cX12_hold 2 = .ok (.iconst 2, 1) := by decide +kernel
theorem dX12_hold_3 : decode cX12_hold 3 = .ok (.invokestatic 250, 3) := by decide +kernel
theorem dX12_hold_6 : decode cX12_hold 6 = .ok (.ifCond .ne 5, 3) := by decide +kernel
theorem dX12_hold_9 : decode cX12_hold 9 = .ok (.iconst 0, 1) := by decide +kernel
theorem dX12_hold_10 : decode cX12_hold 10 = .ok (.ireturn, 1) := by decide +kernel
theorem dX12_hold_11 : decode cX12_hold 11 = .ok (.iconst 0, 1) := by decide +kernel
theorem dX12_hold_12 : decode cX12_hold 12 = .ok (.istore_n 2, 1) := by decide +kernel
theorem dX12_hold_13 : decode cX12_hold 13 = .ok (.iload_n 2, 1) := by decide +kernel
theorem dX12_hold_14 : decode cX12_hold 14 = .ok (.bipush 121, 2) := by decide +kernel
theorem dX12_hold_16 : decode cX12_hold 16 = .ok (.if_icmp .ge 26, 3) := by decide +kernel
theorem dX12_hold_19 : decode cX12_hold 19 = .ok (.aload_n 0, 1) := by decide +kernel
theorem dX12_hold_20 : decode cX12_hold 20 = .ok (.getfield 67, 3) := by decide +kernel
theorem dX12_hold_23 : decode cX12_hold 23 = .ok (.bipush 121, 2) := by decide +kernel
theorem dX12_hold_25 : decode cX12_hold 25 = .ok (.iload_n 1, 1) := by decide +kernel
theorem dX12_hold_26 : decode cX12_hold 26 = .ok (.imul, 1) := by decide +kernel
theorem dX12_hold_27 : decode cX12_hold 27 = .ok (.iload_n 2, 1) := by decide +kernel
theorem dX12_hold_28 : decode cX12_hold 28 = .ok (.iadd, 1) := by decide +kernel
theorem dX12_hold_29 : decode cX12_hold 29 = .ok (.aload_n 0, 1) := by decide +kernel
theorem dX12_hold_30 : decode cX12_hold 30 = .ok (.getfield 58, 3) := by decide +kernel
theorem dX12_hold_33 : decode cX12_hold 33 = .ok (.iload_n 2, 1) := by decide +kernel
theorem dX12_hold_34 : decode cX12_hold 34 = .ok (.iaload, 1) := by decide +kernel
theorem dX12_hold_35 : decode cX12_hold 35 = .ok (.iastore, 1) := by decide +kernel
theorem dX12_hold_36 : decode cX12_hold 36 = .ok (.iinc 2 1, 3) := by decide +kernel
theorem dX12_hold_39 : decode cX12_hold 39 = .ok (.goto (-26), 3) := by decide +kernel
theorem dX12_hold_42 : decode cX12_hold 42 = .ok (.aload_n 0, 1) := by decide +kernel
theorem dX12_hold_43 : decode cX12_hold 43 = .ok (.getfield 70, 3) := by decide +kernel
theorem dX12_hold_46 : decode cX12_hold 46 = .ok (.iload_n 1, 1) := by decide +kernel
theorem dX12_hold_47 : decode cX12_hold 47 = .ok (.iconst 1, 1) := by decide +kernel
theorem dX12_hold_48 : decode cX12_hold 48 = .ok (.bastore, 1) := by decide +kernel
theorem dX12_hold_49 : decode cX12_hold 49 = .ok (.iconst 1, 1) := by decide +kernel
theorem dX12_hold_50 : decode cX12_hold 50 = .ok (.ireturn, 1) := by decide +kernel
theorem dX12_restore_0 : decode cX12_restore 0 = .ok (.iload_n 1, 1) := by decide +kernel
theorem dX12_restore_1 : decode cX12_restore 1 = .ok (.iconst 0, 1) := by decide +kernel
theorem dX12_restore_2 : decode cX12_restore 2 = .ok (.iconst 2, 1) := by decide +kernel
theorem dX12_restore_3 : decode cX12_restore 3 = .ok (.invokestatic 250, 3) := by decide +kernel
theorem dX12_restore_6 : decode cX12_restore 6 = .ok (.ifCond .eq 12, 3) := by decide +kernel
theorem dX12_restore_9 : decode cX12_restore 9 = .ok (.aload_n 0, 1) := by decide +kernel
theorem dX12_restore_10 : decode cX12_restore 10 = .ok (.getfield 70, 3) := by decide +kernel
theorem dX12_restore_13 : decode cX12_restore 13 = .ok (.iload_n 1, 1) := by decide +kernel
theorem dX12_restore_14 : decode cX12_restore 14 = .ok (.baload, 1) := by decide +kernel
theorem dX12_restore_15 : decode cX12_restore 15 = .ok (.ifCond .ne 5, 3) := by decide +kernel
theorem dX12_restore_18 : decode cX12_restore 18 = .ok (.iconst 0, 1) := by decide +kernel
theorem dX12_restore_19 : decode cX12_restore 19 = .ok (.ireturn, 1) := by decide +kernel
theorem dX12_restore_20 : decode cX12_restore 20 = .ok (.iconst 0, 1) := by decide +kernel
theorem dX12_restore_21 : decode cX12_restore 21 = .ok (.istore_n 2, 1) := by decide +kernel
theorem dX12_restore_22 : decode cX12_restore 22 = .ok (.iload_n 2, 1) := by decide +kernel
theorem dX12_restore_23 : decode cX12_restore 23 = .ok (.bipush 121, 2) := by decide +kernel
theorem dX12_restore_25 : decode cX12_restore 25 = .ok (.if_icmp .ge 26, 3) := by decide +kernel
theorem dX12_restore_28 : decode cX12_restore 28 = .ok (.aload_n 0, 1) := by decide +kernel
theorem dX12_restore_29 : decode cX12_restore 29 = .ok (.getfield 58, 3) := by decide +kernel
theorem dX12_restore_32 : decode cX12_restore 32 = .ok (.iload_n 2, 1) := by decide +kernel
theorem dX12_restore_33 : decode cX12_restore 33 = .ok (.aload_n 0, 1) := by decide +kernel
theorem dX12_restore_34 : decode cX12_restore 34 = .ok (.getfield 67, 3) := by decide +kernel
theorem dX12_restore_37 : decode cX12_restore 37 = .ok (.bipush 121, 2) := by decide +kernel
theorem dX12_restore_39 : decode cX12_restore 39 = .ok (.iload_n 1, 1) := by decide +kernel
theorem dX12_restore_40 : decode cX12_restore 40 = .ok (.imul, 1) := by decide +kernel
theorem dX12_restore_41 : decode cX12_restore 41 = .ok (.iload_n 2, 1) := by decide +kernel
theorem dX12_restore_42 : decode cX12_restore 42 = .ok (.iadd, 1) := by decide +kernel
theorem dX12_restore_43 : decode cX12_restore 43 = .ok (.iaload, 1) := by decide +kernel
theorem dX12_restore_44 : decode cX12_restore 44 = .ok (.iastore, 1) := by decide +kernel
theorem dX12_restore_45 : decode cX12_restore 45 = .ok (.iinc 2 1, 3) := by decide +kernel
theorem dX12_restore_48 : decode cX12_restore 48 = .ok (.goto (-26), 3) := by decide +kernel
theorem dX12_restore_51 : decode cX12_restore 51 = .ok (.aload_n 0, 1) := by decide +kernel
theorem dX12_restore_52 : decode cX12_restore 52 = .ok (.iconst 0, 1) := by decide +kernel
theorem dX12_restore_53 : decode cX12_restore 53 = .ok (.putfield 215, 3) := by decide +kernel
theorem dX12_restore_56 : decode cX12_restore 56 = .ok (.aload_n 0, 1) := by decide +kernel
theorem dX12_restore_57 : decode cX12_restore 57 = .ok (.invokevirtual 218, 3) := by decide +kernel
theorem dX12_restore_60 : decode cX12_restore 60 = .ok (.iconst 1, 1) := by decide +kernel
theorem dX12_restore_61 : decode cX12_restore 61 = .ok (.ireturn, 1) := by decide +kernel
theorem dX12_takesWay_0 : decode cX12_takesWay 0 = .ok (.iload_n 2, 1) := by decide +kernel
theorem dX12_takesWay_1 : decode cX12_takesWay 1 = .ok (.iconst 1, 1) := by decide +kernel
theorem dX12_takesWay_2 : decode cX12_takesWay 2 = .ok (.if_icmp .ne 18, 3) := by decide +kernel
theorem dX12_takesWay_5 : decode cX12_takesWay 5 = .ok (.aload_n 0, 1) := by decide +kernel
theorem dX12_takesWay_6 : decode cX12_takesWay 6 = .ok (.dup, 1) := by decide +kernel
theorem dX12_takesWay_7 : decode cX12_takesWay 7 = .ok (.getfield 287, 3) := by decide +kernel
theorem dX12_takesWay_10 : decode cX12_takesWay 10 = .ok (.aload_n 0, 1) := by decide +kernel
theorem dX12_takesWay_11 : decode cX12_takesWay 11 = .ok (.getfield 74, 3) := by decide +kernel
theorem dX12_takesWay_14 : decode cX12_takesWay 14 = .ok (.iload_n 1, 1) := by decide +kernel
theorem dX12_takesWay_15 : decode cX12_takesWay 15 = .ok (.iaload, 1) := by decide +kernel
theorem dX12_takesWay_16 : decode cX12_takesWay 16 = .ok (.ior, 1) := by decide +kernel
theorem dX12_takesWay_17 : decode cX12_takesWay 17 = .ok (.putfield 287, 3) := by decide +kernel
theorem dX12_takesWay_20 : decode cX12_takesWay 20 = .ok (.iload_n 2, 1) := by decide +kernel
theorem dX12_takesWay_21 : decode cX12_takesWay 21 = .ok (.iconst 2, 1) := by decide +kernel
theorem dX12_takesWay_22 : decode cX12_takesWay 22 = .ok (.if_icmp .eq 4, 3) := by decide +kernel
theorem dX12_takesWay_25 : decode cX12_takesWay 25 = .ok (.return_, 1) := by decide +kernel
theorem dX12_takesWay_26 : decode cX12_takesWay 26 = .ok (.aload_n 0, 1) := by decide +kernel
theorem dX12_takesWay_27 : decode cX12_takesWay 27 = .ok (.getfield 77, 3) := by decide +kernel
theorem dX12_takesWay_30 : decode cX12_takesWay 30 = .ok (.aload_n 0, 1) := by decide +kernel
theorem dX12_takesWay_31 : decode cX12_takesWay 31 = .ok (.getfield 290, 3) := by decide +kernel
theorem dX12_takesWay_34 : decode cX12_takesWay 34 = .ok (.aload_n 0, 1) := by decide +kernel
theorem dX12_takesWay_35 : decode cX12_takesWay 35 = .ok (.getfield 74, 3) := by decide +kernel
theorem dX12_takesWay_38 : decode cX12_takesWay 38 = .ok (.iload_n 1, 1) := by decide +kernel
theorem dX12_takesWay_39 : decode cX12_takesWay 39 = .ok (.iaload, 1) := by decide +kernel
theorem dX12_takesWay_40 : decode cX12_takesWay 40 = .ok (.iastore, 1) := by decide +kernel
theorem dX12_takesWay_41 : decode cX12_takesWay 41 = .ok (.aload_n 0, 1) := by decide +kernel
theorem dX12_takesWay_42 : decode cX12_takesWay 42 = .ok (.dup, 1) := by decide +kernel
theorem dX12_takesWay_43 : decode cX12_takesWay 43 = .ok (.getfield 290, 3) := by decide +kernel
theorem dX12_takesWay_46 : decode cX12_takesWay 46 = .ok (.iconst 1, 1) := by decide +kernel
theorem dX12_takesWay_47 : decode cX12_takesWay 47 = .ok (.iadd, 1) := by decide +kernel
theorem dX12_takesWay_48 : decode cX12_takesWay 48 = .ok (.putfield 290, 3) := by decide +kernel
theorem dX12_takesWay_51 : decode cX12_takesWay 51 = .ok (.return_, 1) := by decide +kernel
theorem dX12_noneTaken_0 : decode cX12_noneTaken 0 = .ok (.aload_n 0, 1) := by decide +kernel
theorem dX12_noneTaken_1 : decode cX12_noneTaken 1 = .ok (.iconst 0, 1) := by decide +kernel
theorem dX12_noneTaken_2 : decode cX12_noneTaken 2 = .ok (.putfield 287, 3) := by decide +kernel
theorem dX12_noneTaken_5 : decode cX12_noneTaken 5 = .ok (.aload_n 0, 1) := by decide +kernel
theorem dX12_noneTaken_6 : decode cX12_noneTaken 6 = .ok (.iconst 0, 1) := by decide +kernel
theorem dX12_noneTaken_7 : decode cX12_noneTaken 7 = .ok (.putfield 290, 3) := by decide +kernel
theorem dX12_noneTaken_10 : decode cX12_noneTaken 10 = .ok (.return_, 1) := by decide +kernel
theorem dX12_isExplained_0 : decode cX12_isExplained 0 = .ok (.iload_n 1, 1) := by decide +kernel
theorem dX12_isExplained_1 : decode cX12_isExplained 1 = .ok (.aload_n 0, 1) := by decide +kernel
theorem dX12_isExplained_2 : decode cX12_isExplained 2 = .ok (.getfield 287, 3) := by decide +kernel
theorem dX12_isExplained_5 : decode cX12_isExplained 5 = .ok (.iand, 1) := by decide +kernel
theorem dX12_isExplained_6 : decode cX12_isExplained 6 = .ok (.ifCond .eq 5, 3) := by decide +kernel
theorem dX12_isExplained_9 : decode cX12_isExplained 9 = .ok (.iconst 0, 1) := by decide +kernel
theorem dX12_isExplained_10 : decode cX12_isExplained 10 = .ok (.ireturn, 1) := by decide +kernel
theorem dX12_isExplained_11 : decode cX12_isExplained 11 = .ok (.iconst 0, 1) := by decide +kernel
theorem dX12_isExplained_12 : decode cX12_isExplained 12 = .ok (.istore_n 2, 1) := by decide +kernel
theorem dX12_isExplained_13 : decode cX12_isExplained 13 = .ok (.iload_n 2, 1) := by decide +kernel
theorem dX12_isExplained_14 : decode cX12_isExplained 14 = .ok (.aload_n 0, 1) := by decide +kernel
theorem dX12_isExplained_15 : decode cX12_isExplained 15 = .ok (.getfield 290, 3) := by decide +kernel
theorem dX12_isExplained_18 : decode cX12_isExplained 18 = .ok (.if_icmp .ge 22, 3) := by decide +kernel
theorem dX12_isExplained_21 : decode cX12_isExplained 21 = .ok (.iload_n 1, 1) := by decide +kernel
theorem dX12_isExplained_22 : decode cX12_isExplained 22 = .ok (.aload_n 0, 1) := by decide +kernel
theorem dX12_isExplained_23 : decode cX12_isExplained 23 = .ok (.getfield 77, 3) := by decide +kernel
theorem dX12_isExplained_26 : decode cX12_isExplained 26 = .ok (.iload_n 2, 1) := by decide +kernel
theorem dX12_isExplained_27 : decode cX12_isExplained 27 = .ok (.iaload, 1) := by decide +kernel
theorem dX12_isExplained_28 : decode cX12_isExplained 28 = .ok (.iand, 1) := by decide +kernel
theorem dX12_isExplained_29 : decode cX12_isExplained 29 = .ok (.ifCond .ne 5, 3) := by decide +kernel
theorem dX12_isExplained_32 : decode cX12_isExplained 32 = .ok (.iconst 0, 1) := by decide +kernel
theorem dX12_isExplained_33 : decode cX12_isExplained 33 = .ok (.ireturn, 1) := by decide +kernel
theorem dX12_isExplained_34 : decode cX12_isExplained 34 = .ok (.iinc 2 1, 3) := by decide +kernel
theorem dX12_isExplained_37 : decode cX12_isExplained 37 = .ok (.goto (-24), 3) := by decide +kernel
theorem dX12_isExplained_40 : decode cX12_isExplained 40 = .ok (.iconst 1, 1) := by decide +kernel
theorem dX12_isExplained_41 : decode cX12_isExplained 41 = .ok (.ireturn, 1) := by decide +kernel
theorem dX12_isLean_0 : decode cX12_isLean 0 = .ok (.aload_n 0, 1) := by decide +kernel
theorem dX12_isLean_1 : decode cX12_isLean 1 = .ok (.getfield 80, 3) := by decide +kernel
theorem dX12_isLean_4 : decode cX12_isLean 4 = .ok (.iload_n 1, 1) := by decide +kernel
theorem dX12_isLean_5 : decode cX12_isLean 5 = .ok (.baload, 1) := by decide +kernel
theorem dX12_isLean_6 : decode cX12_isLean 6 = .ok (.ifCond .ne 5, 3) := by decide +kernel
theorem dX12_isLean_9 : decode cX12_isLean 9 = .ok (.iconst 0, 1) := by decide +kernel
theorem dX12_isLean_10 : decode cX12_isLean 10 = .ok (.ireturn, 1) := by decide +kernel
theorem dX12_isLean_11 : decode cX12_isLean 11 = .ok (.iconst 0, 1) := by decide +kernel
theorem dX12_isLean_12 : decode cX12_isLean 12 = .ok (.istore_n 2, 1) := by decide +kernel
theorem dX12_isLean_13 : decode cX12_isLean 13 = .ok (.iload_n 2, 1) := by decide +kernel
theorem dX12_isLean_14 : decode cX12_isLean 14 = .ok (.aload_n 0, 1) := by decide +kernel
theorem dX12_isLean_15 : decode cX12_isLean 15 = .ok (.getfield 200, 3) := by decide +kernel
theorem dX12_isLean_18 : decode cX12_isLean 18 = .ok (.if_icmp .ge 34, 3) := by decide +kernel
theorem dX12_isLean_21 : decode cX12_isLean 21 = .ok (.iload_n 1, 1) := by decide +kernel
theorem dX12_isLean_22 : decode cX12_isLean 22 = .ok (.iload_n 2, 1) := by decide +kernel
theorem dX12_isLean_23 : decode cX12_isLean 23 = .ok (.invokestatic 257, 3) := by decide +kernel
theorem dX12_isLean_26 : decode cX12_isLean 26 = .ok (.ifCond .eq 20, 3) := by decide +kernel
theorem dX12_isLean_29 : decode cX12_isLean 29 = .ok (.aload_n 0, 1) := by decide +kernel
theorem dX12_isLean_30 : decode cX12_isLean 30 = .ok (.getfield 80, 3) := by decide +kernel
theorem dX12_isLean_33 : decode cX12_isLean 33 = .ok (.iload_n 1, 1) := by decide +kernel
theorem dX12_isLean_34 : decode cX12_isLean 34 = .ok (.iconst 1, 1) := by decide +kernel
theorem dX12_isLean_35 : decode cX12_isLean 35 = .ok (.iload_n 2, 1) := by decide +kernel
theorem dX12_isLean_36 : decode cX12_isLean 36 = .ok (.ishl, 1) := by decide +kernel
theorem dX12_isLean_37 : decode cX12_isLean 37 = .ok (.iconst (-1), 1) := by decide +kernel
theorem dX12_isLean_38 : decode cX12_isLean 38 = .ok (.ixor, 1) := by decide +kernel
theorem dX12_isLean_39 : decode cX12_isLean 39 = .ok (.iand, 1) := by decide +kernel
theorem dX12_isLean_40 : decode cX12_isLean 40 = .ok (.baload, 1) := by decide +kernel
theorem dX12_isLean_41 : decode cX12_isLean 41 = .ok (.ifCond .eq 5, 3) := by decide +kernel
theorem dX12_isLean_44 : decode cX12_isLean 44 = .ok (.iconst 0, 1) := by decide +kernel
theorem dX12_isLean_45 : decode cX12_isLean 45 = .ok (.ireturn, 1) := by decide +kernel
theorem dX12_isLean_46 : decode cX12_isLean 46 = .ok (.iinc 2 1, 3) := by decide +kernel
theorem dX12_isLean_49 : decode cX12_isLean 49 = .ok (.goto (-36), 3) := by decide +kernel
theorem dX12_isLean_52 : decode cX12_isLean 52 = .ok (.iconst 1, 1) := by decide +kernel
theorem dX12_isLean_53 : decode cX12_isLean 53 = .ok (.ireturn, 1) := by decide +kernel
theorem dX12_isAhead_0 : decode cX12_isAhead 0 = .ok (.iload_n 1, 1) := by decide +kernel
theorem dX12_isAhead_1 : decode cX12_isAhead 1 = .ok (.ifCond .lt 30, 3) := by decide +kernel
theorem dX12_isAhead_4 : decode cX12_isAhead 4 = .ok (.iload_n 0, 1) := by decide +kernel
theorem dX12_isAhead_5 : decode cX12_isAhead 5 = .ok (.invokestatic 293, 3) := by decide +kernel
theorem dX12_isAhead_8 : decode cX12_isAhead 8 = .ok (.iload_n 1, 1) := by decide +kernel
theorem dX12_isAhead_9 : decode cX12_isAhead 9 = .ok (.invokestatic 293, 3) := by decide +kernel
theorem dX12_isAhead_12 : decode cX12_isAhead 12 = .ok (.if_icmp .lt 19, 3) := by decide +kernel
theorem dX12_isAhead_15 : decode cX12_isAhead 15 = .ok (.iload_n 0, 1) := by decide +kernel
theorem dX12_isAhead_16 : decode cX12_isAhead 16 = .ok (.invokestatic 293, 3) := by decide +kernel
theorem dX12_isAhead_19 : decode cX12_isAhead 19 = .ok (.iload_n 1, 1) := by decide +kernel
theorem dX12_isAhead_20 : decode cX12_isAhead 20 = .ok (.invokestatic 293, 3) := by decide +kernel
theorem dX12_isAhead_23 : decode cX12_isAhead 23 = .ok (.if_icmp .ne 12, 3) := by decide +kernel
theorem dX12_isAhead_26 : decode cX12_isAhead 26 = .ok (.iload_n 0, 1) := by decide +kernel
theorem dX12_isAhead_27 : decode cX12_isAhead 27 = .ok (.iload_n 1, 1) := by decide +kernel
theorem dX12_isAhead_28 : decode cX12_isAhead 28 = .ok (.if_icmp .ge 7, 3) := by decide +kernel
theorem dX12_isAhead_31 : decode cX12_isAhead 31 = .ok (.iconst 1, 1) := by decide +kernel
theorem dX12_isAhead_32 : decode cX12_isAhead 32 = .ok (.goto 4, 3) := by decide +kernel
theorem dX12_isAhead_35 : decode cX12_isAhead 35 = .ok (.iconst 0, 1) := by decide +kernel
theorem dX12_isAhead_36 : decode cX12_isAhead 36 = .ok (.ireturn, 1) := by decide +kernel
theorem dX12_worksOut_0 : decode cX12_worksOut 0 = .ok (.aload_n 0, 1) := by decide +kernel
theorem dX12_worksOut_1 : decode cX12_worksOut 1 = .ok (.iconst 0, 1) := by decide +kernel
theorem dX12_worksOut_2 : decode cX12_worksOut 2 = .ok (.putfield 296, 3) := by decide +kernel
theorem dX12_worksOut_5 : decode cX12_worksOut 5 = .ok (.iconst 0, 1) := by decide +kernel
theorem dX12_worksOut_6 : decode cX12_worksOut 6 = .ok (.istore_n 1, 1) := by decide +kernel
theorem dX12_worksOut_7 : decode cX12_worksOut 7 = .ok (.iload_n 1, 1) := by decide +kernel
theorem dX12_worksOut_8 : decode cX12_worksOut 8 = .ok (.iconst 1, 1) := by decide +kernel
theorem dX12_worksOut_9 : decode cX12_worksOut 9 = .ok (.aload_n 0, 1) := by decide +kernel
theorem dX12_worksOut_10 : decode cX12_worksOut 10 = .ok (.getfield 200, 3) := by decide +kernel
theorem dX12_worksOut_13 : decode cX12_worksOut 13 = .ok (.ishl, 1) := by decide +kernel
theorem dX12_worksOut_14 : decode cX12_worksOut 14 = .ok (.if_icmp .ge 39, 3) := by decide +kernel
theorem dX12_worksOut_17 : decode cX12_worksOut 17 = .ok (.aload_n 0, 1) := by decide +kernel
theorem dX12_worksOut_18 : decode cX12_worksOut 18 = .ok (.getfield 80, 3) := by decide +kernel
theorem dX12_worksOut_21 : decode cX12_worksOut 21 = .ok (.iload_n 1, 1) := by decide +kernel
theorem dX12_worksOut_22 : decode cX12_worksOut 22 = .ok (.aload_n 0, 1) := by decide +kernel
theorem dX12_worksOut_23 : decode cX12_worksOut 23 = .ok (.iload_n 1, 1) := by decide +kernel
theorem dX12_worksOut_24 : decode cX12_worksOut 24 = .ok (.invokevirtual 299, 3) := by decide +kernel
theorem dX12_worksOut_27 : decode cX12_worksOut 27 = .ok (.bastore, 1) := by decide +kernel
theorem dX12_worksOut_28 : decode cX12_worksOut 28 = .ok (.aload_n 0, 1) := by decide +kernel
theorem dX12_worksOut_29 : decode cX12_worksOut 29 = .ok (.getfield 80, 3) := by decide +kernel
theorem dX12_worksOut_32 : decode cX12_worksOut 32 = .ok (.iload_n 1, 1) := by decide +kernel
theorem dX12_worksOut_33 : decode cX12_worksOut 33 = .ok (.baload, 1) := by decide +kernel
theorem dX12_worksOut_34 : decode cX12_worksOut 34 = .ok (.ifCond .eq 13, 3) := by decide +kernel
theorem dX12_worksOut_37 : decode cX12_worksOut 37 = .ok (.aload_n 0, 1) := by decide +kernel
theorem dX12_worksOut_38 : decode cX12_worksOut 38 = .ok (.dup, 1) := by decide +kernel
theorem dX12_worksOut_39 : decode cX12_worksOut 39 = .ok (.getfield 296, 3) := by decide +kernel
theorem dX12_worksOut_42 : decode cX12_worksOut 42 = .ok (.iconst 1, 1) := by decide +kernel
theorem dX12_worksOut_43 : decode cX12_worksOut 43 = .ok (.iadd, 1) := by decide +kernel
theorem dX12_worksOut_44 : decode cX12_worksOut 44 = .ok (.putfield 296, 3) := by decide +kernel
theorem dX12_worksOut_47 : decode cX12_worksOut 47 = .ok (.iinc 1 1, 3) := by decide +kernel
theorem dX12_worksOut_50 : decode cX12_worksOut 50 = .ok (.goto (-43), 3) := by decide +kernel
theorem dX12_worksOut_53 : decode cX12_worksOut 53 = .ok (.aload_n 0, 1) := by decide +kernel
theorem dX12_worksOut_54 : decode cX12_worksOut 54 = .ok (.iconst 1, 1) := by decide +kernel
theorem dX12_worksOut_55 : decode cX12_worksOut 55 = .ok (.aload_n 0, 1) := by decide +kernel
theorem dX12_worksOut_56 : decode cX12_worksOut 56 = .ok (.getfield 200, 3) := by decide +kernel
theorem dX12_worksOut_59 : decode cX12_worksOut 59 = .ok (.ishl, 1) := by decide +kernel
theorem dX12_worksOut_60 : decode cX12_worksOut 60 = .ok (.iconst 1, 1) := by decide +kernel
theorem dX12_worksOut_61 : decode cX12_worksOut 61 = .ok (.isub, 1) := by decide +kernel
theorem dX12_worksOut_62 : decode cX12_worksOut 62 = .ok (.putfield 302, 3) := by decide +kernel
theorem dX12_worksOut_65 : decode cX12_worksOut 65 = .ok (.aload_n 0, 1) := by decide +kernel
theorem dX12_worksOut_66 : decode cX12_worksOut 66 = .ok (.iconst 0, 1) := by decide +kernel
theorem dX12_worksOut_67 : decode cX12_worksOut 67 = .ok (.putfield 305, 3) := by decide +kernel
theorem dX12_worksOut_70 : decode cX12_worksOut 70 = .ok (.aload_n 0, 1) := by decide +kernel
theorem dX12_worksOut_71 : decode cX12_worksOut 71 = .ok (.iconst (-1), 1) := by decide +kernel
theorem dX12_worksOut_72 : decode cX12_worksOut 72 = .ok (.putfield 308, 3) := by decide +kernel
theorem dX12_worksOut_75 : decode cX12_worksOut 75 = .ok (.iconst 0, 1) := by decide +kernel
theorem dX12_worksOut_76 : decode cX12_worksOut 76 = .ok (.istore_n 1, 1) := by decide +kernel
theorem dX12_worksOut_77 : decode cX12_worksOut 77 = .ok (.iload_n 1, 1) := by decide +kernel
theorem dX12_worksOut_78 : decode cX12_worksOut 78 = .ok (.iconst 1, 1) := by decide +kernel
theorem dX12_worksOut_79 : decode cX12_worksOut 79 = .ok (.aload_n 0, 1) := by decide +kernel
theorem dX12_worksOut_80 : decode cX12_worksOut 80 = .ok (.getfield 200, 3) := by decide +kernel
theorem dX12_worksOut_83 : decode cX12_worksOut 83 = .ok (.ishl, 1) := by decide +kernel
theorem dX12_worksOut_84 : decode cX12_worksOut 84 = .ok (.if_icmp .ge 56, 3) := by decide +kernel
theorem dX12_worksOut_87 : decode cX12_worksOut 87 = .ok (.aload_n 0, 1) := by decide +kernel
theorem dX12_worksOut_88 : decode cX12_worksOut 88 = .ok (.iload_n 1, 1) := by decide +kernel
theorem dX12_worksOut_89 : decode cX12_worksOut 89 = .ok (.invokevirtual 311, 3) := by decide +kernel
theorem dX12_worksOut_92 : decode cX12_worksOut 92 = .ok (.ifCond .ne 6, 3) := by decide +kernel
theorem dX12_worksOut_95 : decode cX12_worksOut 95 = .ok (.goto 39, 3) := by decide +kernel
theorem dX12_worksOut_98 : decode cX12_worksOut 98 = .ok (.aload_n 0, 1) := by decide +kernel
theorem dX12_worksOut_99 : decode cX12_worksOut 99 = .ok (.dup, 1) := by decide +kernel
theorem dX12_worksOut_100 : decode cX12_worksOut 100 = .ok (.getfield 302, 3) := by decide +kernel
theorem dX12_worksOut_103 : decode cX12_worksOut 103 = .ok (.iload_n 1, 1) := by decide +kernel
theorem dX12_worksOut_104 : decode cX12_worksOut 104 = .ok (.iand, 1) := by decide +kernel
theorem dX12_worksOut_105 : decode cX12_worksOut 105 = .ok (.putfield 302, 3) := by decide +kernel
theorem dX12_worksOut_108 : decode cX12_worksOut 108 = .ok (.aload_n 0, 1) := by decide +kernel
theorem dX12_worksOut_109 : decode cX12_worksOut 109 = .ok (.dup, 1) := by decide +kernel
theorem dX12_worksOut_110 : decode cX12_worksOut 110 = .ok (.getfield 305, 3) := by decide +kernel
theorem dX12_worksOut_113 : decode cX12_worksOut 113 = .ok (.iload_n 1, 1) := by decide +kernel
theorem dX12_worksOut_114 : decode cX12_worksOut 114 = .ok (.ior, 1) := by decide +kernel
theorem dX12_worksOut_115 : decode cX12_worksOut 115 = .ok (.putfield 305, 3) := by decide +kernel
theorem dX12_worksOut_118 : decode cX12_worksOut 118 = .ok (.iload_n 1, 1) := by decide +kernel
theorem dX12_worksOut_119 : decode cX12_worksOut 119 = .ok (.aload_n 0, 1) := by decide +kernel
theorem dX12_worksOut_120 : decode cX12_worksOut 120 = .ok (.getfield 308, 3) := by decide +kernel
theorem dX12_worksOut_123 : decode cX12_worksOut 123 = .ok (.invokestatic 314, 3) := by decide +kernel
theorem dX12_worksOut_126 : decode cX12_worksOut 126 = .ok (.ifCond .eq 8, 3) := by decide +kernel
theorem dX12_worksOut_129 : decode cX12_worksOut 129 = .ok (.aload_n 0, 1) := by decide +kernel
theorem dX12_worksOut_130 : decode cX12_worksOut 130 = .ok (.iload_n 1, 1) := by decide +kernel
theorem dX12_worksOut_131 : decode cX12_worksOut 131 = .ok (.putfield 308, 3) := by decide +kernel
theorem dX12_worksOut_134 : decode cX12_worksOut 134 = .ok (.iinc 1 1, 3) := by decide +kernel
theorem dX12_worksOut_137 : decode cX12_worksOut 137 = .ok (.goto (-60), 3) := by decide +kernel
theorem dX12_worksOut_140 : decode cX12_worksOut 140 = .ok (.return_, 1) := by decide +kernel
theorem dX12_knows_0 : decode cX12_knows 0 = .ok (.aload_n 0, 1) := by decide +kernel
theorem dX12_knows_1 : decode cX12_knows 1 = .ok (.getfield 261, 3) := by decide +kernel
theorem dX12_knows_4 : decode cX12_knows 4 = .ok (.ifCond .eq 4, 3) := by decide +kernel
theorem dX12_knows_7 : decode cX12_knows 7 = .ok (.return_, 1) := by decide +kernel
theorem dX12_knows_8 : decode cX12_knows 8 = .ok (.aload_n 0, 1) := by decide +kernel
theorem dX12_knows_9 : decode cX12_knows 9 = .ok (.iconst 1, 1) := by decide +kernel
theorem dX12_knows_10 : decode cX12_knows 10 = .ok (.putfield 261, 3) := by decide +kernel
theorem dX12_knows_13 : decode cX12_knows 13 = .ok (.aload_n 0, 1) := by decide +kernel
theorem dX12_knows_14 : decode cX12_knows 14 = .ok (.invokevirtual 317, 3) := by decide +kernel
theorem dX12_knows_17 : decode cX12_knows 17 = .ok (.iconst 0, 1) := by decide +kernel
theorem dX12_knows_18 : decode cX12_knows 18 = .ok (.istore_n 1, 1) := by decide +kernel
theorem dX12_knows_19 : decode cX12_knows 19 = .ok (.iload_n 1, 1) := by decide +kernel
theorem dX12_knows_20 : decode cX12_knows 20 = .ok (.aload_n 0, 1) := by decide +kernel
theorem dX12_knows_21 : decode cX12_knows 21 = .ok (.getfield 58, 3) := by decide +kernel
theorem dX12_knows_24 : decode cX12_knows 24 = .ok (.iconst 0, 1) := by decide +kernel
theorem dX12_knows_25 : decode cX12_knows 25 = .ok (.iaload, 1) := by decide +kernel
theorem dX12_knows_26 : decode cX12_knows 26 = .ok (.if_icmp .ge 22, 3) := by decide +kernel
theorem dX12_knows_29 : decode cX12_knows 29 = .ok (.aload_n 0, 1) := by decide +kernel
theorem dX12_knows_30 : decode cX12_knows 30 = .ok (.iload_n 1, 1) := by decide +kernel
theorem dX12_knows_31 : decode cX12_knows 31 = .ok (.aload_n 0, 1) := by decide +kernel
theorem dX12_knows_32 : decode cX12_knows 32 = .ok (.getfield 58, 3) := by decide +kernel
theorem dX12_knows_35 : decode cX12_knows 35 = .ok (.iconst 1, 1) := by decide +kernel
theorem dX12_knows_36 : decode cX12_knows 36 = .ok (.iload_n 1, 1) := by decide +kernel
theorem dX12_knows_37 : decode cX12_knows 37 = .ok (.iadd, 1) := by decide +kernel
theorem dX12_knows_38 : decode cX12_knows 38 = .ok (.iaload, 1) := by decide +kernel
theorem dX12_knows_39 : decode cX12_knows 39 = .ok (.invokevirtual 320, 3) := by decide +kernel
theorem dX12_knows_42 : decode cX12_knows 42 = .ok (.iinc 1 1, 3) := by decide +kernel
theorem dX12_knows_45 : decode cX12_knows 45 = .ok (.goto (-26), 3) := by decide +kernel
theorem dX12_knows_48 : decode cX12_knows 48 = .ok (.aload_n 0, 1) := by decide +kernel
theorem dX12_knows_49 : decode cX12_knows 49 = .ok (.invokevirtual 323, 3) := by decide +kernel
theorem dX12_knows_52 : decode cX12_knows 52 = .ok (.return_, 1) := by decide +kernel
theorem dX12_waysWith_0 : decode cX12_waysWith 0 = .ok (.iconst 0, 1) := by decide +kernel
theorem dX12_waysWith_1 : decode cX12_waysWith 1 = .ok (.istore_n 2, 1) := by decide +kernel
theorem dX12_waysWith_2 : decode cX12_waysWith 2 = .ok (.iconst 0, 1) := by decide +kernel
theorem dX12_waysWith_3 : decode cX12_waysWith 3 = .ok (.istore_n 3, 1) := by decide +kernel
theorem dX12_waysWith_4 : decode cX12_waysWith 4 = .ok (.iload_n 3, 1) := by decide +kernel
theorem dX12_waysWith_5 : decode cX12_waysWith 5 = .ok (.aload_n 0, 1) := by decide +kernel
theorem dX12_waysWith_6 : decode cX12_waysWith 6 = .ok (.getfield 58, 3) := by decide +kernel
theorem dX12_waysWith_9 : decode cX12_waysWith 9 = .ok (.iconst 0, 1) := by decide +kernel
theorem dX12_waysWith_10 : decode cX12_waysWith 10 = .ok (.iaload, 1) := by decide +kernel
theorem dX12_waysWith_11 : decode cX12_waysWith 11 = .ok (.if_icmp .ge 26, 3) := by decide +kernel
theorem dX12_waysWith_14 : decode cX12_waysWith 14 = .ok (.aload_n 0, 1) := by decide +kernel
theorem dX12_waysWith_15 : decode cX12_waysWith 15 = .ok (.getfield 74, 3) := by decide +kernel
theorem dX12_waysWith_18 : decode cX12_waysWith 18 = .ok (.iload_n 3, 1) := by decide +kernel
theorem dX12_waysWith_19 : decode cX12_waysWith 19 = .ok (.iaload, 1) := by decide +kernel
theorem dX12_waysWith_20 : decode cX12_waysWith 20 = .ok (.iload_n 1, 1) := by decide +kernel
theorem dX12_waysWith_21 : decode cX12_waysWith 21 = .ok (.iand, 1) := by decide +kernel
theorem dX12_waysWith_22 : decode cX12_waysWith 22 = .ok (.ifCond .eq 9, 3) := by decide +kernel
theorem dX12_waysWith_25 : decode cX12_waysWith 25 = .ok (.iload_n 2, 1) := by decide +kernel
theorem dX12_waysWith_26 : decode cX12_waysWith 26 = .ok (.iconst 1, 1) := by decide +kernel
theorem dX12_waysWith_27 : decode cX12_waysWith 27 = .ok (.iload_n 3, 1) := by decide +kernel
theorem dX12_waysWith_28 : decode cX12_waysWith 28 = .ok (.ishl, 1) := by decide +kernel
theorem dX12_waysWith_29 : decode cX12_waysWith 29 = .ok (.ior, 1) := by decide +kernel
theorem dX12_waysWith_30 : decode cX12_waysWith 30 = .ok (.istore_n 2, 1) := by decide +kernel
theorem dX12_waysWith_31 : decode cX12_waysWith 31 = .ok (.iinc 3 1, 3) := by decide +kernel
theorem dX12_waysWith_34 : decode cX12_waysWith 34 = .ok (.goto (-30), 3) := by decide +kernel
theorem dX12_waysWith_37 : decode cX12_waysWith 37 = .ok (.iload_n 2, 1) := by decide +kernel
theorem dX12_waysWith_38 : decode cX12_waysWith 38 = .ok (.ireturn, 1) := by decide +kernel
theorem dX12_stateOf_0 : decode cX12_stateOf 0 = .ok (.aload_n 0, 1) := by decide +kernel
theorem dX12_stateOf_1 : decode cX12_stateOf 1 = .ok (.getfield 296, 3) := by decide +kernel
theorem dX12_stateOf_4 : decode cX12_stateOf 4 = .ok (.ifCond .ne 6, 3) := by decide +kernel
theorem dX12_stateOf_7 : decode cX12_stateOf 7 = .ok (.bipush (-2), 2) := by decide +kernel
theorem dX12_stateOf_9 : decode cX12_stateOf 9 = .ok (.ireturn, 1) := by decide +kernel
theorem dX12_stateOf_10 : decode cX12_stateOf 10 = .ok (.aload_n 0, 1) := by decide +kernel
theorem dX12_stateOf_11 : decode cX12_stateOf 11 = .ok (.getfield 287, 3) := by decide +kernel
theorem dX12_stateOf_14 : decode cX12_stateOf 14 = .ok (.iload_n 1, 1) := by decide +kernel
theorem dX12_stateOf_15 : decode cX12_stateOf 15 = .ok (.invokestatic 257, 3) := by decide +kernel
theorem dX12_stateOf_18 : decode cX12_stateOf 18 = .ok (.ifCond .eq 5, 3) := by decide +kernel
theorem dX12_stateOf_21 : decode cX12_stateOf 21 = .ok (.iconst 0, 1) := by decide +kernel
theorem dX12_stateOf_22 : decode cX12_stateOf 22 = .ok (.ireturn, 1) := by decide +kernel
theorem dX12_stateOf_23 : decode cX12_stateOf 23 = .ok (.aload_n 0, 1) := by decide +kernel
theorem dX12_stateOf_24 : decode cX12_stateOf 24 = .ok (.getfield 302, 3) := by decide +kernel
theorem dX12_stateOf_27 : decode cX12_stateOf 27 = .ok (.iload_n 1, 1) := by decide +kernel
theorem dX12_stateOf_28 : decode cX12_stateOf 28 = .ok (.invokestatic 257, 3) := by decide +kernel
theorem dX12_stateOf_31 : decode cX12_stateOf 31 = .ok (.ifCond .eq 7, 3) := by decide +kernel
theorem dX12_stateOf_34 : decode cX12_stateOf 34 = .ok (.iconst 1, 1) := by decide +kernel
theorem dX12_stateOf_35 : decode cX12_stateOf 35 = .ok (.goto 19, 3) := by decide +kernel
theorem dX12_stateOf_38 : decode cX12_stateOf 38 = .ok (.aload_n 0, 1) := by decide +kernel
theorem dX12_stateOf_39 : decode cX12_stateOf 39 = .ok (.getfield 305, 3) := by decide +kernel
theorem dX12_stateOf_42 : decode cX12_stateOf 42 = .ok (.iload_n 1, 1) := by decide +kernel
theorem dX12_stateOf_43 : decode cX12_stateOf 43 = .ok (.invokestatic 257, 3) := by decide +kernel
theorem dX12_stateOf_46 : decode cX12_stateOf 46 = .ok (.ifCond .eq 7, 3) := by decide +kernel
theorem dX12_stateOf_49 : decode cX12_stateOf 49 = .ok (.iconst 2, 1) := by decide +kernel
theorem dX12_stateOf_50 : decode cX12_stateOf 50 = .ok (.goto 4, 3) := by decide +kernel
theorem dX12_stateOf_53 : decode cX12_stateOf 53 = .ok (.iconst 3, 1) := by decide +kernel
theorem dX12_stateOf_54 : decode cX12_stateOf 54 = .ok (.ireturn, 1) := by decide +kernel
theorem dX12_link_0 : decode cX12_link 0 = .ok (.aload_n 0, 1) := by decide +kernel
theorem dX12_link_1 : decode cX12_link 1 = .ok (.iload_n 1, 1) := by decide +kernel
theorem dX12_link_2 : decode cX12_link 2 = .ok (.invokevirtual 326, 3) := by decide +kernel
theorem dX12_link_5 : decode cX12_link 5 = .ok (.ifCond .ne 5, 3) := by decide +kernel
theorem dX12_link_8 : decode cX12_link 8 = .ok (.iconst (-1), 1) := by decide +kernel
theorem dX12_link_9 : decode cX12_link 9 = .ok (.ireturn, 1) := by decide +kernel
theorem dX12_link_10 : decode cX12_link 10 = .ok (.iload_n 2, 1) := by decide +kernel
theorem dX12_link_11 : decode cX12_link 11 = .ok (.tableswitch 72 0 4 #[33, 40, 47, 54, 62], 33) := by decide +kernel
theorem dX12_link_44 : decode cX12_link 44 = .ok (.aload_n 0, 1) := by decide +kernel
theorem dX12_link_45 : decode cX12_link 45 = .ok (.getfield 40, 3) := by decide +kernel
theorem dX12_link_48 : decode cX12_link 48 = .ok (.iload_n 1, 1) := by decide +kernel
theorem dX12_link_49 : decode cX12_link 49 = .ok (.iaload, 1) := by decide +kernel
theorem dX12_link_50 : decode cX12_link 50 = .ok (.ireturn, 1) := by decide +kernel
theorem dX12_link_51 : decode cX12_link 51 = .ok (.aload_n 0, 1) := by decide +kernel
theorem dX12_link_52 : decode cX12_link 52 = .ok (.getfield 43, 3) := by decide +kernel
theorem dX12_link_55 : decode cX12_link 55 = .ok (.iload_n 1, 1) := by decide +kernel
theorem dX12_link_56 : decode cX12_link 56 = .ok (.iaload, 1) := by decide +kernel
theorem dX12_link_57 : decode cX12_link 57 = .ok (.ireturn, 1) := by decide +kernel
theorem dX12_link_58 : decode cX12_link 58 = .ok (.aload_n 0, 1) := by decide +kernel
theorem dX12_link_59 : decode cX12_link 59 = .ok (.getfield 46, 3) := by decide +kernel
theorem dX12_link_62 : decode cX12_link 62 = .ok (.iload_n 1, 1) := by decide +kernel
theorem dX12_link_63 : decode cX12_link 63 = .ok (.iaload, 1) := by decide +kernel
theorem dX12_link_64 : decode cX12_link 64 = .ok (.ireturn, 1) := by decide +kernel
theorem dX12_link_65 : decode cX12_link 65 = .ok (.aload_n 0, 1) := by decide +kernel
theorem dX12_link_66 : decode cX12_link 66 = .ok (.iconst 1, 1) := by decide +kernel
theorem dX12_link_67 : decode cX12_link 67 = .ok (.iload_n 1, 1) := by decide +kernel
theorem dX12_link_68 : decode cX12_link 68 = .ok (.ishl, 1) := by decide +kernel
theorem dX12_link_69 : decode cX12_link 69 = .ok (.invokevirtual 329, 3) := by decide +kernel
theorem dX12_link_72 : decode cX12_link 72 = .ok (.ireturn, 1) := by decide +kernel
theorem dX12_link_73 : decode cX12_link 73 = .ok (.aload_n 0, 1) := by decide +kernel
theorem dX12_link_74 : decode cX12_link 74 = .ok (.invokevirtual 332, 3) := by decide +kernel
theorem dX12_link_77 : decode cX12_link 77 = .ok (.aload_n 0, 1) := by decide +kernel
theorem dX12_link_78 : decode cX12_link 78 = .ok (.iload_n 1, 1) := by decide +kernel
theorem dX12_link_79 : decode cX12_link 79 = .ok (.invokevirtual 335, 3) := by decide +kernel
theorem dX12_link_82 : decode cX12_link 82 = .ok (.ireturn, 1) := by decide +kernel
theorem dX12_link_83 : decode cX12_link 83 = .ok (.iconst (-1), 1) := by decide +kernel
theorem dX12_link_84 : decode cX12_link 84 = .ok (.ireturn, 1) := by decide +kernel
theorem dX12_way_0 : decode cX12_way 0 = .ok (.aload_n 0, 1) := by decide +kernel
theorem dX12_way_1 : decode cX12_way 1 = .ok (.iload_n 1, 1) := by decide +kernel
theorem dX12_way_2 : decode cX12_way 2 = .ok (.invokevirtual 271, 3) := by decide +kernel
theorem dX12_way_5 : decode cX12_way 5 = .ok (.ifCond .ne 5, 3) := by decide +kernel
theorem dX12_way_8 : decode cX12_way 8 = .ok (.iconst (-1), 1) := by decide +kernel
theorem dX12_way_9 : decode cX12_way 9 = .ok (.ireturn, 1) := by decide +kernel
theorem dX12_way_10 : decode cX12_way 10 = .ok (.iload_n 2, 1) := by decide +kernel
theorem dX12_way_11 : decode cX12_way 11 = .ok (.tableswitch 51 0 2 #[25, 34, 41], 25) := by decide +kernel
theorem dX12_way_36 : decode cX12_way 36 = .ok (.aload_n 0, 1) := by decide +kernel
theorem dX12_way_37 : decode cX12_way 37 = .ok (.getfield 58, 3) := by decide +kernel
theorem dX12_way_40 : decode cX12_way 40 = .ok (.iconst 1, 1) := by decide +kernel
theorem dX12_way_41 : decode cX12_way 41 = .ok (.iload_n 1, 1) := by decide +kernel
theorem dX12_way_42 : decode cX12_way 42 = .ok (.iadd, 1) := by decide +kernel
theorem dX12_way_43 : decode cX12_way 43 = .ok (.iaload, 1) := by decide +kernel
theorem dX12_way_44 : decode cX12_way 44 = .ok (.ireturn, 1) := by decide +kernel
theorem dX12_way_45 : decode cX12_way 45 = .ok (.aload_n 0, 1) := by decide +kernel
theorem dX12_way_46 : decode cX12_way 46 = .ok (.getfield 74, 3) := by decide +kernel
theorem dX12_way_49 : decode cX12_way 49 = .ok (.iload_n 1, 1) := by decide +kernel
theorem dX12_way_50 : decode cX12_way 50 = .ok (.iaload, 1) := by decide +kernel
theorem dX12_way_51 : decode cX12_way 51 = .ok (.ireturn, 1) := by decide +kernel
theorem dX12_way_52 : decode cX12_way 52 = .ok (.aload_n 0, 1) := by decide +kernel
theorem dX12_way_53 : decode cX12_way 53 = .ok (.getfield 58, 3) := by decide +kernel
theorem dX12_way_56 : decode cX12_way 56 = .ok (.bipush 13, 2) := by decide +kernel
theorem dX12_way_58 : decode cX12_way 58 = .ok (.iload_n 1, 1) := by decide +kernel
theorem dX12_way_59 : decode cX12_way 59 = .ok (.iadd, 1) := by decide +kernel
theorem dX12_way_60 : decode cX12_way 60 = .ok (.iaload, 1) := by decide +kernel
theorem dX12_way_61 : decode cX12_way 61 = .ok (.ireturn, 1) := by decide +kernel
theorem dX12_way_62 : decode cX12_way 62 = .ok (.iconst (-1), 1) := by decide +kernel
theorem dX12_way_63 : decode cX12_way 63 = .ok (.ireturn, 1) := by decide +kernel
theorem dX12_post_0 : decode cX12_post 0 = .ok (.aload_n 0, 1) := by decide +kernel
theorem dX12_post_1 : decode cX12_post 1 = .ok (.iload_n 1, 1) := by decide +kernel
theorem dX12_post_2 : decode cX12_post 2 = .ok (.invokevirtual 271, 3) := by decide +kernel
theorem dX12_post_5 : decode cX12_post 5 = .ok (.ifCond .eq 22, 3) := by decide +kernel
theorem dX12_post_8 : decode cX12_post 8 = .ok (.iload_n 2, 1) := by decide +kernel
theorem dX12_post_9 : decode cX12_post 9 = .ok (.iconst 0, 1) := by decide +kernel
theorem dX12_post_10 : decode cX12_post 10 = .ok (.aload_n 0, 1) := by decide +kernel
theorem dX12_post_11 : decode cX12_post 11 = .ok (.getfield 58, 3) := by decide +kernel
theorem dX12_post_14 : decode cX12_post 14 = .ok (.bipush 13, 2) := by decide +kernel
theorem dX12_post_16 : decode cX12_post 16 = .ok (.iload_n 1, 1) := by decide +kernel
theorem dX12_post_17 : decode cX12_post 17 = .ok (.iadd, 1) := by decide +kernel
theorem dX12_post_18 : decode cX12_post 18 = .ok (.iaload, 1) := by decide +kernel
theorem dX12_post_19 : decode cX12_post 19 = .ok (.iconst 1, 1) := by decide +kernel
theorem dX12_post_20 : decode cX12_post 20 = .ok (.isub, 1) := by decide +kernel
theorem dX12_post_21 : decode cX12_post 21 = .ok (.invokestatic 250, 3) := by decide +kernel
theorem dX12_post_24 : decode cX12_post 24 = .ok (.ifCond .ne 7, 3) := by decide +kernel
theorem dX12_post_27 : decode cX12_post 27 = .ok (.iconst (-1), 1) := by decide +kernel
theorem dX12_post_28 : decode cX12_post 28 = .ok (.goto 17, 3) := by decide +kernel
theorem dX12_post_31 : decode cX12_post 31 = .ok (.aload_n 0, 1) := by decide +kernel
theorem dX12_post_32 : decode cX12_post 32 = .ok (.getfield 58, 3) := by decide +kernel
theorem dX12_post_35 : decode cX12_post 35 = .ok (.bipush 25, 2) := by decide +kernel
theorem dX12_post_37 : decode cX12_post 37 = .ok (.bipush 8, 2) := by decide +kernel
theorem dX12_post_39 : decode cX12_post 39 = .ok (.iload_n 1, 1) := by decide +kernel
theorem dX12_post_40 : decode cX12_post 40 = .ok (.imul, 1) := by decide +kernel
theorem dX12_post_41 : decode cX12_post 41 = .ok (.iadd, 1) := by decide +kernel
theorem dX12_post_42 : decode cX12_post 42 = .ok (.iload_n 2, 1) := by decide +kernel
theorem dX12_post_43 : decode cX12_post 43 = .ok (.iadd, 1) := by decide +kernel
theorem dX12_post_44 : decode cX12_post 44 = .ok (.iaload, 1) := by decide +kernel
theorem dX12_post_45 : decode cX12_post 45 = .ok (.ireturn, 1) := by decide +kernel
theorem dX12_sets_0 : decode cX12_sets 0 = .ok (.iload_n 1, 1) := by decide +kernel
theorem dX12_sets_1 : decode cX12_sets 1 = .ok (.iconst 0, 1) := by decide +kernel
theorem dX12_sets_2 : decode cX12_sets 2 = .ok (.bipush 12, 2) := by decide +kernel
theorem dX12_sets_4 : decode cX12_sets 4 = .ok (.invokestatic 250, 3) := by decide +kernel
theorem dX12_sets_7 : decode cX12_sets 7 = .ok (.ifCond .ne 5, 3) := by decide +kernel
theorem dX12_sets_10 : decode cX12_sets 10 = .ok (.iconst (-1), 1) := by decide +kernel
theorem dX12_sets_11 : decode cX12_sets 11 = .ok (.ireturn, 1) := by decide +kernel
theorem dX12_sets_12 : decode cX12_sets 12 = .ok (.aload_n 0, 1) := by decide +kernel
theorem dX12_sets_13 : decode cX12_sets 13 = .ok (.invokevirtual 332, 3) := by decide +kernel
theorem dX12_sets_16 : decode cX12_sets 16 = .ok (.iconst 0, 1) := by decide +kernel
theorem dX12_sets_17 : decode cX12_sets 17 = .ok (.istore_n 2, 1) := by decide +kernel
theorem dX12_sets_18 : decode cX12_sets 18 = .ok (.iconst 0, 1) := by decide +kernel
theorem dX12_sets_19 : decode cX12_sets 19 = .ok (.istore_n 3, 1) := by decide +kernel
theorem dX12_sets_20 : decode cX12_sets 20 = .ok (.iload_n 3, 1) := by decide +kernel
theorem dX12_sets_21 : decode cX12_sets 21 = .ok (.iconst 1, 1) := by decide +kernel
theorem dX12_sets_22 : decode cX12_sets 22 = .ok (.aload_n 0, 1) := by decide +kernel
theorem dX12_sets_23 : decode cX12_sets 23 = .ok (.getfield 200, 3) := by decide +kernel
theorem dX12_sets_26 : decode cX12_sets 26 = .ok (.ishl, 1) := by decide +kernel
theorem dX12_sets_27 : decode cX12_sets 27 = .ok (.if_icmp .ge 29, 3) := by decide +kernel
theorem dX12_sets_30 : decode cX12_sets 30 = .ok (.aload_n 0, 1) := by decide +kernel
theorem dX12_sets_31 : decode cX12_sets 31 = .ok (.getfield 80, 3) := by decide +kernel
theorem dX12_sets_34 : decode cX12_sets 34 = .ok (.iload_n 3, 1) := by decide +kernel
theorem dX12_sets_35 : decode cX12_sets 35 = .ok (.baload, 1) := by decide +kernel
theorem dX12_sets_36 : decode cX12_sets 36 = .ok (.ifCond .eq 14, 3) := by decide +kernel
theorem dX12_sets_39 : decode cX12_sets 39 = .ok (.iload_n 3, 1) := by decide +kernel
theorem dX12_sets_40 : decode cX12_sets 40 = .ok (.invokestatic 293, 3) := by decide +kernel
theorem dX12_sets_43 : decode cX12_sets 43 = .ok (.iload_n 1, 1) := by decide +kernel
theorem dX12_sets_44 : decode cX12_sets 44 = .ok (.if_icmp .gt 6, 3) := by decide +kernel
theorem dX12_sets_47 : decode cX12_sets 47 = .ok (.iinc 2 1, 3) := by decide +kernel
theorem dX12_sets_50 : decode cX12_sets 50 = .ok (.iinc 3 1, 3) := by decide +kernel
theorem dX12_sets_53 : decode cX12_sets 53 = .ok (.goto (-33), 3) := by decide +kernel
theorem dX12_sets_56 : decode cX12_sets 56 = .ok (.iload_n 2, 1) := by decide +kernel
theorem dX12_sets_57 : decode cX12_sets 57 = .ok (.ireturn, 1) := by decide +kernel
theorem dX12_lean_0 : decode cX12_lean 0 = .ok (.iload_n 1, 1) := by decide +kernel
theorem dX12_lean_1 : decode cX12_lean 1 = .ok (.iconst (-1), 1) := by decide +kernel
theorem dX12_lean_2 : decode cX12_lean 2 = .ok (.if_icmp .ge 5, 3) := by decide +kernel
theorem dX12_lean_5 : decode cX12_lean 5 = .ok (.iconst (-1), 1) := by decide +kernel
theorem dX12_lean_6 : decode cX12_lean 6 = .ok (.ireturn, 1) := by decide +kernel
theorem dX12_lean_7 : decode cX12_lean 7 = .ok (.aload_n 0, 1) := by decide +kernel
theorem dX12_lean_8 : decode cX12_lean 8 = .ok (.invokevirtual 332, 3) := by decide +kernel
theorem dX12_lean_11 : decode cX12_lean 11 = .ok (.iconst 0, 1) := by decide +kernel
theorem dX12_lean_12 : decode cX12_lean 12 = .ok (.istore_n 2, 1) := by decide +kernel
theorem dX12_lean_13 : decode cX12_lean 13 = .ok (.iconst 0, 1) := by decide +kernel
theorem dX12_lean_14 : decode cX12_lean 14 = .ok (.istore_n 3, 1) := by decide +kernel
theorem dX12_lean_15 : decode cX12_lean 15 = .ok (.iload_n 3, 1) := by decide +kernel
theorem dX12_lean_16 : decode cX12_lean 16 = .ok (.aload_n 0, 1) := by decide +kernel
theorem dX12_lean_17 : decode cX12_lean 17 = .ok (.getfield 200, 3) := by decide +kernel
theorem dX12_lean_20 : decode cX12_lean 20 = .ok (.if_icmp .gt 61, 3) := by decide +kernel
theorem dX12_lean_23 : decode cX12_lean 23 = .ok (.iconst 0, 1) := by decide +kernel
theorem dX12_lean_24 : decode cX12_lean 24 = .ok (.istore 4, 2) := by decide +kernel
theorem dX12_lean_26 : decode cX12_lean 26 = .ok (.iload 4, 2) := by decide +kernel
theorem dX12_lean_28 : decode cX12_lean 28 = .ok (.iconst 1, 1) := by decide +kernel
theorem dX12_lean_29 : decode cX12_lean 29 = .ok (.aload_n 0, 1) := by decide +kernel
theorem dX12_lean_30 : decode cX12_lean 30 = .ok (.getfield 200, 3) := by decide +kernel
theorem dX12_lean_33 : decode cX12_lean 33 = .ok (.ishl, 1) := by decide +kernel
theorem dX12_lean_34 : decode cX12_lean 34 = .ok (.if_icmp .ge 41, 3) := by decide +kernel
theorem dX12_lean_37 : decode cX12_lean 37 = .ok (.iload 4, 2) := by decide +kernel
theorem dX12_lean_39 : decode cX12_lean 39 = .ok (.invokestatic 293, 3) := by decide +kernel
theorem dX12_lean_42 : decode cX12_lean 42 = .ok (.iload_n 3, 1) := by decide +kernel
theorem dX12_lean_43 : decode cX12_lean 43 = .ok (.if_icmp .ne 26, 3) := by decide +kernel
theorem dX12_lean_46 : decode cX12_lean 46 = .ok (.aload_n 0, 1) := by decide +kernel
theorem dX12_lean_47 : decode cX12_lean 47 = .ok (.iload 4, 2) := by decide +kernel
theorem dX12_lean_49 : decode cX12_lean 49 = .ok (.invokevirtual 311, 3) := by decide +kernel
theorem dX12_lean_52 : decode cX12_lean 52 = .ok (.ifCond .ne 6, 3) := by decide +kernel
theorem dX12_lean_55 : decode cX12_lean 55 = .ok (.goto 14, 3) := by decide +kernel
theorem dX12_lean_58 : decode cX12_lean 58 = .ok (.iload_n 2, 1) := by decide +kernel
theorem dX12_lean_59 : decode cX12_lean 59 = .ok (.iload_n 1, 1) := by decide +kernel
theorem dX12_lean_60 : decode cX12_lean 60 = .ok (.if_icmp .ne 6, 3) := by decide +kernel
theorem dX12_lean_63 : decode cX12_lean 63 = .ok (.iload 4, 2) := by decide +kernel
theorem dX12_lean_65 : decode cX12_lean 65 = .ok (.ireturn, 1) := by decide +kernel
theorem dX12_lean_66 : decode cX12_lean 66 = .ok (.iinc 2 1, 3) := by decide +kernel
theorem dX12_lean_69 : decode cX12_lean 69 = .ok (.iinc 4 1, 3) := by decide +kernel
theorem dX12_lean_72 : decode cX12_lean 72 = .ok (.goto (-46), 3) := by decide +kernel
theorem dX12_lean_75 : decode cX12_lean 75 = .ok (.iinc 3 1, 3) := by decide +kernel
theorem dX12_lean_78 : decode cX12_lean 78 = .ok (.goto (-63), 3) := by decide +kernel
theorem dX12_lean_81 : decode cX12_lean 81 = .ok (.iload_n 1, 1) := by decide +kernel
theorem dX12_lean_82 : decode cX12_lean 82 = .ok (.iconst (-1), 1) := by decide +kernel
theorem dX12_lean_83 : decode cX12_lean 83 = .ok (.if_icmp .ne 7, 3) := by decide +kernel
theorem dX12_lean_86 : decode cX12_lean 86 = .ok (.iload_n 2, 1) := by decide +kernel
theorem dX12_lean_87 : decode cX12_lean 87 = .ok (.goto 4, 3) := by decide +kernel
theorem dX12_lean_90 : decode cX12_lean 90 = .ok (.iconst (-1), 1) := by decide +kernel
theorem dX12_lean_91 : decode cX12_lean 91 = .ok (.ireturn, 1) := by decide +kernel
theorem dX12_explains_0 : decode cX12_explains 0 = .ok (.aload_n 0, 1) := by decide +kernel
theorem dX12_explains_1 : decode cX12_explains 1 = .ok (.iload_n 1, 1) := by decide +kernel
theorem dX12_explains_2 : decode cX12_explains 2 = .ok (.invokevirtual 338, 3) := by decide +kernel
theorem dX12_explains_5 : decode cX12_explains 5 = .ok (.ifCond .ne 5, 3) := by decide +kernel
theorem dX12_explains_8 : decode cX12_explains 8 = .ok (.iconst (-1), 1) := by decide +kernel
theorem dX12_explains_9 : decode cX12_explains 9 = .ok (.ireturn, 1) := by decide +kernel
theorem dX12_explains_10 : decode cX12_explains 10 = .ok (.aload_n 0, 1) := by decide +kernel
theorem dX12_explains_11 : decode cX12_explains 11 = .ok (.invokevirtual 332, 3) := by decide +kernel
theorem dX12_explains_14 : decode cX12_explains 14 = .ok (.aload_n 0, 1) := by decide +kernel
theorem dX12_explains_15 : decode cX12_explains 15 = .ok (.iload_n 1, 1) := by decide +kernel
theorem dX12_explains_16 : decode cX12_explains 16 = .ok (.invokevirtual 311, 3) := by decide +kernel
theorem dX12_explains_19 : decode cX12_explains 19 = .ok (.ifCond .eq 7, 3) := by decide +kernel
theorem dX12_explains_22 : decode cX12_explains 22 = .ok (.iconst 2, 1) := by decide +kernel
theorem dX12_explains_23 : decode cX12_explains 23 = .ok (.goto 17, 3) := by decide +kernel
theorem dX12_explains_26 : decode cX12_explains 26 = .ok (.aload_n 0, 1) := by decide +kernel
theorem dX12_explains_27 : decode cX12_explains 27 = .ok (.getfield 80, 3) := by decide +kernel
theorem dX12_explains_30 : decode cX12_explains 30 = .ok (.iload_n 1, 1) := by decide +kernel
theorem dX12_explains_31 : decode cX12_explains 31 = .ok (.baload, 1) := by decide +kernel
theorem dX12_explains_32 : decode cX12_explains 32 = .ok (.ifCond .eq 7, 3) := by decide +kernel
theorem dX12_explains_35 : decode cX12_explains 35 = .ok (.iconst 1, 1) := by decide +kernel
theorem dX12_explains_36 : decode cX12_explains 36 = .ok (.goto 4, 3) := by decide +kernel
theorem dX12_explains_39 : decode cX12_explains 39 = .ok (.iconst 0, 1) := by decide +kernel
theorem dX12_explains_40 : decode cX12_explains 40 = .ok (.ireturn, 1) := by decide +kernel
theorem dX12_weightOf_0 : decode cX12_weightOf 0 = .ok (.lconst 1, 1) := by decide +kernel
theorem dX12_weightOf_1 : decode cX12_weightOf 1 = .ok (.lstore_n 2, 1) := by decide +kernel
theorem dX12_weightOf_2 : decode cX12_weightOf 2 = .ok (.iconst 0, 1) := by decide +kernel
theorem dX12_weightOf_3 : decode cX12_weightOf 3 = .ok (.istore 4, 2) := by decide +kernel
theorem dX12_weightOf_5 : decode cX12_weightOf 5 = .ok (.iload 4, 2) := by decide +kernel
theorem dX12_weightOf_7 : decode cX12_weightOf 7 = .ok (.aload_n 0, 1) := by decide +kernel
theorem dX12_weightOf_8 : decode cX12_weightOf 8 = .ok (.getfield 200, 3) := by decide +kernel
theorem dX12_weightOf_11 : decode cX12_weightOf 11 = .ok (.if_icmp .ge 43, 3) := by decide +kernel
theorem dX12_weightOf_14 : decode cX12_weightOf 14 = .ok (.lload_n 2, 1) := by decide +kernel
theorem dX12_weightOf_15 : decode cX12_weightOf 15 = .ok (.iload_n 1, 1) := by decide +kernel
theorem dX12_weightOf_16 : decode cX12_weightOf 16 = .ok (.iload 4, 2) := by decide +kernel
theorem dX12_weightOf_18 : decode cX12_weightOf 18 = .ok (.invokestatic 257, 3) := by decide +kernel
theorem dX12_weightOf_21 : decode cX12_weightOf 21 = .ok (.ifCond .eq 14, 3) := by decide +kernel
theorem dX12_weightOf_24 : decode cX12_weightOf 24 = .ok (.aload_n 0, 1) := by decide +kernel
theorem dX12_weightOf_25 : decode cX12_weightOf 25 = .ok (.getfield 46, 3) := by decide +kernel
theorem dX12_weightOf_28 : decode cX12_weightOf 28 = .ok (.iload 4, 2) := by decide +kernel
theorem dX12_weightOf_30 : decode cX12_weightOf 30 = .ok (.iaload, 1) := by decide +kernel
theorem dX12_weightOf_31 : decode cX12_weightOf 31 = .ok (.i2l, 1) := by decide +kernel
theorem dX12_weightOf_32 : decode cX12_weightOf 32 = .ok (.goto 14, 3) := by decide +kernel
theorem dX12_weightOf_35 : decode cX12_weightOf 35 = .ok (.bipush 10, 2) := by decide +kernel
theorem dX12_weightOf_37 : decode cX12_weightOf 37 = .ok (.aload_n 0, 1) := by decide +kernel
theorem dX12_weightOf_38 : decode cX12_weightOf 38 = .ok (.getfield 46, 3) := by decide +kernel
theorem dX12_weightOf_41 : decode cX12_weightOf 41 = .ok (.iload 4, 2) := by decide +kernel
theorem dX12_weightOf_43 : decode cX12_weightOf 43 = .ok (.iaload, 1) := by decide +kernel
theorem dX12_weightOf_44 : decode cX12_weightOf 44 = .ok (.isub, 1) := by decide +kernel
theorem dX12_weightOf_45 : decode cX12_weightOf 45 = .ok (.i2l, 1) := by decide +kernel
theorem dX12_weightOf_46 : decode cX12_weightOf 46 = .ok (.lmul, 1) := by decide +kernel
theorem dX12_weightOf_47 : decode cX12_weightOf 47 = .ok (.lstore_n 2, 1) := by decide +kernel
theorem dX12_weightOf_48 : decode cX12_weightOf 48 = .ok (.iinc 4 1, 3) := by decide +kernel
theorem dX12_weightOf_51 : decode cX12_weightOf 51 = .ok (.goto (-46), 3) := by decide +kernel
theorem dX12_weightOf_54 : decode cX12_weightOf 54 = .ok (.lload_n 2, 1) := by decide +kernel
theorem dX12_weightOf_55 : decode cX12_weightOf 55 = .ok (.lreturn, 1) := by decide +kernel
theorem dX12_likeliestSet_0 : decode cX12_likeliestSet 0 = .ok (.bipush (-2), 2) := by decide +kernel
theorem dX12_likeliestSet_2 : decode cX12_likeliestSet 2 = .ok (.istore_n 1, 1) := by decide +kernel
theorem dX12_likeliestSet_3 : decode cX12_likeliestSet 3 = .ok (.lconst 0, 1) := by decide +kernel
theorem dX12_likeliestSet_4 : decode cX12_likeliestSet 4 = .ok (.lstore_n 2, 1) := by decide +kernel
theorem dX12_likeliestSet_5 : decode cX12_likeliestSet 5 = .ok (.iconst 0, 1) := by decide +kernel
theorem dX12_likeliestSet_6 : decode cX12_likeliestSet 6 = .ok (.istore 4, 2) := by decide +kernel
theorem dX12_likeliestSet_8 : decode cX12_likeliestSet 8 = .ok (.iload 4, 2) := by decide +kernel
theorem dX12_likeliestSet_10 : decode cX12_likeliestSet 10 = .ok (.iconst 1, 1) := by decide +kernel
theorem dX12_likeliestSet_11 : decode cX12_likeliestSet 11 = .ok (.aload_n 0, 1) := by decide +kernel
theorem dX12_likeliestSet_12 : decode cX12_likeliestSet 12 = .ok (.getfield 200, 3) := by decide +kernel
theorem dX12_likeliestSet_15 : decode cX12_likeliestSet 15 = .ok (.ishl, 1) := by decide +kernel
theorem dX12_likeliestSet_16 : decode cX12_likeliestSet 16 = .ok (.if_icmp .ge 43, 3) := by decide +kernel
theorem dX12_likeliestSet_19 : decode cX12_likeliestSet 19 = .ok (.aload_n 0, 1) := by decide +kernel
theorem dX12_likeliestSet_20 : decode cX12_likeliestSet 20 = .ok (.getfield 80, 3) := by decide +kernel
theorem dX12_likeliestSet_23 : decode cX12_likeliestSet 23 = .ok (.iload 4, 2) := by decide +kernel
theorem dX12_likeliestSet_25 : decode cX12_likeliestSet 25 = .ok (.baload, 1) := by decide +kernel
theorem dX12_likeliestSet_26 : decode cX12_likeliestSet 26 = .ok (.ifCond .eq 27, 3) := by decide +kernel
theorem dX12_likeliestSet_29 : decode cX12_likeliestSet 29 = .ok (.aload_n 0, 1) := by decide +kernel
theorem dX12_likeliestSet_30 : decode cX12_likeliestSet 30 = .ok (.iload 4, 2) := by decide +kernel
theorem dX12_likeliestSet_32 : decode cX12_likeliestSet 32 = .ok (.invokevirtual 341, 3) := by decide +kernel
theorem dX12_likeliestSet_35 : decode cX12_likeliestSet 35 = .ok (.lload_n 2, 1) := by decide +kernel
theorem dX12_likeliestSet_36 : decode cX12_likeliestSet 36 = .ok (.lcmp, 1) := by decide +kernel
theorem dX12_likeliestSet_37 : decode cX12_likeliestSet 37 = .ok (.ifCond .gt 6, 3) := by decide +kernel
theorem dX12_likeliestSet_40 : decode cX12_likeliestSet 40 = .ok (.goto 13, 3) := by decide +kernel
theorem dX12_likeliestSet_43 : decode cX12_likeliestSet 43 = .ok (.iload 4, 2) := by decide +kernel
theorem dX12_likeliestSet_45 : decode cX12_likeliestSet 45 = .ok (.istore_n 1, 1) := by decide +kernel
theorem dX12_likeliestSet_46 : decode cX12_likeliestSet 46 = .ok (.aload_n 0, 1) := by decide +kernel
theorem dX12_likeliestSet_47 : decode cX12_likeliestSet 47 = .ok (.iload 4, 2) := by decide +kernel
theorem dX12_likeliestSet_49 : decode cX12_likeliestSet 49 = .ok (.invokevirtual 341, 3) := by decide +kernel
theorem dX12_likeliestSet_52 : decode cX12_likeliestSet 52 = .ok (.lstore_n 2, 1) := by decide +kernel
theorem dX12_likeliestSet_53 : decode cX12_likeliestSet 53 = .ok (.iinc 4 1, 3) := by decide +kernel
theorem dX12_likeliestSet_56 : decode cX12_likeliestSet 56 = .ok (.goto (-48), 3) := by decide +kernel
theorem dX12_likeliestSet_59 : decode cX12_likeliestSet 59 = .ok (.iload_n 1, 1) := by decide +kernel
theorem dX12_likeliestSet_60 : decode cX12_likeliestSet 60 = .ok (.ireturn, 1) := by decide +kernel
theorem dX12_likeliest_0 : decode cX12_likeliest 0 = .ok (.aload_n 0, 1) := by decide +kernel
theorem dX12_likeliest_1 : decode cX12_likeliest 1 = .ok (.invokevirtual 332, 3) := by decide +kernel
theorem dX12_likeliest_4 : decode cX12_likeliest 4 = .ok (.aload_n 0, 1) := by decide +kernel
theorem dX12_likeliest_5 : decode cX12_likeliest 5 = .ok (.invokevirtual 345, 3) := by decide +kernel
theorem dX12_likeliest_8 : decode cX12_likeliest 8 = .ok (.ireturn, 1) := by decide +kernel
theorem dX12_weight_0 : decode cX12_weight 0 = .ok (.iload_n 1, 1) := by decide +kernel
theorem dX12_weight_1 : decode cX12_weight 1 = .ok (.iconst (-1), 1) := by decide +kernel
theorem dX12_weight_2 : decode cX12_weight 2 = .ok (.if_icmp .eq 15, 3) := by decide +kernel
theorem dX12_weight_5 : decode cX12_weight 5 = .ok (.aload_n 0, 1) := by decide +kernel
theorem dX12_weight_6 : decode cX12_weight 6 = .ok (.iload_n 1, 1) := by decide +kernel
theorem dX12_weight_7 : decode cX12_weight 7 = .ok (.invokevirtual 326, 3) := by decide +kernel
theorem dX12_weight_10 : decode cX12_weight 10 = .ok (.ifCond .ne 7, 3) := by decide +kernel
theorem dX12_weight_13 : decode cX12_weight 13 = .ok (.ldc2_w 349, 3) := by decide +kernel
theorem dX12_weight_16 : decode cX12_weight 16 = .ok (.lreturn, 1) := by decide +kernel
theorem dX12_weight_17 : decode cX12_weight 17 = .ok (.aload_n 0, 1) := by decide +kernel
theorem dX12_weight_18 : decode cX12_weight 18 = .ok (.invokevirtual 332, 3) := by decide +kernel
theorem dX12_weight_21 : decode cX12_weight 21 = .ok (.lconst 0, 1) := by decide +kernel
theorem dX12_weight_22 : decode cX12_weight 22 = .ok (.lstore_n 2, 1) := by decide +kernel
theorem dX12_weight_23 : decode cX12_weight 23 = .ok (.iconst 0, 1) := by decide +kernel
theorem dX12_weight_24 : decode cX12_weight 24 = .ok (.istore 4, 2) := by decide +kernel
theorem dX12_weight_26 : decode cX12_weight 26 = .ok (.iload 4, 2) := by decide +kernel
theorem dX12_weight_28 : decode cX12_weight 28 = .ok (.iconst 1, 1) := by decide +kernel
theorem dX12_weight_29 : decode cX12_weight 29 = .ok (.aload_n 0, 1) := by decide +kernel
theorem dX12_weight_30 : decode cX12_weight 30 = .ok (.getfield 200, 3) := by decide +kernel
theorem dX12_weight_33 : decode cX12_weight 33 = .ok (.ishl, 1) := by decide +kernel
theorem dX12_weight_34 : decode cX12_weight 34 = .ok (.if_icmp .ge 42, 3) := by decide +kernel
theorem dX12_weight_37 : decode cX12_weight 37 = .ok (.aload_n 0, 1) := by decide +kernel
theorem dX12_weight_38 : decode cX12_weight 38 = .ok (.getfield 80, 3) := by decide +kernel
theorem dX12_weight_41 : decode cX12_weight 41 = .ok (.iload 4, 2) := by decide +kernel
theorem dX12_weight_43 : decode cX12_weight 43 = .ok (.baload, 1) := by decide +kernel
theorem dX12_weight_44 : decode cX12_weight 44 = .ok (.ifCond .eq 26, 3) := by decide +kernel
theorem dX12_weight_47 : decode cX12_weight 47 = .ok (.iload_n 1, 1) := by decide +kernel
theorem dX12_weight_48 : decode cX12_weight 48 = .ok (.iconst (-1), 1) := by decide +kernel
theorem dX12_weight_49 : decode cX12_weight 49 = .ok (.if_icmp .eq 12, 3) := by decide +kernel
theorem dX12_weight_52 : decode cX12_weight 52 = .ok (.iload 4, 2) := by decide +kernel
theorem dX12_weight_54 : decode cX12_weight 54 = .ok (.iload_n 1, 1) := by decide +kernel
theorem dX12_weight_55 : decode cX12_weight 55 = .ok (.invokestatic 257, 3) := by decide +kernel
theorem dX12_weight_58 : decode cX12_weight 58 = .ok (.ifCond .eq 12, 3) := by decide +kernel
theorem dX12_weight_61 : decode cX12_weight 61 = .ok (.lload_n 2, 1) := by decide +kernel
theorem dX12_weight_62 : decode cX12_weight 62 = .ok (.aload_n 0, 1) := by decide +kernel
theorem dX12_weight_63 : decode cX12_weight 63 = .ok (.iload 4, 2) := by decide +kernel
theorem dX12_weight_65 : decode cX12_weight 65 = .ok (.invokevirtual 341, 3) := by decide +kernel
theorem dX12_weight_68 : decode cX12_weight 68 = .ok (.ladd, 1) := by decide +kernel
theorem dX12_weight_69 : decode cX12_weight 69 = .ok (.lstore_n 2, 1) := by decide +kernel
theorem dX12_weight_70 : decode cX12_weight 70 = .ok (.iinc 4 1, 3) := by decide +kernel
theorem dX12_weight_73 : decode cX12_weight 73 = .ok (.goto (-47), 3) := by decide +kernel
theorem dX12_weight_76 : decode cX12_weight 76 = .ok (.lload_n 2, 1) := by decide +kernel
theorem dX12_weight_77 : decode cX12_weight 77 = .ok (.lreturn, 1) := by decide +kernel
theorem dX12_otherWays_0 : decode cX12_otherWays 0 = .ok (.iconst 0, 1) := by decide +kernel
theorem dX12_otherWays_1 : decode cX12_otherWays 1 = .ok (.istore_n 2, 1) := by decide +kernel
theorem dX12_otherWays_2 : decode cX12_otherWays 2 = .ok (.iconst 0, 1) := by decide +kernel
theorem dX12_otherWays_3 : decode cX12_otherWays 3 = .ok (.istore_n 3, 1) := by decide +kernel
theorem dX12_otherWays_4 : decode cX12_otherWays 4 = .ok (.iload_n 3, 1) := by decide +kernel
theorem dX12_otherWays_5 : decode cX12_otherWays 5 = .ok (.aload_n 0, 1) := by decide +kernel
theorem dX12_otherWays_6 : decode cX12_otherWays 6 = .ok (.getfield 58, 3) := by decide +kernel
theorem dX12_otherWays_9 : decode cX12_otherWays 9 = .ok (.iconst 0, 1) := by decide +kernel
theorem dX12_otherWays_10 : decode cX12_otherWays 10 = .ok (.iaload, 1) := by decide +kernel
theorem dX12_otherWays_11 : decode cX12_otherWays 11 = .ok (.if_icmp .ge 67, 3) := by decide +kernel
theorem dX12_otherWays_14 : decode cX12_otherWays 14 = .ok (.aload_n 0, 1) := by decide +kernel
theorem dX12_otherWays_15 : decode cX12_otherWays 15 = .ok (.getfield 74, 3) := by decide +kernel
theorem dX12_otherWays_18 : decode cX12_otherWays 18 = .ok (.iload_n 3, 1) := by decide +kernel
theorem dX12_otherWays_19 : decode cX12_otherWays 19 = .ok (.iaload, 1) := by decide +kernel
theorem dX12_otherWays_20 : decode cX12_otherWays 20 = .ok (.iload_n 1, 1) := by decide +kernel
theorem dX12_otherWays_21 : decode cX12_otherWays 21 = .ok (.iand, 1) := by decide +kernel
theorem dX12_otherWays_22 : decode cX12_otherWays 22 = .ok (.ifCond .eq 7, 3) := by decide +kernel
theorem dX12_otherWays_25 : decode cX12_otherWays 25 = .ok (.iconst 1, 1) := by decide +kernel
theorem dX12_otherWays_26 : decode cX12_otherWays 26 = .ok (.goto 4, 3) := by decide +kernel
theorem dX12_otherWays_29 : decode cX12_otherWays 29 = .ok (.iconst 0, 1) := by decide +kernel
theorem dX12_otherWays_30 : decode cX12_otherWays 30 = .ok (.istore 4, 2) := by decide +kernel
theorem dX12_otherWays_32 : decode cX12_otherWays 32 = .ok (.aload_n 0, 1) := by decide +kernel
theorem dX12_otherWays_33 : decode cX12_otherWays 33 = .ok (.getfield 58, 3) := by decide +kernel
theorem dX12_otherWays_36 : decode cX12_otherWays 36 = .ok (.iconst 1, 1) := by decide +kernel
theorem dX12_otherWays_37 : decode cX12_otherWays 37 = .ok (.iload_n 3, 1) := by decide +kernel
theorem dX12_otherWays_38 : decode cX12_otherWays 38 = .ok (.iadd, 1) := by decide +kernel
theorem dX12_otherWays_39 : decode cX12_otherWays 39 = .ok (.iaload, 1) := by decide +kernel
theorem dX12_otherWays_40 : decode cX12_otherWays 40 = .ok (.iconst 1, 1) := by decide +kernel
theorem dX12_otherWays_41 : decode cX12_otherWays 41 = .ok (.if_icmp .ne 8, 3) := by decide +kernel
theorem dX12_otherWays_44 : decode cX12_otherWays 44 = .ok (.iload 4, 2) := by decide +kernel
theorem dX12_otherWays_46 : decode cX12_otherWays 46 = .ok (.ifCond .ne 20, 3) := by decide +kernel
theorem dX12_otherWays_49 : decode cX12_otherWays 49 = .ok (.aload_n 0, 1) := by decide +kernel
theorem dX12_otherWays_50 : decode cX12_otherWays 50 = .ok (.getfield 58, 3) := by decide +kernel
theorem dX12_otherWays_53 : decode cX12_otherWays 53 = .ok (.iconst 1, 1) := by decide +kernel
theorem dX12_otherWays_54 : decode cX12_otherWays 54 = .ok (.iload_n 3, 1) := by decide +kernel
theorem dX12_otherWays_55 : decode cX12_otherWays 55 = .ok (.iadd, 1) := by decide +kernel
theorem dX12_otherWays_56 : decode cX12_otherWays 56 = .ok (.iaload, 1) := by decide +kernel
theorem dX12_otherWays_57 : decode cX12_otherWays 57 = .ok (.iconst 2, 1) := by decide +kernel
theorem dX12_otherWays_58 : decode cX12_otherWays 58 = .ok (.if_icmp .ne 14, 3) := by decide +kernel
theorem dX12_otherWays_61 : decode cX12_otherWays 61 = .ok (.iload 4, 2) := by decide +kernel
theorem dX12_otherWays_63 : decode cX12_otherWays 63 = .ok (.ifCond .ne 9, 3) := by decide +kernel
theorem dX12_otherWays_66 : decode cX12_otherWays 66 = .ok (.iload_n 2, 1) := by decide +kernel
theorem dX12_otherWays_67 : decode cX12_otherWays 67 = .ok (.iconst 1, 1) := by decide +kernel
theorem dX12_otherWays_68 : decode cX12_otherWays 68 = .ok (.iload_n 3, 1) := by decide +kernel
theorem dX12_otherWays_69 : decode cX12_otherWays 69 = .ok (.ishl, 1) := by decide +kernel
theorem dX12_otherWays_70 : decode cX12_otherWays 70 = .ok (.ior, 1) := by decide +kernel
theorem dX12_otherWays_71 : decode cX12_otherWays 71 = .ok (.istore_n 2, 1) := by decide +kernel
theorem dX12_otherWays_72 : decode cX12_otherWays 72 = .ok (.iinc 3 1, 3) := by decide +kernel
theorem dX12_otherWays_75 : decode cX12_otherWays 75 = .ok (.goto (-71), 3) := by decide +kernel
theorem dX12_otherWays_78 : decode cX12_otherWays 78 = .ok (.iload_n 2, 1) := by decide +kernel
theorem dX12_otherWays_79 : decode cX12_otherWays 79 = .ok (.ireturn, 1) := by decide +kernel
theorem dX12_costOf_0 : decode cX12_costOf 0 = .ok (.aload_n 0, 1) := by decide +kernel
theorem dX12_costOf_1 : decode cX12_costOf 1 = .ok (.getfield 111, 3) := by decide +kernel
theorem dX12_costOf_4 : decode cX12_costOf 4 = .ok (.aload_n 0, 1) := by decide +kernel
theorem dX12_costOf_5 : decode cX12_costOf 5 = .ok (.iload_n 1, 1) := by decide +kernel
theorem dX12_costOf_6 : decode cX12_costOf 6 = .ok (.invokevirtual 351, 3) := by decide +kernel
theorem dX12_costOf_9 : decode cX12_costOf 9 = .ok (.invokestatic 293, 3) := by decide +kernel
theorem dX12_costOf_12 : decode cX12_costOf 12 = .ok (.imul, 1) := by decide +kernel
theorem dX12_costOf_13 : decode cX12_costOf 13 = .ok (.istore_n 2, 1) := by decide +kernel
theorem dX12_costOf_14 : decode cX12_costOf 14 = .ok (.iconst 0, 1) := by decide +kernel
theorem dX12_costOf_15 : decode cX12_costOf 15 = .ok (.istore_n 3, 1) := by decide +kernel
theorem dX12_costOf_16 : decode cX12_costOf 16 = .ok (.iload_n 3, 1) := by decide +kernel
theorem dX12_costOf_17 : decode cX12_costOf 17 = .ok (.aload_n 0, 1) := by decide +kernel
theorem dX12_costOf_18 : decode cX12_costOf 18 = .ok (.getfield 200, 3) := by decide +kernel
theorem dX12_costOf_21 : decode cX12_costOf 21 = .ok (.if_icmp .ge 29, 3) := by decide +kernel
theorem dX12_costOf_24 : decode cX12_costOf 24 = .ok (.iload_n 1, 1) := by decide +kernel
theorem dX12_costOf_25 : decode cX12_costOf 25 = .ok (.iload_n 3, 1) := by decide +kernel
theorem dX12_costOf_26 : decode cX12_costOf 26 = .ok (.invokestatic 257, 3) := by decide +kernel
theorem dX12_costOf_29 : decode cX12_costOf 29 = .ok (.ifCond .eq 15, 3) := by decide +kernel
theorem dX12_costOf_32 : decode cX12_costOf 32 = .ok (.iload_n 2, 1) := by decide +kernel
theorem dX12_costOf_33 : decode cX12_costOf 33 = .ok (.bipush 10, 2) := by decide +kernel
theorem dX12_costOf_35 : decode cX12_costOf 35 = .ok (.aload_n 0, 1) := by decide +kernel
theorem dX12_costOf_36 : decode cX12_costOf 36 = .ok (.getfield 46, 3) := by decide +kernel
theorem dX12_costOf_39 : decode cX12_costOf 39 = .ok (.iload_n 3, 1) := by decide +kernel
theorem dX12_costOf_40 : decode cX12_costOf 40 = .ok (.iaload, 1) := by decide +kernel
theorem dX12_costOf_41 : decode cX12_costOf 41 = .ok (.isub, 1) := by decide +kernel
theorem dX12_costOf_42 : decode cX12_costOf 42 = .ok (.iadd, 1) := by decide +kernel
theorem dX12_costOf_43 : decode cX12_costOf 43 = .ok (.istore_n 2, 1) := by decide +kernel
theorem dX12_costOf_44 : decode cX12_costOf 44 = .ok (.iinc 3 1, 3) := by decide +kernel
theorem dX12_costOf_47 : decode cX12_costOf 47 = .ok (.goto (-31), 3) := by decide +kernel
theorem dX12_costOf_50 : decode cX12_costOf 50 = .ok (.iload_n 2, 1) := by decide +kernel
theorem dX12_costOf_51 : decode cX12_costOf 51 = .ok (.ireturn, 1) := by decide +kernel
theorem dX12_cheapest_0 : decode cX12_cheapest 0 = .ok (.iload_n 1, 1) := by decide +kernel
theorem dX12_cheapest_1 : decode cX12_cheapest 1 = .ok (.iconst 0, 1) := by decide +kernel
theorem dX12_cheapest_2 : decode cX12_cheapest 2 = .ok (.iconst 3, 1) := by decide +kernel
theorem dX12_cheapest_3 : decode cX12_cheapest 3 = .ok (.invokestatic 250, 3) := by decide +kernel
theorem dX12_cheapest_6 : decode cX12_cheapest 6 = .ok (.ifCond .ne 5, 3) := by decide +kernel
theorem dX12_cheapest_9 : decode cX12_cheapest 9 = .ok (.iconst (-1), 1) := by decide +kernel
theorem dX12_cheapest_10 : decode cX12_cheapest 10 = .ok (.ireturn, 1) := by decide +kernel
theorem dX12_cheapest_11 : decode cX12_cheapest 11 = .ok (.iconst 0, 1) := by decide +kernel
theorem dX12_cheapest_12 : decode cX12_cheapest 12 = .ok (.istore_n 2, 1) := by decide +kernel
theorem dX12_cheapest_13 : decode cX12_cheapest 13 = .ok (.iconst 0, 1) := by decide +kernel
theorem dX12_cheapest_14 : decode cX12_cheapest 14 = .ok (.istore_n 3, 1) := by decide +kernel
theorem dX12_cheapest_15 : decode cX12_cheapest 15 = .ok (.iconst 0, 1) := by decide +kernel
theorem dX12_cheapest_16 : decode cX12_cheapest 16 = .ok (.istore 4, 2) := by decide +kernel
theorem dX12_cheapest_18 : decode cX12_cheapest 18 = .ok (.iload 4, 2) := by decide +kernel
theorem dX12_cheapest_20 : decode cX12_cheapest 20 = .ok (.iconst 1, 1) := by decide +kernel
theorem dX12_cheapest_21 : decode cX12_cheapest 21 = .ok (.aload_n 0, 1) := by decide +kernel
theorem dX12_cheapest_22 : decode cX12_cheapest 22 = .ok (.getfield 200, 3) := by decide +kernel
theorem dX12_cheapest_25 : decode cX12_cheapest 25 = .ok (.ishl, 1) := by decide +kernel
theorem dX12_cheapest_26 : decode cX12_cheapest 26 = .ok (.if_icmp .ge 60, 3) := by decide +kernel
theorem dX12_cheapest_29 : decode cX12_cheapest 29 = .ok (.aload_n 0, 1) := by decide +kernel
theorem dX12_cheapest_30 : decode cX12_cheapest 30 = .ok (.iload 4, 2) := by decide +kernel
theorem dX12_cheapest_32 : decode cX12_cheapest 32 = .ok (.invokevirtual 354, 3) := by decide +kernel
theorem dX12_cheapest_35 : decode cX12_cheapest 35 = .ok (.aload_n 0, 1) := by decide +kernel
theorem dX12_cheapest_36 : decode cX12_cheapest 36 = .ok (.iload_n 2, 1) := by decide +kernel
theorem dX12_cheapest_37 : decode cX12_cheapest 37 = .ok (.invokevirtual 354, 3) := by decide +kernel
theorem dX12_cheapest_40 : decode cX12_cheapest 40 = .ok (.isub, 1) := by decide +kernel
theorem dX12_cheapest_41 : decode cX12_cheapest 41 = .ok (.istore 5, 2) := by decide +kernel
theorem dX12_cheapest_43 : decode cX12_cheapest 43 = .ok (.iload 5, 2) := by decide +kernel
theorem dX12_cheapest_45 : decode cX12_cheapest 45 = .ok (.ifCond .ge 5, 3) := by decide +kernel
theorem dX12_cheapest_48 : decode cX12_cheapest 48 = .ok (.iconst 0, 1) := by decide +kernel
theorem dX12_cheapest_49 : decode cX12_cheapest 49 = .ok (.istore_n 3, 1) := by decide +kernel
theorem dX12_cheapest_50 : decode cX12_cheapest 50 = .ok (.iload 5, 2) := by decide +kernel
theorem dX12_cheapest_52 : decode cX12_cheapest 52 = .ok (.ifCond .gt 6, 3) := by decide +kernel
theorem dX12_cheapest_55 : decode cX12_cheapest 55 = .ok (.iinc 3 1, 3) := by decide +kernel
theorem dX12_cheapest_58 : decode cX12_cheapest 58 = .ok (.iload 5, 2) := by decide +kernel
theorem dX12_cheapest_60 : decode cX12_cheapest 60 = .ok (.ifCond .lt 17, 3) := by decide +kernel
theorem dX12_cheapest_63 : decode cX12_cheapest 63 = .ok (.iload 5, 2) := by decide +kernel
theorem dX12_cheapest_65 : decode cX12_cheapest 65 = .ok (.ifCond .ne 15, 3) := by decide +kernel
theorem dX12_cheapest_68 : decode cX12_cheapest 68 = .ok (.iload 4, 2) := by decide +kernel
theorem dX12_cheapest_70 : decode cX12_cheapest 70 = .ok (.iload_n 2, 1) := by decide +kernel
theorem dX12_cheapest_71 : decode cX12_cheapest 71 = .ok (.invokestatic 314, 3) := by decide +kernel
theorem dX12_cheapest_74 : decode cX12_cheapest 74 = .ok (.ifCond .eq 6, 3) := by decide +kernel
theorem dX12_cheapest_77 : decode cX12_cheapest 77 = .ok (.iload 4, 2) := by decide +kernel
theorem dX12_cheapest_79 : decode cX12_cheapest 79 = .ok (.istore_n 2, 1) := by decide +kernel
theorem dX12_cheapest_80 : decode cX12_cheapest 80 = .ok (.iinc 4 1, 3) := by decide +kernel
theorem dX12_cheapest_83 : decode cX12_cheapest 83 = .ok (.goto (-65), 3) := by decide +kernel
theorem dX12_cheapest_86 : decode cX12_cheapest 86 = .ok (.iload_n 1, 1) := by decide +kernel
theorem dX12_cheapest_87 : decode cX12_cheapest 87 = .ok (.ifCond .ne 7, 3) := by decide +kernel
theorem dX12_cheapest_90 : decode cX12_cheapest 90 = .ok (.iload_n 2, 1) := by decide +kernel
theorem dX12_cheapest_91 : decode cX12_cheapest 91 = .ok (.goto 30, 3) := by decide +kernel
theorem dX12_cheapest_94 : decode cX12_cheapest 94 = .ok (.iload_n 1, 1) := by decide +kernel
theorem dX12_cheapest_95 : decode cX12_cheapest 95 = .ok (.iconst 1, 1) := by decide +kernel
theorem dX12_cheapest_96 : decode cX12_cheapest 96 = .ok (.if_icmp .ne 11, 3) := by decide +kernel
theorem dX12_cheapest_99 : decode cX12_cheapest 99 = .ok (.aload_n 0, 1) := by decide +kernel
theorem dX12_cheapest_100 : decode cX12_cheapest 100 = .ok (.iload_n 2, 1) := by decide +kernel
theorem dX12_cheapest_101 : decode cX12_cheapest 101 = .ok (.invokevirtual 354, 3) := by decide +kernel
theorem dX12_cheapest_104 : decode cX12_cheapest 104 = .ok (.goto 17, 3) := by decide +kernel
theorem dX12_cheapest_107 : decode cX12_cheapest 107 = .ok (.iload_n 1, 1) := by decide +kernel
theorem dX12_cheapest_108 : decode cX12_cheapest 108 = .ok (.iconst 2, 1) := by decide +kernel
theorem dX12_cheapest_109 : decode cX12_cheapest 109 = .ok (.if_icmp .ne 11, 3) := by decide +kernel
theorem dX12_cheapest_112 : decode cX12_cheapest 112 = .ok (.aload_n 0, 1) := by decide +kernel
theorem dX12_cheapest_113 : decode cX12_cheapest 113 = .ok (.iload_n 2, 1) := by decide +kernel
theorem dX12_cheapest_114 : decode cX12_cheapest 114 = .ok (.invokevirtual 351, 3) := by decide +kernel
theorem dX12_cheapest_117 : decode cX12_cheapest 117 = .ok (.goto 4, 3) := by decide +kernel
theorem dX12_cheapest_120 : decode cX12_cheapest 120 = .ok (.iload_n 3, 1) := by decide +kernel
theorem dX12_cheapest_121 : decode cX12_cheapest 121 = .ok (.ireturn, 1) := by decide +kernel
theorem dX12_isFirst_0 : decode cX12_isFirst 0 = .ok (.iload_n 1, 1) := by decide +kernel
theorem dX12_isFirst_1 : decode cX12_isFirst 1 = .ok (.ifCond .lt 14, 3) := by decide +kernel
theorem dX12_isFirst_4 : decode cX12_isFirst 4 = .ok (.iload_n 0, 1) := by decide +kernel
theorem dX12_isFirst_5 : decode cX12_isFirst 5 = .ok (.invokestatic 293, 3) := by decide +kernel
theorem dX12_isFirst_8 : decode cX12_isFirst 8 = .ok (.iload_n 1, 1) := by decide +kernel
theorem dX12_isFirst_9 : decode cX12_isFirst 9 = .ok (.invokestatic 293, 3) := by decide +kernel
theorem dX12_isFirst_12 : decode cX12_isFirst 12 = .ok (.if_icmp .eq 24, 3) := by decide +kernel
theorem dX12_isFirst_15 : decode cX12_isFirst 15 = .ok (.iload_n 1, 1) := by decide +kernel
theorem dX12_isFirst_16 : decode cX12_isFirst 16 = .ok (.ifCond .lt 14, 3) := by decide +kernel
theorem dX12_isFirst_19 : decode cX12_isFirst 19 = .ok (.iload_n 0, 1) := by decide +kernel
theorem dX12_isFirst_20 : decode cX12_isFirst 20 = .ok (.invokestatic 293, 3) := by decide +kernel
theorem dX12_isFirst_23 : decode cX12_isFirst 23 = .ok (.iload_n 1, 1) := by decide +kernel
theorem dX12_isFirst_24 : decode cX12_isFirst 24 = .ok (.invokestatic 293, 3) := by decide +kernel
theorem dX12_isFirst_27 : decode cX12_isFirst 27 = .ok (.if_icmp .ge 7, 3) := by decide +kernel
theorem dX12_isFirst_30 : decode cX12_isFirst 30 = .ok (.iconst 1, 1) := by decide +kernel
theorem dX12_isFirst_31 : decode cX12_isFirst 31 = .ok (.goto 4, 3) := by decide +kernel
theorem dX12_isFirst_34 : decode cX12_isFirst 34 = .ok (.iconst 0, 1) := by decide +kernel
theorem dX12_isFirst_35 : decode cX12_isFirst 35 = .ok (.ireturn, 1) := by decide +kernel
theorem dX12_isFirst_36 : decode cX12_isFirst 36 = .ok (.iload_n 0, 1) := by decide +kernel
theorem dX12_isFirst_37 : decode cX12_isFirst 37 = .ok (.iload_n 1, 1) := by decide +kernel
theorem dX12_isFirst_38 : decode cX12_isFirst 38 = .ok (.ixor, 1) := by decide +kernel
theorem dX12_isFirst_39 : decode cX12_isFirst 39 = .ok (.istore_n 2, 1) := by decide +kernel
theorem dX12_isFirst_40 : decode cX12_isFirst 40 = .ok (.iload_n 0, 1) := by decide +kernel
theorem dX12_isFirst_41 : decode cX12_isFirst 41 = .ok (.iload_n 2, 1) := by decide +kernel
theorem dX12_isFirst_42 : decode cX12_isFirst 42 = .ok (.iand, 1) := by decide +kernel
theorem dX12_isFirst_43 : decode cX12_isFirst 43 = .ok (.iload_n 2, 1) := by decide +kernel
theorem dX12_isFirst_44 : decode cX12_isFirst 44 = .ok (.ineg, 1) := by decide +kernel
theorem dX12_isFirst_45 : decode cX12_isFirst 45 = .ok (.iand, 1) := by decide +kernel
theorem dX12_isFirst_46 : decode cX12_isFirst 46 = .ok (.ifCond .eq 7, 3) := by decide +kernel
theorem dX12_isFirst_49 : decode cX12_isFirst 49 = .ok (.iconst 1, 1) := by decide +kernel
theorem dX12_isFirst_50 : decode cX12_isFirst 50 = .ok (.goto 4, 3) := by decide +kernel
theorem dX12_isFirst_53 : decode cX12_isFirst 53 = .ok (.iconst 0, 1) := by decide +kernel
theorem dX12_isFirst_54 : decode cX12_isFirst 54 = .ok (.ireturn, 1) := by decide +kernel
theorem dX12_ofSet_0 : decode cX12_ofSet 0 = .ok (.iload_n 1, 1) := by decide +kernel
theorem dX12_ofSet_1 : decode cX12_ofSet 1 = .ok (.iconst (-1), 1) := by decide +kernel
theorem dX12_ofSet_2 : decode cX12_ofSet 2 = .ok (.if_icmp .ne 8, 3) := by decide +kernel
theorem dX12_ofSet_5 : decode cX12_ofSet 5 = .ok (.iload_n 0, 1) := by decide +kernel
theorem dX12_ofSet_6 : decode cX12_ofSet 6 = .ok (.invokestatic 293, 3) := by decide +kernel
theorem dX12_ofSet_9 : decode cX12_ofSet 9 = .ok (.ireturn, 1) := by decide +kernel
theorem dX12_ofSet_10 : decode cX12_ofSet 10 = .ok (.iconst 0, 1) := by decide +kernel
theorem dX12_ofSet_11 : decode cX12_ofSet 11 = .ok (.istore_n 2, 1) := by decide +kernel
theorem dX12_ofSet_12 : decode cX12_ofSet 12 = .ok (.iconst 0, 1) := by decide +kernel
theorem dX12_ofSet_13 : decode cX12_ofSet 13 = .ok (.istore_n 3, 1) := by decide +kernel
theorem dX12_ofSet_14 : decode cX12_ofSet 14 = .ok (.iload_n 3, 1) := by decide +kernel
theorem dX12_ofSet_15 : decode cX12_ofSet 15 = .ok (.bipush 12, 2) := by decide +kernel
theorem dX12_ofSet_17 : decode cX12_ofSet 17 = .ok (.if_icmp .ge 30, 3) := by decide +kernel
theorem dX12_ofSet_20 : decode cX12_ofSet 20 = .ok (.iload_n 0, 1) := by decide +kernel
theorem dX12_ofSet_21 : decode cX12_ofSet 21 = .ok (.iload_n 3, 1) := by decide +kernel
theorem dX12_ofSet_22 : decode cX12_ofSet 22 = .ok (.invokestatic 257, 3) := by decide +kernel
theorem dX12_ofSet_25 : decode cX12_ofSet 25 = .ok (.ifCond .ne 6, 3) := by decide +kernel
theorem dX12_ofSet_28 : decode cX12_ofSet 28 = .ok (.goto 13, 3) := by decide +kernel
theorem dX12_ofSet_31 : decode cX12_ofSet 31 = .ok (.iload_n 2, 1) := by decide +kernel
theorem dX12_ofSet_32 : decode cX12_ofSet 32 = .ok (.iload_n 1, 1) := by decide +kernel
theorem dX12_ofSet_33 : decode cX12_ofSet 33 = .ok (.if_icmp .ne 5, 3) := by decide +kernel
theorem dX12_ofSet_36 : decode cX12_ofSet 36 = .ok (.iload_n 3, 1) := by decide +kernel
theorem dX12_ofSet_37 : decode cX12_ofSet 37 = .ok (.ireturn, 1) := by decide +kernel
theorem dX12_ofSet_38 : decode cX12_ofSet 38 = .ok (.iinc 2 1, 3) := by decide +kernel
theorem dX12_ofSet_41 : decode cX12_ofSet 41 = .ok (.iinc 3 1, 3) := by decide +kernel
theorem dX12_ofSet_44 : decode cX12_ofSet 44 = .ok (.goto (-30), 3) := by decide +kernel
theorem dX12_ofSet_47 : decode cX12_ofSet 47 = .ok (.iconst (-1), 1) := by decide +kernel
theorem dX12_ofSet_48 : decode cX12_ofSet 48 = .ok (.ireturn, 1) := by decide +kernel
theorem dX12_knownWays_0 : decode cX12_knownWays 0 = .ok (.iconst 0, 1) := by decide +kernel
theorem dX12_knownWays_1 : decode cX12_knownWays 1 = .ok (.istore_n 1, 1) := by decide +kernel
theorem dX12_knownWays_2 : decode cX12_knownWays 2 = .ok (.iconst 0, 1) := by decide +kernel
theorem dX12_knownWays_3 : decode cX12_knownWays 3 = .ok (.istore_n 2, 1) := by decide +kernel
theorem dX12_knownWays_4 : decode cX12_knownWays 4 = .ok (.iload_n 2, 1) := by decide +kernel
theorem dX12_knownWays_5 : decode cX12_knownWays 5 = .ok (.aload_n 0, 1) := by decide +kernel
theorem dX12_knownWays_6 : decode cX12_knownWays 6 = .ok (.getfield 58, 3) := by decide +kernel
theorem dX12_knownWays_9 : decode cX12_knownWays 9 = .ok (.iconst 0, 1) := by decide +kernel
theorem dX12_knownWays_10 : decode cX12_knownWays 10 = .ok (.iaload, 1) := by decide +kernel
theorem dX12_knownWays_11 : decode cX12_knownWays 11 = .ok (.if_icmp .ge 26, 3) := by decide +kernel
theorem dX12_knownWays_14 : decode cX12_knownWays 14 = .ok (.aload_n 0, 1) := by decide +kernel
theorem dX12_knownWays_15 : decode cX12_knownWays 15 = .ok (.getfield 58, 3) := by decide +kernel
theorem dX12_knownWays_18 : decode cX12_knownWays 18 = .ok (.iconst 1, 1) := by decide +kernel
theorem dX12_knownWays_19 : decode cX12_knownWays 19 = .ok (.iload_n 2, 1) := by decide +kernel
theorem dX12_knownWays_20 : decode cX12_knownWays 20 = .ok (.iadd, 1) := by decide +kernel
theorem dX12_knownWays_21 : decode cX12_knownWays 21 = .ok (.iaload, 1) := by decide +kernel
theorem dX12_knownWays_22 : decode cX12_knownWays 22 = .ok (.ifCond .le 9, 3) := by decide +kernel
theorem dX12_knownWays_25 : decode cX12_knownWays 25 = .ok (.iload_n 1, 1) := by decide +kernel
theorem dX12_knownWays_26 : decode cX12_knownWays 26 = .ok (.iconst 1, 1) := by decide +kernel
theorem dX12_knownWays_27 : decode cX12_knownWays 27 = .ok (.iload_n 2, 1) := by decide +kernel
theorem dX12_knownWays_28 : decode cX12_knownWays 28 = .ok (.ishl, 1) := by decide +kernel
theorem dX12_knownWays_29 : decode cX12_knownWays 29 = .ok (.ior, 1) := by decide +kernel
theorem dX12_knownWays_30 : decode cX12_knownWays 30 = .ok (.istore_n 1, 1) := by decide +kernel
theorem dX12_knownWays_31 : decode cX12_knownWays 31 = .ok (.iinc 2 1, 3) := by decide +kernel
theorem dX12_knownWays_34 : decode cX12_knownWays 34 = .ok (.goto (-30), 3) := by decide +kernel
theorem dX12_knownWays_37 : decode cX12_knownWays 37 = .ok (.iload_n 1, 1) := by decide +kernel
theorem dX12_knownWays_38 : decode cX12_knownWays 38 = .ok (.ireturn, 1) := by decide +kernel
theorem dX12_explainsWithout_0 : decode cX12_explainsWithout 0 = .ok (.iconst 0, 1) := by decide +kernel
theorem dX12_explainsWithout_1 : decode cX12_explainsWithout 1 = .ok (.istore_n 2, 1) := by decide +kernel
theorem dX12_explainsWithout_2 : decode cX12_explainsWithout 2 = .ok (.iconst 0, 1) := by decide +kernel
theorem dX12_explainsWithout_3 : decode cX12_explainsWithout 3 = .ok (.istore_n 3, 1) := by decide +kernel
theorem dX12_explainsWithout_4 : decode cX12_explainsWithout 4 = .ok (.iload_n 3, 1) := by decide +kernel
theorem dX12_explainsWithout_5 : decode cX12_explainsWithout 5 = .ok (.aload_n 0, 1) := by decide +kernel
theorem dX12_explainsWithout_6 : decode cX12_explainsWithout 6 = .ok (.getfield 58, 3) := by decide +kernel
theorem dX12_explainsWithout_9 : decode cX12_explainsWithout 9 = .ok (.iconst 0, 1) := by decide +kernel
theorem dX12_explainsWithout_10 : decode cX12_explainsWithout 10 = .ok (.iaload, 1) := by decide +kernel
theorem dX12_explainsWithout_11 : decode cX12_explainsWithout 11 = .ok (.if_icmp .ge 38, 3) := by decide +kernel
theorem dX12_explainsWithout_14 : decode cX12_explainsWithout 14 = .ok (.iload_n 1, 1) := by decide +kernel
theorem dX12_explainsWithout_15 : decode cX12_explainsWithout 15 = .ok (.iload_n 3, 1) := by decide +kernel
theorem dX12_explainsWithout_16 : decode cX12_explainsWithout 16 = .ok (.invokestatic 257, 3) := by decide +kernel
theorem dX12_explainsWithout_19 : decode cX12_explainsWithout 19 = .ok (.ifCond .ne 24, 3) := by decide +kernel
theorem dX12_explainsWithout_22 : decode cX12_explainsWithout 22 = .ok (.aload_n 0, 1) := by decide +kernel
theorem dX12_explainsWithout_23 : decode cX12_explainsWithout 23 = .ok (.getfield 58, 3) := by decide +kernel
theorem dX12_explainsWithout_26 : decode cX12_explainsWithout 26 = .ok (.iconst 1, 1) := by decide +kernel
theorem dX12_explainsWithout_27 : decode cX12_explainsWithout 27 = .ok (.iload_n 3, 1) := by decide +kernel
theorem dX12_explainsWithout_28 : decode cX12_explainsWithout 28 = .ok (.iadd, 1) := by decide +kernel
theorem dX12_explainsWithout_29 : decode cX12_explainsWithout 29 = .ok (.iaload, 1) := by decide +kernel
theorem dX12_explainsWithout_30 : decode cX12_explainsWithout 30 = .ok (.iconst 1, 1) := by decide +kernel
theorem dX12_explainsWithout_31 : decode cX12_explainsWithout 31 = .ok (.if_icmp .ne 12, 3) := by decide +kernel
theorem dX12_explainsWithout_34 : decode cX12_explainsWithout 34 = .ok (.iload_n 2, 1) := by decide +kernel
theorem dX12_explainsWithout_35 : decode cX12_explainsWithout 35 = .ok (.aload_n 0, 1) := by decide +kernel
theorem dX12_explainsWithout_36 : decode cX12_explainsWithout 36 = .ok (.getfield 74, 3) := by decide +kernel
theorem dX12_explainsWithout_39 : decode cX12_explainsWithout 39 = .ok (.iload_n 3, 1) := by decide +kernel
theorem dX12_explainsWithout_40 : decode cX12_explainsWithout 40 = .ok (.iaload, 1) := by decide +kernel
theorem dX12_explainsWithout_41 : decode cX12_explainsWithout 41 = .ok (.ior, 1) := by decide +kernel
theorem dX12_explainsWithout_42 : decode cX12_explainsWithout 42 = .ok (.istore_n 2, 1) := by decide +kernel
theorem dX12_explainsWithout_43 : decode cX12_explainsWithout 43 = .ok (.iinc 3 1, 3) := by decide +kernel
theorem dX12_explainsWithout_46 : decode cX12_explainsWithout 46 = .ok (.goto (-42), 3) := by decide +kernel
theorem dX12_explainsWithout_49 : decode cX12_explainsWithout 49 = .ok (.iconst 0, 1) := by decide +kernel
theorem dX12_explainsWithout_50 : decode cX12_explainsWithout 50 = .ok (.istore_n 3, 1) := by decide +kernel
theorem dX12_explainsWithout_51 : decode cX12_explainsWithout 51 = .ok (.iload_n 3, 1) := by decide +kernel
theorem dX12_explainsWithout_52 : decode cX12_explainsWithout 52 = .ok (.aload_n 0, 1) := by decide +kernel
theorem dX12_explainsWithout_53 : decode cX12_explainsWithout 53 = .ok (.getfield 58, 3) := by decide +kernel
theorem dX12_explainsWithout_56 : decode cX12_explainsWithout 56 = .ok (.iconst 0, 1) := by decide +kernel
theorem dX12_explainsWithout_57 : decode cX12_explainsWithout 57 = .ok (.iaload, 1) := by decide +kernel
theorem dX12_explainsWithout_58 : decode cX12_explainsWithout 58 = .ok (.if_icmp .ge 44, 3) := by decide +kernel
theorem dX12_explainsWithout_61 : decode cX12_explainsWithout 61 = .ok (.iload_n 1, 1) := by decide +kernel
theorem dX12_explainsWithout_62 : decode cX12_explainsWithout 62 = .ok (.iload_n 3, 1) := by decide +kernel
theorem dX12_explainsWithout_63 : decode cX12_explainsWithout 63 = .ok (.invokestatic 257, 3) := by decide +kernel
theorem dX12_explainsWithout_66 : decode cX12_explainsWithout 66 = .ok (.ifCond .ne 30, 3) := by decide +kernel
theorem dX12_explainsWithout_69 : decode cX12_explainsWithout 69 = .ok (.aload_n 0, 1) := by decide +kernel
theorem dX12_explainsWithout_70 : decode cX12_explainsWithout 70 = .ok (.getfield 58, 3) := by decide +kernel
theorem dX12_explainsWithout_73 : decode cX12_explainsWithout 73 = .ok (.iconst 1, 1) := by decide +kernel
theorem dX12_explainsWithout_74 : decode cX12_explainsWithout 74 = .ok (.iload_n 3, 1) := by decide +kernel
theorem dX12_explainsWithout_75 : decode cX12_explainsWithout 75 = .ok (.iadd, 1) := by decide +kernel
theorem dX12_explainsWithout_76 : decode cX12_explainsWithout 76 = .ok (.iaload, 1) := by decide +kernel
theorem dX12_explainsWithout_77 : decode cX12_explainsWithout 77 = .ok (.iconst 2, 1) := by decide +kernel
theorem dX12_explainsWithout_78 : decode cX12_explainsWithout 78 = .ok (.if_icmp .ne 18, 3) := by decide +kernel
theorem dX12_explainsWithout_81 : decode cX12_explainsWithout 81 = .ok (.aload_n 0, 1) := by decide +kernel
theorem dX12_explainsWithout_82 : decode cX12_explainsWithout 82 = .ok (.getfield 74, 3) := by decide +kernel
theorem dX12_explainsWithout_85 : decode cX12_explainsWithout 85 = .ok (.iload_n 3, 1) := by decide +kernel
theorem dX12_explainsWithout_86 : decode cX12_explainsWithout 86 = .ok (.iaload, 1) := by decide +kernel
theorem dX12_explainsWithout_87 : decode cX12_explainsWithout 87 = .ok (.iload_n 2, 1) := by decide +kernel
theorem dX12_explainsWithout_88 : decode cX12_explainsWithout 88 = .ok (.iconst (-1), 1) := by decide +kernel
theorem dX12_explainsWithout_89 : decode cX12_explainsWithout 89 = .ok (.ixor, 1) := by decide +kernel
theorem dX12_explainsWithout_90 : decode cX12_explainsWithout 90 = .ok (.iand, 1) := by decide +kernel
theorem dX12_explainsWithout_91 : decode cX12_explainsWithout 91 = .ok (.ifCond .ne 5, 3) := by decide +kernel
theorem dX12_explainsWithout_94 : decode cX12_explainsWithout 94 = .ok (.iconst 0, 1) := by decide +kernel
theorem dX12_explainsWithout_95 : decode cX12_explainsWithout 95 = .ok (.ireturn, 1) := by decide +kernel
theorem dX12_explainsWithout_96 : decode cX12_explainsWithout 96 = .ok (.iinc 3 1, 3) := by decide +kernel
theorem dX12_explainsWithout_99 : decode cX12_explainsWithout 99 = .ok (.goto (-48), 3) := by decide +kernel
theorem dX12_explainsWithout_102 : decode cX12_explainsWithout 102 = .ok (.iconst 1, 1) := by decide +kernel
theorem dX12_explainsWithout_103 : decode cX12_explainsWithout 103 = .ok (.ireturn, 1) := by decide +kernel
theorem dX12_fewestOut_0 : decode cX12_fewestOut 0 = .ok (.iconst (-1), 1) := by decide +kernel
theorem dX12_fewestOut_1 : decode cX12_fewestOut 1 = .ok (.istore_n 1, 1) := by decide +kernel
theorem dX12_fewestOut_2 : decode cX12_fewestOut 2 = .ok (.iconst 0, 1) := by decide +kernel
theorem dX12_fewestOut_3 : decode cX12_fewestOut 3 = .ok (.istore_n 2, 1) := by decide +kernel
theorem dX12_fewestOut_4 : decode cX12_fewestOut 4 = .ok (.iload_n 2, 1) := by decide +kernel
theorem dX12_fewestOut_5 : decode cX12_fewestOut 5 = .ok (.iconst 1, 1) := by decide +kernel
theorem dX12_fewestOut_6 : decode cX12_fewestOut 6 = .ok (.aload_n 0, 1) := by decide +kernel
theorem dX12_fewestOut_7 : decode cX12_fewestOut 7 = .ok (.getfield 58, 3) := by decide +kernel
theorem dX12_fewestOut_10 : decode cX12_fewestOut 10 = .ok (.iconst 0, 1) := by decide +kernel
theorem dX12_fewestOut_11 : decode cX12_fewestOut 11 = .ok (.iaload, 1) := by decide +kernel
theorem dX12_fewestOut_12 : decode cX12_fewestOut 12 = .ok (.ishl, 1) := by decide +kernel
theorem dX12_fewestOut_13 : decode cX12_fewestOut 13 = .ok (.if_icmp .ge 38, 3) := by decide +kernel
theorem dX12_fewestOut_16 : decode cX12_fewestOut 16 = .ok (.iload_n 2, 1) := by decide +kernel
theorem dX12_fewestOut_17 : decode cX12_fewestOut 17 = .ok (.aload_n 0, 1) := by decide +kernel
theorem dX12_fewestOut_18 : decode cX12_fewestOut 18 = .ok (.invokevirtual 357, 3) := by decide +kernel
theorem dX12_fewestOut_21 : decode cX12_fewestOut 21 = .ok (.iconst (-1), 1) := by decide +kernel
theorem dX12_fewestOut_22 : decode cX12_fewestOut 22 = .ok (.ixor, 1) := by decide +kernel
theorem dX12_fewestOut_23 : decode cX12_fewestOut 23 = .ok (.iand, 1) := by decide +kernel
theorem dX12_fewestOut_24 : decode cX12_fewestOut 24 = .ok (.ifCond .ne 21, 3) := by decide +kernel
theorem dX12_fewestOut_27 : decode cX12_fewestOut 27 = .ok (.iload_n 2, 1) := by decide +kernel
theorem dX12_fewestOut_28 : decode cX12_fewestOut 28 = .ok (.iload_n 1, 1) := by decide +kernel
theorem dX12_fewestOut_29 : decode cX12_fewestOut 29 = .ok (.invokestatic 360, 3) := by decide +kernel
theorem dX12_fewestOut_32 : decode cX12_fewestOut 32 = .ok (.ifCond .eq 13, 3) := by decide +kernel
theorem dX12_fewestOut_35 : decode cX12_fewestOut 35 = .ok (.aload_n 0, 1) := by decide +kernel
theorem dX12_fewestOut_36 : decode cX12_fewestOut 36 = .ok (.iload_n 2, 1) := by decide +kernel
theorem dX12_fewestOut_37 : decode cX12_fewestOut 37 = .ok (.invokevirtual 363, 3) := by decide +kernel
theorem dX12_fewestOut_40 : decode cX12_fewestOut 40 = .ok (.ifCond .eq 5, 3) := by decide +kernel
theorem dX12_fewestOut_43 : decode cX12_fewestOut 43 = .ok (.iload_n 2, 1) := by decide +kernel
theorem dX12_fewestOut_44 : decode cX12_fewestOut 44 = .ok (.istore_n 1, 1) := by decide +kernel
theorem dX12_fewestOut_45 : decode cX12_fewestOut 45 = .ok (.iinc 2 1, 3) := by decide +kernel
theorem dX12_fewestOut_48 : decode cX12_fewestOut 48 = .ok (.goto (-44), 3) := by decide +kernel
theorem dX12_fewestOut_51 : decode cX12_fewestOut 51 = .ok (.iload_n 1, 1) := by decide +kernel
theorem dX12_fewestOut_52 : decode cX12_fewestOut 52 = .ok (.ireturn, 1) := by decide +kernel
theorem dX12_disbelieved_0 : decode cX12_disbelieved 0 = .ok (.aload_n 0, 1) := by decide +kernel
theorem dX12_disbelieved_1 : decode cX12_disbelieved 1 = .ok (.invokevirtual 366, 3) := by decide +kernel
theorem dX12_disbelieved_4 : decode cX12_disbelieved 4 = .ok (.iload_n 1, 1) := by decide +kernel
theorem dX12_disbelieved_5 : decode cX12_disbelieved 5 = .ok (.invokestatic 369, 3) := by decide +kernel
theorem dX12_disbelieved_8 : decode cX12_disbelieved 8 = .ok (.ireturn, 1) := by decide +kernel
theorem dX12_blamed_0 : decode cX12_blamed 0 = .ok (.iload_n 1, 1) := by decide +kernel
theorem dX12_blamed_1 : decode cX12_blamed 1 = .ok (.iconst (-1), 1) := by decide +kernel
theorem dX12_blamed_2 : decode cX12_blamed 2 = .ok (.if_icmp .eq 13, 3) := by decide +kernel
theorem dX12_blamed_5 : decode cX12_blamed 5 = .ok (.aload_n 0, 1) := by decide +kernel
theorem dX12_blamed_6 : decode cX12_blamed 6 = .ok (.iload_n 1, 1) := by decide +kernel
theorem dX12_blamed_7 : decode cX12_blamed 7 = .ok (.invokevirtual 271, 3) := by decide +kernel
theorem dX12_blamed_10 : decode cX12_blamed 10 = .ok (.ifCond .ne 5, 3) := by decide +kernel
theorem dX12_blamed_13 : decode cX12_blamed 13 = .ok (.iconst (-1), 1) := by decide +kernel
theorem dX12_blamed_14 : decode cX12_blamed 14 = .ok (.ireturn, 1) := by decide +kernel
theorem dX12_blamed_15 : decode cX12_blamed 15 = .ok (.aload_n 0, 1) := by decide +kernel
theorem dX12_blamed_16 : decode cX12_blamed 16 = .ok (.invokevirtual 366, 3) := by decide +kernel
theorem dX12_blamed_19 : decode cX12_blamed 19 = .ok (.invokestatic 293, 3) := by decide +kernel
theorem dX12_blamed_22 : decode cX12_blamed 22 = .ok (.istore_n 2, 1) := by decide +kernel
theorem dX12_blamed_23 : decode cX12_blamed 23 = .ok (.iconst 0, 1) := by decide +kernel
theorem dX12_blamed_24 : decode cX12_blamed 24 = .ok (.istore_n 3, 1) := by decide +kernel
theorem dX12_blamed_25 : decode cX12_blamed 25 = .ok (.iconst 0, 1) := by decide +kernel
theorem dX12_blamed_26 : decode cX12_blamed 26 = .ok (.istore 4, 2) := by decide +kernel
theorem dX12_blamed_28 : decode cX12_blamed 28 = .ok (.iload 4, 2) := by decide +kernel
theorem dX12_blamed_30 : decode cX12_blamed 30 = .ok (.iconst 1, 1) := by decide +kernel
theorem dX12_blamed_31 : decode cX12_blamed 31 = .ok (.aload_n 0, 1) := by decide +kernel
theorem dX12_blamed_32 : decode cX12_blamed 32 = .ok (.getfield 58, 3) := by decide +kernel
theorem dX12_blamed_35 : decode cX12_blamed 35 = .ok (.iconst 0, 1) := by decide +kernel
theorem dX12_blamed_36 : decode cX12_blamed 36 = .ok (.iaload, 1) := by decide +kernel
theorem dX12_blamed_37 : decode cX12_blamed 37 = .ok (.ishl, 1) := by decide +kernel
theorem dX12_blamed_38 : decode cX12_blamed 38 = .ok (.if_icmp .ge 56, 3) := by decide +kernel
theorem dX12_blamed_41 : decode cX12_blamed 41 = .ok (.iload 4, 2) := by decide +kernel
theorem dX12_blamed_43 : decode cX12_blamed 43 = .ok (.aload_n 0, 1) := by decide +kernel
theorem dX12_blamed_44 : decode cX12_blamed 44 = .ok (.invokevirtual 357, 3) := by decide +kernel
theorem dX12_blamed_47 : decode cX12_blamed 47 = .ok (.iconst (-1), 1) := by decide +kernel
theorem dX12_blamed_48 : decode cX12_blamed 48 = .ok (.ixor, 1) := by decide +kernel
theorem dX12_blamed_49 : decode cX12_blamed 49 = .ok (.iand, 1) := by decide +kernel
theorem dX12_blamed_50 : decode cX12_blamed 50 = .ok (.ifCond .ne 38, 3) := by decide +kernel
theorem dX12_blamed_53 : decode cX12_blamed 53 = .ok (.iload 4, 2) := by decide +kernel
theorem dX12_blamed_55 : decode cX12_blamed 55 = .ok (.invokestatic 293, 3) := by decide +kernel
theorem dX12_blamed_58 : decode cX12_blamed 58 = .ok (.iload_n 2, 1) := by decide +kernel
theorem dX12_blamed_59 : decode cX12_blamed 59 = .ok (.if_icmp .ne 29, 3) := by decide +kernel
theorem dX12_blamed_62 : decode cX12_blamed 62 = .ok (.iload_n 1, 1) := by decide +kernel
theorem dX12_blamed_63 : decode cX12_blamed 63 = .ok (.iconst (-1), 1) := by decide +kernel
theorem dX12_blamed_64 : decode cX12_blamed 64 = .ok (.if_icmp .eq 12, 3) := by decide +kernel
theorem dX12_blamed_67 : decode cX12_blamed 67 = .ok (.iload 4, 2) := by decide +kernel
theorem dX12_blamed_69 : decode cX12_blamed 69 = .ok (.iload_n 1, 1) := by decide +kernel
theorem dX12_blamed_70 : decode cX12_blamed 70 = .ok (.invokestatic 257, 3) := by decide +kernel
theorem dX12_blamed_73 : decode cX12_blamed 73 = .ok (.ifCond .eq 15, 3) := by decide +kernel
theorem dX12_blamed_76 : decode cX12_blamed 76 = .ok (.aload_n 0, 1) := by decide +kernel
theorem dX12_blamed_77 : decode cX12_blamed 77 = .ok (.iload 4, 2) := by decide +kernel
theorem dX12_blamed_79 : decode cX12_blamed 79 = .ok (.invokevirtual 363, 3) := by decide +kernel
theorem dX12_blamed_82 : decode cX12_blamed 82 = .ok (.ifCond .eq 6, 3) := by decide +kernel
theorem dX12_blamed_85 : decode cX12_blamed 85 = .ok (.iinc 3 1, 3) := by decide +kernel
theorem dX12_blamed_88 : decode cX12_blamed 88 = .ok (.iinc 4 1, 3) := by decide +kernel
theorem dX12_blamed_91 : decode cX12_blamed 91 = .ok (.goto (-63), 3) := by decide +kernel
theorem dX12_blamed_94 : decode cX12_blamed 94 = .ok (.iload_n 3, 1) := by decide +kernel
theorem dX12_blamed_95 : decode cX12_blamed 95 = .ok (.ireturn, 1) := by decide +kernel
theorem dX12_seenLinks_0 : decode cX12_seenLinks 0 = .ok (.iconst 0, 1) := by decide +kernel
theorem dX12_seenLinks_1 : decode cX12_seenLinks 1 = .ok (.istore_n 1, 1) := by decide +kernel
theorem dX12_seenLinks_2 : decode cX12_seenLinks 2 = .ok (.iconst 0, 1) := by decide +kernel
theorem dX12_seenLinks_3 : decode cX12_seenLinks 3 = .ok (.istore_n 2, 1) := by decide +kernel
theorem dX12_seenLinks_4 : decode cX12_seenLinks 4 = .ok (.iload_n 2, 1) := by decide +kernel
theorem dX12_seenLinks_5 : decode cX12_seenLinks 5 = .ok (.aload_n 0, 1) := by decide +kernel
theorem dX12_seenLinks_6 : decode cX12_seenLinks 6 = .ok (.getfield 58, 3) := by decide +kernel
theorem dX12_seenLinks_9 : decode cX12_seenLinks 9 = .ok (.iconst 0, 1) := by decide +kernel
theorem dX12_seenLinks_10 : decode cX12_seenLinks 10 = .ok (.iaload, 1) := by decide +kernel
theorem dX12_seenLinks_11 : decode cX12_seenLinks 11 = .ok (.if_icmp .ge 18, 3) := by decide +kernel
theorem dX12_seenLinks_14 : decode cX12_seenLinks 14 = .ok (.iload_n 1, 1) := by decide +kernel
theorem dX12_seenLinks_15 : decode cX12_seenLinks 15 = .ok (.aload_n 0, 1) := by decide +kernel
theorem dX12_seenLinks_16 : decode cX12_seenLinks 16 = .ok (.getfield 74, 3) := by decide +kernel
theorem dX12_seenLinks_19 : decode cX12_seenLinks 19 = .ok (.iload_n 2, 1) := by decide +kernel
theorem dX12_seenLinks_20 : decode cX12_seenLinks 20 = .ok (.iaload, 1) := by decide +kernel
theorem dX12_seenLinks_21 : decode cX12_seenLinks 21 = .ok (.ior, 1) := by decide +kernel
theorem dX12_seenLinks_22 : decode cX12_seenLinks 22 = .ok (.istore_n 1, 1) := by decide +kernel
theorem dX12_seenLinks_23 : decode cX12_seenLinks 23 = .ok (.iinc 2 1, 3) := by decide +kernel
theorem dX12_seenLinks_26 : decode cX12_seenLinks 26 = .ok (.goto (-22), 3) := by decide +kernel
theorem dX12_seenLinks_29 : decode cX12_seenLinks 29 = .ok (.iload_n 1, 1) := by decide +kernel
theorem dX12_seenLinks_30 : decode cX12_seenLinks 30 = .ok (.ireturn, 1) := by decide +kernel
theorem dX12_level_0 : decode cX12_level 0 = .ok (.aload_n 0, 1) := by decide +kernel
theorem dX12_level_1 : decode cX12_level 1 = .ok (.invokevirtual 372, 3) := by decide +kernel
theorem dX12_level_4 : decode cX12_level 4 = .ok (.istore_n 1, 1) := by decide +kernel
theorem dX12_level_5 : decode cX12_level 5 = .ok (.iconst 0, 1) := by decide +kernel
theorem dX12_level_6 : decode cX12_level 6 = .ok (.istore_n 2, 1) := by decide +kernel
theorem dX12_level_7 : decode cX12_level 7 = .ok (.iload_n 2, 1) := by decide +kernel
theorem dX12_level_8 : decode cX12_level 8 = .ok (.sipush 4096, 3) := by decide +kernel
theorem dX12_level_11 : decode cX12_level 11 = .ok (.if_icmp .ge 16, 3) := by decide +kernel
theorem dX12_level_14 : decode cX12_level 14 = .ok (.aload_n 0, 1) := by decide +kernel
theorem dX12_level_15 : decode cX12_level 15 = .ok (.getfield 83, 3) := by decide +kernel
theorem dX12_level_18 : decode cX12_level 18 = .ok (.iload_n 2, 1) := by decide +kernel
theorem dX12_level_19 : decode cX12_level 19 = .ok (.iconst 0, 1) := by decide +kernel
theorem dX12_level_20 : decode cX12_level 20 = .ok (.bastore, 1) := by decide +kernel
theorem dX12_level_21 : decode cX12_level 21 = .ok (.iinc 2 1, 3) := by decide +kernel
theorem dX12_level_24 : decode cX12_level 24 = .ok (.goto (-17), 3) := by decide +kernel
theorem dX12_level_27 : decode cX12_level 27 = .ok (.iconst 0, 1) := by decide +kernel
theorem dX12_level_28 : decode cX12_level 28 = .ok (.istore_n 2, 1) := by decide +kernel
theorem dX12_level_29 : decode cX12_level 29 = .ok (.iload_n 2, 1) := by decide +kernel
theorem dX12_level_30 : decode cX12_level 30 = .ok (.iload_n 1, 1) := by decide +kernel
theorem dX12_level_31 : decode cX12_level 31 = .ok (.invokestatic 293, 3) := by decide +kernel
theorem dX12_level_34 : decode cX12_level 34 = .ok (.if_icmp .gt 74, 3) := by decide +kernel
theorem dX12_level_37 : decode cX12_level 37 = .ok (.iconst 0, 1) := by decide +kernel
theorem dX12_level_38 : decode cX12_level 38 = .ok (.istore_n 3, 1) := by decide +kernel
theorem dX12_level_39 : decode cX12_level 39 = .ok (.iload_n 3, 1) := by decide +kernel
theorem dX12_level_40 : decode cX12_level 40 = .ok (.iconst 1, 1) := by decide +kernel
theorem dX12_level_41 : decode cX12_level 41 = .ok (.aload_n 0, 1) := by decide +kernel
theorem dX12_level_42 : decode cX12_level 42 = .ok (.getfield 200, 3) := by decide +kernel
theorem dX12_level_45 : decode cX12_level 45 = .ok (.ishl, 1) := by decide +kernel
theorem dX12_level_46 : decode cX12_level 46 = .ok (.if_icmp .ge 56, 3) := by decide +kernel
theorem dX12_level_49 : decode cX12_level 49 = .ok (.iload_n 3, 1) := by decide +kernel
theorem dX12_level_50 : decode cX12_level 50 = .ok (.iload_n 1, 1) := by decide +kernel
theorem dX12_level_51 : decode cX12_level 51 = .ok (.iconst (-1), 1) := by decide +kernel
