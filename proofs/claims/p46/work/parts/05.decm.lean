theorem dX12_init_0 : decode cX12_init 0 = .ok (.aload_n 0, 1) := by decide +kernel
theorem dX12_init_1 : decode cX12_init 1 = .ok (.invokespecial 1, 3) := by decide +kernel
theorem dX12_init_4 : decode cX12_init 4 = .ok (.aload_n 0, 1) := by decide +kernel
theorem dX12_init_5 : decode cX12_init 5 = .ok (.bipush 50, 2) := by decide +kernel
theorem dX12_init_7 : decode cX12_init 7 = .ok (.putfield 7, 3) := by decide +kernel
theorem dX12_init_10 : decode cX12_init 10 = .ok (.aload_n 0, 1) := by decide +kernel
theorem dX12_init_11 : decode cX12_init 11 = .ok (.iconst 1, 1) := by decide +kernel
theorem dX12_init_12 : decode cX12_init 12 = .ok (.putfield 13, 3) := by decide +kernel
theorem dX12_init_15 : decode cX12_init 15 = .ok (.aload_n 0, 1) := by decide +kernel
theorem dX12_init_16 : decode cX12_init 16 = .ok (.iconst 1, 1) := by decide +kernel
theorem dX12_init_17 : decode cX12_init 17 = .ok (.putfield 16, 3) := by decide +kernel
theorem dX12_init_20 : decode cX12_init 20 = .ok (.aload_n 0, 1) := by decide +kernel
theorem dX12_init_21 : decode cX12_init 21 = .ok (.bipush 26, 2) := by decide +kernel
theorem dX12_init_23 : decode cX12_init 23 = .ok (.newarray .int, 2) := by decide +kernel
theorem dX12_init_25 : decode cX12_init 25 = .ok (.putfield 19, 3) := by decide +kernel
theorem dX12_init_28 : decode cX12_init 28 = .ok (.aload_n 0, 1) := by decide +kernel
theorem dX12_init_29 : decode cX12_init 29 = .ok (.new 23, 3) := by decide +kernel
theorem dX12_init_32 : decode cX12_init 32 = .ok (.dup, 1) := by decide +kernel
theorem dX12_init_33 : decode cX12_init 33 = .ok (.invokespecial 25, 3) := by decide +kernel
theorem dX12_init_36 : decode cX12_init 36 = .ok (.putfield 26, 3) := by decide +kernel
theorem dX12_init_39 : decode cX12_init 39 = .ok (.aload_n 0, 1) := by decide +kernel
theorem dX12_init_40 : decode cX12_init 40 = .ok (.new 23, 3) := by decide +kernel
theorem dX12_init_43 : decode cX12_init 43 = .ok (.dup, 1) := by decide +kernel
theorem dX12_init_44 : decode cX12_init 44 = .ok (.invokespecial 25, 3) := by decide +kernel
theorem dX12_init_47 : decode cX12_init 47 = .ok (.putfield 30, 3) := by decide +kernel
theorem dX12_init_50 : decode cX12_init 50 = .ok (.aload_n 0, 1) := by decide +kernel
theorem dX12_init_51 : decode cX12_init 51 = .ok (.new 23, 3) := by decide +kernel
theorem dX12_init_54 : decode cX12_init 54 = .ok (.dup, 1) := by decide +kernel
theorem dX12_init_55 : decode cX12_init 55 = .ok (.invokespecial 25, 3) := by decide +kernel
theorem dX12_init_58 : decode cX12_init 58 = .ok (.putfield 33, 3) := by decide +kernel
theorem dX12_init_61 : decode cX12_init 61 = .ok (.aload_n 0, 1) := by decide +kernel
theorem dX12_init_62 : decode cX12_init 62 = .ok (.new 23, 3) := by decide +kernel
theorem dX12_init_65 : decode cX12_init 65 = .ok (.dup, 1) := by decide +kernel
theorem dX12_init_66 : decode cX12_init 66 = .ok (.invokespecial 25, 3) := by decide +kernel
theorem dX12_init_69 : decode cX12_init 69 = .ok (.putfield 36, 3) := by decide +kernel
theorem dX12_init_72 : decode cX12_init 72 = .ok (.aload_n 0, 1) := by decide +kernel
theorem dX12_init_73 : decode cX12_init 73 = .ok (.ldc 39, 2) := by decide +kernel
theorem dX12_init_75 : decode cX12_init 75 = .ok (.putfield 41, 3) := by decide +kernel
theorem dX12_init_78 : decode cX12_init 78 = .ok (.return_, 1) := by decide +kernel
theorem dX12_grown_0 : decode cX12_grown 0 = .ok (.new 8, 3) := by decide +kernel
theorem dX12_grown_3 : decode cX12_grown 3 = .ok (.dup, 1) := by decide +kernel
theorem dX12_grown_4 : decode cX12_grown 4 = .ok (.invokespecial 45, 3) := by decide +kernel
theorem dX12_grown_7 : decode cX12_grown 7 = .ok (.astore_n 1, 1) := by decide +kernel
theorem dX12_grown_8 : decode cX12_grown 8 = .ok (.new 46, 3) := by decide +kernel
theorem dX12_grown_11 : decode cX12_grown 11 = .ok (.dup, 1) := by decide +kernel
theorem dX12_grown_12 : decode cX12_grown 12 = .ok (.invokespecial 48, 3) := by decide +kernel
theorem dX12_grown_15 : decode cX12_grown 15 = .ok (.astore_n 2, 1) := by decide +kernel
theorem dX12_grown_16 : decode cX12_grown 16 = .ok (.aload_n 1, 1) := by decide +kernel
theorem dX12_grown_17 : decode cX12_grown 17 = .ok (.getfield 19, 3) := by decide +kernel
theorem dX12_grown_20 : decode cX12_grown 20 = .ok (.iconst 4, 1) := by decide +kernel
theorem dX12_grown_21 : decode cX12_grown 21 = .ok (.invokestatic 49, 3) := by decide +kernel
theorem dX12_grown_24 : decode cX12_grown 24 = .ok (.aload_n 0, 1) := by decide +kernel
theorem dX12_grown_25 : decode cX12_grown 25 = .ok (.iconst 1, 1) := by decide +kernel
theorem dX12_grown_26 : decode cX12_grown 26 = .ok (.iconst 5, 1) := by decide +kernel
theorem dX12_grown_27 : decode cX12_grown 27 = .ok (.invokestatic 55, 3) := by decide +kernel
theorem dX12_grown_30 : decode cX12_grown 30 = .ok (.istore_n 3, 1) := by decide +kernel
theorem dX12_grown_31 : decode cX12_grown 31 = .ok (.iconst 0, 1) := by decide +kernel
theorem dX12_grown_32 : decode cX12_grown 32 = .ok (.istore 4, 2) := by decide +kernel
theorem dX12_grown_34 : decode cX12_grown 34 = .ok (.iload 4, 2) := by decide +kernel
theorem dX12_grown_36 : decode cX12_grown 36 = .ok (.iload_n 3, 1) := by decide +kernel
theorem dX12_grown_37 : decode cX12_grown 37 = .ok (.if_icmp .ge 174, 3) := by decide +kernel
theorem dX12_grown_40 : decode cX12_grown 40 = .ok (.iconst 4, 1) := by decide +kernel
theorem dX12_grown_41 : decode cX12_grown 41 = .ok (.newarray .int, 2) := by decide +kernel
theorem dX12_grown_43 : decode cX12_grown 43 = .ok (.dup, 1) := by decide +kernel
theorem dX12_grown_44 : decode cX12_grown 44 = .ok (.iconst 0, 1) := by decide +kernel
theorem dX12_grown_45 : decode cX12_grown 45 = .ok (.iconst 1, 1) := by decide +kernel
theorem dX12_grown_46 : decode cX12_grown 46 = .ok (.aload_n 0, 1) := by decide +kernel
theorem dX12_grown_47 : decode cX12_grown 47 = .ok (.bipush 10, 2) := by decide +kernel
theorem dX12_grown_49 : decode cX12_grown 49 = .ok (.iload 4, 2) := by decide +kernel
theorem dX12_grown_51 : decode cX12_grown 51 = .ok (.iadd, 1) := by decide +kernel
theorem dX12_grown_52 : decode cX12_grown 52 = .ok (.bipush 60, 2) := by decide +kernel
theorem dX12_grown_54 : decode cX12_grown 54 = .ok (.invokestatic 55, 3) := by decide +kernel
theorem dX12_grown_57 : decode cX12_grown 57 = .ok (.iadd, 1) := by decide +kernel
theorem dX12_grown_58 : decode cX12_grown 58 = .ok (.iastore, 1) := by decide +kernel
theorem dX12_grown_59 : decode cX12_grown 59 = .ok (.dup, 1) := by decide +kernel
theorem dX12_grown_60 : decode cX12_grown 60 = .ok (.iconst 1, 1) := by decide +kernel
theorem dX12_grown_61 : decode cX12_grown 61 = .ok (.iconst 1, 1) := by decide +kernel
theorem dX12_grown_62 : decode cX12_grown 62 = .ok (.aload_n 0, 1) := by decide +kernel
theorem dX12_grown_63 : decode cX12_grown 63 = .ok (.bipush 20, 2) := by decide +kernel
theorem dX12_grown_65 : decode cX12_grown 65 = .ok (.iload 4, 2) := by decide +kernel
theorem dX12_grown_67 : decode cX12_grown 67 = .ok (.iadd, 1) := by decide +kernel
theorem dX12_grown_68 : decode cX12_grown 68 = .ok (.bipush 90, 2) := by decide +kernel
theorem dX12_grown_70 : decode cX12_grown 70 = .ok (.invokestatic 55, 3) := by decide +kernel
theorem dX12_grown_73 : decode cX12_grown 73 = .ok (.iadd, 1) := by decide +kernel
theorem dX12_grown_74 : decode cX12_grown 74 = .ok (.iastore, 1) := by decide +kernel
theorem dX12_grown_75 : decode cX12_grown 75 = .ok (.dup, 1) := by decide +kernel
theorem dX12_grown_76 : decode cX12_grown 76 = .ok (.iconst 2, 1) := by decide +kernel
theorem dX12_grown_77 : decode cX12_grown 77 = .ok (.aload_n 0, 1) := by decide +kernel
theorem dX12_grown_78 : decode cX12_grown 78 = .ok (.bipush 30, 2) := by decide +kernel
theorem dX12_grown_80 : decode cX12_grown 80 = .ok (.iload 4, 2) := by decide +kernel
theorem dX12_grown_82 : decode cX12_grown 82 = .ok (.iadd, 1) := by decide +kernel
theorem dX12_grown_83 : decode cX12_grown 83 = .ok (.iconst 2, 1) := by decide +kernel
theorem dX12_grown_84 : decode cX12_grown 84 = .ok (.invokestatic 55, 3) := by decide +kernel
theorem dX12_grown_87 : decode cX12_grown 87 = .ok (.iastore, 1) := by decide +kernel
theorem dX12_grown_88 : decode cX12_grown 88 = .ok (.dup, 1) := by decide +kernel
theorem dX12_grown_89 : decode cX12_grown 89 = .ok (.iconst 3, 1) := by decide +kernel
theorem dX12_grown_90 : decode cX12_grown 90 = .ok (.aload_n 0, 1) := by decide +kernel
theorem dX12_grown_91 : decode cX12_grown 91 = .ok (.bipush 40, 2) := by decide +kernel
theorem dX12_grown_93 : decode cX12_grown 93 = .ok (.iload 4, 2) := by decide +kernel
theorem dX12_grown_95 : decode cX12_grown 95 = .ok (.iadd, 1) := by decide +kernel
theorem dX12_grown_96 : decode cX12_grown 96 = .ok (.iconst 2, 1) := by decide +kernel
theorem dX12_grown_97 : decode cX12_grown 97 = .ok (.invokestatic 55, 3) := by decide +kernel
theorem dX12_grown_100 : decode cX12_grown 100 = .ok (.ifCond .ne 8, 3) := by decide +kernel
theorem dX12_grown_103 : decode cX12_grown 103 = .ok (.bipush 30, 2) := by decide +kernel
theorem dX12_grown_105 : decode cX12_grown 105 = .ok (.goto 14, 3) := by decide +kernel
theorem dX12_grown_108 : decode cX12_grown 108 = .ok (.aload_n 0, 1) := by decide +kernel
theorem dX12_grown_109 : decode cX12_grown 109 = .ok (.bipush 50, 2) := by decide +kernel
theorem dX12_grown_111 : decode cX12_grown 111 = .ok (.iload 4, 2) := by decide +kernel
theorem dX12_grown_113 : decode cX12_grown 113 = .ok (.iadd, 1) := by decide +kernel
theorem dX12_grown_114 : decode cX12_grown 114 = .ok (.bipush 100, 2) := by decide +kernel
theorem dX12_grown_116 : decode cX12_grown 116 = .ok (.invokestatic 55, 3) := by decide +kernel
theorem dX12_grown_119 : decode cX12_grown 119 = .ok (.iastore, 1) := by decide +kernel
theorem dX12_grown_120 : decode cX12_grown 120 = .ok (.astore 5, 2) := by decide +kernel
theorem dX12_grown_122 : decode cX12_grown 122 = .ok (.aload_n 2, 1) := by decide +kernel
theorem dX12_grown_123 : decode cX12_grown 123 = .ok (.ldc 61, 2) := by decide +kernel
theorem dX12_grown_125 : decode cX12_grown 125 = .ok (.invokevirtual 63, 3) := by decide +kernel
theorem dX12_grown_128 : decode cX12_grown 128 = .ok (.aload 5, 2) := by decide +kernel
theorem dX12_grown_130 : decode cX12_grown 130 = .ok (.iconst 0, 1) := by decide +kernel
theorem dX12_grown_131 : decode cX12_grown 131 = .ok (.iaload, 1) := by decide +kernel
theorem dX12_grown_132 : decode cX12_grown 132 = .ok (.invokevirtual 67, 3) := by decide +kernel
theorem dX12_grown_135 : decode cX12_grown 135 = .ok (.ldc 70, 2) := by decide +kernel
theorem dX12_grown_137 : decode cX12_grown 137 = .ok (.invokevirtual 63, 3) := by decide +kernel
theorem dX12_grown_140 : decode cX12_grown 140 = .ok (.aload 5, 2) := by decide +kernel
theorem dX12_grown_142 : decode cX12_grown 142 = .ok (.iconst 1, 1) := by decide +kernel
theorem dX12_grown_143 : decode cX12_grown 143 = .ok (.iaload, 1) := by decide +kernel
theorem dX12_grown_144 : decode cX12_grown 144 = .ok (.invokevirtual 67, 3) := by decide +kernel
theorem dX12_grown_147 : decode cX12_grown 147 = .ok (.pop, 1) := by decide +kernel
theorem dX12_grown_148 : decode cX12_grown 148 = .ok (.aload 5, 2) := by decide +kernel
theorem dX12_grown_150 : decode cX12_grown 150 = .ok (.iconst 2, 1) := by decide +kernel
theorem dX12_grown_151 : decode cX12_grown 151 = .ok (.iaload, 1) := by decide +kernel
theorem dX12_grown_152 : decode cX12_grown 152 = .ok (.iconst 1, 1) := by decide +kernel
theorem dX12_grown_153 : decode cX12_grown 153 = .ok (.if_icmp .ne 10, 3) := by decide +kernel
theorem dX12_grown_156 : decode cX12_grown 156 = .ok (.aload_n 2, 1) := by decide +kernel
theorem dX12_grown_157 : decode cX12_grown 157 = .ok (.ldc 72, 2) := by decide +kernel
theorem dX12_grown_159 : decode cX12_grown 159 = .ok (.invokevirtual 63, 3) := by decide +kernel
theorem dX12_grown_162 : decode cX12_grown 162 = .ok (.pop, 1) := by decide +kernel
theorem dX12_grown_163 : decode cX12_grown 163 = .ok (.aload 5, 2) := by decide +kernel
theorem dX12_grown_165 : decode cX12_grown 165 = .ok (.iconst 3, 1) := by decide +kernel
theorem dX12_grown_166 : decode cX12_grown 166 = .ok (.iaload, 1) := by decide +kernel
theorem dX12_grown_167 : decode cX12_grown 167 = .ok (.bipush 30, 2) := by decide +kernel
theorem dX12_grown_169 : decode cX12_grown 169 = .ok (.if_icmp .eq 17, 3) := by decide +kernel
theorem dX12_grown_172 : decode cX12_grown 172 = .ok (.aload_n 2, 1) := by decide +kernel
theorem dX12_grown_173 : decode cX12_grown 173 = .ok (.ldc 74, 2) := by decide +kernel
theorem dX12_grown_175 : decode cX12_grown 175 = .ok (.invokevirtual 63, 3) := by decide +kernel
theorem dX12_grown_178 : decode cX12_grown 178 = .ok (.aload 5, 2) := by decide +kernel
theorem dX12_grown_180 : decode cX12_grown 180 = .ok (.iconst 3, 1) := by decide +kernel
theorem dX12_grown_181 : decode cX12_grown 181 = .ok (.iaload, 1) := by decide +kernel
theorem dX12_grown_182 : decode cX12_grown 182 = .ok (.invokevirtual 67, 3) := by decide +kernel
theorem dX12_grown_185 : decode cX12_grown 185 = .ok (.pop, 1) := by decide +kernel
theorem dX12_grown_186 : decode cX12_grown 186 = .ok (.aload_n 2, 1) := by decide +kernel
theorem dX12_grown_187 : decode cX12_grown 187 = .ok (.ldc 76, 2) := by decide +kernel
theorem dX12_grown_189 : decode cX12_grown 189 = .ok (.invokevirtual 63, 3) := by decide +kernel
theorem dX12_grown_192 : decode cX12_grown 192 = .ok (.pop, 1) := by decide +kernel
theorem dX12_grown_193 : decode cX12_grown 193 = .ok (.aload_n 1, 1) := by decide +kernel
theorem dX12_grown_194 : decode cX12_grown 194 = .ok (.getfield 26, 3) := by decide +kernel
theorem dX12_grown_197 : decode cX12_grown 197 = .ok (.aload 5, 2) := by decide +kernel
theorem dX12_grown_199 : decode cX12_grown 199 = .ok (.invokeinterface 78 2, 5) := by decide +kernel
theorem dX12_grown_204 : decode cX12_grown 204 = .ok (.pop, 1) := by decide +kernel
theorem dX12_grown_205 : decode cX12_grown 205 = .ok (.iinc 4 1, 3) := by decide +kernel
theorem dX12_grown_208 : decode cX12_grown 208 = .ok (.goto (-174), 3) := by decide +kernel
theorem dX12_grown_211 : decode cX12_grown 211 = .ok (.iconst 0, 1) := by decide +kernel
theorem dX12_grown_212 : decode cX12_grown 212 = .ok (.istore 4, 2) := by decide +kernel
theorem dX12_grown_214 : decode cX12_grown 214 = .ok (.iload 4, 2) := by decide +kernel
theorem dX12_grown_216 : decode cX12_grown 216 = .ok (.aload_n 0, 1) := by decide +kernel
theorem dX12_grown_217 : decode cX12_grown 217 = .ok (.iconst 2, 1) := by decide +kernel
theorem dX12_grown_218 : decode cX12_grown 218 = .ok (.iconst 3, 1) := by decide +kernel
theorem dX12_grown_219 : decode cX12_grown 219 = .ok (.invokestatic 55, 3) := by decide +kernel
theorem dX12_grown_222 : decode cX12_grown 222 = .ok (.if_icmp .ge 103, 3) := by decide +kernel
theorem dX12_grown_225 : decode cX12_grown 225 = .ok (.aload_n 2, 1) := by decide +kernel
theorem dX12_grown_226 : decode cX12_grown 226 = .ok (.ldc 84, 2) := by decide +kernel
theorem dX12_grown_228 : decode cX12_grown 228 = .ok (.invokevirtual 63, 3) := by decide +kernel
theorem dX12_grown_231 : decode cX12_grown 231 = .ok (.pop, 1) := by decide +kernel
theorem dX12_grown_232 : decode cX12_grown 232 = .ok (.iconst 0, 1) := by decide +kernel
theorem dX12_grown_233 : decode cX12_grown 233 = .ok (.istore 5, 2) := by decide +kernel
theorem dX12_grown_235 : decode cX12_grown 235 = .ok (.iload 5, 2) := by decide +kernel
theorem dX12_grown_237 : decode cX12_grown 237 = .ok (.aload_n 0, 1) := by decide +kernel
theorem dX12_grown_238 : decode cX12_grown 238 = .ok (.bipush 60, 2) := by decide +kernel
theorem dX12_grown_240 : decode cX12_grown 240 = .ok (.iload 4, 2) := by decide +kernel
theorem dX12_grown_242 : decode cX12_grown 242 = .ok (.iadd, 1) := by decide +kernel
theorem dX12_grown_243 : decode cX12_grown 243 = .ok (.iconst 5, 1) := by decide +kernel
theorem dX12_grown_244 : decode cX12_grown 244 = .ok (.invokestatic 55, 3) := by decide +kernel
theorem dX12_grown_247 : decode cX12_grown 247 = .ok (.if_icmp .gt 65, 3) := by decide +kernel
theorem dX12_grown_250 : decode cX12_grown 250 = .ok (.aload_n 0, 1) := by decide +kernel
theorem dX12_grown_251 : decode cX12_grown 251 = .ok (.bipush 70, 2) := by decide +kernel
theorem dX12_grown_253 : decode cX12_grown 253 = .ok (.bipush 8, 2) := by decide +kernel
theorem dX12_grown_255 : decode cX12_grown 255 = .ok (.iload 4, 2) := by decide +kernel
theorem dX12_grown_257 : decode cX12_grown 257 = .ok (.imul, 1) := by decide +kernel
theorem dX12_grown_258 : decode cX12_grown 258 = .ok (.iadd, 1) := by decide +kernel
theorem dX12_grown_259 : decode cX12_grown 259 = .ok (.iload 5, 2) := by decide +kernel
theorem dX12_grown_261 : decode cX12_grown 261 = .ok (.iadd, 1) := by decide +kernel
theorem dX12_grown_262 : decode cX12_grown 262 = .ok (.bipush 26, 2) := by decide +kernel
theorem dX12_grown_264 : decode cX12_grown 264 = .ok (.invokestatic 55, 3) := by decide +kernel
theorem dX12_grown_267 : decode cX12_grown 267 = .ok (.istore 6, 2) := by decide +kernel
theorem dX12_grown_269 : decode cX12_grown 269 = .ok (.aload_n 2, 1) := by decide +kernel
theorem dX12_grown_270 : decode cX12_grown 270 = .ok (.bipush 97, 2) := by decide +kernel
theorem dX12_grown_272 : decode cX12_grown 272 = .ok (.iload 6, 2) := by decide +kernel
theorem dX12_grown_274 : decode cX12_grown 274 = .ok (.iadd, 1) := by decide +kernel
theorem dX12_grown_275 : decode cX12_grown 275 = .ok (.i2c, 1) := by decide +kernel
theorem dX12_grown_276 : decode cX12_grown 276 = .ok (.invokevirtual 86, 3) := by decide +kernel
theorem dX12_grown_279 : decode cX12_grown 279 = .ok (.pop, 1) := by decide +kernel
theorem dX12_grown_280 : decode cX12_grown 280 = .ok (.aload_n 1, 1) := by decide +kernel
theorem dX12_grown_281 : decode cX12_grown 281 = .ok (.getfield 30, 3) := by decide +kernel
theorem dX12_grown_284 : decode cX12_grown 284 = .ok (.iconst 3, 1) := by decide +kernel
theorem dX12_grown_285 : decode cX12_grown 285 = .ok (.newarray .int, 2) := by decide +kernel
theorem dX12_grown_287 : decode cX12_grown 287 = .ok (.dup, 1) := by decide +kernel
theorem dX12_grown_288 : decode cX12_grown 288 = .ok (.iconst 0, 1) := by decide +kernel
theorem dX12_grown_289 : decode cX12_grown 289 = .ok (.iload 6, 2) := by decide +kernel
theorem dX12_grown_291 : decode cX12_grown 291 = .ok (.iastore, 1) := by decide +kernel
theorem dX12_grown_292 : decode cX12_grown 292 = .ok (.dup, 1) := by decide +kernel
theorem dX12_grown_293 : decode cX12_grown 293 = .ok (.iconst 1, 1) := by decide +kernel
theorem dX12_grown_294 : decode cX12_grown 294 = .ok (.iconst 0, 1) := by decide +kernel
theorem dX12_grown_295 : decode cX12_grown 295 = .ok (.iastore, 1) := by decide +kernel
theorem dX12_grown_296 : decode cX12_grown 296 = .ok (.dup, 1) := by decide +kernel
theorem dX12_grown_297 : decode cX12_grown 297 = .ok (.iconst 2, 1) := by decide +kernel
theorem dX12_grown_298 : decode cX12_grown 298 = .ok (.iconst 0, 1) := by decide +kernel
theorem dX12_grown_299 : decode cX12_grown 299 = .ok (.iastore, 1) := by decide +kernel
theorem dX12_grown_300 : decode cX12_grown 300 = .ok (.invokeinterface 78 2, 5) := by decide +kernel
theorem dX12_grown_305 : decode cX12_grown 305 = .ok (.pop, 1) := by decide +kernel
theorem dX12_grown_306 : decode cX12_grown 306 = .ok (.iinc 5 1, 3) := by decide +kernel
theorem dX12_grown_309 : decode cX12_grown 309 = .ok (.goto (-74), 3) := by decide +kernel
theorem dX12_grown_312 : decode cX12_grown 312 = .ok (.aload_n 2, 1) := by decide +kernel
theorem dX12_grown_313 : decode cX12_grown 313 = .ok (.ldc 89, 2) := by decide +kernel
theorem dX12_grown_315 : decode cX12_grown 315 = .ok (.invokevirtual 63, 3) := by decide +kernel
theorem dX12_grown_318 : decode cX12_grown 318 = .ok (.pop, 1) := by decide +kernel
theorem dX12_grown_319 : decode cX12_grown 319 = .ok (.iinc 4 1, 3) := by decide +kernel
theorem dX12_grown_322 : decode cX12_grown 322 = .ok (.goto (-108), 3) := by decide +kernel
theorem dX12_grown_325 : decode cX12_grown 325 = .ok (.iconst 0, 1) := by decide +kernel
theorem dX12_grown_326 : decode cX12_grown 326 = .ok (.istore 4, 2) := by decide +kernel
theorem dX12_grown_328 : decode cX12_grown 328 = .ok (.iload 4, 2) := by decide +kernel
theorem dX12_grown_330 : decode cX12_grown 330 = .ok (.iconst 3, 1) := by decide +kernel
theorem dX12_grown_331 : decode cX12_grown 331 = .ok (.if_icmp .ge 78, 3) := by decide +kernel
theorem dX12_grown_334 : decode cX12_grown 334 = .ok (.aload_n 0, 1) := by decide +kernel
theorem dX12_grown_335 : decode cX12_grown 335 = .ok (.bipush 100, 2) := by decide +kernel
theorem dX12_grown_337 : decode cX12_grown 337 = .ok (.iload 4, 2) := by decide +kernel
theorem dX12_grown_339 : decode cX12_grown 339 = .ok (.iadd, 1) := by decide +kernel
theorem dX12_grown_340 : decode cX12_grown 340 = .ok (.bipush 26, 2) := by decide +kernel
theorem dX12_grown_342 : decode cX12_grown 342 = .ok (.invokestatic 55, 3) := by decide +kernel
theorem dX12_grown_345 : decode cX12_grown 345 = .ok (.istore 5, 2) := by decide +kernel
theorem dX12_grown_347 : decode cX12_grown 347 = .ok (.aload_n 1, 1) := by decide +kernel
theorem dX12_grown_348 : decode cX12_grown 348 = .ok (.getfield 19, 3) := by decide +kernel
theorem dX12_grown_351 : decode cX12_grown 351 = .ok (.iload 5, 2) := by decide +kernel
theorem dX12_grown_353 : decode cX12_grown 353 = .ok (.iconst 1, 1) := by decide +kernel
theorem dX12_grown_354 : decode cX12_grown 354 = .ok (.aload_n 0, 1) := by decide +kernel
theorem dX12_grown_355 : decode cX12_grown 355 = .ok (.bipush 110, 2) := by decide +kernel
theorem dX12_grown_357 : decode cX12_grown 357 = .ok (.iload 4, 2) := by decide +kernel
theorem dX12_grown_359 : decode cX12_grown 359 = .ok (.iadd, 1) := by decide +kernel
theorem dX12_grown_360 : decode cX12_grown 360 = .ok (.bipush 9, 2) := by decide +kernel
theorem dX12_grown_362 : decode cX12_grown 362 = .ok (.invokestatic 55, 3) := by decide +kernel
theorem dX12_grown_365 : decode cX12_grown 365 = .ok (.iadd, 1) := by decide +kernel
theorem dX12_grown_366 : decode cX12_grown 366 = .ok (.iastore, 1) := by decide +kernel
theorem dX12_grown_367 : decode cX12_grown 367 = .ok (.aload_n 2, 1) := by decide +kernel
theorem dX12_grown_368 : decode cX12_grown 368 = .ok (.ldc 91, 2) := by decide +kernel
theorem dX12_grown_370 : decode cX12_grown 370 = .ok (.invokevirtual 63, 3) := by decide +kernel
theorem dX12_grown_373 : decode cX12_grown 373 = .ok (.bipush 97, 2) := by decide +kernel
theorem dX12_grown_375 : decode cX12_grown 375 = .ok (.iload 5, 2) := by decide +kernel
theorem dX12_grown_377 : decode cX12_grown 377 = .ok (.iadd, 1) := by decide +kernel
theorem dX12_grown_378 : decode cX12_grown 378 = .ok (.i2c, 1) := by decide +kernel
theorem dX12_grown_379 : decode cX12_grown 379 = .ok (.invokevirtual 86, 3) := by decide +kernel
theorem dX12_grown_382 : decode cX12_grown 382 = .ok (.ldc 70, 2) := by decide +kernel
theorem dX12_grown_384 : decode cX12_grown 384 = .ok (.invokevirtual 63, 3) := by decide +kernel
theorem dX12_grown_387 : decode cX12_grown 387 = .ok (.aload_n 1, 1) := by decide +kernel
theorem dX12_grown_388 : decode cX12_grown 388 = .ok (.getfield 19, 3) := by decide +kernel
theorem dX12_grown_391 : decode cX12_grown 391 = .ok (.iload 5, 2) := by decide +kernel
theorem dX12_grown_393 : decode cX12_grown 393 = .ok (.iaload, 1) := by decide +kernel
theorem dX12_grown_394 : decode cX12_grown 394 = .ok (.invokevirtual 67, 3) := by decide +kernel
theorem dX12_grown_397 : decode cX12_grown 397 = .ok (.ldc 89, 2) := by decide +kernel
theorem dX12_grown_399 : decode cX12_grown 399 = .ok (.invokevirtual 63, 3) := by decide +kernel
theorem dX12_grown_402 : decode cX12_grown 402 = .ok (.pop, 1) := by decide +kernel
theorem dX12_grown_403 : decode cX12_grown 403 = .ok (.iinc 4 1, 3) := by decide +kernel
theorem dX12_grown_406 : decode cX12_grown 406 = .ok (.goto (-78), 3) := by decide +kernel
theorem dX12_grown_409 : decode cX12_grown 409 = .ok (.iconst 0, 1) := by decide +kernel
theorem dX12_grown_410 : decode cX12_grown 410 = .ok (.istore 4, 2) := by decide +kernel
theorem dX12_grown_412 : decode cX12_grown 412 = .ok (.iload 4, 2) := by decide +kernel
theorem dX12_grown_414 : decode cX12_grown 414 = .ok (.aload_n 0, 1) := by decide +kernel
theorem dX12_grown_415 : decode cX12_grown 415 = .ok (.iconst 3, 1) := by decide +kernel
theorem dX12_grown_416 : decode cX12_grown 416 = .ok (.iconst 4, 1) := by decide +kernel
theorem dX12_grown_417 : decode cX12_grown 417 = .ok (.invokestatic 55, 3) := by decide +kernel
theorem dX12_grown_420 : decode cX12_grown 420 = .ok (.if_icmp .ge 127, 3) := by decide +kernel
theorem dX12_grown_423 : decode cX12_grown 423 = .ok (.iconst 3, 1) := by decide +kernel
theorem dX12_grown_424 : decode cX12_grown 424 = .ok (.newarray .int, 2) := by decide +kernel
theorem dX12_grown_426 : decode cX12_grown 426 = .ok (.dup, 1) := by decide +kernel
theorem dX12_grown_427 : decode cX12_grown 427 = .ok (.iconst 0, 1) := by decide +kernel
theorem dX12_grown_428 : decode cX12_grown 428 = .ok (.iconst 1, 1) := by decide +kernel
theorem dX12_grown_429 : decode cX12_grown 429 = .ok (.aload_n 0, 1) := by decide +kernel
theorem dX12_grown_430 : decode cX12_grown 430 = .ok (.bipush 120, 2) := by decide +kernel
theorem dX12_grown_432 : decode cX12_grown 432 = .ok (.iload 4, 2) := by decide +kernel
theorem dX12_grown_434 : decode cX12_grown 434 = .ok (.iadd, 1) := by decide +kernel
theorem dX12_grown_435 : decode cX12_grown 435 = .ok (.bipush 12, 2) := by decide +kernel
theorem dX12_grown_437 : decode cX12_grown 437 = .ok (.invokestatic 55, 3) := by decide +kernel
theorem dX12_grown_440 : decode cX12_grown 440 = .ok (.iadd, 1) := by decide +kernel
theorem dX12_grown_441 : decode cX12_grown 441 = .ok (.iastore, 1) := by decide +kernel
theorem dX12_grown_442 : decode cX12_grown 442 = .ok (.dup, 1) := by decide +kernel
theorem dX12_grown_443 : decode cX12_grown 443 = .ok (.iconst 1, 1) := by decide +kernel
theorem dX12_grown_444 : decode cX12_grown 444 = .ok (.iconst 1, 1) := by decide +kernel
theorem dX12_grown_445 : decode cX12_grown 445 = .ok (.aload_n 0, 1) := by decide +kernel
theorem dX12_grown_446 : decode cX12_grown 446 = .ok (.sipush 130, 3) := by decide +kernel
theorem dX12_grown_449 : decode cX12_grown 449 = .ok (.iload 4, 2) := by decide +kernel
theorem dX12_grown_451 : decode cX12_grown 451 = .ok (.iadd, 1) := by decide +kernel
theorem dX12_grown_452 : decode cX12_grown 452 = .ok (.bipush 9, 2) := by decide +kernel
theorem dX12_grown_454 : decode cX12_grown 454 = .ok (.invokestatic 55, 3) := by decide +kernel
theorem dX12_grown_457 : decode cX12_grown 457 = .ok (.iadd, 1) := by decide +kernel
theorem dX12_grown_458 : decode cX12_grown 458 = .ok (.iastore, 1) := by decide +kernel
theorem dX12_grown_459 : decode cX12_grown 459 = .ok (.dup, 1) := by decide +kernel
theorem dX12_grown_460 : decode cX12_grown 460 = .ok (.iconst 2, 1) := by decide +kernel
theorem dX12_grown_461 : decode cX12_grown 461 = .ok (.iconst 1, 1) := by decide +kernel
theorem dX12_grown_462 : decode cX12_grown 462 = .ok (.aload_n 0, 1) := by decide +kernel
theorem dX12_grown_463 : decode cX12_grown 463 = .ok (.sipush 140, 3) := by decide +kernel
theorem dX12_grown_466 : decode cX12_grown 466 = .ok (.iload 4, 2) := by decide +kernel
theorem dX12_grown_468 : decode cX12_grown 468 = .ok (.iadd, 1) := by decide +kernel
theorem dX12_grown_469 : decode cX12_grown 469 = .ok (.iconst 3, 1) := by decide +kernel
theorem dX12_grown_470 : decode cX12_grown 470 = .ok (.invokestatic 55, 3) := by decide +kernel
theorem dX12_grown_473 : decode cX12_grown 473 = .ok (.iadd, 1) := by decide +kernel
theorem dX12_grown_474 : decode cX12_grown 474 = .ok (.iastore, 1) := by decide +kernel
theorem dX12_grown_475 : decode cX12_grown 475 = .ok (.astore 5, 2) := by decide +kernel
theorem dX12_grown_477 : decode cX12_grown 477 = .ok (.aload_n 2, 1) := by decide +kernel
theorem dX12_grown_478 : decode cX12_grown 478 = .ok (.ldc 93, 2) := by decide +kernel
theorem dX12_grown_480 : decode cX12_grown 480 = .ok (.invokevirtual 63, 3) := by decide +kernel
theorem dX12_grown_483 : decode cX12_grown 483 = .ok (.bipush 112, 2) := by decide +kernel
theorem dX12_grown_485 : decode cX12_grown 485 = .ok (.iload 4, 2) := by decide +kernel
theorem dX12_grown_487 : decode cX12_grown 487 = .ok (.iadd, 1) := by decide +kernel
theorem dX12_grown_488 : decode cX12_grown 488 = .ok (.i2c, 1) := by decide +kernel
theorem dX12_grown_489 : decode cX12_grown 489 = .ok (.invokevirtual 86, 3) := by decide +kernel
theorem dX12_grown_492 : decode cX12_grown 492 = .ok (.aload 5, 2) := by decide +kernel
theorem dX12_grown_494 : decode cX12_grown 494 = .ok (.iconst 0, 1) := by decide +kernel
theorem dX12_grown_495 : decode cX12_grown 495 = .ok (.iaload, 1) := by decide +kernel
theorem dX12_grown_496 : decode cX12_grown 496 = .ok (.invokevirtual 67, 3) := by decide +kernel
theorem dX12_grown_499 : decode cX12_grown 499 = .ok (.ldc 70, 2) := by decide +kernel
theorem dX12_grown_501 : decode cX12_grown 501 = .ok (.invokevirtual 63, 3) := by decide +kernel
theorem dX12_grown_504 : decode cX12_grown 504 = .ok (.aload 5, 2) := by decide +kernel
theorem dX12_grown_506 : decode cX12_grown 506 = .ok (.iconst 1, 1) := by decide +kernel
theorem dX12_grown_507 : decode cX12_grown 507 = .ok (.iaload, 1) := by decide +kernel
theorem dX12_grown_508 : decode cX12_grown 508 = .ok (.invokevirtual 67, 3) := by decide +kernel
theorem dX12_grown_511 : decode cX12_grown 511 = .ok (.ldc 70, 2) := by decide +kernel
theorem dX12_grown_513 : decode cX12_grown 513 = .ok (.invokevirtual 63, 3) := by decide +kernel
theorem dX12_grown_516 : decode cX12_grown 516 = .ok (.aload 5, 2) := by decide +kernel
theorem dX12_grown_518 : decode cX12_grown 518 = .ok (.iconst 2, 1) := by decide +kernel
theorem dX12_grown_519 : decode cX12_grown 519 = .ok (.iaload, 1) := by decide +kernel
theorem dX12_grown_520 : decode cX12_grown 520 = .ok (.invokevirtual 67, 3) := by decide +kernel
theorem dX12_grown_523 : decode cX12_grown 523 = .ok (.ldc 89, 2) := by decide +kernel
theorem dX12_grown_525 : decode cX12_grown 525 = .ok (.invokevirtual 63, 3) := by decide +kernel
theorem dX12_grown_528 : decode cX12_grown 528 = .ok (.pop, 1) := by decide +kernel
theorem dX12_grown_529 : decode cX12_grown 529 = .ok (.aload_n 1, 1) := by decide +kernel
theorem dX12_grown_530 : decode cX12_grown 530 = .ok (.getfield 33, 3) := by decide +kernel
theorem dX12_grown_533 : decode cX12_grown 533 = .ok (.aload 5, 2) := by decide +kernel
theorem dX12_grown_535 : decode cX12_grown 535 = .ok (.invokeinterface 78 2, 5) := by decide +kernel
theorem dX12_grown_540 : decode cX12_grown 540 = .ok (.pop, 1) := by decide +kernel
theorem dX12_grown_541 : decode cX12_grown 541 = .ok (.iinc 4 1, 3) := by decide +kernel
theorem dX12_grown_544 : decode cX12_grown 544 = .ok (.goto (-132), 3) := by decide +kernel
theorem dX12_grown_547 : decode cX12_grown 547 = .ok (.aload_n 0, 1) := by decide +kernel
theorem dX12_grown_548 : decode cX12_grown 548 = .ok (.iconst 4, 1) := by decide +kernel
theorem dX12_grown_549 : decode cX12_grown 549 = .ok (.iconst 2, 1) := by decide +kernel
theorem dX12_grown_550 : decode cX12_grown 550 = .ok (.invokestatic 55, 3) := by decide +kernel
theorem dX12_grown_553 : decode cX12_grown 553 = .ok (.ifCond .ne 34, 3) := by decide +kernel
theorem dX12_grown_556 : decode cX12_grown 556 = .ok (.aload_n 1, 1) := by decide +kernel
theorem dX12_grown_557 : decode cX12_grown 557 = .ok (.aload_n 0, 1) := by decide +kernel
theorem dX12_grown_558 : decode cX12_grown 558 = .ok (.iconst 5, 1) := by decide +kernel
theorem dX12_grown_559 : decode cX12_grown 559 = .ok (.sipush 1000, 3) := by decide +kernel
theorem dX12_grown_562 : decode cX12_grown 562 = .ok (.invokestatic 55, 3) := by decide +kernel
theorem dX12_grown_565 : decode cX12_grown 565 = .ok (.putfield 16, 3) := by decide +kernel
theorem dX12_grown_568 : decode cX12_grown 568 = .ok (.aload_n 2, 1) := by decide +kernel
theorem dX12_grown_569 : decode cX12_grown 569 = .ok (.ldc 95, 2) := by decide +kernel
theorem dX12_grown_571 : decode cX12_grown 571 = .ok (.invokevirtual 63, 3) := by decide +kernel
theorem dX12_grown_574 : decode cX12_grown 574 = .ok (.aload_n 1, 1) := by decide +kernel
theorem dX12_grown_575 : decode cX12_grown 575 = .ok (.getfield 16, 3) := by decide +kernel
theorem dX12_grown_578 : decode cX12_grown 578 = .ok (.invokevirtual 67, 3) := by decide +kernel
theorem dX12_grown_581 : decode cX12_grown 581 = .ok (.ldc 89, 2) := by decide +kernel
theorem dX12_grown_583 : decode cX12_grown 583 = .ok (.invokevirtual 63, 3) := by decide +kernel
theorem dX12_grown_586 : decode cX12_grown 586 = .ok (.pop, 1) := by decide +kernel
theorem dX12_grown_587 : decode cX12_grown 587 = .ok (.aload_n 0, 1) := by decide +kernel
theorem dX12_grown_588 : decode cX12_grown 588 = .ok (.bipush 6, 2) := by decide +kernel
theorem dX12_grown_590 : decode cX12_grown 590 = .ok (.iconst 2, 1) := by decide +kernel
theorem dX12_grown_591 : decode cX12_grown 591 = .ok (.invokestatic 55, 3) := by decide +kernel
theorem dX12_grown_594 : decode cX12_grown 594 = .ok (.ifCond .ne 36, 3) := by decide +kernel
theorem dX12_grown_597 : decode cX12_grown 597 = .ok (.aload_n 1, 1) := by decide +kernel
theorem dX12_grown_598 : decode cX12_grown 598 = .ok (.iconst 1, 1) := by decide +kernel
theorem dX12_grown_599 : decode cX12_grown 599 = .ok (.aload_n 0, 1) := by decide +kernel
theorem dX12_grown_600 : decode cX12_grown 600 = .ok (.bipush 7, 2) := by decide +kernel
theorem dX12_grown_602 : decode cX12_grown 602 = .ok (.bipush 60, 2) := by decide +kernel
theorem dX12_grown_604 : decode cX12_grown 604 = .ok (.invokestatic 55, 3) := by decide +kernel
theorem dX12_grown_607 : decode cX12_grown 607 = .ok (.iadd, 1) := by decide +kernel
theorem dX12_grown_608 : decode cX12_grown 608 = .ok (.putfield 7, 3) := by decide +kernel
theorem dX12_grown_611 : decode cX12_grown 611 = .ok (.aload_n 2, 1) := by decide +kernel
theorem dX12_grown_612 : decode cX12_grown 612 = .ok (.ldc 97, 2) := by decide +kernel
theorem dX12_grown_614 : decode cX12_grown 614 = .ok (.invokevirtual 63, 3) := by decide +kernel
theorem dX12_grown_617 : decode cX12_grown 617 = .ok (.aload_n 1, 1) := by decide +kernel
theorem dX12_grown_618 : decode cX12_grown 618 = .ok (.getfield 7, 3) := by decide +kernel
theorem dX12_grown_621 : decode cX12_grown 621 = .ok (.invokevirtual 67, 3) := by decide +kernel
theorem dX12_grown_624 : decode cX12_grown 624 = .ok (.ldc 89, 2) := by decide +kernel
theorem dX12_grown_626 : decode cX12_grown 626 = .ok (.invokevirtual 63, 3) := by decide +kernel
theorem dX12_grown_629 : decode cX12_grown 629 = .ok (.pop, 1) := by decide +kernel
theorem dX12_grown_630 : decode cX12_grown 630 = .ok (.aload_n 0, 1) := by decide +kernel
theorem dX12_grown_631 : decode cX12_grown 631 = .ok (.bipush 8, 2) := by decide +kernel
theorem dX12_grown_633 : decode cX12_grown 633 = .ok (.iconst 2, 1) := by decide +kernel
theorem dX12_grown_634 : decode cX12_grown 634 = .ok (.invokestatic 55, 3) := by decide +kernel
theorem dX12_grown_637 : decode cX12_grown 637 = .ok (.ifCond .ne 34, 3) := by decide +kernel
theorem dX12_grown_640 : decode cX12_grown 640 = .ok (.aload_n 1, 1) := by decide +kernel
theorem dX12_grown_641 : decode cX12_grown 641 = .ok (.aload_n 0, 1) := by decide +kernel
theorem dX12_grown_642 : decode cX12_grown 642 = .ok (.bipush 9, 2) := by decide +kernel
theorem dX12_grown_644 : decode cX12_grown 644 = .ok (.bipush 30, 2) := by decide +kernel
theorem dX12_grown_646 : decode cX12_grown 646 = .ok (.invokestatic 55, 3) := by decide +kernel
theorem dX12_grown_649 : decode cX12_grown 649 = .ok (.putfield 13, 3) := by decide +kernel
theorem dX12_grown_652 : decode cX12_grown 652 = .ok (.aload_n 2, 1) := by decide +kernel
theorem dX12_grown_653 : decode cX12_grown 653 = .ok (.ldc 99, 2) := by decide +kernel
theorem dX12_grown_655 : decode cX12_grown 655 = .ok (.invokevirtual 63, 3) := by decide +kernel
theorem dX12_grown_658 : decode cX12_grown 658 = .ok (.aload_n 1, 1) := by decide +kernel
theorem dX12_grown_659 : decode cX12_grown 659 = .ok (.getfield 13, 3) := by decide +kernel
theorem dX12_grown_662 : decode cX12_grown 662 = .ok (.invokevirtual 67, 3) := by decide +kernel
theorem dX12_grown_665 : decode cX12_grown 665 = .ok (.ldc 89, 2) := by decide +kernel
theorem dX12_grown_667 : decode cX12_grown 667 = .ok (.invokevirtual 63, 3) := by decide +kernel
theorem dX12_grown_670 : decode cX12_grown 670 = .ok (.pop, 1) := by decide +kernel
theorem dX12_grown_671 : decode cX12_grown 671 = .ok (.aload_n 1, 1) := by decide +kernel
theorem dX12_grown_672 : decode cX12_grown 672 = .ok (.aload_n 2, 1) := by decide +kernel
theorem dX12_grown_673 : decode cX12_grown 673 = .ok (.invokevirtual 101, 3) := by decide +kernel
theorem dX12_grown_676 : decode cX12_grown 676 = .ok (.putfield 41, 3) := by decide +kernel
theorem dX12_grown_679 : decode cX12_grown 679 = .ok (.aload_n 1, 1) := by decide +kernel
theorem dX12_grown_680 : decode cX12_grown 680 = .ok (.areturn, 1) := by decide +kernel
theorem dX12_whole_0 : decode cX12_whole 0 = .ok (.iconst 0, 1) := by decide +kernel
theorem dX12_whole_1 : decode cX12_whole 1 = .ok (.istore_n 1, 1) := by decide +kernel
theorem dX12_whole_2 : decode cX12_whole 2 = .ok (.aload_n 0, 1) := by decide +kernel
theorem dX12_whole_3 : decode cX12_whole 3 = .ok (.getfield 26, 3) := by decide +kernel
theorem dX12_whole_6 : decode cX12_whole 6 = .ok (.invokeinterface 116 1, 5) := by decide +kernel
theorem dX12_whole_11 : decode cX12_whole 11 = .ok (.astore_n 2, 1) := by decide +kernel
theorem dX12_whole_12 : decode cX12_whole 12 = .ok (.aload_n 2, 1) := by decide +kernel
theorem dX12_whole_13 : decode cX12_whole 13 = .ok (.invokeinterface 120 1, 5) := by decide +kernel
theorem dX12_whole_18 : decode cX12_whole 18 = .ok (.ifCond .eq 25, 3) := by decide +kernel
theorem dX12_whole_21 : decode cX12_whole 21 = .ok (.aload_n 2, 1) := by decide +kernel
theorem dX12_whole_22 : decode cX12_whole 22 = .ok (.invokeinterface 126 1, 5) := by decide +kernel
theorem dX12_whole_27 : decode cX12_whole 27 = .ok (.checkcast 112, 3) := by decide +kernel
theorem dX12_whole_30 : decode cX12_whole 30 = .ok (.astore_n 3, 1) := by decide +kernel
theorem dX12_whole_31 : decode cX12_whole 31 = .ok (.iload_n 1, 1) := by decide +kernel
theorem dX12_whole_32 : decode cX12_whole 32 = .ok (.bipush 10, 2) := by decide +kernel
theorem dX12_whole_34 : decode cX12_whole 34 = .ok (.aload_n 3, 1) := by decide +kernel
theorem dX12_whole_35 : decode cX12_whole 35 = .ok (.iconst 1, 1) := by decide +kernel
theorem dX12_whole_36 : decode cX12_whole 36 = .ok (.iaload, 1) := by decide +kernel
theorem dX12_whole_37 : decode cX12_whole 37 = .ok (.imul, 1) := by decide +kernel
theorem dX12_whole_38 : decode cX12_whole 38 = .ok (.iadd, 1) := by decide +kernel
theorem dX12_whole_39 : decode cX12_whole 39 = .ok (.istore_n 1, 1) := by decide +kernel
theorem dX12_whole_40 : decode cX12_whole 40 = .ok (.goto (-28), 3) := by decide +kernel
theorem dX12_whole_43 : decode cX12_whole 43 = .ok (.iload_n 1, 1) := by decide +kernel
theorem dX12_whole_44 : decode cX12_whole 44 = .ok (.ireturn, 1) := by decide +kernel
theorem dX12_arcAt_0 : decode cX12_arcAt 0 = .ok (.iconst 0, 1) := by decide +kernel
theorem dX12_arcAt_1 : decode cX12_arcAt 1 = .ok (.istore_n 2, 1) := by decide +kernel
theorem dX12_arcAt_2 : decode cX12_arcAt 2 = .ok (.iload_n 1, 1) := by decide +kernel
theorem dX12_arcAt_3 : decode cX12_arcAt 3 = .ok (.istore_n 3, 1) := by decide +kernel
theorem dX12_arcAt_4 : decode cX12_arcAt 4 = .ok (.iload_n 2, 1) := by decide +kernel
theorem dX12_arcAt_5 : decode cX12_arcAt 5 = .ok (.aload_n 0, 1) := by decide +kernel
theorem dX12_arcAt_6 : decode cX12_arcAt 6 = .ok (.getfield 26, 3) := by decide +kernel
theorem dX12_arcAt_9 : decode cX12_arcAt 9 = .ok (.invokeinterface 129 1, 5) := by decide +kernel
theorem dX12_arcAt_14 : decode cX12_arcAt 14 = .ok (.iconst 1, 1) := by decide +kernel
theorem dX12_arcAt_15 : decode cX12_arcAt 15 = .ok (.isub, 1) := by decide +kernel
theorem dX12_arcAt_16 : decode cX12_arcAt 16 = .ok (.if_icmp .ge 52, 3) := by decide +kernel
theorem dX12_arcAt_19 : decode cX12_arcAt 19 = .ok (.iload_n 3, 1) := by decide +kernel
theorem dX12_arcAt_20 : decode cX12_arcAt 20 = .ok (.bipush 10, 2) := by decide +kernel
theorem dX12_arcAt_22 : decode cX12_arcAt 22 = .ok (.aload_n 0, 1) := by decide +kernel
theorem dX12_arcAt_23 : decode cX12_arcAt 23 = .ok (.getfield 26, 3) := by decide +kernel
theorem dX12_arcAt_26 : decode cX12_arcAt 26 = .ok (.iload_n 2, 1) := by decide +kernel
theorem dX12_arcAt_27 : decode cX12_arcAt 27 = .ok (.invokeinterface 133 2, 5) := by decide +kernel
theorem dX12_arcAt_32 : decode cX12_arcAt 32 = .ok (.checkcast 112, 3) := by decide +kernel
theorem dX12_arcAt_35 : decode cX12_arcAt 35 = .ok (.iconst 1, 1) := by decide +kernel
theorem dX12_arcAt_36 : decode cX12_arcAt 36 = .ok (.iaload, 1) := by decide +kernel
theorem dX12_arcAt_37 : decode cX12_arcAt 37 = .ok (.imul, 1) := by decide +kernel
theorem dX12_arcAt_38 : decode cX12_arcAt 38 = .ok (.if_icmp .lt 30, 3) := by decide +kernel
theorem dX12_arcAt_41 : decode cX12_arcAt 41 = .ok (.iload_n 3, 1) := by decide +kernel
theorem dX12_arcAt_42 : decode cX12_arcAt 42 = .ok (.bipush 10, 2) := by decide +kernel
theorem dX12_arcAt_44 : decode cX12_arcAt 44 = .ok (.aload_n 0, 1) := by decide +kernel
theorem dX12_arcAt_45 : decode cX12_arcAt 45 = .ok (.getfield 26, 3) := by decide +kernel
theorem dX12_arcAt_48 : decode cX12_arcAt 48 = .ok (.iload_n 2, 1) := by decide +kernel
theorem dX12_arcAt_49 : decode cX12_arcAt 49 = .ok (.invokeinterface 133 2, 5) := by decide +kernel
theorem dX12_arcAt_54 : decode cX12_arcAt 54 = .ok (.checkcast 112, 3) := by decide +kernel
theorem dX12_arcAt_57 : decode cX12_arcAt 57 = .ok (.iconst 1, 1) := by decide +kernel
theorem dX12_arcAt_58 : decode cX12_arcAt 58 = .ok (.iaload, 1) := by decide +kernel
theorem dX12_arcAt_59 : decode cX12_arcAt 59 = .ok (.imul, 1) := by decide +kernel
theorem dX12_arcAt_60 : decode cX12_arcAt 60 = .ok (.isub, 1) := by decide +kernel
theorem dX12_arcAt_61 : decode cX12_arcAt 61 = .ok (.istore_n 3, 1) := by decide +kernel
theorem dX12_arcAt_62 : decode cX12_arcAt 62 = .ok (.iinc 2 1, 3) := by decide +kernel
theorem dX12_arcAt_65 : decode cX12_arcAt 65 = .ok (.goto (-61), 3) := by decide +kernel
theorem dX12_arcAt_68 : decode cX12_arcAt 68 = .ok (.aload_n 0, 1) := by decide +kernel
theorem dX12_arcAt_69 : decode cX12_arcAt 69 = .ok (.getfield 26, 3) := by decide +kernel
theorem dX12_arcAt_72 : decode cX12_arcAt 72 = .ok (.invokeinterface 137 1, 5) := by decide +kernel
theorem dX12_arcAt_77 : decode cX12_arcAt 77 = .ok (.ifCond .eq 7, 3) := by decide +kernel
theorem dX12_arcAt_80 : decode cX12_arcAt 80 = .ok (.iconst (-1), 1) := by decide +kernel
theorem dX12_arcAt_81 : decode cX12_arcAt 81 = .ok (.goto 4, 3) := by decide +kernel
theorem dX12_arcAt_84 : decode cX12_arcAt 84 = .ok (.iload_n 2, 1) := by decide +kernel
theorem dX12_arcAt_85 : decode cX12_arcAt 85 = .ok (.ireturn, 1) := by decide +kernel
theorem dX12_parts_0 : decode cX12_parts 0 = .ok (.iconst 0, 1) := by decide +kernel
theorem dX12_parts_1 : decode cX12_parts 1 = .ok (.istore_n 2, 1) := by decide +kernel
theorem dX12_parts_2 : decode cX12_parts 2 = .ok (.iload_n 1, 1) := by decide +kernel
theorem dX12_parts_3 : decode cX12_parts 3 = .ok (.istore_n 3, 1) := by decide +kernel
theorem dX12_parts_4 : decode cX12_parts 4 = .ok (.aload_n 0, 1) := by decide +kernel
theorem dX12_parts_5 : decode cX12_parts 5 = .ok (.getfield 26, 3) := by decide +kernel
theorem dX12_parts_8 : decode cX12_parts 8 = .ok (.invokeinterface 116 1, 5) := by decide +kernel
theorem dX12_parts_13 : decode cX12_parts 13 = .ok (.astore 4, 2) := by decide +kernel
theorem dX12_parts_15 : decode cX12_parts 15 = .ok (.aload 4, 2) := by decide +kernel
theorem dX12_parts_17 : decode cX12_parts 17 = .ok (.invokeinterface 120 1, 5) := by decide +kernel
theorem dX12_parts_22 : decode cX12_parts 22 = .ok (.ifCond .eq 46, 3) := by decide +kernel
theorem dX12_parts_25 : decode cX12_parts 25 = .ok (.aload 4, 2) := by decide +kernel
theorem dX12_parts_27 : decode cX12_parts 27 = .ok (.invokeinterface 126 1, 5) := by decide +kernel
theorem dX12_parts_32 : decode cX12_parts 32 = .ok (.checkcast 112, 3) := by decide +kernel
theorem dX12_parts_35 : decode cX12_parts 35 = .ok (.astore 5, 2) := by decide +kernel
theorem dX12_parts_37 : decode cX12_parts 37 = .ok (.iload_n 3, 1) := by decide +kernel
theorem dX12_parts_38 : decode cX12_parts 38 = .ok (.bipush 10, 2) := by decide +kernel
theorem dX12_parts_40 : decode cX12_parts 40 = .ok (.aload 5, 2) := by decide +kernel
theorem dX12_parts_42 : decode cX12_parts 42 = .ok (.iconst 1, 1) := by decide +kernel
theorem dX12_parts_43 : decode cX12_parts 43 = .ok (.iaload, 1) := by decide +kernel
theorem dX12_parts_44 : decode cX12_parts 44 = .ok (.imul, 1) := by decide +kernel
theorem dX12_parts_45 : decode cX12_parts 45 = .ok (.invokestatic 140, 3) := by decide +kernel
theorem dX12_parts_48 : decode cX12_parts 48 = .ok (.istore 6, 2) := by decide +kernel
theorem dX12_parts_50 : decode cX12_parts 50 = .ok (.iload_n 2, 1) := by decide +kernel
theorem dX12_parts_51 : decode cX12_parts 51 = .ok (.iload 6, 2) := by decide +kernel
theorem dX12_parts_53 : decode cX12_parts 53 = .ok (.aload 5, 2) := by decide +kernel
theorem dX12_parts_55 : decode cX12_parts 55 = .ok (.iconst 0, 1) := by decide +kernel
theorem dX12_parts_56 : decode cX12_parts 56 = .ok (.iaload, 1) := by decide +kernel
theorem dX12_parts_57 : decode cX12_parts 57 = .ok (.imul, 1) := by decide +kernel
theorem dX12_parts_58 : decode cX12_parts 58 = .ok (.iadd, 1) := by decide +kernel
theorem dX12_parts_59 : decode cX12_parts 59 = .ok (.istore_n 2, 1) := by decide +kernel
theorem dX12_parts_60 : decode cX12_parts 60 = .ok (.iload_n 3, 1) := by decide +kernel
theorem dX12_parts_61 : decode cX12_parts 61 = .ok (.iload 6, 2) := by decide +kernel
theorem dX12_parts_63 : decode cX12_parts 63 = .ok (.isub, 1) := by decide +kernel
theorem dX12_parts_64 : decode cX12_parts 64 = .ok (.istore_n 3, 1) := by decide +kernel
theorem dX12_parts_65 : decode cX12_parts 65 = .ok (.goto (-50), 3) := by decide +kernel
theorem dX12_parts_68 : decode cX12_parts 68 = .ok (.iload_n 2, 1) := by decide +kernel
theorem dX12_parts_69 : decode cX12_parts 69 = .ok (.ireturn, 1) := by decide +kernel
theorem dX12_bend_0 : decode cX12_bend 0 = .ok (.iconst 0, 1) := by decide +kernel
theorem dX12_bend_1 : decode cX12_bend 1 = .ok (.istore_n 2, 1) := by decide +kernel
theorem dX12_bend_2 : decode cX12_bend 2 = .ok (.iload_n 1, 1) := by decide +kernel
theorem dX12_bend_3 : decode cX12_bend 3 = .ok (.istore_n 3, 1) := by decide +kernel
theorem dX12_bend_4 : decode cX12_bend 4 = .ok (.aload_n 0, 1) := by decide +kernel
theorem dX12_bend_5 : decode cX12_bend 5 = .ok (.getfield 26, 3) := by decide +kernel
theorem dX12_bend_8 : decode cX12_bend 8 = .ok (.invokeinterface 116 1, 5) := by decide +kernel
theorem dX12_bend_13 : decode cX12_bend 13 = .ok (.astore 4, 2) := by decide +kernel
theorem dX12_bend_15 : decode cX12_bend 15 = .ok (.aload 4, 2) := by decide +kernel
theorem dX12_bend_17 : decode cX12_bend 17 = .ok (.invokeinterface 120 1, 5) := by decide +kernel
theorem dX12_bend_22 : decode cX12_bend 22 = .ok (.ifCond .eq 55, 3) := by decide +kernel
theorem dX12_bend_25 : decode cX12_bend 25 = .ok (.aload 4, 2) := by decide +kernel
theorem dX12_bend_27 : decode cX12_bend 27 = .ok (.invokeinterface 126 1, 5) := by decide +kernel
theorem dX12_bend_32 : decode cX12_bend 32 = .ok (.checkcast 112, 3) := by decide +kernel
theorem dX12_bend_35 : decode cX12_bend 35 = .ok (.astore 5, 2) := by decide +kernel
theorem dX12_bend_37 : decode cX12_bend 37 = .ok (.iload_n 3, 1) := by decide +kernel
theorem dX12_bend_38 : decode cX12_bend 38 = .ok (.bipush 10, 2) := by decide +kernel
theorem dX12_bend_40 : decode cX12_bend 40 = .ok (.aload 5, 2) := by decide +kernel
theorem dX12_bend_42 : decode cX12_bend 42 = .ok (.iconst 1, 1) := by decide +kernel
theorem dX12_bend_43 : decode cX12_bend 43 = .ok (.iaload, 1) := by decide +kernel
theorem dX12_bend_44 : decode cX12_bend 44 = .ok (.imul, 1) := by decide +kernel
theorem dX12_bend_45 : decode cX12_bend 45 = .ok (.invokestatic 140, 3) := by decide +kernel
theorem dX12_bend_48 : decode cX12_bend 48 = .ok (.istore 6, 2) := by decide +kernel
theorem dX12_bend_50 : decode cX12_bend 50 = .ok (.iload_n 2, 1) := by decide +kernel
theorem dX12_bend_51 : decode cX12_bend 51 = .ok (.aload 5, 2) := by decide +kernel
theorem dX12_bend_53 : decode cX12_bend 53 = .ok (.iconst 2, 1) := by decide +kernel
theorem dX12_bend_54 : decode cX12_bend 54 = .ok (.iaload, 1) := by decide +kernel
theorem dX12_bend_55 : decode cX12_bend 55 = .ok (.iconst 1, 1) := by decide +kernel
theorem dX12_bend_56 : decode cX12_bend 56 = .ok (.if_icmp .ne 9, 3) := by decide +kernel
theorem dX12_bend_59 : decode cX12_bend 59 = .ok (.iload 6, 2) := by decide +kernel
theorem dX12_bend_61 : decode cX12_bend 61 = .ok (.ineg, 1) := by decide +kernel
theorem dX12_bend_62 : decode cX12_bend 62 = .ok (.goto 5, 3) := by decide +kernel
theorem dX12_bend_65 : decode cX12_bend 65 = .ok (.iload 6, 2) := by decide +kernel
theorem dX12_bend_67 : decode cX12_bend 67 = .ok (.iadd, 1) := by decide +kernel
theorem dX12_bend_68 : decode cX12_bend 68 = .ok (.istore_n 2, 1) := by decide +kernel
theorem dX12_bend_69 : decode cX12_bend 69 = .ok (.iload_n 3, 1) := by decide +kernel
theorem dX12_bend_70 : decode cX12_bend 70 = .ok (.iload 6, 2) := by decide +kernel
theorem dX12_bend_72 : decode cX12_bend 72 = .ok (.isub, 1) := by decide +kernel
theorem dX12_bend_73 : decode cX12_bend 73 = .ok (.istore_n 3, 1) := by decide +kernel
theorem dX12_bend_74 : decode cX12_bend 74 = .ok (.goto (-59), 3) := by decide +kernel
theorem dX12_bend_77 : decode cX12_bend 77 = .ok (.iload_n 2, 1) := by decide +kernel
theorem dX12_bend_78 : decode cX12_bend 78 = .ok (.ireturn, 1) := by decide +kernel
theorem dX12_centre_0 : decode cX12_centre 0 = .ok (.iconst 2, 1) := by decide +kernel
theorem dX12_centre_1 : decode cX12_centre 1 = .ok (.iload_n 1, 1) := by decide +kernel
theorem dX12_centre_2 : decode cX12_centre 2 = .ok (.imul, 1) := by decide +kernel
theorem dX12_centre_3 : decode cX12_centre 3 = .ok (.iconst 1, 1) := by decide +kernel
theorem dX12_centre_4 : decode cX12_centre 4 = .ok (.iadd, 1) := by decide +kernel
theorem dX12_centre_5 : decode cX12_centre 5 = .ok (.aload_n 0, 1) := by decide +kernel
theorem dX12_centre_6 : decode cX12_centre 6 = .ok (.invokevirtual 146, 3) := by decide +kernel
theorem dX12_centre_9 : decode cX12_centre 9 = .ok (.imul, 1) := by decide +kernel
theorem dX12_centre_10 : decode cX12_centre 10 = .ok (.iconst 2, 1) := by decide +kernel
theorem dX12_centre_11 : decode cX12_centre 11 = .ok (.aload_n 0, 1) := by decide +kernel
theorem dX12_centre_12 : decode cX12_centre 12 = .ok (.getfield 30, 3) := by decide +kernel
theorem dX12_centre_15 : decode cX12_centre 15 = .ok (.invokeinterface 129 1, 5) := by decide +kernel
theorem dX12_centre_20 : decode cX12_centre 20 = .ok (.imul, 1) := by decide +kernel
theorem dX12_centre_21 : decode cX12_centre 21 = .ok (.idiv, 1) := by decide +kernel
theorem dX12_centre_22 : decode cX12_centre 22 = .ok (.ireturn, 1) := by decide +kernel
theorem dX12_edge_0 : decode cX12_edge 0 = .ok (.aload_n 0, 1) := by decide +kernel
theorem dX12_edge_1 : decode cX12_edge 1 = .ok (.aload_n 0, 1) := by decide +kernel
theorem dX12_edge_2 : decode cX12_edge 2 = .ok (.iload_n 1, 1) := by decide +kernel
theorem dX12_edge_3 : decode cX12_edge 3 = .ok (.invokevirtual 149, 3) := by decide +kernel
theorem dX12_edge_6 : decode cX12_edge 6 = .ok (.invokevirtual 153, 3) := by decide +kernel
theorem dX12_edge_9 : decode cX12_edge 9 = .ok (.iload_n 2, 1) := by decide +kernel
theorem dX12_edge_10 : decode cX12_edge 10 = .ok (.sipush 500, 3) := by decide +kernel
theorem dX12_edge_13 : decode cX12_edge 13 = .ok (.imul, 1) := by decide +kernel
theorem dX12_edge_14 : decode cX12_edge 14 = .ok (.aload_n 0, 1) := by decide +kernel
theorem dX12_edge_15 : decode cX12_edge 15 = .ok (.getfield 19, 3) := by decide +kernel
theorem dX12_edge_18 : decode cX12_edge 18 = .ok (.aload_n 0, 1) := by decide +kernel
theorem dX12_edge_19 : decode cX12_edge 19 = .ok (.getfield 30, 3) := by decide +kernel
theorem dX12_edge_22 : decode cX12_edge 22 = .ok (.iload_n 1, 1) := by decide +kernel
theorem dX12_edge_23 : decode cX12_edge 23 = .ok (.invokeinterface 133 2, 5) := by decide +kernel
theorem dX12_edge_28 : decode cX12_edge 28 = .ok (.checkcast 112, 3) := by decide +kernel
theorem dX12_edge_31 : decode cX12_edge 31 = .ok (.iconst 0, 1) := by decide +kernel
theorem dX12_edge_32 : decode cX12_edge 32 = .ok (.iaload, 1) := by decide +kernel
theorem dX12_edge_33 : decode cX12_edge 33 = .ok (.iaload, 1) := by decide +kernel
theorem dX12_edge_34 : decode cX12_edge 34 = .ok (.imul, 1) := by decide +kernel
theorem dX12_edge_35 : decode cX12_edge 35 = .ok (.iadd, 1) := by decide +kernel
theorem dX12_edge_36 : decode cX12_edge 36 = .ok (.ireturn, 1) := by decide +kernel
theorem dX12_room_0 : decode cX12_room 0 = .ok (.iload_n 1, 1) := by decide +kernel
theorem dX12_room_1 : decode cX12_room 1 = .ok (.aload_n 0, 1) := by decide +kernel
theorem dX12_room_2 : decode cX12_room 2 = .ok (.getfield 30, 3) := by decide +kernel
theorem dX12_room_5 : decode cX12_room 5 = .ok (.invokeinterface 129 1, 5) := by decide +kernel
theorem dX12_room_10 : decode cX12_room 10 = .ok (.if_icmp .ne 14, 3) := by decide +kernel
theorem dX12_room_13 : decode cX12_room 13 = .ok (.aload_n 0, 1) := by decide +kernel
theorem dX12_room_14 : decode cX12_room 14 = .ok (.aload_n 0, 1) := by decide +kernel
theorem dX12_room_15 : decode cX12_room 15 = .ok (.invokevirtual 146, 3) := by decide +kernel
theorem dX12_room_18 : decode cX12_room 18 = .ok (.invokevirtual 153, 3) := by decide +kernel
theorem dX12_room_21 : decode cX12_room 21 = .ok (.goto 9, 3) := by decide +kernel
theorem dX12_room_24 : decode cX12_room 24 = .ok (.aload_n 0, 1) := by decide +kernel
theorem dX12_room_25 : decode cX12_room 25 = .ok (.iload_n 1, 1) := by decide +kernel
theorem dX12_room_26 : decode cX12_room 26 = .ok (.iconst (-1), 1) := by decide +kernel
theorem dX12_room_27 : decode cX12_room 27 = .ok (.invokevirtual 156, 3) := by decide +kernel
theorem dX12_room_30 : decode cX12_room 30 = .ok (.iload_n 1, 1) := by decide +kernel
theorem dX12_room_31 : decode cX12_room 31 = .ok (.ifCond .ne 7, 3) := by decide +kernel
theorem dX12_room_34 : decode cX12_room 34 = .ok (.iconst 0, 1) := by decide +kernel
theorem dX12_room_35 : decode cX12_room 35 = .ok (.goto 11, 3) := by decide +kernel
theorem dX12_room_38 : decode cX12_room 38 = .ok (.aload_n 0, 1) := by decide +kernel
theorem dX12_room_39 : decode cX12_room 39 = .ok (.iload_n 1, 1) := by decide +kernel
theorem dX12_room_40 : decode cX12_room 40 = .ok (.iconst 1, 1) := by decide +kernel
theorem dX12_room_41 : decode cX12_room 41 = .ok (.isub, 1) := by decide +kernel
theorem dX12_room_42 : decode cX12_room 42 = .ok (.iconst 1, 1) := by decide +kernel
theorem dX12_room_43 : decode cX12_room 43 = .ok (.invokevirtual 156, 3) := by decide +kernel
theorem dX12_room_46 : decode cX12_room 46 = .ok (.isub, 1) := by decide +kernel
theorem dX12_room_47 : decode cX12_room 47 = .ok (.ireturn, 1) := by decide +kernel
theorem dX12_spoils_0 : decode cX12_spoils 0 = .ok (.aload_n 1, 1) := by decide +kernel
theorem dX12_spoils_1 : decode cX12_spoils 1 = .ok (.iconst 0, 1) := by decide +kernel
theorem dX12_spoils_2 : decode cX12_spoils 2 = .ok (.iaload, 1) := by decide +kernel
theorem dX12_spoils_3 : decode cX12_spoils 3 = .ok (.iconst 1, 1) := by decide +kernel
theorem dX12_spoils_4 : decode cX12_spoils 4 = .ok (.iadd, 1) := by decide +kernel
theorem dX12_spoils_5 : decode cX12_spoils 5 = .ok (.aload_n 0, 1) := by decide +kernel
theorem dX12_spoils_6 : decode cX12_spoils 6 = .ok (.getfield 30, 3) := by decide +kernel
theorem dX12_spoils_9 : decode cX12_spoils 9 = .ok (.invokeinterface 129 1, 5) := by decide +kernel
theorem dX12_spoils_14 : decode cX12_spoils 14 = .ok (.if_icmp .ge 26, 3) := by decide +kernel
theorem dX12_spoils_17 : decode cX12_spoils 17 = .ok (.aload_n 1, 1) := by decide +kernel
theorem dX12_spoils_18 : decode cX12_spoils 18 = .ok (.iconst 1, 1) := by decide +kernel
theorem dX12_spoils_19 : decode cX12_spoils 19 = .ok (.iaload, 1) := by decide +kernel
theorem dX12_spoils_20 : decode cX12_spoils 20 = .ok (.aload_n 0, 1) := by decide +kernel
theorem dX12_spoils_21 : decode cX12_spoils 21 = .ok (.aload_n 1, 1) := by decide +kernel
theorem dX12_spoils_22 : decode cX12_spoils 22 = .ok (.iconst 0, 1) := by decide +kernel
theorem dX12_spoils_23 : decode cX12_spoils 23 = .ok (.iaload, 1) := by decide +kernel
theorem dX12_spoils_24 : decode cX12_spoils 24 = .ok (.iconst 1, 1) := by decide +kernel
theorem dX12_spoils_25 : decode cX12_spoils 25 = .ok (.iadd, 1) := by decide +kernel
theorem dX12_spoils_26 : decode cX12_spoils 26 = .ok (.invokevirtual 159, 3) := by decide +kernel
theorem dX12_spoils_29 : decode cX12_spoils 29 = .ok (.if_icmp .le 11, 3) := by decide +kernel
theorem dX12_spoils_32 : decode cX12_spoils 32 = .ok (.aload_n 1, 1) := by decide +kernel
theorem dX12_spoils_33 : decode cX12_spoils 33 = .ok (.iconst 0, 1) := by decide +kernel
theorem dX12_spoils_34 : decode cX12_spoils 34 = .ok (.iaload, 1) := by decide +kernel
theorem dX12_spoils_35 : decode cX12_spoils 35 = .ok (.iconst 1, 1) := by decide +kernel
theorem dX12_spoils_36 : decode cX12_spoils 36 = .ok (.iadd, 1) := by decide +kernel
theorem dX12_spoils_37 : decode cX12_spoils 37 = .ok (.goto 4, 3) := by decide +kernel
theorem dX12_spoils_40 : decode cX12_spoils 40 = .ok (.iconst (-1), 1) := by decide +kernel
theorem dX12_spoils_41 : decode cX12_spoils 41 = .ok (.ireturn, 1) := by decide +kernel
theorem dX12_isSpoiled_0 : decode cX12_isSpoiled 0 = .ok (.aload_n 0, 1) := by decide +kernel
theorem dX12_isSpoiled_1 : decode cX12_isSpoiled 1 = .ok (.getfield 36, 3) := by decide +kernel
theorem dX12_isSpoiled_4 : decode cX12_isSpoiled 4 = .ok (.invokeinterface 116 1, 5) := by decide +kernel
theorem dX12_isSpoiled_9 : decode cX12_isSpoiled 9 = .ok (.astore_n 2, 1) := by decide +kernel
theorem dX12_isSpoiled_10 : decode cX12_isSpoiled 10 = .ok (.aload_n 2, 1) := by decide +kernel
theorem dX12_isSpoiled_11 : decode cX12_isSpoiled 11 = .ok (.invokeinterface 120 1, 5) := by decide +kernel
theorem dX12_isSpoiled_16 : decode cX12_isSpoiled 16 = .ok (.ifCond .eq 27, 3) := by decide +kernel
theorem dX12_isSpoiled_19 : decode cX12_isSpoiled 19 = .ok (.aload_n 2, 1) := by decide +kernel
theorem dX12_isSpoiled_20 : decode cX12_isSpoiled 20 = .ok (.invokeinterface 126 1, 5) := by decide +kernel
theorem dX12_isSpoiled_25 : decode cX12_isSpoiled 25 = .ok (.checkcast 112, 3) := by decide +kernel
theorem dX12_isSpoiled_28 : decode cX12_isSpoiled 28 = .ok (.astore_n 3, 1) := by decide +kernel
theorem dX12_isSpoiled_29 : decode cX12_isSpoiled 29 = .ok (.aload_n 0, 1) := by decide +kernel
theorem dX12_isSpoiled_30 : decode cX12_isSpoiled 30 = .ok (.aload_n 3, 1) := by decide +kernel
theorem dX12_isSpoiled_31 : decode cX12_isSpoiled 31 = .ok (.invokevirtual 165, 3) := by decide +kernel
theorem dX12_isSpoiled_34 : decode cX12_isSpoiled 34 = .ok (.iload_n 1, 1) := by decide +kernel
theorem dX12_isSpoiled_35 : decode cX12_isSpoiled 35 = .ok (.if_icmp .ne 5, 3) := by decide +kernel
theorem dX12_isSpoiled_38 : decode cX12_isSpoiled 38 = .ok (.iconst 1, 1) := by decide +kernel
theorem dX12_isSpoiled_39 : decode cX12_isSpoiled 39 = .ok (.ireturn, 1) := by decide +kernel
theorem dX12_isSpoiled_40 : decode cX12_isSpoiled 40 = .ok (.goto (-30), 3) := by decide +kernel
theorem dX12_isSpoiled_43 : decode cX12_isSpoiled 43 = .ok (.iconst 0, 1) := by decide +kernel
theorem dX12_isSpoiled_44 : decode cX12_isSpoiled 44 = .ok (.ireturn, 1) := by decide +kernel
theorem dX12_scratchesOf_0 : decode cX12_scratchesOf 0 = .ok (.iconst 0, 1) := by decide +kernel
theorem dX12_scratchesOf_1 : decode cX12_scratchesOf 1 = .ok (.istore_n 2, 1) := by decide +kernel
theorem dX12_scratchesOf_2 : decode cX12_scratchesOf 2 = .ok (.aload_n 0, 1) := by decide +kernel
theorem dX12_scratchesOf_3 : decode cX12_scratchesOf 3 = .ok (.getfield 36, 3) := by decide +kernel
theorem dX12_scratchesOf_6 : decode cX12_scratchesOf 6 = .ok (.invokeinterface 116 1, 5) := by decide +kernel
theorem dX12_scratchesOf_11 : decode cX12_scratchesOf 11 = .ok (.astore_n 3, 1) := by decide +kernel
theorem dX12_scratchesOf_12 : decode cX12_scratchesOf 12 = .ok (.aload_n 3, 1) := by decide +kernel
theorem dX12_scratchesOf_13 : decode cX12_scratchesOf 13 = .ok (.invokeinterface 120 1, 5) := by decide +kernel
theorem dX12_scratchesOf_18 : decode cX12_scratchesOf 18 = .ok (.ifCond .eq 33, 3) := by decide +kernel
theorem dX12_scratchesOf_21 : decode cX12_scratchesOf 21 = .ok (.aload_n 3, 1) := by decide +kernel
theorem dX12_scratchesOf_22 : decode cX12_scratchesOf 22 = .ok (.invokeinterface 126 1, 5) := by decide +kernel
theorem dX12_scratchesOf_27 : decode cX12_scratchesOf 27 = .ok (.checkcast 112, 3) := by decide +kernel
theorem dX12_scratchesOf_30 : decode cX12_scratchesOf 30 = .ok (.astore 4, 2) := by decide +kernel
theorem dX12_scratchesOf_32 : decode cX12_scratchesOf 32 = .ok (.iload_n 2, 1) := by decide +kernel
theorem dX12_scratchesOf_33 : decode cX12_scratchesOf 33 = .ok (.aload 4, 2) := by decide +kernel
theorem dX12_scratchesOf_35 : decode cX12_scratchesOf 35 = .ok (.iconst 0, 1) := by decide +kernel
theorem dX12_scratchesOf_36 : decode cX12_scratchesOf 36 = .ok (.iaload, 1) := by decide +kernel
theorem dX12_scratchesOf_37 : decode cX12_scratchesOf 37 = .ok (.iload_n 1, 1) := by decide +kernel
theorem dX12_scratchesOf_38 : decode cX12_scratchesOf 38 = .ok (.if_icmp .ne 7, 3) := by decide +kernel
theorem dX12_scratchesOf_41 : decode cX12_scratchesOf 41 = .ok (.iconst 1, 1) := by decide +kernel
theorem dX12_scratchesOf_42 : decode cX12_scratchesOf 42 = .ok (.goto 4, 3) := by decide +kernel
theorem dX12_scratchesOf_45 : decode cX12_scratchesOf 45 = .ok (.iconst 0, 1) := by decide +kernel
theorem dX12_scratchesOf_46 : decode cX12_scratchesOf 46 = .ok (.iadd, 1) := by decide +kernel
theorem dX12_scratchesOf_47 : decode cX12_scratchesOf 47 = .ok (.istore_n 2, 1) := by decide +kernel
theorem dX12_scratchesOf_48 : decode cX12_scratchesOf 48 = .ok (.goto (-36), 3) := by decide +kernel
theorem dX12_scratchesOf_51 : decode cX12_scratchesOf 51 = .ok (.iload_n 2, 1) := by decide +kernel
theorem dX12_scratchesOf_52 : decode cX12_scratchesOf 52 = .ok (.ireturn, 1) := by decide +kernel
theorem dX12_draw_0 : decode cX12_draw 0 = .ok (.aload_n 0, 1) := by decide +kernel
theorem dX12_draw_1 : decode cX12_draw 1 = .ok (.aload_n 0, 1) := by decide +kernel
theorem dX12_draw_2 : decode cX12_draw 2 = .ok (.getfield 16, 3) := by decide +kernel
theorem dX12_draw_5 : decode cX12_draw 5 = .ok (.ldc 169, 2) := by decide +kernel
theorem dX12_draw_7 : decode cX12_draw 7 = .ok (.imul, 1) := by decide +kernel
theorem dX12_draw_8 : decode cX12_draw 8 = .ok (.sipush 12345, 3) := by decide +kernel
theorem dX12_draw_11 : decode cX12_draw 11 = .ok (.iadd, 1) := by decide +kernel
theorem dX12_draw_12 : decode cX12_draw 12 = .ok (.putfield 16, 3) := by decide +kernel
theorem dX12_draw_15 : decode cX12_draw 15 = .ok (.aload_n 0, 1) := by decide +kernel
theorem dX12_draw_16 : decode cX12_draw 16 = .ok (.getfield 16, 3) := by decide +kernel
theorem dX12_draw_19 : decode cX12_draw 19 = .ok (.bipush 16, 2) := by decide +kernel
theorem dX12_draw_21 : decode cX12_draw 21 = .ok (.iushr, 1) := by decide +kernel
theorem dX12_draw_22 : decode cX12_draw 22 = .ok (.iload_n 1, 1) := by decide +kernel
theorem dX12_draw_23 : decode cX12_draw 23 = .ok (.irem, 1) := by decide +kernel
theorem dX12_draw_24 : decode cX12_draw 24 = .ok (.ireturn, 1) := by decide +kernel
theorem dX12_hard_0 : decode cX12_hard 0 = .ok (.aload_n 0, 1) := by decide +kernel
theorem dX12_hard_1 : decode cX12_hard 1 = .ok (.getfield 26, 3) := by decide +kernel
theorem dX12_hard_4 : decode cX12_hard 4 = .ok (.invokeinterface 137 1, 5) := by decide +kernel
theorem dX12_hard_9 : decode cX12_hard 9 = .ok (.ifCond .eq 7, 3) := by decide +kernel
theorem dX12_hard_12 : decode cX12_hard 12 = .ok (.iconst 0, 1) := by decide +kernel
theorem dX12_hard_13 : decode cX12_hard 13 = .ok (.goto 26, 3) := by decide +kernel
theorem dX12_hard_16 : decode cX12_hard 16 = .ok (.aload_n 0, 1) := by decide +kernel
theorem dX12_hard_17 : decode cX12_hard 17 = .ok (.getfield 26, 3) := by decide +kernel
theorem dX12_hard_20 : decode cX12_hard 20 = .ok (.aload_n 0, 1) := by decide +kernel
theorem dX12_hard_21 : decode cX12_hard 21 = .ok (.aload_n 0, 1) := by decide +kernel
theorem dX12_hard_22 : decode cX12_hard 22 = .ok (.iload_n 1, 1) := by decide +kernel
theorem dX12_hard_23 : decode cX12_hard 23 = .ok (.invokevirtual 149, 3) := by decide +kernel
theorem dX12_hard_26 : decode cX12_hard 26 = .ok (.invokevirtual 170, 3) := by decide +kernel
theorem dX12_hard_29 : decode cX12_hard 29 = .ok (.invokeinterface 133 2, 5) := by decide +kernel
theorem dX12_hard_34 : decode cX12_hard 34 = .ok (.checkcast 112, 3) := by decide +kernel
theorem dX12_hard_37 : decode cX12_hard 37 = .ok (.iconst 3, 1) := by decide +kernel
theorem dX12_hard_38 : decode cX12_hard 38 = .ok (.iaload, 1) := by decide +kernel
theorem dX12_hard_39 : decode cX12_hard 39 = .ok (.ireturn, 1) := by decide +kernel
theorem dX12_engrave_0 : decode cX12_engrave 0 = .ok (.iconst 0, 1) := by decide +kernel
theorem dX12_engrave_1 : decode cX12_engrave 1 = .ok (.istore_n 2, 1) := by decide +kernel
theorem dX12_engrave_2 : decode cX12_engrave 2 = .ok (.iconst 0, 1) := by decide +kernel
theorem dX12_engrave_3 : decode cX12_engrave 3 = .ok (.istore_n 3, 1) := by decide +kernel
theorem dX12_engrave_4 : decode cX12_engrave 4 = .ok (.iload_n 3, 1) := by decide +kernel
theorem dX12_engrave_5 : decode cX12_engrave 5 = .ok (.aload_n 0, 1) := by decide +kernel
theorem dX12_engrave_6 : decode cX12_engrave 6 = .ok (.getfield 30, 3) := by decide +kernel
theorem dX12_engrave_9 : decode cX12_engrave 9 = .ok (.iload_n 1, 1) := by decide +kernel
theorem dX12_engrave_10 : decode cX12_engrave 10 = .ok (.invokeinterface 133 2, 5) := by decide +kernel
theorem dX12_engrave_15 : decode cX12_engrave 15 = .ok (.checkcast 112, 3) := by decide +kernel
theorem dX12_engrave_18 : decode cX12_engrave 18 = .ok (.iconst 0, 1) := by decide +kernel
theorem dX12_engrave_19 : decode cX12_engrave 19 = .ok (.iaload, 1) := by decide +kernel
theorem dX12_engrave_20 : decode cX12_engrave 20 = .ok (.iconst 4, 1) := by decide +kernel
theorem dX12_engrave_21 : decode cX12_engrave 21 = .ok (.irem, 1) := by decide +kernel
theorem dX12_engrave_22 : decode cX12_engrave 22 = .ok (.if_icmp .gt 115, 3) := by decide +kernel
theorem dX12_engrave_25 : decode cX12_engrave 25 = .ok (.aload_n 0, 1) := by decide +kernel
theorem dX12_engrave_26 : decode cX12_engrave 26 = .ok (.iload_n 1, 1) := by decide +kernel
theorem dX12_engrave_27 : decode cX12_engrave 27 = .ok (.invokevirtual 173, 3) := by decide +kernel
theorem dX12_engrave_30 : decode cX12_engrave 30 = .ok (.aload_n 0, 1) := by decide +kernel
theorem dX12_engrave_31 : decode cX12_engrave 31 = .ok (.getfield 7, 3) := by decide +kernel
theorem dX12_engrave_34 : decode cX12_engrave 34 = .ok (.isub, 1) := by decide +kernel
theorem dX12_engrave_35 : decode cX12_engrave 35 = .ok (.istore 4, 2) := by decide +kernel
theorem dX12_engrave_37 : decode cX12_engrave 37 = .ok (.iload 4, 2) := by decide +kernel
theorem dX12_engrave_39 : decode cX12_engrave 39 = .ok (.ifCond .le 61, 3) := by decide +kernel
theorem dX12_engrave_42 : decode cX12_engrave 42 = .ok (.aload_n 0, 1) := by decide +kernel
theorem dX12_engrave_43 : decode cX12_engrave 43 = .ok (.bipush 100, 2) := by decide +kernel
theorem dX12_engrave_45 : decode cX12_engrave 45 = .ok (.invokevirtual 176, 3) := by decide +kernel
theorem dX12_engrave_48 : decode cX12_engrave 48 = .ok (.iconst 2, 1) := by decide +kernel
theorem dX12_engrave_49 : decode cX12_engrave 49 = .ok (.iload 4, 2) := by decide +kernel
theorem dX12_engrave_51 : decode cX12_engrave 51 = .ok (.imul, 1) := by decide +kernel
theorem dX12_engrave_52 : decode cX12_engrave 52 = .ok (.if_icmp .ge 48, 3) := by decide +kernel
theorem dX12_engrave_55 : decode cX12_engrave 55 = .ok (.aload_n 0, 1) := by decide +kernel
theorem dX12_engrave_56 : decode cX12_engrave 56 = .ok (.getfield 36, 3) := by decide +kernel
theorem dX12_engrave_59 : decode cX12_engrave 59 = .ok (.iconst 2, 1) := by decide +kernel
theorem dX12_engrave_60 : decode cX12_engrave 60 = .ok (.newarray .int, 2) := by decide +kernel
theorem dX12_engrave_62 : decode cX12_engrave 62 = .ok (.dup, 1) := by decide +kernel
theorem dX12_engrave_63 : decode cX12_engrave 63 = .ok (.iconst 0, 1) := by decide +kernel
theorem dX12_engrave_64 : decode cX12_engrave 64 = .ok (.iload_n 1, 1) := by decide +kernel
theorem dX12_engrave_65 : decode cX12_engrave 65 = .ok (.iastore, 1) := by decide +kernel
theorem dX12_engrave_66 : decode cX12_engrave 66 = .ok (.dup, 1) := by decide +kernel
theorem dX12_engrave_67 : decode cX12_engrave 67 = .ok (.iconst 1, 1) := by decide +kernel
theorem dX12_engrave_68 : decode cX12_engrave 68 = .ok (.bipush 100, 2) := by decide +kernel
theorem dX12_engrave_70 : decode cX12_engrave 70 = .ok (.bipush 100, 2) := by decide +kernel
theorem dX12_engrave_72 : decode cX12_engrave 72 = .ok (.aload_n 0, 1) := by decide +kernel
theorem dX12_engrave_73 : decode cX12_engrave 73 = .ok (.bipush 20, 2) := by decide +kernel
theorem dX12_engrave_75 : decode cX12_engrave 75 = .ok (.invokevirtual 176, 3) := by decide +kernel
theorem dX12_engrave_78 : decode cX12_engrave 78 = .ok (.imul, 1) := by decide +kernel
theorem dX12_engrave_79 : decode cX12_engrave 79 = .ok (.iadd, 1) := by decide +kernel
theorem dX12_engrave_80 : decode cX12_engrave 80 = .ok (.iastore, 1) := by decide +kernel
theorem dX12_engrave_81 : decode cX12_engrave 81 = .ok (.invokeinterface 78 2, 5) := by decide +kernel
theorem dX12_engrave_86 : decode cX12_engrave 86 = .ok (.pop, 1) := by decide +kernel
theorem dX12_engrave_87 : decode cX12_engrave 87 = .ok (.aload_n 0, 1) := by decide +kernel
theorem dX12_engrave_88 : decode cX12_engrave 88 = .ok (.dup, 1) := by decide +kernel
theorem dX12_engrave_89 : decode cX12_engrave 89 = .ok (.getfield 105, 3) := by decide +kernel
theorem dX12_engrave_92 : decode cX12_engrave 92 = .ok (.iconst 1, 1) := by decide +kernel
theorem dX12_engrave_93 : decode cX12_engrave 93 = .ok (.iadd, 1) := by decide +kernel
theorem dX12_engrave_94 : decode cX12_engrave 94 = .ok (.putfield 105, 3) := by decide +kernel
theorem dX12_engrave_97 : decode cX12_engrave 97 = .ok (.iinc 2 1, 3) := by decide +kernel
theorem dX12_engrave_100 : decode cX12_engrave 100 = .ok (.aload_n 0, 1) := by decide +kernel
theorem dX12_engrave_101 : decode cX12_engrave 101 = .ok (.dup, 1) := by decide +kernel
theorem dX12_engrave_102 : decode cX12_engrave 102 = .ok (.getfield 108, 3) := by decide +kernel
theorem dX12_engrave_105 : decode cX12_engrave 105 = .ok (.iconst 1, 1) := by decide +kernel
theorem dX12_engrave_106 : decode cX12_engrave 106 = .ok (.iadd, 1) := by decide +kernel
theorem dX12_engrave_107 : decode cX12_engrave 107 = .ok (.putfield 108, 3) := by decide +kernel
theorem dX12_engrave_110 : decode cX12_engrave 110 = .ok (.aload_n 0, 1) := by decide +kernel
theorem dX12_engrave_111 : decode cX12_engrave 111 = .ok (.aload_n 0, 1) := by decide +kernel
theorem dX12_engrave_112 : decode cX12_engrave 112 = .ok (.getfield 7, 3) := by decide +kernel
theorem dX12_engrave_115 : decode cX12_engrave 115 = .ok (.ifCond .ne 7, 3) := by decide +kernel
theorem dX12_engrave_118 : decode cX12_engrave 118 = .ok (.iconst 0, 1) := by decide +kernel
theorem dX12_engrave_119 : decode cX12_engrave 119 = .ok (.goto 9, 3) := by decide +kernel
theorem dX12_engrave_122 : decode cX12_engrave 122 = .ok (.aload_n 0, 1) := by decide +kernel
theorem dX12_engrave_123 : decode cX12_engrave 123 = .ok (.getfield 7, 3) := by decide +kernel
theorem dX12_engrave_126 : decode cX12_engrave 126 = .ok (.iconst 1, 1) := by decide +kernel
theorem dX12_engrave_127 : decode cX12_engrave 127 = .ok (.isub, 1) := by decide +kernel
theorem dX12_engrave_128 : decode cX12_engrave 128 = .ok (.putfield 7, 3) := by decide +kernel
theorem dX12_engrave_131 : decode cX12_engrave 131 = .ok (.iinc 3 1, 3) := by decide +kernel
theorem dX12_engrave_134 : decode cX12_engrave 134 = .ok (.goto (-130), 3) := by decide +kernel
theorem dX12_engrave_137 : decode cX12_engrave 137 = .ok (.aload_n 0, 1) := by decide +kernel
theorem dX12_engrave_138 : decode cX12_engrave 138 = .ok (.getfield 30, 3) := by decide +kernel
theorem dX12_engrave_141 : decode cX12_engrave 141 = .ok (.iload_n 1, 1) := by decide +kernel
theorem dX12_engrave_142 : decode cX12_engrave 142 = .ok (.invokeinterface 133 2, 5) := by decide +kernel
theorem dX12_engrave_147 : decode cX12_engrave 147 = .ok (.checkcast 112, 3) := by decide +kernel
theorem dX12_engrave_150 : decode cX12_engrave 150 = .ok (.iconst 1, 1) := by decide +kernel
theorem dX12_engrave_151 : decode cX12_engrave 151 = .ok (.iconst 1, 1) := by decide +kernel
theorem dX12_engrave_152 : decode cX12_engrave 152 = .ok (.iastore, 1) := by decide +kernel
theorem dX12_engrave_153 : decode cX12_engrave 153 = .ok (.iload_n 2, 1) := by decide +kernel
theorem dX12_engrave_154 : decode cX12_engrave 154 = .ok (.ireturn, 1) := by decide +kernel
theorem dX12_engraveAll_0 : decode cX12_engraveAll 0 = .ok (.iconst 0, 1) := by decide +kernel
theorem dX12_engraveAll_1 : decode cX12_engraveAll 1 = .ok (.istore_n 2, 1) := by decide +kernel
theorem dX12_engraveAll_2 : decode cX12_engraveAll 2 = .ok (.iconst 0, 1) := by decide +kernel
theorem dX12_engraveAll_3 : decode cX12_engraveAll 3 = .ok (.istore_n 3, 1) := by decide +kernel
theorem dX12_engraveAll_4 : decode cX12_engraveAll 4 = .ok (.iload_n 3, 1) := by decide +kernel
theorem dX12_engraveAll_5 : decode cX12_engraveAll 5 = .ok (.aload_n 0, 1) := by decide +kernel
theorem dX12_engraveAll_6 : decode cX12_engraveAll 6 = .ok (.getfield 30, 3) := by decide +kernel
theorem dX12_engraveAll_9 : decode cX12_engraveAll 9 = .ok (.invokeinterface 129 1, 5) := by decide +kernel
theorem dX12_engraveAll_14 : decode cX12_engraveAll 14 = .ok (.if_icmp .ge 54, 3) := by decide +kernel
theorem dX12_engraveAll_17 : decode cX12_engraveAll 17 = .ok (.aload_n 0, 1) := by decide +kernel
theorem dX12_engraveAll_18 : decode cX12_engraveAll 18 = .ok (.getfield 30, 3) := by decide +kernel
theorem dX12_engraveAll_21 : decode cX12_engraveAll 21 = .ok (.iload_n 3, 1) := by decide +kernel
theorem dX12_engraveAll_22 : decode cX12_engraveAll 22 = .ok (.invokeinterface 133 2, 5) := by decide +kernel
theorem dX12_engraveAll_27 : decode cX12_engraveAll 27 = .ok (.checkcast 112, 3) := by decide +kernel
theorem dX12_engraveAll_30 : decode cX12_engraveAll 30 = .ok (.iconst 1, 1) := by decide +kernel
theorem dX12_engraveAll_31 : decode cX12_engraveAll 31 = .ok (.iaload, 1) := by decide +kernel
theorem dX12_engraveAll_32 : decode cX12_engraveAll 32 = .ok (.iconst 1, 1) := by decide +kernel
theorem dX12_engraveAll_33 : decode cX12_engraveAll 33 = .ok (.if_icmp .eq 29, 3) := by decide +kernel
theorem dX12_engraveAll_36 : decode cX12_engraveAll 36 = .ok (.aload_n 0, 1) := by decide +kernel
theorem dX12_engraveAll_37 : decode cX12_engraveAll 37 = .ok (.getfield 36, 3) := by decide +kernel
theorem dX12_engraveAll_40 : decode cX12_engraveAll 40 = .ok (.invokeinterface 129 1, 5) := by decide +kernel
theorem dX12_engraveAll_45 : decode cX12_engraveAll 45 = .ok (.iload_n 1, 1) := by decide +kernel
theorem dX12_engraveAll_46 : decode cX12_engraveAll 46 = .ok (.if_icmp .le 6, 3) := by decide +kernel
theorem dX12_engraveAll_49 : decode cX12_engraveAll 49 = .ok (.goto 13, 3) := by decide +kernel
theorem dX12_engraveAll_52 : decode cX12_engraveAll 52 = .ok (.aload_n 0, 1) := by decide +kernel
theorem dX12_engraveAll_53 : decode cX12_engraveAll 53 = .ok (.iload_n 3, 1) := by decide +kernel
theorem dX12_engraveAll_54 : decode cX12_engraveAll 54 = .ok (.invokevirtual 179, 3) := by decide +kernel
theorem dX12_engraveAll_57 : decode cX12_engraveAll 57 = .ok (.istore 4, 2) := by decide +kernel
theorem dX12_engraveAll_59 : decode cX12_engraveAll 59 = .ok (.iinc 2 1, 3) := by decide +kernel
theorem dX12_engraveAll_62 : decode cX12_engraveAll 62 = .ok (.iinc 3 1, 3) := by decide +kernel
theorem dX12_engraveAll_65 : decode cX12_engraveAll 65 = .ok (.goto (-61), 3) := by decide +kernel
theorem dX12_engraveAll_68 : decode cX12_engraveAll 68 = .ok (.iload_n 2, 1) := by decide +kernel
theorem dX12_engraveAll_69 : decode cX12_engraveAll 69 = .ok (.ireturn, 1) := by decide +kernel
theorem dX12_engraved_0 : decode cX12_engraved 0 = .ok (.iconst 0, 1) := by decide +kernel
theorem dX12_engraved_1 : decode cX12_engraved 1 = .ok (.istore_n 1, 1) := by decide +kernel
theorem dX12_engraved_2 : decode cX12_engraved 2 = .ok (.aload_n 0, 1) := by decide +kernel
theorem dX12_engraved_3 : decode cX12_engraved 3 = .ok (.getfield 30, 3) := by decide +kernel
theorem dX12_engraved_6 : decode cX12_engraved 6 = .ok (.invokeinterface 116 1, 5) := by decide +kernel
theorem dX12_engraved_11 : decode cX12_engraved 11 = .ok (.astore_n 2, 1) := by decide +kernel
theorem dX12_engraved_12 : decode cX12_engraved 12 = .ok (.aload_n 2, 1) := by decide +kernel
theorem dX12_engraved_13 : decode cX12_engraved 13 = .ok (.invokeinterface 120 1, 5) := by decide +kernel
theorem dX12_engraved_18 : decode cX12_engraved 18 = .ok (.ifCond .eq 22, 3) := by decide +kernel
theorem dX12_engraved_21 : decode cX12_engraved 21 = .ok (.aload_n 2, 1) := by decide +kernel
theorem dX12_engraved_22 : decode cX12_engraved 22 = .ok (.invokeinterface 126 1, 5) := by decide +kernel
theorem dX12_engraved_27 : decode cX12_engraved 27 = .ok (.checkcast 112, 3) := by decide +kernel
theorem dX12_engraved_30 : decode cX12_engraved 30 = .ok (.astore_n 3, 1) := by decide +kernel
theorem dX12_engraved_31 : decode cX12_engraved 31 = .ok (.iload_n 1, 1) := by decide +kernel
theorem dX12_engraved_32 : decode cX12_engraved 32 = .ok (.aload_n 3, 1) := by decide +kernel
theorem dX12_engraved_33 : decode cX12_engraved 33 = .ok (.iconst 1, 1) := by decide +kernel
theorem dX12_engraved_34 : decode cX12_engraved 34 = .ok (.iaload, 1) := by decide +kernel
theorem dX12_engraved_35 : decode cX12_engraved 35 = .ok (.iadd, 1) := by decide +kernel
theorem dX12_engraved_36 : decode cX12_engraved 36 = .ok (.istore_n 1, 1) := by decide +kernel
theorem dX12_engraved_37 : decode cX12_engraved 37 = .ok (.goto (-25), 3) := by decide +kernel
theorem dX12_engraved_40 : decode cX12_engraved 40 = .ok (.iload_n 1, 1) := by decide +kernel
theorem dX12_engraved_41 : decode cX12_engraved 41 = .ok (.ireturn, 1) := by decide +kernel
