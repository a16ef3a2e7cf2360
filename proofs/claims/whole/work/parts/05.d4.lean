theorem dX9_lookForMethod_43 : decode cX9_lookForMethod 43 = .ok (.iinc 6 1, 3) := by decide +kernel
theorem dX9_lookForMethod_46 : decode cX9_lookForMethod 46 = .ok (.goto (-36), 3) := by decide +kernel
theorem dX9_lookForMethod_49 : decode cX9_lookForMethod 49 = .ok (.iload 5, 2) := by decide +kernel
theorem dX9_lookForMethod_51 : decode cX9_lookForMethod 51 = .ok (.iconst 1, 1) := by decide +kernel
theorem dX9_lookForMethod_52 : decode cX9_lookForMethod 52 = .ok (.isub, 1) := by decide +kernel
theorem dX9_lookForMethod_53 : decode cX9_lookForMethod 53 = .ok (.istore 6, 2) := by decide +kernel
theorem dX9_lookForMethod_55 : decode cX9_lookForMethod 55 = .ok (.iload 6, 2) := by decide +kernel
theorem dX9_lookForMethod_57 : decode cX9_lookForMethod 57 = .ok (.ifCond .lt 69, 3) := by decide +kernel
theorem dX9_lookForMethod_60 : decode cX9_lookForMethod 60 = .ok (.aload_n 0, 1) := by decide +kernel
theorem dX9_lookForMethod_61 : decode cX9_lookForMethod 61 = .ok (.iconst 0, 1) := by decide +kernel
theorem dX9_lookForMethod_62 : decode cX9_lookForMethod 62 = .ok (.putfield 249, 3) := by decide +kernel
theorem dX9_lookForMethod_65 : decode cX9_lookForMethod 65 = .ok (.aload_n 0, 1) := by decide +kernel
theorem dX9_lookForMethod_66 : decode cX9_lookForMethod 66 = .ok (.aload_n 0, 1) := by decide +kernel
theorem dX9_lookForMethod_67 : decode cX9_lookForMethod 67 = .ok (.getfield 84, 3) := by decide +kernel
theorem dX9_lookForMethod_70 : decode cX9_lookForMethod 70 = .ok (.iload 6, 2) := by decide +kernel
theorem dX9_lookForMethod_72 : decode cX9_lookForMethod 72 = .ok (.iaload, 1) := by decide +kernel
theorem dX9_lookForMethod_73 : decode cX9_lookForMethod 73 = .ok (.invokevirtual 259, 3) := by decide +kernel
theorem dX9_lookForMethod_76 : decode cX9_lookForMethod 76 = .ok (.iconst 0, 1) := by decide +kernel
theorem dX9_lookForMethod_77 : decode cX9_lookForMethod 77 = .ok (.istore 7, 2) := by decide +kernel
theorem dX9_lookForMethod_79 : decode cX9_lookForMethod 79 = .ok (.iload 7, 2) := by decide +kernel
theorem dX9_lookForMethod_81 : decode cX9_lookForMethod 81 = .ok (.aload_n 0, 1) := by decide +kernel
theorem dX9_lookForMethod_82 : decode cX9_lookForMethod 82 = .ok (.getfield 249, 3) := by decide +kernel
theorem dX9_lookForMethod_85 : decode cX9_lookForMethod 85 = .ok (.if_icmp .ge 35, 3) := by decide +kernel
theorem dX9_lookForMethod_88 : decode cX9_lookForMethod 88 = .ok (.aload_n 0, 1) := by decide +kernel
theorem dX9_lookForMethod_89 : decode cX9_lookForMethod 89 = .ok (.aload_n 0, 1) := by decide +kernel
theorem dX9_lookForMethod_90 : decode cX9_lookForMethod 90 = .ok (.getfield 78, 3) := by decide +kernel
theorem dX9_lookForMethod_93 : decode cX9_lookForMethod 93 = .ok (.iload 7, 2) := by decide +kernel
theorem dX9_lookForMethod_95 : decode cX9_lookForMethod 95 = .ok (.iaload, 1) := by decide +kernel
theorem dX9_lookForMethod_96 : decode cX9_lookForMethod 96 = .ok (.iconst 1, 1) := by decide +kernel
theorem dX9_lookForMethod_97 : decode cX9_lookForMethod 97 = .ok (.iload_n 2, 1) := by decide +kernel
theorem dX9_lookForMethod_98 : decode cX9_lookForMethod 98 = .ok (.iload_n 3, 1) := by decide +kernel
theorem dX9_lookForMethod_99 : decode cX9_lookForMethod 99 = .ok (.iload 4, 2) := by decide +kernel
theorem dX9_lookForMethod_101 : decode cX9_lookForMethod 101 = .ok (.invokevirtual 147, 3) := by decide +kernel
theorem dX9_lookForMethod_104 : decode cX9_lookForMethod 104 = .ok (.istore 8, 2) := by decide +kernel
theorem dX9_lookForMethod_106 : decode cX9_lookForMethod 106 = .ok (.iload 8, 2) := by decide +kernel
theorem dX9_lookForMethod_108 : decode cX9_lookForMethod 108 = .ok (.ifCond .lt 6, 3) := by decide +kernel
theorem dX9_lookForMethod_111 : decode cX9_lookForMethod 111 = .ok (.iload 8, 2) := by decide +kernel
theorem dX9_lookForMethod_113 : decode cX9_lookForMethod 113 = .ok (.ireturn, 1) := by decide +kernel
theorem dX9_lookForMethod_114 : decode cX9_lookForMethod 114 = .ok (.iinc 7 1, 3) := by decide +kernel
theorem dX9_lookForMethod_117 : decode cX9_lookForMethod 117 = .ok (.goto (-38), 3) := by decide +kernel
theorem dX9_lookForMethod_120 : decode cX9_lookForMethod 120 = .ok (.iinc 6 (-1), 3) := by decide +kernel
theorem dX9_lookForMethod_123 : decode cX9_lookForMethod 123 = .ok (.goto (-68), 3) := by decide +kernel
theorem dX9_lookForMethod_126 : decode cX9_lookForMethod 126 = .ok (.bipush (-2), 2) := by decide +kernel
theorem dX9_lookForMethod_128 : decode cX9_lookForMethod 128 = .ok (.ireturn, 1) := by decide +kernel
theorem dX9_select_0 : decode cX9_select 0 = .ok (.aload_n 0, 1) := by decide +kernel
theorem dX9_select_1 : decode cX9_select 1 = .ok (.iload_n 1, 1) := by decide +kernel
theorem dX9_select_2 : decode cX9_select 2 = .ok (.invokevirtual 256, 3) := by decide +kernel
theorem dX9_select_5 : decode cX9_select 5 = .ok (.istore 5, 2) := by decide +kernel
theorem dX9_select_7 : decode cX9_select 7 = .ok (.iconst 0, 1) := by decide +kernel
theorem dX9_select_8 : decode cX9_select 8 = .ok (.istore 6, 2) := by decide +kernel
theorem dX9_select_10 : decode cX9_select 10 = .ok (.iload 6, 2) := by decide +kernel
theorem dX9_select_12 : decode cX9_select 12 = .ok (.iload 5, 2) := by decide +kernel
theorem dX9_select_14 : decode cX9_select 14 = .ok (.if_icmp .ge 47, 3) := by decide +kernel
theorem dX9_select_17 : decode cX9_select 17 = .ok (.aload_n 0, 1) := by decide +kernel
theorem dX9_select_18 : decode cX9_select 18 = .ok (.aload_n 0, 1) := by decide +kernel
theorem dX9_select_19 : decode cX9_select 19 = .ok (.getfield 84, 3) := by decide +kernel
theorem dX9_select_22 : decode cX9_select 22 = .ok (.iload 6, 2) := by decide +kernel
theorem dX9_select_24 : decode cX9_select 24 = .ok (.iaload, 1) := by decide +kernel
theorem dX9_select_25 : decode cX9_select 25 = .ok (.iconst 1, 1) := by decide +kernel
theorem dX9_select_26 : decode cX9_select 26 = .ok (.iload_n 2, 1) := by decide +kernel
theorem dX9_select_27 : decode cX9_select 27 = .ok (.iload_n 3, 1) := by decide +kernel
theorem dX9_select_28 : decode cX9_select 28 = .ok (.iload 4, 2) := by decide +kernel
theorem dX9_select_30 : decode cX9_select 30 = .ok (.invokevirtual 147, 3) := by decide +kernel
theorem dX9_select_33 : decode cX9_select 33 = .ok (.istore 7, 2) := by decide +kernel
theorem dX9_select_35 : decode cX9_select 35 = .ok (.iload 7, 2) := by decide +kernel
theorem dX9_select_37 : decode cX9_select 37 = .ok (.ifCond .lt 18, 3) := by decide +kernel
theorem dX9_select_40 : decode cX9_select 40 = .ok (.aload_n 0, 1) := by decide +kernel
theorem dX9_select_41 : decode cX9_select 41 = .ok (.getfield 38, 3) := by decide +kernel
theorem dX9_select_44 : decode cX9_select 44 = .ok (.iload 7, 2) := by decide +kernel
theorem dX9_select_46 : decode cX9_select 46 = .ok (.iaload, 1) := by decide +kernel
theorem dX9_select_47 : decode cX9_select 47 = .ok (.iconst 5, 1) := by decide +kernel
theorem dX9_select_48 : decode cX9_select 48 = .ok (.iand, 1) := by decide +kernel
theorem dX9_select_49 : decode cX9_select 49 = .ok (.ifCond .ne 6, 3) := by decide +kernel
theorem dX9_select_52 : decode cX9_select 52 = .ok (.iload 7, 2) := by decide +kernel
theorem dX9_select_54 : decode cX9_select 54 = .ok (.ireturn, 1) := by decide +kernel
theorem dX9_select_55 : decode cX9_select 55 = .ok (.iinc 6 1, 3) := by decide +kernel
theorem dX9_select_58 : decode cX9_select 58 = .ok (.goto (-48), 3) := by decide +kernel
theorem dX9_select_61 : decode cX9_select 61 = .ok (.aload_n 0, 1) := by decide +kernel
theorem dX9_select_62 : decode cX9_select 62 = .ok (.iload_n 1, 1) := by decide +kernel
theorem dX9_select_63 : decode cX9_select 63 = .ok (.invokevirtual 143, 3) := by decide +kernel
theorem dX9_select_66 : decode cX9_select 66 = .ok (.istore 6, 2) := by decide +kernel
theorem dX9_select_68 : decode cX9_select 68 = .ok (.iconst 0, 1) := by decide +kernel
theorem dX9_select_69 : decode cX9_select 69 = .ok (.istore 7, 2) := by decide +kernel
theorem dX9_select_71 : decode cX9_select 71 = .ok (.iconst 0, 1) := by decide +kernel
theorem dX9_select_72 : decode cX9_select 72 = .ok (.istore 8, 2) := by decide +kernel
theorem dX9_select_74 : decode cX9_select 74 = .ok (.iload 8, 2) := by decide +kernel
theorem dX9_select_76 : decode cX9_select 76 = .ok (.aload_n 0, 1) := by decide +kernel
theorem dX9_select_77 : decode cX9_select 77 = .ok (.getfield 129, 3) := by decide +kernel
theorem dX9_select_80 : decode cX9_select 80 = .ok (.if_icmp .ge 78, 3) := by decide +kernel
theorem dX9_select_83 : decode cX9_select 83 = .ok (.iload 6, 2) := by decide +kernel
theorem dX9_select_85 : decode cX9_select 85 = .ok (.iload 8, 2) := by decide +kernel
theorem dX9_select_87 : decode cX9_select 87 = .ok (.ishr, 1) := by decide +kernel
theorem dX9_select_88 : decode cX9_select 88 = .ok (.iconst 1, 1) := by decide +kernel
theorem dX9_select_89 : decode cX9_select 89 = .ok (.iand, 1) := by decide +kernel
theorem dX9_select_90 : decode cX9_select 90 = .ok (.iconst 1, 1) := by decide +kernel
theorem dX9_select_91 : decode cX9_select 91 = .ok (.if_icmp .ne 27, 3) := by decide +kernel
theorem dX9_select_94 : decode cX9_select 94 = .ok (.aload_n 0, 1) := by decide +kernel
theorem dX9_select_95 : decode cX9_select 95 = .ok (.getfield 7, 3) := by decide +kernel
theorem dX9_select_98 : decode cX9_select 98 = .ok (.iload 8, 2) := by decide +kernel
theorem dX9_select_100 : decode cX9_select 100 = .ok (.baload, 1) := by decide +kernel
theorem dX9_select_101 : decode cX9_select 101 = .ok (.ifCond .eq 17, 3) := by decide +kernel
theorem dX9_select_104 : decode cX9_select 104 = .ok (.aload_n 0, 1) := by decide +kernel
theorem dX9_select_105 : decode cX9_select 105 = .ok (.iload 8, 2) := by decide +kernel
theorem dX9_select_107 : decode cX9_select 107 = .ok (.iconst 1, 1) := by decide +kernel
theorem dX9_select_108 : decode cX9_select 108 = .ok (.iload_n 2, 1) := by decide +kernel
theorem dX9_select_109 : decode cX9_select 109 = .ok (.iload_n 3, 1) := by decide +kernel
theorem dX9_select_110 : decode cX9_select 110 = .ok (.iload 4, 2) := by decide +kernel
theorem dX9_select_112 : decode cX9_select 112 = .ok (.invokevirtual 147, 3) := by decide +kernel
theorem dX9_select_115 : decode cX9_select 115 = .ok (.goto 5, 3) := by decide +kernel
theorem dX9_select_118 : decode cX9_select 118 = .ok (.bipush (-2), 2) := by decide +kernel
theorem dX9_select_120 : decode cX9_select 120 = .ok (.istore 9, 2) := by decide +kernel
theorem dX9_select_122 : decode cX9_select 122 = .ok (.iload 7, 2) := by decide +kernel
theorem dX9_select_124 : decode cX9_select 124 = .ok (.iload 9, 2) := by decide +kernel
theorem dX9_select_126 : decode cX9_select 126 = .ok (.ifCond .lt 22, 3) := by decide +kernel
theorem dX9_select_129 : decode cX9_select 129 = .ok (.aload_n 0, 1) := by decide +kernel
theorem dX9_select_130 : decode cX9_select 130 = .ok (.getfield 38, 3) := by decide +kernel
theorem dX9_select_133 : decode cX9_select 133 = .ok (.iload 9, 2) := by decide +kernel
theorem dX9_select_135 : decode cX9_select 135 = .ok (.iaload, 1) := by decide +kernel
theorem dX9_select_136 : decode cX9_select 136 = .ok (.iconst 5, 1) := by decide +kernel
theorem dX9_select_137 : decode cX9_select 137 = .ok (.iand, 1) := by decide +kernel
theorem dX9_select_138 : decode cX9_select 138 = .ok (.ifCond .ne 10, 3) := by decide +kernel
theorem dX9_select_141 : decode cX9_select 141 = .ok (.iconst 1, 1) := by decide +kernel
theorem dX9_select_142 : decode cX9_select 142 = .ok (.iload 8, 2) := by decide +kernel
theorem dX9_select_144 : decode cX9_select 144 = .ok (.ishl, 1) := by decide +kernel
theorem dX9_select_145 : decode cX9_select 145 = .ok (.goto 4, 3) := by decide +kernel
theorem dX9_select_148 : decode cX9_select 148 = .ok (.iconst 0, 1) := by decide +kernel
theorem dX9_select_149 : decode cX9_select 149 = .ok (.ior, 1) := by decide +kernel
theorem dX9_select_150 : decode cX9_select 150 = .ok (.istore 7, 2) := by decide +kernel
theorem dX9_select_152 : decode cX9_select 152 = .ok (.iinc 8 1, 3) := by decide +kernel
theorem dX9_select_155 : decode cX9_select 155 = .ok (.goto (-81), 3) := by decide +kernel
theorem dX9_select_158 : decode cX9_select 158 = .ok (.iload 7, 2) := by decide +kernel
theorem dX9_select_160 : decode cX9_select 160 = .ok (.istore 8, 2) := by decide +kernel
theorem dX9_select_162 : decode cX9_select 162 = .ok (.iconst 0, 1) := by decide +kernel
theorem dX9_select_163 : decode cX9_select 163 = .ok (.istore 9, 2) := by decide +kernel
theorem dX9_select_165 : decode cX9_select 165 = .ok (.iload 9, 2) := by decide +kernel
theorem dX9_select_167 : decode cX9_select 167 = .ok (.aload_n 0, 1) := by decide +kernel
theorem dX9_select_168 : decode cX9_select 168 = .ok (.getfield 129, 3) := by decide +kernel
theorem dX9_select_171 : decode cX9_select 171 = .ok (.if_icmp .ge 95, 3) := by decide +kernel
theorem dX9_select_174 : decode cX9_select 174 = .ok (.iconst 0, 1) := by decide +kernel
theorem dX9_select_175 : decode cX9_select 175 = .ok (.istore 10, 2) := by decide +kernel
theorem dX9_select_177 : decode cX9_select 177 = .ok (.iload 10, 2) := by decide +kernel
theorem dX9_select_179 : decode cX9_select 179 = .ok (.aload_n 0, 1) := by decide +kernel
theorem dX9_select_180 : decode cX9_select 180 = .ok (.getfield 129, 3) := by decide +kernel
theorem dX9_select_183 : decode cX9_select 183 = .ok (.if_icmp .ge 77, 3) := by decide +kernel
theorem dX9_select_186 : decode cX9_select 186 = .ok (.iload 9, 2) := by decide +kernel
theorem dX9_select_188 : decode cX9_select 188 = .ok (.iload 10, 2) := by decide +kernel
theorem dX9_select_190 : decode cX9_select 190 = .ok (.if_icmp .eq 40, 3) := by decide +kernel
theorem dX9_select_193 : decode cX9_select 193 = .ok (.iload 7, 2) := by decide +kernel
theorem dX9_select_195 : decode cX9_select 195 = .ok (.iload 9, 2) := by decide +kernel
theorem dX9_select_197 : decode cX9_select 197 = .ok (.ishr, 1) := by decide +kernel
theorem dX9_select_198 : decode cX9_select 198 = .ok (.iconst 1, 1) := by decide +kernel
theorem dX9_select_199 : decode cX9_select 199 = .ok (.iand, 1) := by decide +kernel
theorem dX9_select_200 : decode cX9_select 200 = .ok (.iconst 1, 1) := by decide +kernel
theorem dX9_select_201 : decode cX9_select 201 = .ok (.if_icmp .ne 29, 3) := by decide +kernel
theorem dX9_select_204 : decode cX9_select 204 = .ok (.iload 7, 2) := by decide +kernel
theorem dX9_select_206 : decode cX9_select 206 = .ok (.iload 10, 2) := by decide +kernel
theorem dX9_select_208 : decode cX9_select 208 = .ok (.ishr, 1) := by decide +kernel
theorem dX9_select_209 : decode cX9_select 209 = .ok (.iconst 1, 1) := by decide +kernel
theorem dX9_select_210 : decode cX9_select 210 = .ok (.iand, 1) := by decide +kernel
theorem dX9_select_211 : decode cX9_select 211 = .ok (.iconst 1, 1) := by decide +kernel
theorem dX9_select_212 : decode cX9_select 212 = .ok (.if_icmp .ne 18, 3) := by decide +kernel
theorem dX9_select_215 : decode cX9_select 215 = .ok (.aload_n 0, 1) := by decide +kernel
theorem dX9_select_216 : decode cX9_select 216 = .ok (.iload 10, 2) := by decide +kernel
theorem dX9_select_218 : decode cX9_select 218 = .ok (.iload 9, 2) := by decide +kernel
theorem dX9_select_220 : decode cX9_select 220 = .ok (.invokevirtual 182, 3) := by decide +kernel
theorem dX9_select_223 : decode cX9_select 223 = .ok (.ifCond .eq 7, 3) := by decide +kernel
theorem dX9_select_226 : decode cX9_select 226 = .ok (.iconst 1, 1) := by decide +kernel
theorem dX9_select_227 : decode cX9_select 227 = .ok (.goto 4, 3) := by decide +kernel
theorem dX9_select_230 : decode cX9_select 230 = .ok (.iconst 0, 1) := by decide +kernel
theorem dX9_select_231 : decode cX9_select 231 = .ok (.istore 11, 2) := by decide +kernel
theorem dX9_select_233 : decode cX9_select 233 = .ok (.iload 11, 2) := by decide +kernel
theorem dX9_select_235 : decode cX9_select 235 = .ok (.ifCond .eq 15, 3) := by decide +kernel
theorem dX9_select_238 : decode cX9_select 238 = .ok (.iload 8, 2) := by decide +kernel
theorem dX9_select_240 : decode cX9_select 240 = .ok (.iconst 1, 1) := by decide +kernel
theorem dX9_select_241 : decode cX9_select 241 = .ok (.iload 9, 2) := by decide +kernel
theorem dX9_select_243 : decode cX9_select 243 = .ok (.ishl, 1) := by decide +kernel
theorem dX9_select_244 : decode cX9_select 244 = .ok (.iconst (-1), 1) := by decide +kernel
theorem dX9_select_245 : decode cX9_select 245 = .ok (.ixor, 1) := by decide +kernel
theorem dX9_select_246 : decode cX9_select 246 = .ok (.iand, 1) := by decide +kernel
theorem dX9_select_247 : decode cX9_select 247 = .ok (.goto 5, 3) := by decide +kernel
theorem dX9_select_250 : decode cX9_select 250 = .ok (.iload 8, 2) := by decide +kernel
theorem dX9_select_252 : decode cX9_select 252 = .ok (.istore 8, 2) := by decide +kernel
theorem dX9_select_254 : decode cX9_select 254 = .ok (.iinc 10 1, 3) := by decide +kernel
theorem dX9_select_257 : decode cX9_select 257 = .ok (.goto (-80), 3) := by decide +kernel
theorem dX9_select_260 : decode cX9_select 260 = .ok (.iinc 9 1, 3) := by decide +kernel
theorem dX9_select_263 : decode cX9_select 263 = .ok (.goto (-98), 3) := by decide +kernel
theorem dX9_select_266 : decode cX9_select 266 = .ok (.bipush (-2), 2) := by decide +kernel
theorem dX9_select_268 : decode cX9_select 268 = .ok (.istore 9, 2) := by decide +kernel
theorem dX9_select_270 : decode cX9_select 270 = .ok (.bipush (-2), 2) := by decide +kernel
theorem dX9_select_272 : decode cX9_select 272 = .ok (.istore 10, 2) := by decide +kernel
theorem dX9_select_274 : decode cX9_select 274 = .ok (.iconst 0, 1) := by decide +kernel
theorem dX9_select_275 : decode cX9_select 275 = .ok (.istore 11, 2) := by decide +kernel
theorem dX9_select_277 : decode cX9_select 277 = .ok (.iload 11, 2) := by decide +kernel
theorem dX9_select_279 : decode cX9_select 279 = .ok (.aload_n 0, 1) := by decide +kernel
theorem dX9_select_280 : decode cX9_select 280 = .ok (.getfield 129, 3) := by decide +kernel
theorem dX9_select_283 : decode cX9_select 283 = .ok (.if_icmp .ge 70, 3) := by decide +kernel
theorem dX9_select_286 : decode cX9_select 286 = .ok (.iload 8, 2) := by decide +kernel
theorem dX9_select_288 : decode cX9_select 288 = .ok (.iload 11, 2) := by decide +kernel
theorem dX9_select_290 : decode cX9_select 290 = .ok (.ishr, 1) := by decide +kernel
theorem dX9_select_291 : decode cX9_select 291 = .ok (.iconst 1, 1) := by decide +kernel
theorem dX9_select_292 : decode cX9_select 292 = .ok (.iand, 1) := by decide +kernel
theorem dX9_select_293 : decode cX9_select 293 = .ok (.iconst 1, 1) := by decide +kernel
theorem dX9_select_294 : decode cX9_select 294 = .ok (.if_icmp .ne 53, 3) := by decide +kernel
theorem dX9_select_297 : decode cX9_select 297 = .ok (.aload_n 0, 1) := by decide +kernel
theorem dX9_select_298 : decode cX9_select 298 = .ok (.iload 11, 2) := by decide +kernel
theorem dX9_select_300 : decode cX9_select 300 = .ok (.iconst 1, 1) := by decide +kernel
theorem dX9_select_301 : decode cX9_select 301 = .ok (.iload_n 2, 1) := by decide +kernel
theorem dX9_select_302 : decode cX9_select 302 = .ok (.iload_n 3, 1) := by decide +kernel
theorem dX9_select_303 : decode cX9_select 303 = .ok (.iload 4, 2) := by decide +kernel
theorem dX9_select_305 : decode cX9_select 305 = .ok (.invokevirtual 147, 3) := by decide +kernel
theorem dX9_select_308 : decode cX9_select 308 = .ok (.istore 12, 2) := by decide +kernel
theorem dX9_select_310 : decode cX9_select 310 = .ok (.aload_n 0, 1) := by decide +kernel
theorem dX9_select_311 : decode cX9_select 311 = .ok (.getfield 38, 3) := by decide +kernel
theorem dX9_select_314 : decode cX9_select 314 = .ok (.iload 12, 2) := by decide +kernel
theorem dX9_select_316 : decode cX9_select 316 = .ok (.iaload, 1) := by decide +kernel
theorem dX9_select_317 : decode cX9_select 317 = .ok (.bipush 8, 2) := by decide +kernel
theorem dX9_select_319 : decode cX9_select 319 = .ok (.iand, 1) := by decide +kernel
theorem dX9_select_320 : decode cX9_select 320 = .ok (.ifCond .eq 10, 3) := by decide +kernel
theorem dX9_select_323 : decode cX9_select 323 = .ok (.iload 12, 2) := by decide +kernel
theorem dX9_select_325 : decode cX9_select 325 = .ok (.istore 10, 2) := by decide +kernel
theorem dX9_select_327 : decode cX9_select 327 = .ok (.goto 20, 3) := by decide +kernel
theorem dX9_select_330 : decode cX9_select 330 = .ok (.iload 9, 2) := by decide +kernel
theorem dX9_select_332 : decode cX9_select 332 = .ok (.bipush (-2), 2) := by decide +kernel
theorem dX9_select_334 : decode cX9_select 334 = .ok (.if_icmp .ne 10, 3) := by decide +kernel
theorem dX9_select_337 : decode cX9_select 337 = .ok (.iload 12, 2) := by decide +kernel
theorem dX9_select_339 : decode cX9_select 339 = .ok (.istore 9, 2) := by decide +kernel
theorem dX9_select_341 : decode cX9_select 341 = .ok (.goto 6, 3) := by decide +kernel
theorem dX9_select_344 : decode cX9_select 344 = .ok (.bipush (-4), 2) := by decide +kernel
theorem dX9_select_346 : decode cX9_select 346 = .ok (.ireturn, 1) := by decide +kernel
theorem dX9_select_347 : decode cX9_select 347 = .ok (.iinc 11 1, 3) := by decide +kernel
theorem dX9_select_350 : decode cX9_select 350 = .ok (.goto (-73), 3) := by decide +kernel
theorem dX9_select_353 : decode cX9_select 353 = .ok (.iload 9, 2) := by decide +kernel
theorem dX9_select_355 : decode cX9_select 355 = .ok (.ifCond .lt 8, 3) := by decide +kernel
theorem dX9_select_358 : decode cX9_select 358 = .ok (.iload 9, 2) := by decide +kernel
theorem dX9_select_360 : decode cX9_select 360 = .ok (.goto 5, 3) := by decide +kernel
theorem dX9_select_363 : decode cX9_select 363 = .ok (.iload 10, 2) := by decide +kernel
theorem dX9_select_365 : decode cX9_select 365 = .ok (.ireturn, 1) := by decide +kernel
theorem dX9_selected_0 : decode cX9_selected 0 = .ok (.aload_n 0, 1) := by decide +kernel
theorem dX9_selected_1 : decode cX9_selected 1 = .ok (.iload_n 1, 1) := by decide +kernel
theorem dX9_selected_2 : decode cX9_selected 2 = .ok (.invokevirtual 177, 3) := by decide +kernel
theorem dX9_selected_5 : decode cX9_selected 5 = .ok (.ifCond .eq 20, 3) := by decide +kernel
theorem dX9_selected_8 : decode cX9_selected 8 = .ok (.aload_n 0, 1) := by decide +kernel
theorem dX9_selected_9 : decode cX9_selected 9 = .ok (.iload_n 2, 1) := by decide +kernel
theorem dX9_selected_10 : decode cX9_selected 10 = .ok (.invokevirtual 210, 3) := by decide +kernel
theorem dX9_selected_13 : decode cX9_selected 13 = .ok (.ifCond .eq 12, 3) := by decide +kernel
theorem dX9_selected_16 : decode cX9_selected 16 = .ok (.aload_n 0, 1) := by decide +kernel
theorem dX9_selected_17 : decode cX9_selected 17 = .ok (.getfield 29, 3) := by decide +kernel
theorem dX9_selected_20 : decode cX9_selected 20 = .ok (.iload_n 2, 1) := by decide +kernel
theorem dX9_selected_21 : decode cX9_selected 21 = .ok (.baload, 1) := by decide +kernel
theorem dX9_selected_22 : decode cX9_selected 22 = .ok (.ifCond .ne 5, 3) := by decide +kernel
theorem dX9_selected_25 : decode cX9_selected 25 = .ok (.iconst (-1), 1) := by decide +kernel
theorem dX9_selected_26 : decode cX9_selected 26 = .ok (.ireturn, 1) := by decide +kernel
theorem dX9_selected_27 : decode cX9_selected 27 = .ok (.aload_n 0, 1) := by decide +kernel
theorem dX9_selected_28 : decode cX9_selected 28 = .ok (.iload_n 1, 1) := by decide +kernel
theorem dX9_selected_29 : decode cX9_selected 29 = .ok (.aload_n 0, 1) := by decide +kernel
theorem dX9_selected_30 : decode cX9_selected 30 = .ok (.getfield 35, 3) := by decide +kernel
theorem dX9_selected_33 : decode cX9_selected 33 = .ok (.iload_n 2, 1) := by decide +kernel
theorem dX9_selected_34 : decode cX9_selected 34 = .ok (.iaload, 1) := by decide +kernel
theorem dX9_selected_35 : decode cX9_selected 35 = .ok (.aload_n 0, 1) := by decide +kernel
theorem dX9_selected_36 : decode cX9_selected 36 = .ok (.getfield 44, 3) := by decide +kernel
theorem dX9_selected_39 : decode cX9_selected 39 = .ok (.iload_n 2, 1) := by decide +kernel
theorem dX9_selected_40 : decode cX9_selected 40 = .ok (.iaload, 1) := by decide +kernel
theorem dX9_selected_41 : decode cX9_selected 41 = .ok (.aload_n 0, 1) := by decide +kernel
theorem dX9_selected_42 : decode cX9_selected 42 = .ok (.getfield 47, 3) := by decide +kernel
theorem dX9_selected_45 : decode cX9_selected 45 = .ok (.iload_n 2, 1) := by decide +kernel
theorem dX9_selected_46 : decode cX9_selected 46 = .ok (.iaload, 1) := by decide +kernel
theorem dX9_selected_47 : decode cX9_selected 47 = .ok (.invokevirtual 262, 3) := by decide +kernel
theorem dX9_selected_50 : decode cX9_selected 50 = .ok (.istore_n 3, 1) := by decide +kernel
theorem dX9_selected_51 : decode cX9_selected 51 = .ok (.iload_n 3, 1) := by decide +kernel
theorem dX9_selected_52 : decode cX9_selected 52 = .ok (.ifCond .lt 20, 3) := by decide +kernel
theorem dX9_selected_55 : decode cX9_selected 55 = .ok (.aload_n 0, 1) := by decide +kernel
theorem dX9_selected_56 : decode cX9_selected 56 = .ok (.getfield 38, 3) := by decide +kernel
theorem dX9_selected_59 : decode cX9_selected 59 = .ok (.iload_n 3, 1) := by decide +kernel
theorem dX9_selected_60 : decode cX9_selected 60 = .ok (.iaload, 1) := by decide +kernel
theorem dX9_selected_61 : decode cX9_selected 61 = .ok (.bipush 8, 2) := by decide +kernel
theorem dX9_selected_63 : decode cX9_selected 63 = .ok (.iand, 1) := by decide +kernel
theorem dX9_selected_64 : decode cX9_selected 64 = .ok (.ifCond .eq 8, 3) := by decide +kernel
theorem dX9_selected_67 : decode cX9_selected 67 = .ok (.bipush (-2), 2) := by decide +kernel
theorem dX9_selected_69 : decode cX9_selected 69 = .ok (.goto 4, 3) := by decide +kernel
theorem dX9_selected_72 : decode cX9_selected 72 = .ok (.iload_n 3, 1) := by decide +kernel
theorem dX9_selected_73 : decode cX9_selected 73 = .ok (.ireturn, 1) := by decide +kernel
theorem dX9_making_0 : decode cX9_making 0 = .ok (.aload_n 0, 1) := by decide +kernel
theorem dX9_making_1 : decode cX9_making 1 = .ok (.getfield 87, 3) := by decide +kernel
theorem dX9_making_4 : decode cX9_making 4 = .ok (.iload_n 1, 1) := by decide +kernel
theorem dX9_making_5 : decode cX9_making 5 = .ok (.iload_n 2, 1) := by decide +kernel
theorem dX9_making_6 : decode cX9_making 6 = .ok (.iastore, 1) := by decide +kernel
theorem dX9_making_7 : decode cX9_making 7 = .ok (.aload_n 0, 1) := by decide +kernel
theorem dX9_making_8 : decode cX9_making 8 = .ok (.getfield 90, 3) := by decide +kernel
theorem dX9_making_11 : decode cX9_making 11 = .ok (.iload_n 1, 1) := by decide +kernel
theorem dX9_making_12 : decode cX9_making 12 = .ok (.iload_n 3, 1) := by decide +kernel
theorem dX9_making_13 : decode cX9_making 13 = .ok (.iastore, 1) := by decide +kernel
theorem dX9_making_14 : decode cX9_making 14 = .ok (.aload_n 0, 1) := by decide +kernel
theorem dX9_making_15 : decode cX9_making 15 = .ok (.getfield 93, 3) := by decide +kernel
theorem dX9_making_18 : decode cX9_making 18 = .ok (.iload_n 1, 1) := by decide +kernel
theorem dX9_making_19 : decode cX9_making 19 = .ok (.iload 4, 2) := by decide +kernel
theorem dX9_making_21 : decode cX9_making 21 = .ok (.iastore, 1) := by decide +kernel
theorem dX9_making_22 : decode cX9_making 22 = .ok (.aload_n 0, 1) := by decide +kernel
theorem dX9_making_23 : decode cX9_making 23 = .ok (.getfield 96, 3) := by decide +kernel
theorem dX9_making_26 : decode cX9_making 26 = .ok (.iload_n 1, 1) := by decide +kernel
theorem dX9_making_27 : decode cX9_making 27 = .ok (.iload 5, 2) := by decide +kernel
theorem dX9_making_29 : decode cX9_making 29 = .ok (.iastore, 1) := by decide +kernel
theorem dX9_making_30 : decode cX9_making 30 = .ok (.aload_n 0, 1) := by decide +kernel
theorem dX9_making_31 : decode cX9_making 31 = .ok (.getfield 99, 3) := by decide +kernel
theorem dX9_making_34 : decode cX9_making 34 = .ok (.iload_n 1, 1) := by decide +kernel
theorem dX9_making_35 : decode cX9_making 35 = .ok (.iload 6, 2) := by decide +kernel
theorem dX9_making_37 : decode cX9_making 37 = .ok (.iastore, 1) := by decide +kernel
theorem dX9_making_38 : decode cX9_making 38 = .ok (.aload_n 0, 1) := by decide +kernel
theorem dX9_making_39 : decode cX9_making 39 = .ok (.getfield 102, 3) := by decide +kernel
theorem dX9_making_42 : decode cX9_making 42 = .ok (.iload_n 1, 1) := by decide +kernel
theorem dX9_making_43 : decode cX9_making 43 = .ok (.bipush (-2), 2) := by decide +kernel
theorem dX9_making_45 : decode cX9_making 45 = .ok (.iastore, 1) := by decide +kernel
theorem dX9_making_46 : decode cX9_making 46 = .ok (.aload_n 0, 1) := by decide +kernel
theorem dX9_making_47 : decode cX9_making 47 = .ok (.getfield 105, 3) := by decide +kernel
theorem dX9_making_50 : decode cX9_making 50 = .ok (.iload_n 1, 1) := by decide +kernel
theorem dX9_making_51 : decode cX9_making 51 = .ok (.bipush (-2), 2) := by decide +kernel
theorem dX9_making_53 : decode cX9_making 53 = .ok (.iastore, 1) := by decide +kernel
theorem dX9_making_54 : decode cX9_making 54 = .ok (.aload_n 0, 1) := by decide +kernel
theorem dX9_making_55 : decode cX9_making 55 = .ok (.getfield 108, 3) := by decide +kernel
theorem dX9_making_58 : decode cX9_making 58 = .ok (.iload_n 1, 1) := by decide +kernel
theorem dX9_making_59 : decode cX9_making 59 = .ok (.iconst 0, 1) := by decide +kernel
theorem dX9_making_60 : decode cX9_making 60 = .ok (.bastore, 1) := by decide +kernel
theorem dX9_making_61 : decode cX9_making 61 = .ok (.aload_n 0, 1) := by decide +kernel
theorem dX9_making_62 : decode cX9_making 62 = .ok (.getfield 123, 3) := by decide +kernel
theorem dX9_making_65 : decode cX9_making 65 = .ok (.iload_n 1, 1) := by decide +kernel
theorem dX9_making_66 : decode cX9_making 66 = .ok (.aload_n 0, 1) := by decide +kernel
theorem dX9_making_67 : decode cX9_making 67 = .ok (.getfield 232, 3) := by decide +kernel
theorem dX9_making_70 : decode cX9_making 70 = .ok (.iastore, 1) := by decide +kernel
theorem dX9_making_71 : decode cX9_making 71 = .ok (.iload_n 2, 1) := by decide +kernel
theorem dX9_making_72 : decode cX9_making 72 = .ok (.ifCond .ne 112, 3) := by decide +kernel
theorem dX9_making_75 : decode cX9_making 75 = .ok (.aload_n 0, 1) := by decide +kernel
theorem dX9_making_76 : decode cX9_making 76 = .ok (.iload_n 3, 1) := by decide +kernel
theorem dX9_making_77 : decode cX9_making 77 = .ok (.iload 4, 2) := by decide +kernel
theorem dX9_making_79 : decode cX9_making 79 = .ok (.iconst 1, 1) := by decide +kernel
theorem dX9_making_80 : decode cX9_making 80 = .ok (.invokevirtual 266, 3) := by decide +kernel
theorem dX9_making_83 : decode cX9_making 83 = .ok (.istore 7, 2) := by decide +kernel
theorem dX9_making_85 : decode cX9_making 85 = .ok (.iload 7, 2) := by decide +kernel
theorem dX9_making_87 : decode cX9_making 87 = .ok (.ifCond .ge 5, 3) := by decide +kernel
theorem dX9_making_90 : decode cX9_making 90 = .ok (.iconst 1, 1) := by decide +kernel
theorem dX9_making_91 : decode cX9_making 91 = .ok (.ireturn, 1) := by decide +kernel
theorem dX9_making_92 : decode cX9_making 92 = .ok (.aload_n 0, 1) := by decide +kernel
theorem dX9_making_93 : decode cX9_making 93 = .ok (.getfield 114, 3) := by decide +kernel
theorem dX9_making_96 : decode cX9_making 96 = .ok (.iload_n 1, 1) := by decide +kernel
theorem dX9_making_97 : decode cX9_making 97 = .ok (.aload_n 0, 1) := by decide +kernel
theorem dX9_making_98 : decode cX9_making 98 = .ok (.getfield 38, 3) := by decide +kernel
theorem dX9_making_101 : decode cX9_making 101 = .ok (.iload 7, 2) := by decide +kernel
theorem dX9_making_103 : decode cX9_making 103 = .ok (.iaload, 1) := by decide +kernel
theorem dX9_making_104 : decode cX9_making 104 = .ok (.iconst 1, 1) := by decide +kernel
theorem dX9_making_105 : decode cX9_making 105 = .ok (.iand, 1) := by decide +kernel
theorem dX9_making_106 : decode cX9_making 106 = .ok (.ifCond .eq 7, 3) := by decide +kernel
theorem dX9_making_109 : decode cX9_making 109 = .ok (.iconst 1, 1) := by decide +kernel
theorem dX9_making_110 : decode cX9_making 110 = .ok (.goto 4, 3) := by decide +kernel
theorem dX9_making_113 : decode cX9_making 113 = .ok (.iconst 0, 1) := by decide +kernel
theorem dX9_making_114 : decode cX9_making 114 = .ok (.bastore, 1) := by decide +kernel
theorem dX9_making_115 : decode cX9_making 115 = .ok (.aload_n 0, 1) := by decide +kernel
theorem dX9_making_116 : decode cX9_making 116 = .ok (.getfield 108, 3) := by decide +kernel
theorem dX9_making_119 : decode cX9_making 119 = .ok (.iload_n 1, 1) := by decide +kernel
theorem dX9_making_120 : decode cX9_making 120 = .ok (.aload_n 0, 1) := by decide +kernel
theorem dX9_making_121 : decode cX9_making 121 = .ok (.getfield 38, 3) := by decide +kernel
theorem dX9_making_124 : decode cX9_making 124 = .ok (.iload 7, 2) := by decide +kernel
theorem dX9_making_126 : decode cX9_making 126 = .ok (.iaload, 1) := by decide +kernel
theorem dX9_making_127 : decode cX9_making 127 = .ok (.iconst 3, 1) := by decide +kernel
theorem dX9_making_128 : decode cX9_making 128 = .ok (.iand, 1) := by decide +kernel
theorem dX9_making_129 : decode cX9_making 129 = .ok (.iconst 3, 1) := by decide +kernel
theorem dX9_making_130 : decode cX9_making 130 = .ok (.if_icmp .ne 7, 3) := by decide +kernel
theorem dX9_making_133 : decode cX9_making 133 = .ok (.iconst 1, 1) := by decide +kernel
theorem dX9_making_134 : decode cX9_making 134 = .ok (.goto 4, 3) := by decide +kernel
theorem dX9_making_137 : decode cX9_making 137 = .ok (.iconst 0, 1) := by decide +kernel
theorem dX9_making_138 : decode cX9_making 138 = .ok (.bastore, 1) := by decide +kernel
theorem dX9_making_139 : decode cX9_making 139 = .ok (.aload_n 0, 1) := by decide +kernel
theorem dX9_making_140 : decode cX9_making 140 = .ok (.getfield 120, 3) := by decide +kernel
theorem dX9_making_143 : decode cX9_making 143 = .ok (.iload_n 1, 1) := by decide +kernel
theorem dX9_making_144 : decode cX9_making 144 = .ok (.aload_n 0, 1) := by decide +kernel
theorem dX9_making_145 : decode cX9_making 145 = .ok (.getfield 41, 3) := by decide +kernel
theorem dX9_making_148 : decode cX9_making 148 = .ok (.iload 7, 2) := by decide +kernel
theorem dX9_making_150 : decode cX9_making 150 = .ok (.iaload, 1) := by decide +kernel
theorem dX9_making_151 : decode cX9_making 151 = .ok (.iastore, 1) := by decide +kernel
theorem dX9_making_152 : decode cX9_making 152 = .ok (.aload_n 0, 1) := by decide +kernel
theorem dX9_making_153 : decode cX9_making 153 = .ok (.getfield 111, 3) := by decide +kernel
theorem dX9_making_156 : decode cX9_making 156 = .ok (.iload_n 1, 1) := by decide +kernel
theorem dX9_making_157 : decode cX9_making 157 = .ok (.aload_n 0, 1) := by decide +kernel
theorem dX9_making_158 : decode cX9_making 158 = .ok (.getfield 41, 3) := by decide +kernel
theorem dX9_making_161 : decode cX9_making 161 = .ok (.iload 7, 2) := by decide +kernel
theorem dX9_making_163 : decode cX9_making 163 = .ok (.iaload, 1) := by decide +kernel
theorem dX9_making_164 : decode cX9_making 164 = .ok (.aload_n 0, 1) := by decide +kernel
theorem dX9_making_165 : decode cX9_making 165 = .ok (.getfield 50, 3) := by decide +kernel
theorem dX9_making_168 : decode cX9_making 168 = .ok (.iload 7, 2) := by decide +kernel
theorem dX9_making_170 : decode cX9_making 170 = .ok (.laload, 1) := by decide +kernel
theorem dX9_making_171 : decode cX9_making 171 = .ok (.aload_n 0, 1) := by decide +kernel
theorem dX9_making_172 : decode cX9_making 172 = .ok (.getfield 41, 3) := by decide +kernel
theorem dX9_making_175 : decode cX9_making 175 = .ok (.iload 7, 2) := by decide +kernel
theorem dX9_making_177 : decode cX9_making 177 = .ok (.iaload, 1) := by decide +kernel
theorem dX9_making_178 : decode cX9_making 178 = .ok (.invokestatic 270, 3) := by decide +kernel
theorem dX9_making_181 : decode cX9_making 181 = .ok (.lastore, 1) := by decide +kernel
theorem dX9_making_182 : decode cX9_making 182 = .ok (.iconst 0, 1) := by decide +kernel
theorem dX9_making_183 : decode cX9_making 183 = .ok (.ireturn, 1) := by decide +kernel
theorem dX9_making_184 : decode cX9_making 184 = .ok (.iload_n 2, 1) := by decide +kernel
theorem dX9_making_185 : decode cX9_making 185 = .ok (.iconst 1, 1) := by decide +kernel
theorem dX9_making_186 : decode cX9_making 186 = .ok (.if_icmp .ne 16, 3) := by decide +kernel
theorem dX9_making_189 : decode cX9_making 189 = .ok (.aload_n 0, 1) := by decide +kernel
theorem dX9_making_190 : decode cX9_making 190 = .ok (.iload_n 1, 1) := by decide +kernel
theorem dX9_making_191 : decode cX9_making 191 = .ok (.iload_n 3, 1) := by decide +kernel
theorem dX9_making_192 : decode cX9_making 192 = .ok (.iload 4, 2) := by decide +kernel
theorem dX9_making_194 : decode cX9_making 194 = .ok (.iload 5, 2) := by decide +kernel
theorem dX9_making_196 : decode cX9_making 196 = .ok (.iload 6, 2) := by decide +kernel
theorem dX9_making_198 : decode cX9_making 198 = .ok (.invokevirtual 274, 3) := by decide +kernel
theorem dX9_making_201 : decode cX9_making 201 = .ok (.ireturn, 1) := by decide +kernel
theorem dX9_making_202 : decode cX9_making 202 = .ok (.aload_n 0, 1) := by decide +kernel
theorem dX9_making_203 : decode cX9_making 203 = .ok (.getfield 7, 3) := by decide +kernel
theorem dX9_making_206 : decode cX9_making 206 = .ok (.iload_n 3, 1) := by decide +kernel
theorem dX9_making_207 : decode cX9_making 207 = .ok (.baload, 1) := by decide +kernel
theorem dX9_making_208 : decode cX9_making 208 = .ok (.ifCond .ne 14, 3) := by decide +kernel
theorem dX9_making_211 : decode cX9_making 211 = .ok (.aload_n 0, 1) := by decide +kernel
theorem dX9_making_212 : decode cX9_making 212 = .ok (.getfield 17, 3) := by decide +kernel
theorem dX9_making_215 : decode cX9_making 215 = .ok (.iload_n 3, 1) := by decide +kernel
theorem dX9_making_216 : decode cX9_making 216 = .ok (.iaload, 1) := by decide +kernel
theorem dX9_making_217 : decode cX9_making 217 = .ok (.iconst 1, 1) := by decide +kernel
theorem dX9_making_218 : decode cX9_making 218 = .ok (.iand, 1) := by decide +kernel
theorem dX9_making_219 : decode cX9_making 219 = .ok (.ifCond .eq 7, 3) := by decide +kernel
theorem dX9_making_222 : decode cX9_making 222 = .ok (.iconst 3, 1) := by decide +kernel
theorem dX9_making_223 : decode cX9_making 223 = .ok (.goto 4, 3) := by decide +kernel
theorem dX9_making_226 : decode cX9_making 226 = .ok (.iconst 0, 1) := by decide +kernel
theorem dX9_making_227 : decode cX9_making 227 = .ok (.ireturn, 1) := by decide +kernel
theorem dX9_isUnder_0 : decode cX9_isUnder 0 = .ok (.iload_n 1, 1) := by decide +kernel
theorem dX9_isUnder_1 : decode cX9_isUnder 1 = .ok (.bipush (-2), 2) := by decide +kernel
theorem dX9_isUnder_3 : decode cX9_isUnder 3 = .ok (.if_icmp .eq 9, 3) := by decide +kernel
theorem dX9_isUnder_6 : decode cX9_isUnder 6 = .ok (.iload_n 2, 1) := by decide +kernel
theorem dX9_isUnder_7 : decode cX9_isUnder 7 = .ok (.bipush (-2), 2) := by decide +kernel
theorem dX9_isUnder_9 : decode cX9_isUnder 9 = .ok (.if_icmp .ne 16, 3) := by decide +kernel
theorem dX9_isUnder_12 : decode cX9_isUnder 12 = .ok (.iload_n 1, 1) := by decide +kernel
theorem dX9_isUnder_13 : decode cX9_isUnder 13 = .ok (.iload_n 2, 1) := by decide +kernel
theorem dX9_isUnder_14 : decode cX9_isUnder 14 = .ok (.if_icmp .ne 7, 3) := by decide +kernel
theorem dX9_isUnder_17 : decode cX9_isUnder 17 = .ok (.iconst 1, 1) := by decide +kernel
theorem dX9_isUnder_18 : decode cX9_isUnder 18 = .ok (.goto 13, 3) := by decide +kernel
theorem dX9_isUnder_21 : decode cX9_isUnder 21 = .ok (.iconst 0, 1) := by decide +kernel
theorem dX9_isUnder_22 : decode cX9_isUnder 22 = .ok (.goto 9, 3) := by decide +kernel
theorem dX9_isUnder_25 : decode cX9_isUnder 25 = .ok (.aload_n 0, 1) := by decide +kernel
theorem dX9_isUnder_26 : decode cX9_isUnder 26 = .ok (.iload_n 1, 1) := by decide +kernel
theorem dX9_isUnder_27 : decode cX9_isUnder 27 = .ok (.iload_n 2, 1) := by decide +kernel
theorem dX9_isUnder_28 : decode cX9_isUnder 28 = .ok (.invokevirtual 182, 3) := by decide +kernel
theorem dX9_isUnder_31 : decode cX9_isUnder 31 = .ok (.ireturn, 1) := by decide +kernel
theorem dX9_makingCall_0 : decode cX9_makingCall 0 = .ok (.bipush (-2), 2) := by decide +kernel
theorem dX9_makingCall_2 : decode cX9_makingCall 2 = .ok (.istore 6, 2) := by decide +kernel
theorem dX9_makingCall_4 : decode cX9_makingCall 4 = .ok (.iconst 0, 1) := by decide +kernel
theorem dX9_makingCall_5 : decode cX9_makingCall 5 = .ok (.istore 7, 2) := by decide +kernel
theorem dX9_makingCall_7 : decode cX9_makingCall 7 = .ok (.iload 7, 2) := by decide +kernel
theorem dX9_makingCall_9 : decode cX9_makingCall 9 = .ok (.bipush 60, 2) := by decide +kernel
theorem dX9_makingCall_11 : decode cX9_makingCall 11 = .ok (.if_icmp .ge 140, 3) := by decide +kernel
theorem dX9_makingCall_14 : decode cX9_makingCall 14 = .ok (.aload_n 0, 1) := by decide +kernel
theorem dX9_makingCall_15 : decode cX9_makingCall 15 = .ok (.getfield 126, 3) := by decide +kernel
theorem dX9_makingCall_18 : decode cX9_makingCall 18 = .ok (.iload 7, 2) := by decide +kernel
theorem dX9_makingCall_20 : decode cX9_makingCall 20 = .ok (.aload_n 0, 1) := by decide +kernel
theorem dX9_makingCall_21 : decode cX9_makingCall 21 = .ok (.getfield 26, 3) := by decide +kernel
theorem dX9_makingCall_24 : decode cX9_makingCall 24 = .ok (.iload 7, 2) := by decide +kernel
theorem dX9_makingCall_26 : decode cX9_makingCall 26 = .ok (.baload, 1) := by decide +kernel
theorem dX9_makingCall_27 : decode cX9_makingCall 27 = .ok (.ifCond .eq 97, 3) := by decide +kernel
theorem dX9_makingCall_30 : decode cX9_makingCall 30 = .ok (.aload_n 0, 1) := by decide +kernel
theorem dX9_makingCall_31 : decode cX9_makingCall 31 = .ok (.getfield 29, 3) := by decide +kernel
theorem dX9_makingCall_34 : decode cX9_makingCall 34 = .ok (.iload 7, 2) := by decide +kernel
theorem dX9_makingCall_36 : decode cX9_makingCall 36 = .ok (.baload, 1) := by decide +kernel
theorem dX9_makingCall_37 : decode cX9_makingCall 37 = .ok (.ifCond .eq 87, 3) := by decide +kernel
theorem dX9_makingCall_40 : decode cX9_makingCall 40 = .ok (.aload_n 0, 1) := by decide +kernel
theorem dX9_makingCall_41 : decode cX9_makingCall 41 = .ok (.getfield 35, 3) := by decide +kernel
theorem dX9_makingCall_44 : decode cX9_makingCall 44 = .ok (.iload 7, 2) := by decide +kernel
theorem dX9_makingCall_46 : decode cX9_makingCall 46 = .ok (.iaload, 1) := by decide +kernel
theorem dX9_makingCall_47 : decode cX9_makingCall 47 = .ok (.iload_n 3, 1) := by decide +kernel
theorem dX9_makingCall_48 : decode cX9_makingCall 48 = .ok (.if_icmp .ne 76, 3) := by decide +kernel
theorem dX9_makingCall_51 : decode cX9_makingCall 51 = .ok (.aload_n 0, 1) := by decide +kernel
theorem dX9_makingCall_52 : decode cX9_makingCall 52 = .ok (.getfield 38, 3) := by decide +kernel
theorem dX9_makingCall_55 : decode cX9_makingCall 55 = .ok (.iload 7, 2) := by decide +kernel
theorem dX9_makingCall_57 : decode cX9_makingCall 57 = .ok (.iaload, 1) := by decide +kernel
theorem dX9_makingCall_58 : decode cX9_makingCall 58 = .ok (.iconst 4, 1) := by decide +kernel
theorem dX9_makingCall_59 : decode cX9_makingCall 59 = .ok (.iand, 1) := by decide +kernel
theorem dX9_makingCall_60 : decode cX9_makingCall 60 = .ok (.ifCond .ne 64, 3) := by decide +kernel
theorem dX9_makingCall_63 : decode cX9_makingCall 63 = .ok (.aload_n 0, 1) := by decide +kernel
theorem dX9_makingCall_64 : decode cX9_makingCall 64 = .ok (.iload 4, 2) := by decide +kernel
theorem dX9_makingCall_66 : decode cX9_makingCall 66 = .ok (.aload_n 0, 1) := by decide +kernel
theorem dX9_makingCall_67 : decode cX9_makingCall 67 = .ok (.getfield 44, 3) := by decide +kernel
theorem dX9_makingCall_70 : decode cX9_makingCall 70 = .ok (.iload 7, 2) := by decide +kernel
theorem dX9_makingCall_72 : decode cX9_makingCall 72 = .ok (.iaload, 1) := by decide +kernel
theorem dX9_makingCall_73 : decode cX9_makingCall 73 = .ok (.invokevirtual 278, 3) := by decide +kernel
theorem dX9_makingCall_76 : decode cX9_makingCall 76 = .ok (.ifCond .eq 48, 3) := by decide +kernel
theorem dX9_makingCall_79 : decode cX9_makingCall 79 = .ok (.aload_n 0, 1) := by decide +kernel
theorem dX9_makingCall_80 : decode cX9_makingCall 80 = .ok (.iload 5, 2) := by decide +kernel
theorem dX9_makingCall_82 : decode cX9_makingCall 82 = .ok (.aload_n 0, 1) := by decide +kernel
theorem dX9_makingCall_83 : decode cX9_makingCall 83 = .ok (.getfield 47, 3) := by decide +kernel
theorem dX9_makingCall_86 : decode cX9_makingCall 86 = .ok (.iload 7, 2) := by decide +kernel
theorem dX9_makingCall_88 : decode cX9_makingCall 88 = .ok (.iaload, 1) := by decide +kernel
theorem dX9_makingCall_89 : decode cX9_makingCall 89 = .ok (.invokevirtual 278, 3) := by decide +kernel
theorem dX9_makingCall_92 : decode cX9_makingCall 92 = .ok (.ifCond .eq 32, 3) := by decide +kernel
theorem dX9_makingCall_95 : decode cX9_makingCall 95 = .ok (.aload_n 0, 1) := by decide +kernel
theorem dX9_makingCall_96 : decode cX9_makingCall 96 = .ok (.iload_n 2, 1) := by decide +kernel
theorem dX9_makingCall_97 : decode cX9_makingCall 97 = .ok (.iload_n 3, 1) := by decide +kernel
theorem dX9_makingCall_98 : decode cX9_makingCall 98 = .ok (.aload_n 0, 1) := by decide +kernel
theorem dX9_makingCall_99 : decode cX9_makingCall 99 = .ok (.getfield 44, 3) := by decide +kernel
theorem dX9_makingCall_102 : decode cX9_makingCall 102 = .ok (.iload 7, 2) := by decide +kernel
theorem dX9_makingCall_104 : decode cX9_makingCall 104 = .ok (.iaload, 1) := by decide +kernel
theorem dX9_makingCall_105 : decode cX9_makingCall 105 = .ok (.aload_n 0, 1) := by decide +kernel
theorem dX9_makingCall_106 : decode cX9_makingCall 106 = .ok (.getfield 47, 3) := by decide +kernel
theorem dX9_makingCall_109 : decode cX9_makingCall 109 = .ok (.iload 7, 2) := by decide +kernel
theorem dX9_makingCall_111 : decode cX9_makingCall 111 = .ok (.iaload, 1) := by decide +kernel
theorem dX9_makingCall_112 : decode cX9_makingCall 112 = .ok (.invokevirtual 281, 3) := by decide +kernel
theorem dX9_makingCall_115 : decode cX9_makingCall 115 = .ok (.iload 7, 2) := by decide +kernel
theorem dX9_makingCall_117 : decode cX9_makingCall 117 = .ok (.if_icmp .ne 7, 3) := by decide +kernel
theorem dX9_makingCall_120 : decode cX9_makingCall 120 = .ok (.iconst 1, 1) := by decide +kernel
theorem dX9_makingCall_121 : decode cX9_makingCall 121 = .ok (.goto 4, 3) := by decide +kernel
theorem dX9_makingCall_124 : decode cX9_makingCall 124 = .ok (.iconst 0, 1) := by decide +kernel
theorem dX9_makingCall_125 : decode cX9_makingCall 125 = .ok (.bastore, 1) := by decide +kernel
theorem dX9_makingCall_126 : decode cX9_makingCall 126 = .ok (.aload_n 0, 1) := by decide +kernel
theorem dX9_makingCall_127 : decode cX9_makingCall 127 = .ok (.getfield 126, 3) := by decide +kernel
theorem dX9_makingCall_130 : decode cX9_makingCall 130 = .ok (.iload 7, 2) := by decide +kernel
theorem dX9_makingCall_132 : decode cX9_makingCall 132 = .ok (.baload, 1) := by decide +kernel
theorem dX9_makingCall_133 : decode cX9_makingCall 133 = .ok (.ifCond .eq 8, 3) := by decide +kernel
theorem dX9_makingCall_136 : decode cX9_makingCall 136 = .ok (.iload 7, 2) := by decide +kernel
theorem dX9_makingCall_138 : decode cX9_makingCall 138 = .ok (.goto 5, 3) := by decide +kernel
theorem dX9_makingCall_141 : decode cX9_makingCall 141 = .ok (.iload 6, 2) := by decide +kernel
theorem dX9_makingCall_143 : decode cX9_makingCall 143 = .ok (.istore 6, 2) := by decide +kernel
theorem dX9_makingCall_145 : decode cX9_makingCall 145 = .ok (.iinc 7 1, 3) := by decide +kernel
theorem dX9_makingCall_148 : decode cX9_makingCall 148 = .ok (.goto (-141), 3) := by decide +kernel
theorem dX9_makingCall_151 : decode cX9_makingCall 151 = .ok (.iload 6, 2) := by decide +kernel
theorem dX9_makingCall_153 : decode cX9_makingCall 153 = .ok (.bipush (-2), 2) := by decide +kernel
theorem dX9_makingCall_155 : decode cX9_makingCall 155 = .ok (.if_icmp .ne 5, 3) := by decide +kernel
theorem dX9_makingCall_158 : decode cX9_makingCall 158 = .ok (.iconst 1, 1) := by decide +kernel
theorem dX9_makingCall_159 : decode cX9_makingCall 159 = .ok (.ireturn, 1) := by decide +kernel
theorem dX9_makingCall_160 : decode cX9_makingCall 160 = .ok (.iconst 0, 1) := by decide +kernel
theorem dX9_makingCall_161 : decode cX9_makingCall 161 = .ok (.istore 7, 2) := by decide +kernel
theorem dX9_makingCall_163 : decode cX9_makingCall 163 = .ok (.iload 7, 2) := by decide +kernel
theorem dX9_makingCall_165 : decode cX9_makingCall 165 = .ok (.bipush 60, 2) := by decide +kernel
theorem dX9_makingCall_167 : decode cX9_makingCall 167 = .ok (.if_icmp .ge 166, 3) := by decide +kernel
theorem dX9_makingCall_170 : decode cX9_makingCall 170 = .ok (.aload_n 0, 1) := by decide +kernel
theorem dX9_makingCall_171 : decode cX9_makingCall 171 = .ok (.getfield 126, 3) := by decide +kernel
theorem dX9_makingCall_174 : decode cX9_makingCall 174 = .ok (.iload 7, 2) := by decide +kernel
theorem dX9_makingCall_176 : decode cX9_makingCall 176 = .ok (.baload, 1) := by decide +kernel
theorem dX9_makingCall_177 : decode cX9_makingCall 177 = .ok (.istore 8, 2) := by decide +kernel
theorem dX9_makingCall_179 : decode cX9_makingCall 179 = .ok (.iconst 0, 1) := by decide +kernel
theorem dX9_makingCall_180 : decode cX9_makingCall 180 = .ok (.istore 9, 2) := by decide +kernel
theorem dX9_makingCall_182 : decode cX9_makingCall 182 = .ok (.iload 9, 2) := by decide +kernel
theorem dX9_makingCall_184 : decode cX9_makingCall 184 = .ok (.bipush 60, 2) := by decide +kernel
theorem dX9_makingCall_186 : decode cX9_makingCall 186 = .ok (.if_icmp .ge 73, 3) := by decide +kernel
theorem dX9_makingCall_189 : decode cX9_makingCall 189 = .ok (.iload 8, 2) := by decide +kernel
theorem dX9_makingCall_191 : decode cX9_makingCall 191 = .ok (.ifCond .eq 68, 3) := by decide +kernel
theorem dX9_makingCall_194 : decode cX9_makingCall 194 = .ok (.aload_n 0, 1) := by decide +kernel
theorem dX9_makingCall_195 : decode cX9_makingCall 195 = .ok (.getfield 126, 3) := by decide +kernel
theorem dX9_makingCall_198 : decode cX9_makingCall 198 = .ok (.iload 9, 2) := by decide +kernel
theorem dX9_makingCall_200 : decode cX9_makingCall 200 = .ok (.baload, 1) := by decide +kernel
theorem dX9_makingCall_201 : decode cX9_makingCall 201 = .ok (.ifCond .eq 45, 3) := by decide +kernel
theorem dX9_makingCall_204 : decode cX9_makingCall 204 = .ok (.aload_n 0, 1) := by decide +kernel
theorem dX9_makingCall_205 : decode cX9_makingCall 205 = .ok (.aload_n 0, 1) := by decide +kernel
theorem dX9_makingCall_206 : decode cX9_makingCall 206 = .ok (.getfield 44, 3) := by decide +kernel
theorem dX9_makingCall_209 : decode cX9_makingCall 209 = .ok (.iload 7, 2) := by decide +kernel
theorem dX9_makingCall_211 : decode cX9_makingCall 211 = .ok (.iaload, 1) := by decide +kernel
theorem dX9_makingCall_212 : decode cX9_makingCall 212 = .ok (.aload_n 0, 1) := by decide +kernel
theorem dX9_makingCall_213 : decode cX9_makingCall 213 = .ok (.getfield 44, 3) := by decide +kernel
theorem dX9_makingCall_216 : decode cX9_makingCall 216 = .ok (.iload 9, 2) := by decide +kernel
theorem dX9_makingCall_218 : decode cX9_makingCall 218 = .ok (.iaload, 1) := by decide +kernel
theorem dX9_makingCall_219 : decode cX9_makingCall 219 = .ok (.invokevirtual 278, 3) := by decide +kernel
theorem dX9_makingCall_222 : decode cX9_makingCall 222 = .ok (.ifCond .eq 28, 3) := by decide +kernel
theorem dX9_makingCall_225 : decode cX9_makingCall 225 = .ok (.aload_n 0, 1) := by decide +kernel
theorem dX9_makingCall_226 : decode cX9_makingCall 226 = .ok (.aload_n 0, 1) := by decide +kernel
theorem dX9_makingCall_227 : decode cX9_makingCall 227 = .ok (.getfield 47, 3) := by decide +kernel
theorem dX9_makingCall_230 : decode cX9_makingCall 230 = .ok (.iload 7, 2) := by decide +kernel
theorem dX9_makingCall_232 : decode cX9_makingCall 232 = .ok (.iaload, 1) := by decide +kernel
theorem dX9_makingCall_233 : decode cX9_makingCall 233 = .ok (.aload_n 0, 1) := by decide +kernel
theorem dX9_makingCall_234 : decode cX9_makingCall 234 = .ok (.getfield 47, 3) := by decide +kernel
theorem dX9_makingCall_237 : decode cX9_makingCall 237 = .ok (.iload 9, 2) := by decide +kernel
theorem dX9_makingCall_239 : decode cX9_makingCall 239 = .ok (.iaload, 1) := by decide +kernel
theorem dX9_makingCall_240 : decode cX9_makingCall 240 = .ok (.invokevirtual 278, 3) := by decide +kernel
theorem dX9_makingCall_243 : decode cX9_makingCall 243 = .ok (.ifCond .eq 7, 3) := by decide +kernel
theorem dX9_makingCall_246 : decode cX9_makingCall 246 = .ok (.iconst 1, 1) := by decide +kernel
theorem dX9_makingCall_247 : decode cX9_makingCall 247 = .ok (.goto 4, 3) := by decide +kernel
theorem dX9_makingCall_250 : decode cX9_makingCall 250 = .ok (.iconst 0, 1) := by decide +kernel
theorem dX9_makingCall_251 : decode cX9_makingCall 251 = .ok (.istore 8, 2) := by decide +kernel
theorem dX9_makingCall_253 : decode cX9_makingCall 253 = .ok (.iinc 9 1, 3) := by decide +kernel
theorem dX9_makingCall_256 : decode cX9_makingCall 256 = .ok (.goto (-74), 3) := by decide +kernel
theorem dX9_makingCall_259 : decode cX9_makingCall 259 = .ok (.iload 8, 2) := by decide +kernel
theorem dX9_makingCall_261 : decode cX9_makingCall 261 = .ok (.ifCond .eq 66, 3) := by decide +kernel
theorem dX9_makingCall_264 : decode cX9_makingCall 264 = .ok (.aload_n 0, 1) := by decide +kernel
theorem dX9_makingCall_265 : decode cX9_makingCall 265 = .ok (.getfield 117, 3) := by decide +kernel
theorem dX9_makingCall_268 : decode cX9_makingCall 268 = .ok (.iload_n 1, 1) := by decide +kernel
theorem dX9_makingCall_269 : decode cX9_makingCall 269 = .ok (.aload_n 0, 1) := by decide +kernel
theorem dX9_makingCall_270 : decode cX9_makingCall 270 = .ok (.getfield 7, 3) := by decide +kernel
theorem dX9_makingCall_273 : decode cX9_makingCall 273 = .ok (.iload_n 2, 1) := by decide +kernel
theorem dX9_makingCall_274 : decode cX9_makingCall 274 = .ok (.baload, 1) := by decide +kernel
theorem dX9_makingCall_275 : decode cX9_makingCall 275 = .ok (.bastore, 1) := by decide +kernel
theorem dX9_makingCall_276 : decode cX9_makingCall 276 = .ok (.aload_n 0, 1) := by decide +kernel
theorem dX9_makingCall_277 : decode cX9_makingCall 277 = .ok (.getfield 102, 3) := by decide +kernel
theorem dX9_makingCall_280 : decode cX9_makingCall 280 = .ok (.iload_n 1, 1) := by decide +kernel
theorem dX9_makingCall_281 : decode cX9_makingCall 281 = .ok (.aload_n 0, 1) := by decide +kernel
theorem dX9_makingCall_282 : decode cX9_makingCall 282 = .ok (.getfield 44, 3) := by decide +kernel
theorem dX9_makingCall_285 : decode cX9_makingCall 285 = .ok (.iload 7, 2) := by decide +kernel
theorem dX9_makingCall_287 : decode cX9_makingCall 287 = .ok (.iaload, 1) := by decide +kernel
theorem dX9_makingCall_288 : decode cX9_makingCall 288 = .ok (.iastore, 1) := by decide +kernel
theorem dX9_makingCall_289 : decode cX9_makingCall 289 = .ok (.aload_n 0, 1) := by decide +kernel
theorem dX9_makingCall_290 : decode cX9_makingCall 290 = .ok (.getfield 105, 3) := by decide +kernel
theorem dX9_makingCall_293 : decode cX9_makingCall 293 = .ok (.iload_n 1, 1) := by decide +kernel
theorem dX9_makingCall_294 : decode cX9_makingCall 294 = .ok (.aload_n 0, 1) := by decide +kernel
theorem dX9_makingCall_295 : decode cX9_makingCall 295 = .ok (.getfield 47, 3) := by decide +kernel
theorem dX9_makingCall_298 : decode cX9_makingCall 298 = .ok (.iload 7, 2) := by decide +kernel
theorem dX9_makingCall_300 : decode cX9_makingCall 300 = .ok (.iaload, 1) := by decide +kernel
theorem dX9_makingCall_301 : decode cX9_makingCall 301 = .ok (.iastore, 1) := by decide +kernel
theorem dX9_makingCall_302 : decode cX9_makingCall 302 = .ok (.aload_n 0, 1) := by decide +kernel
theorem dX9_makingCall_303 : decode cX9_makingCall 303 = .ok (.getfield 114, 3) := by decide +kernel
theorem dX9_makingCall_306 : decode cX9_makingCall 306 = .ok (.iload_n 1, 1) := by decide +kernel
theorem dX9_makingCall_307 : decode cX9_makingCall 307 = .ok (.aload_n 0, 1) := by decide +kernel
theorem dX9_makingCall_308 : decode cX9_makingCall 308 = .ok (.getfield 38, 3) := by decide +kernel
theorem dX9_makingCall_311 : decode cX9_makingCall 311 = .ok (.iload 7, 2) := by decide +kernel
theorem dX9_makingCall_313 : decode cX9_makingCall 313 = .ok (.iaload, 1) := by decide +kernel
theorem dX9_makingCall_314 : decode cX9_makingCall 314 = .ok (.iconst 1, 1) := by decide +kernel
theorem dX9_makingCall_315 : decode cX9_makingCall 315 = .ok (.iand, 1) := by decide +kernel
theorem dX9_makingCall_316 : decode cX9_makingCall 316 = .ok (.ifCond .eq 7, 3) := by decide +kernel
theorem dX9_makingCall_319 : decode cX9_makingCall 319 = .ok (.iconst 1, 1) := by decide +kernel
theorem dX9_makingCall_320 : decode cX9_makingCall 320 = .ok (.goto 4, 3) := by decide +kernel
theorem dX9_makingCall_323 : decode cX9_makingCall 323 = .ok (.iconst 0, 1) := by decide +kernel
theorem dX9_makingCall_324 : decode cX9_makingCall 324 = .ok (.bastore, 1) := by decide +kernel
theorem dX9_makingCall_325 : decode cX9_makingCall 325 = .ok (.iconst 0, 1) := by decide +kernel
theorem dX9_makingCall_326 : decode cX9_makingCall 326 = .ok (.ireturn, 1) := by decide +kernel
theorem dX9_makingCall_327 : decode cX9_makingCall 327 = .ok (.iinc 7 1, 3) := by decide +kernel
theorem dX9_makingCall_330 : decode cX9_makingCall 330 = .ok (.goto (-167), 3) := by decide +kernel
theorem dX9_makingCall_333 : decode cX9_makingCall 333 = .ok (.iconst 2, 1) := by decide +kernel
theorem dX9_makingCall_334 : decode cX9_makingCall 334 = .ok (.ireturn, 1) := by decide +kernel
theorem dX9_newCaller_0 : decode cX9_newCaller 0 = .ok (.aload_n 0, 1) := by decide +kernel
theorem dX9_newCaller_1 : decode cX9_newCaller 1 = .ok (.getfield 284, 3) := by decide +kernel
theorem dX9_newCaller_4 : decode cX9_newCaller 4 = .ok (.bipush 24, 2) := by decide +kernel
theorem dX9_newCaller_6 : decode cX9_newCaller 6 = .ok (.if_icmp .ne 6, 3) := by decide +kernel
theorem dX9_newCaller_9 : decode cX9_newCaller 9 = .ok (.bipush (-3), 2) := by decide +kernel
theorem dX9_newCaller_11 : decode cX9_newCaller 11 = .ok (.ireturn, 1) := by decide +kernel
theorem dX9_newCaller_12 : decode cX9_newCaller 12 = .ok (.aload_n 0, 1) := by decide +kernel
theorem dX9_newCaller_13 : decode cX9_newCaller 13 = .ok (.aload_n 0, 1) := by decide +kernel
theorem dX9_newCaller_14 : decode cX9_newCaller 14 = .ok (.getfield 284, 3) := by decide +kernel
theorem dX9_newCaller_17 : decode cX9_newCaller 17 = .ok (.iload_n 1, 1) := by decide +kernel
theorem dX9_newCaller_18 : decode cX9_newCaller 18 = .ok (.iload_n 2, 1) := by decide +kernel
theorem dX9_newCaller_19 : decode cX9_newCaller 19 = .ok (.iload_n 3, 1) := by decide +kernel
theorem dX9_newCaller_20 : decode cX9_newCaller 20 = .ok (.iload 4, 2) := by decide +kernel
theorem dX9_newCaller_22 : decode cX9_newCaller 22 = .ok (.iload 5, 2) := by decide +kernel
theorem dX9_newCaller_24 : decode cX9_newCaller 24 = .ok (.invokevirtual 287, 3) := by decide +kernel
theorem dX9_newCaller_27 : decode cX9_newCaller 27 = .ok (.istore 6, 2) := by decide +kernel
theorem dX9_newCaller_29 : decode cX9_newCaller 29 = .ok (.iload 6, 2) := by decide +kernel
theorem dX9_newCaller_31 : decode cX9_newCaller 31 = .ok (.ifCond .le 9, 3) := by decide +kernel
theorem dX9_newCaller_34 : decode cX9_newCaller 34 = .ok (.bipush (-10), 2) := by decide +kernel
theorem dX9_newCaller_36 : decode cX9_newCaller 36 = .ok (.iload 6, 2) := by decide +kernel
theorem dX9_newCaller_38 : decode cX9_newCaller 38 = .ok (.isub, 1) := by decide +kernel
theorem dX9_newCaller_39 : decode cX9_newCaller 39 = .ok (.ireturn, 1) := by decide +kernel
theorem dX9_newCaller_40 : decode cX9_newCaller 40 = .ok (.aload_n 0, 1) := by decide +kernel
theorem dX9_newCaller_41 : decode cX9_newCaller 41 = .ok (.dup, 1) := by decide +kernel
theorem dX9_newCaller_42 : decode cX9_newCaller 42 = .ok (.getfield 284, 3) := by decide +kernel
theorem dX9_newCaller_45 : decode cX9_newCaller 45 = .ok (.iconst 1, 1) := by decide +kernel
theorem dX9_newCaller_46 : decode cX9_newCaller 46 = .ok (.iadd, 1) := by decide +kernel
theorem dX9_newCaller_47 : decode cX9_newCaller 47 = .ok (.putfield 284, 3) := by decide +kernel
theorem dX9_newCaller_50 : decode cX9_newCaller 50 = .ok (.aload_n 0, 1) := by decide +kernel
theorem dX9_newCaller_51 : decode cX9_newCaller 51 = .ok (.getfield 284, 3) := by decide +kernel
theorem dX9_newCaller_54 : decode cX9_newCaller 54 = .ok (.iconst 1, 1) := by decide +kernel
theorem dX9_newCaller_55 : decode cX9_newCaller 55 = .ok (.isub, 1) := by decide +kernel
theorem dX9_newCaller_56 : decode cX9_newCaller 56 = .ok (.ireturn, 1) := by decide +kernel
theorem dX9_get_0 : decode cX9_get 0 = .ok (.aload_n 0, 1) := by decide +kernel
theorem dX9_get_1 : decode cX9_get 1 = .ok (.iload_n 1, 1) := by decide +kernel
theorem dX9_get_2 : decode cX9_get 2 = .ok (.invokevirtual 137, 3) := by decide +kernel
theorem dX9_get_5 : decode cX9_get 5 = .ok (.ifCond .eq 29, 3) := by decide +kernel
theorem dX9_get_8 : decode cX9_get 8 = .ok (.iload_n 2, 1) := by decide +kernel
theorem dX9_get_9 : decode cX9_get 9 = .ok (.i2l, 1) := by decide +kernel
theorem dX9_get_10 : decode cX9_get 10 = .ok (.lconst 0, 1) := by decide +kernel
theorem dX9_get_11 : decode cX9_get 11 = .ok (.ldc2_w 190, 3) := by decide +kernel
theorem dX9_get_14 : decode cX9_get 14 = .ok (.invokestatic 133, 3) := by decide +kernel
theorem dX9_get_17 : decode cX9_get 17 = .ok (.ifCond .eq 17, 3) := by decide +kernel
theorem dX9_get_20 : decode cX9_get 20 = .ok (.aload_n 0, 1) := by decide +kernel
theorem dX9_get_21 : decode cX9_get 21 = .ok (.iconst 0, 1) := by decide +kernel
theorem dX9_get_22 : decode cX9_get 22 = .ok (.iload_n 1, 1) := by decide +kernel
theorem dX9_get_23 : decode cX9_get 23 = .ok (.iload_n 2, 1) := by decide +kernel
theorem dX9_get_24 : decode cX9_get 24 = .ok (.bipush (-2), 2) := by decide +kernel
theorem dX9_get_26 : decode cX9_get 26 = .ok (.bipush (-2), 2) := by decide +kernel
theorem dX9_get_28 : decode cX9_get 28 = .ok (.invokevirtual 290, 3) := by decide +kernel
theorem dX9_get_31 : decode cX9_get 31 = .ok (.goto 4, 3) := by decide +kernel
theorem dX9_get_34 : decode cX9_get 34 = .ok (.iconst (-1), 1) := by decide +kernel
theorem dX9_get_35 : decode cX9_get 35 = .ok (.ireturn, 1) := by decide +kernel
theorem dX9_call_0 : decode cX9_call 0 = .ok (.aload_n 0, 1) := by decide +kernel
theorem dX9_call_1 : decode cX9_call 1 = .ok (.iload_n 1, 1) := by decide +kernel
theorem dX9_call_2 : decode cX9_call 2 = .ok (.invokevirtual 137, 3) := by decide +kernel
theorem dX9_call_5 : decode cX9_call 5 = .ok (.ifCond .eq 38, 3) := by decide +kernel
theorem dX9_call_8 : decode cX9_call 8 = .ok (.iload_n 2, 1) := by decide +kernel
theorem dX9_call_9 : decode cX9_call 9 = .ok (.i2l, 1) := by decide +kernel
theorem dX9_call_10 : decode cX9_call 10 = .ok (.lconst 0, 1) := by decide +kernel
theorem dX9_call_11 : decode cX9_call 11 = .ok (.ldc2_w 190, 3) := by decide +kernel
theorem dX9_call_14 : decode cX9_call 14 = .ok (.invokestatic 133, 3) := by decide +kernel
theorem dX9_call_17 : decode cX9_call 17 = .ok (.ifCond .eq 26, 3) := by decide +kernel
theorem dX9_call_20 : decode cX9_call 20 = .ok (.aload_n 0, 1) := by decide +kernel
theorem dX9_call_21 : decode cX9_call 21 = .ok (.iload_n 3, 1) := by decide +kernel
theorem dX9_call_22 : decode cX9_call 22 = .ok (.iload 4, 2) := by decide +kernel
theorem dX9_call_24 : decode cX9_call 24 = .ok (.invokevirtual 200, 3) := by decide +kernel
theorem dX9_call_27 : decode cX9_call 27 = .ok (.ifCond .eq 16, 3) := by decide +kernel
theorem dX9_call_30 : decode cX9_call 30 = .ok (.aload_n 0, 1) := by decide +kernel
theorem dX9_call_31 : decode cX9_call 31 = .ok (.iconst 1, 1) := by decide +kernel
theorem dX9_call_32 : decode cX9_call 32 = .ok (.iload_n 1, 1) := by decide +kernel
theorem dX9_call_33 : decode cX9_call 33 = .ok (.iload_n 2, 1) := by decide +kernel
theorem dX9_call_34 : decode cX9_call 34 = .ok (.iload_n 3, 1) := by decide +kernel
theorem dX9_call_35 : decode cX9_call 35 = .ok (.iload 4, 2) := by decide +kernel
theorem dX9_call_37 : decode cX9_call 37 = .ok (.invokevirtual 290, 3) := by decide +kernel
theorem dX9_call_40 : decode cX9_call 40 = .ok (.goto 4, 3) := by decide +kernel
theorem dX9_call_43 : decode cX9_call 43 = .ok (.iconst (-1), 1) := by decide +kernel
theorem dX9_call_44 : decode cX9_call 44 = .ok (.ireturn, 1) := by decide +kernel
theorem dX9_make_0 : decode cX9_make 0 = .ok (.aload_n 0, 1) := by decide +kernel
theorem dX9_make_1 : decode cX9_make 1 = .ok (.iload_n 1, 1) := by decide +kernel
theorem dX9_make_2 : decode cX9_make 2 = .ok (.invokevirtual 137, 3) := by decide +kernel
theorem dX9_make_5 : decode cX9_make 5 = .ok (.ifCond .eq 18, 3) := by decide +kernel
theorem dX9_make_8 : decode cX9_make 8 = .ok (.aload_n 0, 1) := by decide +kernel
theorem dX9_make_9 : decode cX9_make 9 = .ok (.iconst 2, 1) := by decide +kernel
theorem dX9_make_10 : decode cX9_make 10 = .ok (.iload_n 1, 1) := by decide +kernel
theorem dX9_make_11 : decode cX9_make 11 = .ok (.bipush (-2), 2) := by decide +kernel
theorem dX9_make_13 : decode cX9_make 13 = .ok (.bipush (-2), 2) := by decide +kernel
theorem dX9_make_15 : decode cX9_make 15 = .ok (.bipush (-2), 2) := by decide +kernel
theorem dX9_make_17 : decode cX9_make 17 = .ok (.invokevirtual 290, 3) := by decide +kernel
theorem dX9_make_20 : decode cX9_make 20 = .ok (.goto 4, 3) := by decide +kernel
theorem dX9_make_23 : decode cX9_make 23 = .ok (.iconst (-1), 1) := by decide +kernel
theorem dX9_make_24 : decode cX9_make 24 = .ok (.ireturn, 1) := by decide +kernel
theorem dX9_readFails_0 : decode cX9_readFails 0 = .ok (.aload_n 0, 1) := by decide +kernel
theorem dX9_readFails_1 : decode cX9_readFails 1 = .ok (.iload_n 1, 1) := by decide +kernel
theorem dX9_readFails_2 : decode cX9_readFails 2 = .ok (.invokevirtual 256, 3) := by decide +kernel
theorem dX9_readFails_5 : decode cX9_readFails 5 = .ok (.istore_n 2, 1) := by decide +kernel
theorem dX9_readFails_6 : decode cX9_readFails 6 = .ok (.iload_n 2, 1) := by decide +kernel
theorem dX9_readFails_7 : decode cX9_readFails 7 = .ok (.iconst 2, 1) := by decide +kernel
theorem dX9_readFails_8 : decode cX9_readFails 8 = .ok (.isub, 1) := by decide +kernel
theorem dX9_readFails_9 : decode cX9_readFails 9 = .ok (.istore_n 3, 1) := by decide +kernel
theorem dX9_readFails_10 : decode cX9_readFails 10 = .ok (.iload_n 3, 1) := by decide +kernel
theorem dX9_readFails_11 : decode cX9_readFails 11 = .ok (.ifCond .lt 106, 3) := by decide +kernel
theorem dX9_readFails_14 : decode cX9_readFails 14 = .ok (.aload_n 0, 1) := by decide +kernel
theorem dX9_readFails_15 : decode cX9_readFails 15 = .ok (.getfield 17, 3) := by decide +kernel
theorem dX9_readFails_18 : decode cX9_readFails 18 = .ok (.aload_n 0, 1) := by decide +kernel
theorem dX9_readFails_19 : decode cX9_readFails 19 = .ok (.getfield 84, 3) := by decide +kernel
theorem dX9_readFails_22 : decode cX9_readFails 22 = .ok (.iload_n 3, 1) := by decide +kernel
theorem dX9_readFails_23 : decode cX9_readFails 23 = .ok (.iconst 1, 1) := by decide +kernel
theorem dX9_readFails_24 : decode cX9_readFails 24 = .ok (.iadd, 1) := by decide +kernel
theorem dX9_readFails_25 : decode cX9_readFails 25 = .ok (.iaload, 1) := by decide +kernel
theorem dX9_readFails_26 : decode cX9_readFails 26 = .ok (.iaload, 1) := by decide +kernel
theorem dX9_readFails_27 : decode cX9_readFails 27 = .ok (.iconst 2, 1) := by decide +kernel
theorem dX9_readFails_28 : decode cX9_readFails 28 = .ok (.iand, 1) := by decide +kernel
theorem dX9_readFails_29 : decode cX9_readFails 29 = .ok (.ifCond .eq 5, 3) := by decide +kernel
theorem dX9_readFails_32 : decode cX9_readFails 32 = .ok (.iconst 1, 1) := by decide +kernel
theorem dX9_readFails_33 : decode cX9_readFails 33 = .ok (.ireturn, 1) := by decide +kernel
theorem dX9_readFails_34 : decode cX9_readFails 34 = .ok (.iconst 0, 1) := by decide +kernel
theorem dX9_readFails_35 : decode cX9_readFails 35 = .ok (.istore 4, 2) := by decide +kernel
theorem dX9_readFails_37 : decode cX9_readFails 37 = .ok (.iload 4, 2) := by decide +kernel
theorem dX9_readFails_39 : decode cX9_readFails 39 = .ok (.bipush 60, 2) := by decide +kernel
theorem dX9_readFails_41 : decode cX9_readFails 41 = .ok (.if_icmp .ge 70, 3) := by decide +kernel
theorem dX9_readFails_44 : decode cX9_readFails 44 = .ok (.aload_n 0, 1) := by decide +kernel
theorem dX9_readFails_45 : decode cX9_readFails 45 = .ok (.getfield 26, 3) := by decide +kernel
theorem dX9_readFails_48 : decode cX9_readFails 48 = .ok (.iload 4, 2) := by decide +kernel
theorem dX9_readFails_50 : decode cX9_readFails 50 = .ok (.baload, 1) := by decide +kernel
theorem dX9_readFails_51 : decode cX9_readFails 51 = .ok (.ifCond .eq 54, 3) := by decide +kernel
theorem dX9_readFails_54 : decode cX9_readFails 54 = .ok (.aload_n 0, 1) := by decide +kernel
theorem dX9_readFails_55 : decode cX9_readFails 55 = .ok (.getfield 29, 3) := by decide +kernel
theorem dX9_readFails_58 : decode cX9_readFails 58 = .ok (.iload 4, 2) := by decide +kernel
theorem dX9_readFails_60 : decode cX9_readFails 60 = .ok (.baload, 1) := by decide +kernel
theorem dX9_readFails_61 : decode cX9_readFails 61 = .ok (.ifCond .eq 44, 3) := by decide +kernel
theorem dX9_readFails_64 : decode cX9_readFails 64 = .ok (.aload_n 0, 1) := by decide +kernel
theorem dX9_readFails_65 : decode cX9_readFails 65 = .ok (.getfield 32, 3) := by decide +kernel
theorem dX9_readFails_68 : decode cX9_readFails 68 = .ok (.iload 4, 2) := by decide +kernel
theorem dX9_readFails_70 : decode cX9_readFails 70 = .ok (.iaload, 1) := by decide +kernel
theorem dX9_readFails_71 : decode cX9_readFails 71 = .ok (.aload_n 0, 1) := by decide +kernel
theorem dX9_readFails_72 : decode cX9_readFails 72 = .ok (.getfield 84, 3) := by decide +kernel
theorem dX9_readFails_75 : decode cX9_readFails 75 = .ok (.iload_n 3, 1) := by decide +kernel
theorem dX9_readFails_76 : decode cX9_readFails 76 = .ok (.iaload, 1) := by decide +kernel
theorem dX9_readFails_77 : decode cX9_readFails 77 = .ok (.if_icmp .ne 28, 3) := by decide +kernel
theorem dX9_readFails_80 : decode cX9_readFails 80 = .ok (.aload_n 0, 1) := by decide +kernel
theorem dX9_readFails_81 : decode cX9_readFails 81 = .ok (.getfield 38, 3) := by decide +kernel
theorem dX9_readFails_84 : decode cX9_readFails 84 = .ok (.iload 4, 2) := by decide +kernel
theorem dX9_readFails_86 : decode cX9_readFails 86 = .ok (.iaload, 1) := by decide +kernel
theorem dX9_readFails_87 : decode cX9_readFails 87 = .ok (.iconst 5, 1) := by decide +kernel
theorem dX9_readFails_88 : decode cX9_readFails 88 = .ok (.iand, 1) := by decide +kernel
theorem dX9_readFails_89 : decode cX9_readFails 89 = .ok (.ifCond .ne 16, 3) := by decide +kernel
theorem dX9_readFails_92 : decode cX9_readFails 92 = .ok (.aload_n 0, 1) := by decide +kernel
theorem dX9_readFails_93 : decode cX9_readFails 93 = .ok (.iload_n 3, 1) := by decide +kernel
theorem dX9_readFails_94 : decode cX9_readFails 94 = .ok (.iload_n 2, 1) := by decide +kernel
theorem dX9_readFails_95 : decode cX9_readFails 95 = .ok (.iload 4, 2) := by decide +kernel
theorem dX9_readFails_97 : decode cX9_readFails 97 = .ok (.invokevirtual 293, 3) := by decide +kernel
theorem dX9_readFails_100 : decode cX9_readFails 100 = .ok (.ifCond .eq 5, 3) := by decide +kernel
theorem dX9_readFails_103 : decode cX9_readFails 103 = .ok (.iconst 2, 1) := by decide +kernel
theorem dX9_readFails_104 : decode cX9_readFails 104 = .ok (.ireturn, 1) := by decide +kernel
theorem dX9_readFails_105 : decode cX9_readFails 105 = .ok (.iinc 4 1, 3) := by decide +kernel
theorem dX9_readFails_108 : decode cX9_readFails 108 = .ok (.goto (-71), 3) := by decide +kernel
theorem dX9_readFails_111 : decode cX9_readFails 111 = .ok (.iinc 3 (-1), 3) := by decide +kernel
theorem dX9_readFails_114 : decode cX9_readFails 114 = .ok (.goto (-104), 3) := by decide +kernel
theorem dX9_readFails_117 : decode cX9_readFails 117 = .ok (.iconst 0, 1) := by decide +kernel
theorem dX9_readFails_118 : decode cX9_readFails 118 = .ok (.ireturn, 1) := by decide +kernel
theorem dX9_isFinalAbove_0 : decode cX9_isFinalAbove 0 = .ok (.iload_n 1, 1) := by decide +kernel
theorem dX9_isFinalAbove_1 : decode cX9_isFinalAbove 1 = .ok (.iconst 1, 1) := by decide +kernel
theorem dX9_isFinalAbove_2 : decode cX9_isFinalAbove 2 = .ok (.iadd, 1) := by decide +kernel
theorem dX9_isFinalAbove_3 : decode cX9_isFinalAbove 3 = .ok (.istore 4, 2) := by decide +kernel
theorem dX9_isFinalAbove_5 : decode cX9_isFinalAbove 5 = .ok (.iload 4, 2) := by decide +kernel
theorem dX9_isFinalAbove_7 : decode cX9_isFinalAbove 7 = .ok (.iload_n 2, 1) := by decide +kernel
theorem dX9_isFinalAbove_8 : decode cX9_isFinalAbove 8 = .ok (.if_icmp .ge 54, 3) := by decide +kernel
theorem dX9_isFinalAbove_11 : decode cX9_isFinalAbove 11 = .ok (.aload_n 0, 1) := by decide +kernel
theorem dX9_isFinalAbove_12 : decode cX9_isFinalAbove 12 = .ok (.aload_n 0, 1) := by decide +kernel
theorem dX9_isFinalAbove_13 : decode cX9_isFinalAbove 13 = .ok (.getfield 84, 3) := by decide +kernel
theorem dX9_isFinalAbove_16 : decode cX9_isFinalAbove 16 = .ok (.iload 4, 2) := by decide +kernel
theorem dX9_isFinalAbove_18 : decode cX9_isFinalAbove 18 = .ok (.iaload, 1) := by decide +kernel
theorem dX9_isFinalAbove_19 : decode cX9_isFinalAbove 19 = .ok (.iload_n 3, 1) := by decide +kernel
theorem dX9_isFinalAbove_20 : decode cX9_isFinalAbove 20 = .ok (.invokevirtual 213, 3) := by decide +kernel
theorem dX9_isFinalAbove_23 : decode cX9_isFinalAbove 23 = .ok (.istore 5, 2) := by decide +kernel
theorem dX9_isFinalAbove_25 : decode cX9_isFinalAbove 25 = .ok (.iload 5, 2) := by decide +kernel
theorem dX9_isFinalAbove_27 : decode cX9_isFinalAbove 27 = .ok (.ifCond .lt 29, 3) := by decide +kernel
theorem dX9_isFinalAbove_30 : decode cX9_isFinalAbove 30 = .ok (.aload_n 0, 1) := by decide +kernel
theorem dX9_isFinalAbove_31 : decode cX9_isFinalAbove 31 = .ok (.getfield 38, 3) := by decide +kernel
theorem dX9_isFinalAbove_34 : decode cX9_isFinalAbove 34 = .ok (.iload 5, 2) := by decide +kernel
theorem dX9_isFinalAbove_36 : decode cX9_isFinalAbove 36 = .ok (.iaload, 1) := by decide +kernel
theorem dX9_isFinalAbove_37 : decode cX9_isFinalAbove 37 = .ok (.iconst 5, 1) := by decide +kernel
theorem dX9_isFinalAbove_38 : decode cX9_isFinalAbove 38 = .ok (.iand, 1) := by decide +kernel
theorem dX9_isFinalAbove_39 : decode cX9_isFinalAbove 39 = .ok (.ifCond .ne 17, 3) := by decide +kernel
theorem dX9_isFinalAbove_42 : decode cX9_isFinalAbove 42 = .ok (.aload_n 0, 1) := by decide +kernel
theorem dX9_isFinalAbove_43 : decode cX9_isFinalAbove 43 = .ok (.getfield 38, 3) := by decide +kernel
theorem dX9_isFinalAbove_46 : decode cX9_isFinalAbove 46 = .ok (.iload 5, 2) := by decide +kernel
theorem dX9_isFinalAbove_48 : decode cX9_isFinalAbove 48 = .ok (.iaload, 1) := by decide +kernel
theorem dX9_isFinalAbove_49 : decode cX9_isFinalAbove 49 = .ok (.iconst 2, 1) := by decide +kernel
theorem dX9_isFinalAbove_50 : decode cX9_isFinalAbove 50 = .ok (.iand, 1) := by decide +kernel
theorem dX9_isFinalAbove_51 : decode cX9_isFinalAbove 51 = .ok (.ifCond .eq 5, 3) := by decide +kernel
theorem dX9_isFinalAbove_54 : decode cX9_isFinalAbove 54 = .ok (.iconst 1, 1) := by decide +kernel
theorem dX9_isFinalAbove_55 : decode cX9_isFinalAbove 55 = .ok (.ireturn, 1) := by decide +kernel
theorem dX9_isFinalAbove_56 : decode cX9_isFinalAbove 56 = .ok (.iinc 4 1, 3) := by decide +kernel
theorem dX9_isFinalAbove_59 : decode cX9_isFinalAbove 59 = .ok (.goto (-54), 3) := by decide +kernel
theorem dX9_isFinalAbove_62 : decode cX9_isFinalAbove 62 = .ok (.iconst 0, 1) := by decide +kernel
theorem dX9_isFinalAbove_63 : decode cX9_isFinalAbove 63 = .ok (.ireturn, 1) := by decide +kernel
theorem dX9_isGone_0 : decode cX9_isGone 0 = .ok (.iload_n 1, 1) := by decide +kernel
theorem dX9_isGone_1 : decode cX9_isGone 1 = .ok (.bipush (-2), 2) := by decide +kernel
theorem dX9_isGone_3 : decode cX9_isGone 3 = .ok (.if_icmp .eq 15, 3) := by decide +kernel
theorem dX9_isGone_6 : decode cX9_isGone 6 = .ok (.aload_n 0, 1) := by decide +kernel
theorem dX9_isGone_7 : decode cX9_isGone 7 = .ok (.iload_n 1, 1) := by decide +kernel
theorem dX9_isGone_8 : decode cX9_isGone 8 = .ok (.invokevirtual 137, 3) := by decide +kernel
theorem dX9_isGone_11 : decode cX9_isGone 11 = .ok (.ifCond .ne 7, 3) := by decide +kernel
theorem dX9_isGone_14 : decode cX9_isGone 14 = .ok (.iconst 1, 1) := by decide +kernel
theorem dX9_isGone_15 : decode cX9_isGone 15 = .ok (.goto 4, 3) := by decide +kernel
theorem dX9_isGone_18 : decode cX9_isGone 18 = .ok (.iconst 0, 1) := by decide +kernel
theorem dX9_isGone_19 : decode cX9_isGone 19 = .ok (.ireturn, 1) := by decide +kernel
theorem dX9_meets_0 : decode cX9_meets 0 = .ok (.aload_n 0, 1) := by decide +kernel
theorem dX9_meets_1 : decode cX9_meets 1 = .ok (.aload_n 0, 1) := by decide +kernel
theorem dX9_meets_2 : decode cX9_meets 2 = .ok (.getfield 90, 3) := by decide +kernel
theorem dX9_meets_5 : decode cX9_meets 5 = .ok (.iload_n 1, 1) := by decide +kernel
theorem dX9_meets_6 : decode cX9_meets 6 = .ok (.iaload, 1) := by decide +kernel
theorem dX9_meets_7 : decode cX9_meets 7 = .ok (.invokevirtual 297, 3) := by decide +kernel
theorem dX9_meets_10 : decode cX9_meets 10 = .ok (.ifCond .ne 29, 3) := by decide +kernel
theorem dX9_meets_13 : decode cX9_meets 13 = .ok (.aload_n 0, 1) := by decide +kernel
theorem dX9_meets_14 : decode cX9_meets 14 = .ok (.aload_n 0, 1) := by decide +kernel
theorem dX9_meets_15 : decode cX9_meets 15 = .ok (.getfield 102, 3) := by decide +kernel
theorem dX9_meets_18 : decode cX9_meets 18 = .ok (.iload_n 1, 1) := by decide +kernel
theorem dX9_meets_19 : decode cX9_meets 19 = .ok (.iaload, 1) := by decide +kernel
theorem dX9_meets_20 : decode cX9_meets 20 = .ok (.invokevirtual 297, 3) := by decide +kernel
theorem dX9_meets_23 : decode cX9_meets 23 = .ok (.ifCond .ne 16, 3) := by decide +kernel
theorem dX9_meets_26 : decode cX9_meets 26 = .ok (.aload_n 0, 1) := by decide +kernel
theorem dX9_meets_27 : decode cX9_meets 27 = .ok (.aload_n 0, 1) := by decide +kernel
theorem dX9_meets_28 : decode cX9_meets 28 = .ok (.getfield 105, 3) := by decide +kernel
theorem dX9_meets_31 : decode cX9_meets 31 = .ok (.iload_n 1, 1) := by decide +kernel
theorem dX9_meets_32 : decode cX9_meets 32 = .ok (.iaload, 1) := by decide +kernel
theorem dX9_meets_33 : decode cX9_meets 33 = .ok (.invokevirtual 297, 3) := by decide +kernel
theorem dX9_meets_36 : decode cX9_meets 36 = .ok (.ifCond .eq 5, 3) := by decide +kernel
theorem dX9_meets_39 : decode cX9_meets 39 = .ok (.iconst 3, 1) := by decide +kernel
theorem dX9_meets_40 : decode cX9_meets 40 = .ok (.ireturn, 1) := by decide +kernel
theorem dX9_meets_41 : decode cX9_meets 41 = .ok (.aload_n 0, 1) := by decide +kernel
theorem dX9_meets_42 : decode cX9_meets 42 = .ok (.getfield 90, 3) := by decide +kernel
theorem dX9_meets_45 : decode cX9_meets 45 = .ok (.iload_n 1, 1) := by decide +kernel
theorem dX9_meets_46 : decode cX9_meets 46 = .ok (.iaload, 1) := by decide +kernel
theorem dX9_meets_47 : decode cX9_meets 47 = .ok (.istore_n 3, 1) := by decide +kernel
theorem dX9_meets_48 : decode cX9_meets 48 = .ok (.aload_n 0, 1) := by decide +kernel
theorem dX9_meets_49 : decode cX9_meets 49 = .ok (.getfield 108, 3) := by decide +kernel
theorem dX9_meets_52 : decode cX9_meets 52 = .ok (.iload_n 1, 1) := by decide +kernel
theorem dX9_meets_53 : decode cX9_meets 53 = .ok (.baload, 1) := by decide +kernel
theorem dX9_meets_54 : decode cX9_meets 54 = .ok (.ifCond .eq 15, 3) := by decide +kernel
theorem dX9_meets_57 : decode cX9_meets 57 = .ok (.aload_n 0, 1) := by decide +kernel
theorem dX9_meets_58 : decode cX9_meets 58 = .ok (.aload_n 0, 1) := by decide +kernel
theorem dX9_meets_59 : decode cX9_meets 59 = .ok (.getfield 111, 3) := by decide +kernel
theorem dX9_meets_62 : decode cX9_meets 62 = .ok (.iload_n 1, 1) := by decide +kernel
theorem dX9_meets_63 : decode cX9_meets 63 = .ok (.laload, 1) := by decide +kernel
theorem dX9_meets_64 : decode cX9_meets 64 = .ok (.putfield 300, 3) := by decide +kernel
theorem dX9_meets_67 : decode cX9_meets 67 = .ok (.iconst 0, 1) := by decide +kernel
theorem dX9_meets_68 : decode cX9_meets 68 = .ok (.ireturn, 1) := by decide +kernel
theorem dX9_meets_69 : decode cX9_meets 69 = .ok (.aload_n 0, 1) := by decide +kernel
theorem dX9_meets_70 : decode cX9_meets 70 = .ok (.iload_n 3, 1) := by decide +kernel
theorem dX9_meets_71 : decode cX9_meets 71 = .ok (.invokevirtual 304, 3) := by decide +kernel
theorem dX9_meets_74 : decode cX9_meets 74 = .ok (.istore 4, 2) := by decide +kernel
theorem dX9_meets_76 : decode cX9_meets 76 = .ok (.iload 4, 2) := by decide +kernel
theorem dX9_meets_78 : decode cX9_meets 78 = .ok (.ifCond .le 6, 3) := by decide +kernel
theorem dX9_meets_81 : decode cX9_meets 81 = .ok (.iload 4, 2) := by decide +kernel
theorem dX9_meets_83 : decode cX9_meets 83 = .ok (.ireturn, 1) := by decide +kernel
theorem dX9_meets_84 : decode cX9_meets 84 = .ok (.aload_n 0, 1) := by decide +kernel
theorem dX9_meets_85 : decode cX9_meets 85 = .ok (.getfield 87, 3) := by decide +kernel
theorem dX9_meets_88 : decode cX9_meets 88 = .ok (.iload_n 1, 1) := by decide +kernel
theorem dX9_meets_89 : decode cX9_meets 89 = .ok (.iaload, 1) := by decide +kernel
theorem dX9_meets_90 : decode cX9_meets 90 = .ok (.iconst 2, 1) := by decide +kernel
theorem dX9_meets_91 : decode cX9_meets 91 = .ok (.if_icmp .ne 36, 3) := by decide +kernel
theorem dX9_meets_94 : decode cX9_meets 94 = .ok (.aload_n 0, 1) := by decide +kernel
theorem dX9_meets_95 : decode cX9_meets 95 = .ok (.iload_n 3, 1) := by decide +kernel
theorem dX9_meets_96 : decode cX9_meets 96 = .ok (.i2l, 1) := by decide +kernel
theorem dX9_meets_97 : decode cX9_meets 97 = .ok (.putfield 300, 3) := by decide +kernel
theorem dX9_meets_100 : decode cX9_meets 100 = .ok (.aload_n 0, 1) := by decide +kernel
theorem dX9_meets_101 : decode cX9_meets 101 = .ok (.getfield 17, 3) := by decide +kernel
theorem dX9_meets_104 : decode cX9_meets 104 = .ok (.iload_n 3, 1) := by decide +kernel
theorem dX9_meets_105 : decode cX9_meets 105 = .ok (.iaload, 1) := by decide +kernel
theorem dX9_meets_106 : decode cX9_meets 106 = .ok (.iconst 1, 1) := by decide +kernel
theorem dX9_meets_107 : decode cX9_meets 107 = .ok (.iand, 1) := by decide +kernel
theorem dX9_meets_108 : decode cX9_meets 108 = .ok (.ifCond .eq 17, 3) := by decide +kernel
theorem dX9_meets_111 : decode cX9_meets 111 = .ok (.aload_n 0, 1) := by decide +kernel
theorem dX9_meets_112 : decode cX9_meets 112 = .ok (.getfield 7, 3) := by decide +kernel
theorem dX9_meets_115 : decode cX9_meets 115 = .ok (.iload_n 3, 1) := by decide +kernel
theorem dX9_meets_116 : decode cX9_meets 116 = .ok (.baload, 1) := by decide +kernel
theorem dX9_meets_117 : decode cX9_meets 117 = .ok (.ifCond .ne 8, 3) := by decide +kernel
theorem dX9_meets_120 : decode cX9_meets 120 = .ok (.bipush 9, 2) := by decide +kernel
theorem dX9_meets_122 : decode cX9_meets 122 = .ok (.goto 4, 3) := by decide +kernel
theorem dX9_meets_125 : decode cX9_meets 125 = .ok (.iconst 0, 1) := by decide +kernel
theorem dX9_meets_126 : decode cX9_meets 126 = .ok (.ireturn, 1) := by decide +kernel
theorem dX9_meets_127 : decode cX9_meets 127 = .ok (.aload_n 0, 1) := by decide +kernel
theorem dX9_meets_128 : decode cX9_meets 128 = .ok (.getfield 87, 3) := by decide +kernel
theorem dX9_meets_131 : decode cX9_meets 131 = .ok (.iload_n 1, 1) := by decide +kernel
theorem dX9_meets_132 : decode cX9_meets 132 = .ok (.iaload, 1) := by decide +kernel
theorem dX9_meets_133 : decode cX9_meets 133 = .ok (.iconst 1, 1) := by decide +kernel
theorem dX9_meets_134 : decode cX9_meets 134 = .ok (.if_icmp .ne 7, 3) := by decide +kernel
theorem dX9_meets_137 : decode cX9_meets 137 = .ok (.iconst 1, 1) := by decide +kernel
theorem dX9_meets_138 : decode cX9_meets 138 = .ok (.goto 4, 3) := by decide +kernel
theorem dX9_meets_141 : decode cX9_meets 141 = .ok (.iconst 0, 1) := by decide +kernel
theorem dX9_meets_142 : decode cX9_meets 142 = .ok (.istore 5, 2) := by decide +kernel
theorem dX9_meets_144 : decode cX9_meets 144 = .ok (.iload 5, 2) := by decide +kernel
theorem dX9_meets_146 : decode cX9_meets 146 = .ok (.ifCond .eq 20, 3) := by decide +kernel
theorem dX9_meets_149 : decode cX9_meets 149 = .ok (.aload_n 0, 1) := by decide +kernel
theorem dX9_meets_150 : decode cX9_meets 150 = .ok (.getfield 7, 3) := by decide +kernel
theorem dX9_meets_153 : decode cX9_meets 153 = .ok (.iload_n 3, 1) := by decide +kernel
theorem dX9_meets_154 : decode cX9_meets 154 = .ok (.baload, 1) := by decide +kernel
theorem dX9_meets_155 : decode cX9_meets 155 = .ok (.aload_n 0, 1) := by decide +kernel
theorem dX9_meets_156 : decode cX9_meets 156 = .ok (.getfield 117, 3) := by decide +kernel
theorem dX9_meets_159 : decode cX9_meets 159 = .ok (.iload_n 1, 1) := by decide +kernel
theorem dX9_meets_160 : decode cX9_meets 160 = .ok (.baload, 1) := by decide +kernel
theorem dX9_meets_161 : decode cX9_meets 161 = .ok (.if_icmp .eq 5, 3) := by decide +kernel
theorem dX9_meets_164 : decode cX9_meets 164 = .ok (.iconst 5, 1) := by decide +kernel
theorem dX9_meets_165 : decode cX9_meets 165 = .ok (.ireturn, 1) := by decide +kernel
theorem dX9_meets_166 : decode cX9_meets 166 = .ok (.iload 5, 2) := by decide +kernel
theorem dX9_meets_168 : decode cX9_meets 168 = .ok (.ifCond .eq 29, 3) := by decide +kernel
theorem dX9_meets_171 : decode cX9_meets 171 = .ok (.aload_n 0, 1) := by decide +kernel
theorem dX9_meets_172 : decode cX9_meets 172 = .ok (.iload_n 3, 1) := by decide +kernel
theorem dX9_meets_173 : decode cX9_meets 173 = .ok (.aload_n 0, 1) := by decide +kernel
theorem dX9_meets_174 : decode cX9_meets 174 = .ok (.getfield 93, 3) := by decide +kernel
theorem dX9_meets_177 : decode cX9_meets 177 = .ok (.iload_n 1, 1) := by decide +kernel
theorem dX9_meets_178 : decode cX9_meets 178 = .ok (.iaload, 1) := by decide +kernel
theorem dX9_meets_179 : decode cX9_meets 179 = .ok (.aload_n 0, 1) := by decide +kernel
theorem dX9_meets_180 : decode cX9_meets 180 = .ok (.getfield 102, 3) := by decide +kernel
theorem dX9_meets_183 : decode cX9_meets 183 = .ok (.iload_n 1, 1) := by decide +kernel
theorem dX9_meets_184 : decode cX9_meets 184 = .ok (.iaload, 1) := by decide +kernel
theorem dX9_meets_185 : decode cX9_meets 185 = .ok (.aload_n 0, 1) := by decide +kernel
theorem dX9_meets_186 : decode cX9_meets 186 = .ok (.getfield 105, 3) := by decide +kernel
theorem dX9_meets_189 : decode cX9_meets 189 = .ok (.iload_n 1, 1) := by decide +kernel
theorem dX9_meets_190 : decode cX9_meets 190 = .ok (.iaload, 1) := by decide +kernel
theorem dX9_meets_191 : decode cX9_meets 191 = .ok (.invokevirtual 281, 3) := by decide +kernel
theorem dX9_meets_194 : decode cX9_meets 194 = .ok (.goto 15, 3) := by decide +kernel
theorem dX9_meets_197 : decode cX9_meets 197 = .ok (.aload_n 0, 1) := by decide +kernel
theorem dX9_meets_198 : decode cX9_meets 198 = .ok (.iload_n 3, 1) := by decide +kernel
theorem dX9_meets_199 : decode cX9_meets 199 = .ok (.aload_n 0, 1) := by decide +kernel
theorem dX9_meets_200 : decode cX9_meets 200 = .ok (.getfield 93, 3) := by decide +kernel
theorem dX9_meets_203 : decode cX9_meets 203 = .ok (.iload_n 1, 1) := by decide +kernel
theorem dX9_meets_204 : decode cX9_meets 204 = .ok (.iaload, 1) := by decide +kernel
theorem dX9_meets_205 : decode cX9_meets 205 = .ok (.iconst 0, 1) := by decide +kernel
theorem dX9_meets_206 : decode cX9_meets 206 = .ok (.invokevirtual 266, 3) := by decide +kernel
theorem dX9_meets_209 : decode cX9_meets 209 = .ok (.istore 6, 2) := by decide +kernel
theorem dX9_meets_211 : decode cX9_meets 211 = .ok (.iload 6, 2) := by decide +kernel
theorem dX9_meets_213 : decode cX9_meets 213 = .ok (.ifCond .ge 5, 3) := by decide +kernel
theorem dX9_meets_216 : decode cX9_meets 216 = .ok (.iconst 3, 1) := by decide +kernel
theorem dX9_meets_217 : decode cX9_meets 217 = .ok (.ireturn, 1) := by decide +kernel
theorem dX9_meets_218 : decode cX9_meets 218 = .ok (.aload_n 0, 1) := by decide +kernel
theorem dX9_meets_219 : decode cX9_meets 219 = .ok (.getfield 38, 3) := by decide +kernel
theorem dX9_meets_222 : decode cX9_meets 222 = .ok (.iload 6, 2) := by decide +kernel
theorem dX9_meets_224 : decode cX9_meets 224 = .ok (.iaload, 1) := by decide +kernel
theorem dX9_meets_225 : decode cX9_meets 225 = .ok (.iconst 4, 1) := by decide +kernel
theorem dX9_meets_226 : decode cX9_meets 226 = .ok (.iand, 1) := by decide +kernel
theorem dX9_meets_227 : decode cX9_meets 227 = .ok (.ifCond .eq 5, 3) := by decide +kernel
theorem dX9_meets_230 : decode cX9_meets 230 = .ok (.iconst 4, 1) := by decide +kernel
theorem dX9_meets_231 : decode cX9_meets 231 = .ok (.ireturn, 1) := by decide +kernel
theorem dX9_meets_232 : decode cX9_meets 232 = .ok (.aload_n 0, 1) := by decide +kernel
theorem dX9_meets_233 : decode cX9_meets 233 = .ok (.getfield 38, 3) := by decide +kernel
theorem dX9_meets_236 : decode cX9_meets 236 = .ok (.iload 6, 2) := by decide +kernel
theorem dX9_meets_238 : decode cX9_meets 238 = .ok (.iaload, 1) := by decide +kernel
theorem dX9_meets_239 : decode cX9_meets 239 = .ok (.iconst 1, 1) := by decide +kernel
theorem dX9_meets_240 : decode cX9_meets 240 = .ok (.iand, 1) := by decide +kernel
theorem dX9_meets_241 : decode cX9_meets 241 = .ok (.ifCond .eq 7, 3) := by decide +kernel
theorem dX9_meets_244 : decode cX9_meets 244 = .ok (.iconst 1, 1) := by decide +kernel
theorem dX9_meets_245 : decode cX9_meets 245 = .ok (.goto 4, 3) := by decide +kernel
theorem dX9_meets_248 : decode cX9_meets 248 = .ok (.iconst 0, 1) := by decide +kernel
theorem dX9_meets_249 : decode cX9_meets 249 = .ok (.istore 7, 2) := by decide +kernel
theorem dX9_meets_251 : decode cX9_meets 251 = .ok (.iload 7, 2) := by decide +kernel
theorem dX9_meets_253 : decode cX9_meets 253 = .ok (.aload_n 0, 1) := by decide +kernel
theorem dX9_meets_254 : decode cX9_meets 254 = .ok (.getfield 114, 3) := by decide +kernel
theorem dX9_meets_257 : decode cX9_meets 257 = .ok (.iload_n 1, 1) := by decide +kernel
theorem dX9_meets_258 : decode cX9_meets 258 = .ok (.baload, 1) := by decide +kernel
theorem dX9_meets_259 : decode cX9_meets 259 = .ok (.if_icmp .eq 5, 3) := by decide +kernel
theorem dX9_meets_262 : decode cX9_meets 262 = .ok (.iconst 5, 1) := by decide +kernel
theorem dX9_meets_263 : decode cX9_meets 263 = .ok (.ireturn, 1) := by decide +kernel
theorem dX9_meets_264 : decode cX9_meets 264 = .ok (.iload 7, 2) := by decide +kernel
theorem dX9_meets_266 : decode cX9_meets 266 = .ok (.ifCond .ne 41, 3) := by decide +kernel
theorem dX9_meets_269 : decode cX9_meets 269 = .ok (.aload_n 0, 1) := by decide +kernel
theorem dX9_meets_270 : decode cX9_meets 270 = .ok (.iload_n 2, 1) := by decide +kernel
theorem dX9_meets_271 : decode cX9_meets 271 = .ok (.invokevirtual 304, 3) := by decide +kernel
theorem dX9_meets_274 : decode cX9_meets 274 = .ok (.istore 4, 2) := by decide +kernel
theorem dX9_meets_276 : decode cX9_meets 276 = .ok (.iload 4, 2) := by decide +kernel
theorem dX9_meets_278 : decode cX9_meets 278 = .ok (.ifCond .ne 17, 3) := by decide +kernel
theorem dX9_meets_281 : decode cX9_meets 281 = .ok (.aload_n 0, 1) := by decide +kernel
theorem dX9_meets_282 : decode cX9_meets 282 = .ok (.iload_n 2, 1) := by decide +kernel
theorem dX9_meets_283 : decode cX9_meets 283 = .ok (.iload_n 3, 1) := by decide +kernel
theorem dX9_meets_284 : decode cX9_meets 284 = .ok (.invokevirtual 182, 3) := by decide +kernel
theorem dX9_meets_287 : decode cX9_meets 287 = .ok (.ifCond .ne 8, 3) := by decide +kernel
theorem dX9_meets_290 : decode cX9_meets 290 = .ok (.bipush 6, 2) := by decide +kernel
theorem dX9_meets_292 : decode cX9_meets 292 = .ok (.goto 5, 3) := by decide +kernel
theorem dX9_meets_295 : decode cX9_meets 295 = .ok (.iload 4, 2) := by decide +kernel
theorem dX9_meets_297 : decode cX9_meets 297 = .ok (.istore 4, 2) := by decide +kernel
theorem dX9_meets_299 : decode cX9_meets 299 = .ok (.iload 4, 2) := by decide +kernel
theorem dX9_meets_301 : decode cX9_meets 301 = .ok (.ifCond .le 6, 3) := by decide +kernel
theorem dX9_meets_304 : decode cX9_meets 304 = .ok (.iload 4, 2) := by decide +kernel
theorem dX9_meets_306 : decode cX9_meets 306 = .ok (.ireturn, 1) := by decide +kernel
theorem dX9_meets_307 : decode cX9_meets 307 = .ok (.iload 5, 2) := by decide +kernel
theorem dX9_meets_309 : decode cX9_meets 309 = .ok (.ifCond .eq 16, 3) := by decide +kernel
theorem dX9_meets_312 : decode cX9_meets 312 = .ok (.aload_n 0, 1) := by decide +kernel
theorem dX9_meets_313 : decode cX9_meets 313 = .ok (.iload_n 1, 1) := by decide +kernel
theorem dX9_meets_314 : decode cX9_meets 314 = .ok (.iload 6, 2) := by decide +kernel
theorem dX9_meets_316 : decode cX9_meets 316 = .ok (.iload_n 2, 1) := by decide +kernel
theorem dX9_meets_317 : decode cX9_meets 317 = .ok (.iload 7, 2) := by decide +kernel
theorem dX9_meets_319 : decode cX9_meets 319 = .ok (.invokevirtual 307, 3) := by decide +kernel
theorem dX9_meets_322 : decode cX9_meets 322 = .ok (.goto 10, 3) := by decide +kernel
theorem dX9_meets_325 : decode cX9_meets 325 = .ok (.aload_n 0, 1) := by decide +kernel
theorem dX9_meets_326 : decode cX9_meets 326 = .ok (.iload_n 1, 1) := by decide +kernel
theorem dX9_meets_327 : decode cX9_meets 327 = .ok (.iload 6, 2) := by decide +kernel
theorem dX9_meets_329 : decode cX9_meets 329 = .ok (.invokevirtual 311, 3) := by decide +kernel
theorem dX9_meets_332 : decode cX9_meets 332 = .ok (.ireturn, 1) := by decide +kernel
theorem dX9_meetsField_0 : decode cX9_meetsField 0 = .ok (.aload_n 0, 1) := by decide +kernel
theorem dX9_meetsField_1 : decode cX9_meetsField 1 = .ok (.getfield 41, 3) := by decide +kernel
theorem dX9_meetsField_4 : decode cX9_meetsField 4 = .ok (.iload_n 2, 1) := by decide +kernel
theorem dX9_meetsField_5 : decode cX9_meetsField 5 = .ok (.iaload, 1) := by decide +kernel
theorem dX9_meetsField_6 : decode cX9_meetsField 6 = .ok (.aload_n 0, 1) := by decide +kernel
theorem dX9_meetsField_7 : decode cX9_meetsField 7 = .ok (.getfield 120, 3) := by decide +kernel
theorem dX9_meetsField_10 : decode cX9_meetsField 10 = .ok (.iload_n 1, 1) := by decide +kernel
theorem dX9_meetsField_11 : decode cX9_meetsField 11 = .ok (.iaload, 1) := by decide +kernel
theorem dX9_meetsField_12 : decode cX9_meetsField 12 = .ok (.invokestatic 314, 3) := by decide +kernel
theorem dX9_meetsField_15 : decode cX9_meetsField 15 = .ok (.ifCond .ne 6, 3) := by decide +kernel
theorem dX9_meetsField_18 : decode cX9_meetsField 18 = .ok (.bipush 7, 2) := by decide +kernel
theorem dX9_meetsField_20 : decode cX9_meetsField 20 = .ok (.ireturn, 1) := by decide +kernel
theorem dX9_meetsField_21 : decode cX9_meetsField 21 = .ok (.aload_n 0, 1) := by decide +kernel
theorem dX9_meetsField_22 : decode cX9_meetsField 22 = .ok (.aload_n 0, 1) := by decide +kernel
theorem dX9_meetsField_23 : decode cX9_meetsField 23 = .ok (.getfield 41, 3) := by decide +kernel
theorem dX9_meetsField_26 : decode cX9_meetsField 26 = .ok (.iload_n 2, 1) := by decide +kernel
theorem dX9_meetsField_27 : decode cX9_meetsField 27 = .ok (.iaload, 1) := by decide +kernel
theorem dX9_meetsField_28 : decode cX9_meetsField 28 = .ok (.aload_n 0, 1) := by decide +kernel
theorem dX9_meetsField_29 : decode cX9_meetsField 29 = .ok (.getfield 50, 3) := by decide +kernel
theorem dX9_meetsField_32 : decode cX9_meetsField 32 = .ok (.iload_n 2, 1) := by decide +kernel
theorem dX9_meetsField_33 : decode cX9_meetsField 33 = .ok (.laload, 1) := by decide +kernel
theorem dX9_meetsField_34 : decode cX9_meetsField 34 = .ok (.aload_n 0, 1) := by decide +kernel
theorem dX9_meetsField_35 : decode cX9_meetsField 35 = .ok (.getfield 120, 3) := by decide +kernel
theorem dX9_meetsField_38 : decode cX9_meetsField 38 = .ok (.iload_n 1, 1) := by decide +kernel
theorem dX9_meetsField_39 : decode cX9_meetsField 39 = .ok (.iaload, 1) := by decide +kernel
theorem dX9_meetsField_40 : decode cX9_meetsField 40 = .ok (.invokestatic 270, 3) := by decide +kernel
theorem dX9_meetsField_43 : decode cX9_meetsField 43 = .ok (.putfield 300, 3) := by decide +kernel
theorem dX9_meetsField_46 : decode cX9_meetsField 46 = .ok (.iconst 0, 1) := by decide +kernel
theorem dX9_meetsField_47 : decode cX9_meetsField 47 = .ok (.ireturn, 1) := by decide +kernel
theorem dX9_meetsMethod_0 : decode cX9_meetsMethod 0 = .ok (.iload 4, 2) := by decide +kernel
theorem dX9_meetsMethod_2 : decode cX9_meetsMethod 2 = .ok (.ifCond .eq 7, 3) := by decide +kernel
theorem dX9_meetsMethod_5 : decode cX9_meetsMethod 5 = .ok (.iload_n 2, 1) := by decide +kernel
theorem dX9_meetsMethod_6 : decode cX9_meetsMethod 6 = .ok (.goto 26, 3) := by decide +kernel
theorem dX9_meetsMethod_9 : decode cX9_meetsMethod 9 = .ok (.aload_n 0, 1) := by decide +kernel
theorem dX9_meetsMethod_10 : decode cX9_meetsMethod 10 = .ok (.iload_n 3, 1) := by decide +kernel
theorem dX9_meetsMethod_11 : decode cX9_meetsMethod 11 = .ok (.aload_n 0, 1) := by decide +kernel
theorem dX9_meetsMethod_12 : decode cX9_meetsMethod 12 = .ok (.getfield 93, 3) := by decide +kernel
theorem dX9_meetsMethod_15 : decode cX9_meetsMethod 15 = .ok (.iload_n 1, 1) := by decide +kernel
theorem dX9_meetsMethod_16 : decode cX9_meetsMethod 16 = .ok (.iaload, 1) := by decide +kernel
theorem dX9_meetsMethod_17 : decode cX9_meetsMethod 17 = .ok (.aload_n 0, 1) := by decide +kernel
theorem dX9_meetsMethod_18 : decode cX9_meetsMethod 18 = .ok (.getfield 102, 3) := by decide +kernel
theorem dX9_meetsMethod_21 : decode cX9_meetsMethod 21 = .ok (.iload_n 1, 1) := by decide +kernel
theorem dX9_meetsMethod_22 : decode cX9_meetsMethod 22 = .ok (.iaload, 1) := by decide +kernel
theorem dX9_meetsMethod_23 : decode cX9_meetsMethod 23 = .ok (.aload_n 0, 1) := by decide +kernel
theorem dX9_meetsMethod_24 : decode cX9_meetsMethod 24 = .ok (.getfield 105, 3) := by decide +kernel
theorem dX9_meetsMethod_27 : decode cX9_meetsMethod 27 = .ok (.iload_n 1, 1) := by decide +kernel
theorem dX9_meetsMethod_28 : decode cX9_meetsMethod 28 = .ok (.iaload, 1) := by decide +kernel
theorem dX9_meetsMethod_29 : decode cX9_meetsMethod 29 = .ok (.invokevirtual 262, 3) := by decide +kernel
theorem dX9_meetsMethod_32 : decode cX9_meetsMethod 32 = .ok (.istore 5, 2) := by decide +kernel
theorem dX9_meetsMethod_34 : decode cX9_meetsMethod 34 = .ok (.iload 5, 2) := by decide +kernel
theorem dX9_meetsMethod_36 : decode cX9_meetsMethod 36 = .ok (.bipush (-4), 2) := by decide +kernel
theorem dX9_meetsMethod_38 : decode cX9_meetsMethod 38 = .ok (.if_icmp .ne 5, 3) := by decide +kernel
theorem dX9_meetsMethod_41 : decode cX9_meetsMethod 41 = .ok (.iconst 5, 1) := by decide +kernel
theorem dX9_meetsMethod_42 : decode cX9_meetsMethod 42 = .ok (.ireturn, 1) := by decide +kernel
theorem dX9_meetsMethod_43 : decode cX9_meetsMethod 43 = .ok (.iload 5, 2) := by decide +kernel
theorem dX9_meetsMethod_45 : decode cX9_meetsMethod 45 = .ok (.ifCond .lt 16, 3) := by decide +kernel
theorem dX9_meetsMethod_48 : decode cX9_meetsMethod 48 = .ok (.aload_n 0, 1) := by decide +kernel
theorem dX9_meetsMethod_49 : decode cX9_meetsMethod 49 = .ok (.getfield 38, 3) := by decide +kernel
theorem dX9_meetsMethod_52 : decode cX9_meetsMethod 52 = .ok (.iload 5, 2) := by decide +kernel
theorem dX9_meetsMethod_54 : decode cX9_meetsMethod 54 = .ok (.iaload, 1) := by decide +kernel
theorem dX9_meetsMethod_55 : decode cX9_meetsMethod 55 = .ok (.bipush 8, 2) := by decide +kernel
theorem dX9_meetsMethod_57 : decode cX9_meetsMethod 57 = .ok (.iand, 1) := by decide +kernel
theorem dX9_meetsMethod_58 : decode cX9_meetsMethod 58 = .ok (.ifCond .eq 6, 3) := by decide +kernel
theorem dX9_meetsMethod_61 : decode cX9_meetsMethod 61 = .ok (.bipush 8, 2) := by decide +kernel
theorem dX9_meetsMethod_63 : decode cX9_meetsMethod 63 = .ok (.ireturn, 1) := by decide +kernel
theorem dX9_meetsMethod_64 : decode cX9_meetsMethod 64 = .ok (.aload_n 0, 1) := by decide +kernel
theorem dX9_meetsMethod_65 : decode cX9_meetsMethod 65 = .ok (.aload_n 0, 1) := by decide +kernel
theorem dX9_meetsMethod_66 : decode cX9_meetsMethod 66 = .ok (.getfield 50, 3) := by decide +kernel
theorem dX9_meetsMethod_69 : decode cX9_meetsMethod 69 = .ok (.iload 5, 2) := by decide +kernel
theorem dX9_meetsMethod_71 : decode cX9_meetsMethod 71 = .ok (.laload, 1) := by decide +kernel
theorem dX9_meetsMethod_72 : decode cX9_meetsMethod 72 = .ok (.putfield 300, 3) := by decide +kernel
theorem dX9_meetsMethod_75 : decode cX9_meetsMethod 75 = .ok (.iconst 0, 1) := by decide +kernel
theorem dX9_meetsMethod_76 : decode cX9_meetsMethod 76 = .ok (.ireturn, 1) := by decide +kernel
theorem dX9_answer_0 : decode cX9_answer 0 = .ok (.aload_n 0, 1) := by decide +kernel
theorem dX9_answer_1 : decode cX9_answer 1 = .ok (.iload_n 1, 1) := by decide +kernel
theorem dX9_answer_2 : decode cX9_answer 2 = .ok (.iload_n 2, 1) := by decide +kernel
theorem dX9_answer_3 : decode cX9_answer 3 = .ok (.invokevirtual 317, 3) := by decide +kernel
theorem dX9_answer_6 : decode cX9_answer 6 = .ok (.istore_n 3, 1) := by decide +kernel
theorem dX9_answer_7 : decode cX9_answer 7 = .ok (.iload_n 3, 1) := by decide +kernel
theorem dX9_answer_8 : decode cX9_answer 8 = .ok (.ifCond .le 8, 3) := by decide +kernel
theorem dX9_answer_11 : decode cX9_answer 11 = .ok (.bipush (-30), 2) := by decide +kernel
theorem dX9_answer_13 : decode cX9_answer 13 = .ok (.iload_n 3, 1) := by decide +kernel
theorem dX9_answer_14 : decode cX9_answer 14 = .ok (.isub, 1) := by decide +kernel
theorem dX9_answer_15 : decode cX9_answer 15 = .ok (.ireturn, 1) := by decide +kernel
theorem dX9_answer_16 : decode cX9_answer 16 = .ok (.aload_n 0, 1) := by decide +kernel
theorem dX9_answer_17 : decode cX9_answer 17 = .ok (.aload_n 0, 1) := by decide +kernel
theorem dX9_answer_18 : decode cX9_answer 18 = .ok (.getfield 300, 3) := by decide +kernel
theorem dX9_answer_21 : decode cX9_answer 21 = .ok (.putfield 320, 3) := by decide +kernel
theorem dX9_answer_24 : decode cX9_answer 24 = .ok (.iconst 0, 1) := by decide +kernel
theorem dX9_answer_25 : decode cX9_answer 25 = .ok (.ireturn, 1) := by decide +kernel
theorem dX9_isCaller_0 : decode cX9_isCaller 0 = .ok (.iload_n 1, 1) := by decide +kernel
theorem dX9_isCaller_1 : decode cX9_isCaller 1 = .ok (.i2l, 1) := by decide +kernel
theorem dX9_isCaller_2 : decode cX9_isCaller 2 = .ok (.lconst 0, 1) := by decide +kernel
theorem dX9_isCaller_3 : decode cX9_isCaller 3 = .ok (.aload_n 0, 1) := by decide +kernel
theorem dX9_isCaller_4 : decode cX9_isCaller 4 = .ok (.getfield 284, 3) := by decide +kernel
theorem dX9_isCaller_7 : decode cX9_isCaller 7 = .ok (.iconst 1, 1) := by decide +kernel
theorem dX9_isCaller_8 : decode cX9_isCaller 8 = .ok (.isub, 1) := by decide +kernel
theorem dX9_isCaller_9 : decode cX9_isCaller 9 = .ok (.i2l, 1) := by decide +kernel
theorem dX9_isCaller_10 : decode cX9_isCaller 10 = .ok (.invokestatic 133, 3) := by decide +kernel
theorem dX9_isCaller_13 : decode cX9_isCaller 13 = .ok (.ireturn, 1) := by decide +kernel
theorem dX9_meet_0 : decode cX9_meet 0 = .ok (.aload_n 0, 1) := by decide +kernel
theorem dX9_meet_1 : decode cX9_meet 1 = .ok (.iload_n 1, 1) := by decide +kernel
theorem dX9_meet_2 : decode cX9_meet 2 = .ok (.invokevirtual 323, 3) := by decide +kernel
theorem dX9_meet_5 : decode cX9_meet 5 = .ok (.ifCond .eq 20, 3) := by decide +kernel
theorem dX9_meet_8 : decode cX9_meet 8 = .ok (.aload_n 0, 1) := by decide +kernel
theorem dX9_meet_9 : decode cX9_meet 9 = .ok (.iload_n 2, 1) := by decide +kernel
theorem dX9_meet_10 : decode cX9_meet 10 = .ok (.invokevirtual 177, 3) := by decide +kernel
theorem dX9_meet_13 : decode cX9_meet 13 = .ok (.ifCond .eq 12, 3) := by decide +kernel
theorem dX9_meet_16 : decode cX9_meet 16 = .ok (.aload_n 0, 1) := by decide +kernel
theorem dX9_meet_17 : decode cX9_meet 17 = .ok (.iload_n 1, 1) := by decide +kernel
theorem dX9_meet_18 : decode cX9_meet 18 = .ok (.iload_n 2, 1) := by decide +kernel
theorem dX9_meet_19 : decode cX9_meet 19 = .ok (.invokevirtual 326, 3) := by decide +kernel
theorem dX9_meet_22 : decode cX9_meet 22 = .ok (.goto 4, 3) := by decide +kernel
theorem dX9_meet_25 : decode cX9_meet 25 = .ok (.iconst (-1), 1) := by decide +kernel
theorem dX9_meet_26 : decode cX9_meet 26 = .ok (.ireturn, 1) := by decide +kernel
theorem dX9_asked_0 : decode cX9_asked 0 = .ok (.aload_n 0, 1) := by decide +kernel
theorem dX9_asked_1 : decode cX9_asked 1 = .ok (.getfield 320, 3) := by decide +kernel
theorem dX9_asked_4 : decode cX9_asked 4 = .ok (.lreturn, 1) := by decide +kernel
theorem dX9_anew_0 : decode cX9_anew 0 = .ok (.aload_n 0, 1) := by decide +kernel
theorem dX9_anew_1 : decode cX9_anew 1 = .ok (.iload_n 1, 1) := by decide +kernel
theorem dX9_anew_2 : decode cX9_anew 2 = .ok (.invokevirtual 323, 3) := by decide +kernel
theorem dX9_anew_5 : decode cX9_anew 5 = .ok (.ifCond .eq 11, 3) := by decide +kernel
theorem dX9_anew_8 : decode cX9_anew 8 = .ok (.aload_n 0, 1) := by decide +kernel
theorem dX9_anew_9 : decode cX9_anew 9 = .ok (.iload_n 2, 1) := by decide +kernel
theorem dX9_anew_10 : decode cX9_anew 10 = .ok (.invokevirtual 177, 3) := by decide +kernel
theorem dX9_anew_13 : decode cX9_anew 13 = .ok (.ifCond .ne 5, 3) := by decide +kernel
theorem dX9_anew_16 : decode cX9_anew 16 = .ok (.iconst (-1), 1) := by decide +kernel
theorem dX9_anew_17 : decode cX9_anew 17 = .ok (.ireturn, 1) := by decide +kernel
theorem dX9_anew_18 : decode cX9_anew 18 = .ok (.aload_n 0, 1) := by decide +kernel
theorem dX9_anew_19 : decode cX9_anew 19 = .ok (.aload_n 0, 1) := by decide +kernel
theorem dX9_anew_20 : decode cX9_anew 20 = .ok (.getfield 90, 3) := by decide +kernel
theorem dX9_anew_23 : decode cX9_anew 23 = .ok (.iload_n 1, 1) := by decide +kernel
theorem dX9_anew_24 : decode cX9_anew 24 = .ok (.iaload, 1) := by decide +kernel
theorem dX9_anew_25 : decode cX9_anew 25 = .ok (.invokevirtual 297, 3) := by decide +kernel
theorem dX9_anew_28 : decode cX9_anew 28 = .ok (.ifCond .ne 29, 3) := by decide +kernel
theorem dX9_anew_31 : decode cX9_anew 31 = .ok (.aload_n 0, 1) := by decide +kernel
theorem dX9_anew_32 : decode cX9_anew 32 = .ok (.aload_n 0, 1) := by decide +kernel
theorem dX9_anew_33 : decode cX9_anew 33 = .ok (.getfield 96, 3) := by decide +kernel
theorem dX9_anew_36 : decode cX9_anew 36 = .ok (.iload_n 1, 1) := by decide +kernel
theorem dX9_anew_37 : decode cX9_anew 37 = .ok (.iaload, 1) := by decide +kernel
theorem dX9_anew_38 : decode cX9_anew 38 = .ok (.invokevirtual 297, 3) := by decide +kernel
theorem dX9_anew_41 : decode cX9_anew 41 = .ok (.ifCond .ne 16, 3) := by decide +kernel
theorem dX9_anew_44 : decode cX9_anew 44 = .ok (.aload_n 0, 1) := by decide +kernel
theorem dX9_anew_45 : decode cX9_anew 45 = .ok (.aload_n 0, 1) := by decide +kernel
theorem dX9_anew_46 : decode cX9_anew 46 = .ok (.getfield 99, 3) := by decide +kernel
theorem dX9_anew_49 : decode cX9_anew 49 = .ok (.iload_n 1, 1) := by decide +kernel
theorem dX9_anew_50 : decode cX9_anew 50 = .ok (.iaload, 1) := by decide +kernel
theorem dX9_anew_51 : decode cX9_anew 51 = .ok (.invokevirtual 297, 3) := by decide +kernel
theorem dX9_anew_54 : decode cX9_anew 54 = .ok (.ifCond .eq 6, 3) := by decide +kernel
theorem dX9_anew_57 : decode cX9_anew 57 = .ok (.bipush (-2), 2) := by decide +kernel
theorem dX9_anew_59 : decode cX9_anew 59 = .ok (.ireturn, 1) := by decide +kernel
theorem dX9_anew_60 : decode cX9_anew 60 = .ok (.aload_n 0, 1) := by decide +kernel
theorem dX9_anew_61 : decode cX9_anew 61 = .ok (.bipush 24, 2) := by decide +kernel
theorem dX9_anew_63 : decode cX9_anew 63 = .ok (.aload_n 0, 1) := by decide +kernel
theorem dX9_anew_64 : decode cX9_anew 64 = .ok (.getfield 87, 3) := by decide +kernel
theorem dX9_anew_67 : decode cX9_anew 67 = .ok (.iload_n 1, 1) := by decide +kernel
theorem dX9_anew_68 : decode cX9_anew 68 = .ok (.iaload, 1) := by decide +kernel
theorem dX9_anew_69 : decode cX9_anew 69 = .ok (.aload_n 0, 1) := by decide +kernel
theorem dX9_anew_70 : decode cX9_anew 70 = .ok (.getfield 90, 3) := by decide +kernel
theorem dX9_anew_73 : decode cX9_anew 73 = .ok (.iload_n 1, 1) := by decide +kernel
theorem dX9_anew_74 : decode cX9_anew 74 = .ok (.iaload, 1) := by decide +kernel
theorem dX9_anew_75 : decode cX9_anew 75 = .ok (.aload_n 0, 1) := by decide +kernel
theorem dX9_anew_76 : decode cX9_anew 76 = .ok (.getfield 93, 3) := by decide +kernel
theorem dX9_anew_79 : decode cX9_anew 79 = .ok (.iload_n 1, 1) := by decide +kernel
theorem dX9_anew_80 : decode cX9_anew 80 = .ok (.iaload, 1) := by decide +kernel
theorem dX9_anew_81 : decode cX9_anew 81 = .ok (.aload_n 0, 1) := by decide +kernel
theorem dX9_anew_82 : decode cX9_anew 82 = .ok (.getfield 96, 3) := by decide +kernel
theorem dX9_anew_85 : decode cX9_anew 85 = .ok (.iload_n 1, 1) := by decide +kernel
theorem dX9_anew_86 : decode cX9_anew 86 = .ok (.iaload, 1) := by decide +kernel
theorem dX9_anew_87 : decode cX9_anew 87 = .ok (.aload_n 0, 1) := by decide +kernel
theorem dX9_anew_88 : decode cX9_anew 88 = .ok (.getfield 99, 3) := by decide +kernel
theorem dX9_anew_91 : decode cX9_anew 91 = .ok (.iload_n 1, 1) := by decide +kernel
theorem dX9_anew_92 : decode cX9_anew 92 = .ok (.iaload, 1) := by decide +kernel
theorem dX9_anew_93 : decode cX9_anew 93 = .ok (.invokevirtual 287, 3) := by decide +kernel
theorem dX9_anew_96 : decode cX9_anew 96 = .ok (.istore_n 3, 1) := by decide +kernel
theorem dX9_anew_97 : decode cX9_anew 97 = .ok (.iload_n 3, 1) := by decide +kernel
theorem dX9_anew_98 : decode cX9_anew 98 = .ok (.ifCond .le 10, 3) := by decide +kernel
theorem dX9_anew_101 : decode cX9_anew 101 = .ok (.bipush (-10), 2) := by decide +kernel
theorem dX9_anew_103 : decode cX9_anew 103 = .ok (.iload_n 3, 1) := by decide +kernel
theorem dX9_anew_104 : decode cX9_anew 104 = .ok (.isub, 1) := by decide +kernel
theorem dX9_anew_105 : decode cX9_anew 105 = .ok (.goto 10, 3) := by decide +kernel
theorem dX9_anew_108 : decode cX9_anew 108 = .ok (.aload_n 0, 1) := by decide +kernel
theorem dX9_anew_109 : decode cX9_anew 109 = .ok (.bipush 24, 2) := by decide +kernel
theorem dX9_anew_111 : decode cX9_anew 111 = .ok (.iload_n 2, 1) := by decide +kernel
theorem dX9_anew_112 : decode cX9_anew 112 = .ok (.invokevirtual 326, 3) := by decide +kernel
theorem dX9_anew_115 : decode cX9_anew 115 = .ok (.ireturn, 1) := by decide +kernel
theorem dX9_culprit_0 : decode cX9_culprit 0 = .ok (.aload_n 0, 1) := by decide +kernel
theorem dX9_culprit_1 : decode cX9_culprit 1 = .ok (.iload_n 1, 1) := by decide +kernel
theorem dX9_culprit_2 : decode cX9_culprit 2 = .ok (.invokevirtual 323, 3) := by decide +kernel
theorem dX9_culprit_5 : decode cX9_culprit 5 = .ok (.ifCond .eq 11, 3) := by decide +kernel
theorem dX9_culprit_8 : decode cX9_culprit 8 = .ok (.aload_n 0, 1) := by decide +kernel
theorem dX9_culprit_9 : decode cX9_culprit 9 = .ok (.iload_n 2, 1) := by decide +kernel
theorem dX9_culprit_10 : decode cX9_culprit 10 = .ok (.invokevirtual 177, 3) := by decide +kernel
theorem dX9_culprit_13 : decode cX9_culprit 13 = .ok (.ifCond .ne 5, 3) := by decide +kernel
theorem dX9_culprit_16 : decode cX9_culprit 16 = .ok (.iconst (-1), 1) := by decide +kernel
theorem dX9_culprit_17 : decode cX9_culprit 17 = .ok (.ireturn, 1) := by decide +kernel
theorem dX9_culprit_18 : decode cX9_culprit 18 = .ok (.aload_n 0, 1) := by decide +kernel
theorem dX9_culprit_19 : decode cX9_culprit 19 = .ok (.getfield 123, 3) := by decide +kernel
theorem dX9_culprit_22 : decode cX9_culprit 22 = .ok (.iload_n 1, 1) := by decide +kernel
theorem dX9_culprit_23 : decode cX9_culprit 23 = .ok (.iaload, 1) := by decide +kernel
theorem dX9_culprit_24 : decode cX9_culprit 24 = .ok (.istore_n 3, 1) := by decide +kernel
theorem dX9_culprit_25 : decode cX9_culprit 25 = .ok (.iload_n 3, 1) := by decide +kernel
theorem dX9_culprit_26 : decode cX9_culprit 26 = .ok (.aload_n 0, 1) := by decide +kernel
theorem dX9_culprit_27 : decode cX9_culprit 27 = .ok (.getfield 232, 3) := by decide +kernel
theorem dX9_culprit_30 : decode cX9_culprit 30 = .ok (.if_icmp .le 6, 3) := by decide +kernel
theorem dX9_culprit_33 : decode cX9_culprit 33 = .ok (.bipush (-2), 2) := by decide +kernel
theorem dX9_culprit_35 : decode cX9_culprit 35 = .ok (.ireturn, 1) := by decide +kernel
theorem dX9_culprit_36 : decode cX9_culprit 36 = .ok (.aload_n 0, 1) := by decide +kernel
theorem dX9_culprit_37 : decode cX9_culprit 37 = .ok (.invokevirtual 242, 3) := by decide +kernel
theorem dX9_culprit_40 : decode cX9_culprit 40 = .ok (.aload_n 0, 1) := by decide +kernel
theorem dX9_culprit_41 : decode cX9_culprit 41 = .ok (.iconst 0, 1) := by decide +kernel
theorem dX9_culprit_42 : decode cX9_culprit 42 = .ok (.iload_n 3, 1) := by decide +kernel
theorem dX9_culprit_43 : decode cX9_culprit 43 = .ok (.invokevirtual 245, 3) := by decide +kernel
theorem dX9_culprit_46 : decode cX9_culprit 46 = .ok (.aload_n 0, 1) := by decide +kernel
theorem dX9_culprit_47 : decode cX9_culprit 47 = .ok (.iload_n 2, 1) := by decide +kernel
theorem dX9_culprit_48 : decode cX9_culprit 48 = .ok (.invokevirtual 177, 3) := by decide +kernel
theorem dX9_culprit_51 : decode cX9_culprit 51 = .ok (.ifCond .ne 18, 3) := by decide +kernel
theorem dX9_culprit_54 : decode cX9_culprit 54 = .ok (.aload_n 0, 1) := by decide +kernel
theorem dX9_culprit_55 : decode cX9_culprit 55 = .ok (.invokevirtual 242, 3) := by decide +kernel
theorem dX9_culprit_58 : decode cX9_culprit 58 = .ok (.aload_n 0, 1) := by decide +kernel
theorem dX9_culprit_59 : decode cX9_culprit 59 = .ok (.iconst 0, 1) := by decide +kernel
theorem dX9_culprit_60 : decode cX9_culprit 60 = .ok (.aload_n 0, 1) := by decide +kernel
theorem dX9_culprit_61 : decode cX9_culprit 61 = .ok (.getfield 232, 3) := by decide +kernel
theorem dX9_culprit_64 : decode cX9_culprit 64 = .ok (.invokevirtual 245, 3) := by decide +kernel
theorem dX9_culprit_67 : decode cX9_culprit 67 = .ok (.iconst (-1), 1) := by decide +kernel
theorem dX9_culprit_68 : decode cX9_culprit 68 = .ok (.ireturn, 1) := by decide +kernel
theorem dX9_culprit_69 : decode cX9_culprit 69 = .ok (.aload_n 0, 1) := by decide +kernel
theorem dX9_culprit_70 : decode cX9_culprit 70 = .ok (.iload_n 1, 1) := by decide +kernel
theorem dX9_culprit_71 : decode cX9_culprit 71 = .ok (.iload_n 2, 1) := by decide +kernel
theorem dX9_culprit_72 : decode cX9_culprit 72 = .ok (.invokevirtual 317, 3) := by decide +kernel
theorem dX9_culprit_75 : decode cX9_culprit 75 = .ok (.istore 4, 2) := by decide +kernel
theorem dX9_culprit_77 : decode cX9_culprit 77 = .ok (.aload_n 0, 1) := by decide +kernel
theorem dX9_culprit_78 : decode cX9_culprit 78 = .ok (.getfield 300, 3) := by decide +kernel
theorem dX9_culprit_81 : decode cX9_culprit 81 = .ok (.lstore 5, 2) := by decide +kernel
theorem dX9_culprit_83 : decode cX9_culprit 83 = .ok (.iconst 0, 1) := by decide +kernel
theorem dX9_culprit_84 : decode cX9_culprit 84 = .ok (.istore 7, 2) := by decide +kernel
theorem dX9_culprit_86 : decode cX9_culprit 86 = .ok (.iload_n 3, 1) := by decide +kernel
theorem dX9_culprit_87 : decode cX9_culprit 87 = .ok (.istore 8, 2) := by decide +kernel
theorem dX9_culprit_89 : decode cX9_culprit 89 = .ok (.iload 8, 2) := by decide +kernel
theorem dX9_culprit_91 : decode cX9_culprit 91 = .ok (.aload_n 0, 1) := by decide +kernel
theorem dX9_culprit_92 : decode cX9_culprit 92 = .ok (.getfield 232, 3) := by decide +kernel
theorem dX9_culprit_95 : decode cX9_culprit 95 = .ok (.if_icmp .ge 76, 3) := by decide +kernel
theorem dX9_culprit_98 : decode cX9_culprit 98 = .ok (.aload_n 0, 1) := by decide +kernel
theorem dX9_culprit_99 : decode cX9_culprit 99 = .ok (.iload 8, 2) := by decide +kernel
theorem dX9_culprit_101 : decode cX9_culprit 101 = .ok (.iload 8, 2) := by decide +kernel
theorem dX9_culprit_103 : decode cX9_culprit 103 = .ok (.iconst 1, 1) := by decide +kernel
theorem dX9_culprit_104 : decode cX9_culprit 104 = .ok (.iadd, 1) := by decide +kernel
theorem dX9_culprit_105 : decode cX9_culprit 105 = .ok (.invokevirtual 245, 3) := by decide +kernel
theorem dX9_culprit_108 : decode cX9_culprit 108 = .ok (.iload 7, 2) := by decide +kernel
theorem dX9_culprit_110 : decode cX9_culprit 110 = .ok (.ifCond .ne 55, 3) := by decide +kernel
theorem dX9_culprit_113 : decode cX9_culprit 113 = .ok (.aload_n 0, 1) := by decide +kernel
theorem dX9_culprit_114 : decode cX9_culprit 114 = .ok (.iload_n 2, 1) := by decide +kernel
theorem dX9_culprit_115 : decode cX9_culprit 115 = .ok (.invokevirtual 177, 3) := by decide +kernel
theorem dX9_culprit_118 : decode cX9_culprit 118 = .ok (.ifCond .eq 12, 3) := by decide +kernel
theorem dX9_culprit_121 : decode cX9_culprit 121 = .ok (.aload_n 0, 1) := by decide +kernel
theorem dX9_culprit_122 : decode cX9_culprit 122 = .ok (.iload_n 1, 1) := by decide +kernel
theorem dX9_culprit_123 : decode cX9_culprit 123 = .ok (.iload_n 2, 1) := by decide +kernel
theorem dX9_culprit_124 : decode cX9_culprit 124 = .ok (.invokevirtual 317, 3) := by decide +kernel
theorem dX9_culprit_127 : decode cX9_culprit 127 = .ok (.goto 4, 3) := by decide +kernel
theorem dX9_culprit_130 : decode cX9_culprit 130 = .ok (.iconst (-1), 1) := by decide +kernel
theorem dX9_culprit_131 : decode cX9_culprit 131 = .ok (.istore 9, 2) := by decide +kernel
theorem dX9_culprit_133 : decode cX9_culprit 133 = .ok (.iload 9, 2) := by decide +kernel
theorem dX9_culprit_135 : decode cX9_culprit 135 = .ok (.iload 4, 2) := by decide +kernel
theorem dX9_culprit_137 : decode cX9_culprit 137 = .ok (.if_icmp .ne 18, 3) := by decide +kernel
theorem dX9_culprit_140 : decode cX9_culprit 140 = .ok (.iload 9, 2) := by decide +kernel
theorem dX9_culprit_142 : decode cX9_culprit 142 = .ok (.ifCond .ne 20, 3) := by decide +kernel
theorem dX9_culprit_145 : decode cX9_culprit 145 = .ok (.aload_n 0, 1) := by decide +kernel
theorem dX9_culprit_146 : decode cX9_culprit 146 = .ok (.getfield 300, 3) := by decide +kernel
theorem dX9_culprit_149 : decode cX9_culprit 149 = .ok (.lload 5, 2) := by decide +kernel
theorem dX9_culprit_151 : decode cX9_culprit 151 = .ok (.lcmp, 1) := by decide +kernel
theorem dX9_culprit_152 : decode cX9_culprit 152 = .ok (.ifCond .eq 10, 3) := by decide +kernel
theorem dX9_culprit_155 : decode cX9_culprit 155 = .ok (.iload 8, 2) := by decide +kernel
theorem dX9_culprit_157 : decode cX9_culprit 157 = .ok (.iconst 1, 1) := by decide +kernel
theorem dX9_culprit_158 : decode cX9_culprit 158 = .ok (.iadd, 1) := by decide +kernel
theorem dX9_culprit_159 : decode cX9_culprit 159 = .ok (.goto 4, 3) := by decide +kernel
theorem dX9_culprit_162 : decode cX9_culprit 162 = .ok (.iconst 0, 1) := by decide +kernel
theorem dX9_culprit_163 : decode cX9_culprit 163 = .ok (.istore 7, 2) := by decide +kernel
theorem dX9_culprit_165 : decode cX9_culprit 165 = .ok (.iinc 8 1, 3) := by decide +kernel
theorem dX9_culprit_168 : decode cX9_culprit 168 = .ok (.goto (-79), 3) := by decide +kernel
theorem dX9_culprit_171 : decode cX9_culprit 171 = .ok (.iload 7, 2) := by decide +kernel
