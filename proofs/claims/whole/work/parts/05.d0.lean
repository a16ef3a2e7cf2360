theorem dX0_init_0 : decode cX0_init 0 = .ok (.aload_n 0, 1) := by decide +kernel
theorem dX0_init_1 : decode cX0_init 1 = .ok (.invokespecial 3, 3) := by decide +kernel
theorem dX0_init_4 : decode cX0_init 4 = .ok (.return_, 1) := by decide +kernel
theorem dX0_name_0 : decode cX0_name 0 = .ok (.aload_n 0, 1) := by decide +kernel
theorem dX0_name_1 : decode cX0_name 1 = .ok (.iload_n 1, 1) := by decide +kernel
theorem dX0_name_2 : decode cX0_name 2 = .ok (.putfield 9, 3) := by decide +kernel
theorem dX0_name_5 : decode cX0_name 5 = .ok (.aload_n 0, 1) := by decide +kernel
theorem dX0_name_6 : decode cX0_name 6 = .ok (.iload_n 2, 1) := by decide +kernel
theorem dX0_name_7 : decode cX0_name 7 = .ok (.putfield 15, 3) := by decide +kernel
theorem dX0_name_10 : decode cX0_name 10 = .ok (.aload_n 0, 1) := by decide +kernel
theorem dX0_name_11 : decode cX0_name 11 = .ok (.iload_n 3, 1) := by decide +kernel
theorem dX0_name_12 : decode cX0_name 12 = .ok (.putfield 18, 3) := by decide +kernel
theorem dX0_name_15 : decode cX0_name 15 = .ok (.aload_n 0, 1) := by decide +kernel
theorem dX0_name_16 : decode cX0_name 16 = .ok (.iload 4, 2) := by decide +kernel
theorem dX0_name_18 : decode cX0_name 18 = .ok (.putfield 21, 3) := by decide +kernel
theorem dX0_name_21 : decode cX0_name 21 = .ok (.aload_n 0, 1) := by decide +kernel
theorem dX0_name_22 : decode cX0_name 22 = .ok (.iload 5, 2) := by decide +kernel
theorem dX0_name_24 : decode cX0_name 24 = .ok (.putfield 24, 3) := by decide +kernel
theorem dX0_name_27 : decode cX0_name 27 = .ok (.aload_n 0, 1) := by decide +kernel
theorem dX0_name_28 : decode cX0_name 28 = .ok (.bipush (-2), 2) := by decide +kernel
theorem dX0_name_30 : decode cX0_name 30 = .ok (.putfield 27, 3) := by decide +kernel
theorem dX0_name_33 : decode cX0_name 33 = .ok (.aload_n 0, 1) := by decide +kernel
theorem dX0_name_34 : decode cX0_name 34 = .ok (.bipush (-2), 2) := by decide +kernel
theorem dX0_name_36 : decode cX0_name 36 = .ok (.putfield 30, 3) := by decide +kernel
theorem dX0_name_39 : decode cX0_name 39 = .ok (.aload_n 0, 1) := by decide +kernel
theorem dX0_name_40 : decode cX0_name 40 = .ok (.iconst 0, 1) := by decide +kernel
theorem dX0_name_41 : decode cX0_name 41 = .ok (.putfield 33, 3) := by decide +kernel
theorem dX0_name_44 : decode cX0_name 44 = .ok (.aload_n 0, 1) := by decide +kernel
theorem dX0_name_45 : decode cX0_name 45 = .ok (.iconst 0, 1) := by decide +kernel
theorem dX0_name_46 : decode cX0_name 46 = .ok (.putfield 36, 3) := by decide +kernel
theorem dX0_name_49 : decode cX0_name 49 = .ok (.aload_n 0, 1) := by decide +kernel
theorem dX0_name_50 : decode cX0_name 50 = .ok (.iconst 0, 1) := by decide +kernel
theorem dX0_name_51 : decode cX0_name 51 = .ok (.putfield 40, 3) := by decide +kernel
theorem dX0_name_54 : decode cX0_name 54 = .ok (.aload_n 0, 1) := by decide +kernel
theorem dX0_name_55 : decode cX0_name 55 = .ok (.iconst 0, 1) := by decide +kernel
theorem dX0_name_56 : decode cX0_name 56 = .ok (.putfield 43, 3) := by decide +kernel
theorem dX0_name_59 : decode cX0_name 59 = .ok (.aload_n 0, 1) := by decide +kernel
theorem dX0_name_60 : decode cX0_name 60 = .ok (.lconst 0, 1) := by decide +kernel
theorem dX0_name_61 : decode cX0_name 61 = .ok (.putfield 46, 3) := by decide +kernel
theorem dX0_name_64 : decode cX0_name 64 = .ok (.return_, 1) := by decide +kernel
theorem dX0_tell_0 : decode cX0_tell 0 = .ok (.iload_n 1, 1) := by decide +kernel
theorem dX0_tell_1 : decode cX0_tell 1 = .ok (.tableswitch 86 0 6 #[43, 48, 53, 58, 63, 68, 81], 43) := by decide +kernel
theorem dX0_tell_44 : decode cX0_tell 44 = .ok (.aload_n 0, 1) := by decide +kernel
theorem dX0_tell_45 : decode cX0_tell 45 = .ok (.getfield 9, 3) := by decide +kernel
theorem dX0_tell_48 : decode cX0_tell 48 = .ok (.ireturn, 1) := by decide +kernel
theorem dX0_tell_49 : decode cX0_tell 49 = .ok (.aload_n 0, 1) := by decide +kernel
theorem dX0_tell_50 : decode cX0_tell 50 = .ok (.getfield 15, 3) := by decide +kernel
theorem dX0_tell_53 : decode cX0_tell 53 = .ok (.ireturn, 1) := by decide +kernel
theorem dX0_tell_54 : decode cX0_tell 54 = .ok (.aload_n 0, 1) := by decide +kernel
theorem dX0_tell_55 : decode cX0_tell 55 = .ok (.getfield 18, 3) := by decide +kernel
theorem dX0_tell_58 : decode cX0_tell 58 = .ok (.ireturn, 1) := by decide +kernel
theorem dX0_tell_59 : decode cX0_tell 59 = .ok (.aload_n 0, 1) := by decide +kernel
theorem dX0_tell_60 : decode cX0_tell 60 = .ok (.getfield 27, 3) := by decide +kernel
theorem dX0_tell_63 : decode cX0_tell 63 = .ok (.ireturn, 1) := by decide +kernel
theorem dX0_tell_64 : decode cX0_tell 64 = .ok (.aload_n 0, 1) := by decide +kernel
theorem dX0_tell_65 : decode cX0_tell 65 = .ok (.getfield 30, 3) := by decide +kernel
theorem dX0_tell_68 : decode cX0_tell 68 = .ok (.ireturn, 1) := by decide +kernel
theorem dX0_tell_69 : decode cX0_tell 69 = .ok (.aload_n 0, 1) := by decide +kernel
theorem dX0_tell_70 : decode cX0_tell 70 = .ok (.getfield 43, 3) := by decide +kernel
theorem dX0_tell_73 : decode cX0_tell 73 = .ok (.ifCond .eq 7, 3) := by decide +kernel
theorem dX0_tell_76 : decode cX0_tell 76 = .ok (.iconst 1, 1) := by decide +kernel
theorem dX0_tell_77 : decode cX0_tell 77 = .ok (.goto 4, 3) := by decide +kernel
theorem dX0_tell_80 : decode cX0_tell 80 = .ok (.iconst 0, 1) := by decide +kernel
theorem dX0_tell_81 : decode cX0_tell 81 = .ok (.ireturn, 1) := by decide +kernel
theorem dX0_tell_82 : decode cX0_tell 82 = .ok (.aload_n 0, 1) := by decide +kernel
theorem dX0_tell_83 : decode cX0_tell 83 = .ok (.getfield 50, 3) := by decide +kernel
theorem dX0_tell_86 : decode cX0_tell 86 = .ok (.ireturn, 1) := by decide +kernel
theorem dX0_tell_87 : decode cX0_tell 87 = .ok (.iconst (-1), 1) := by decide +kernel
theorem dX0_tell_88 : decode cX0_tell 88 = .ok (.ireturn, 1) := by decide +kernel
theorem dX1_init_0 : decode cX1_init 0 = .ok (.aload_n 0, 1) := by decide +kernel
theorem dX1_init_1 : decode cX1_init 1 = .ok (.invokespecial 1, 3) := by decide +kernel
theorem dX1_init_4 : decode cX1_init 4 = .ok (.aload_n 0, 1) := by decide +kernel
theorem dX1_init_5 : decode cX1_init 5 = .ok (.iload_n 1, 1) := by decide +kernel
theorem dX1_init_6 : decode cX1_init 6 = .ok (.putfield 7, 3) := by decide +kernel
theorem dX1_init_9 : decode cX1_init 9 = .ok (.aload_n 0, 1) := by decide +kernel
theorem dX1_init_10 : decode cX1_init 10 = .ok (.iload_n 2, 1) := by decide +kernel
theorem dX1_init_11 : decode cX1_init 11 = .ok (.putfield 13, 3) := by decide +kernel
theorem dX1_init_14 : decode cX1_init 14 = .ok (.aload_n 0, 1) := by decide +kernel
theorem dX1_init_15 : decode cX1_init 15 = .ok (.iload_n 3, 1) := by decide +kernel
theorem dX1_init_16 : decode cX1_init 16 = .ok (.putfield 16, 3) := by decide +kernel
theorem dX1_init_19 : decode cX1_init 19 = .ok (.aload_n 0, 1) := by decide +kernel
theorem dX1_init_20 : decode cX1_init 20 = .ok (.iload 4, 2) := by decide +kernel
theorem dX1_init_22 : decode cX1_init 22 = .ok (.putfield 19, 3) := by decide +kernel
theorem dX1_init_25 : decode cX1_init 25 = .ok (.aload_n 0, 1) := by decide +kernel
theorem dX1_init_26 : decode cX1_init 26 = .ok (.iload 5, 2) := by decide +kernel
theorem dX1_init_28 : decode cX1_init 28 = .ok (.putfield 22, 3) := by decide +kernel
theorem dX1_init_31 : decode cX1_init 31 = .ok (.aload_n 0, 1) := by decide +kernel
theorem dX1_init_32 : decode cX1_init 32 = .ok (.iload 6, 2) := by decide +kernel
theorem dX1_init_34 : decode cX1_init 34 = .ok (.putfield 25, 3) := by decide +kernel
theorem dX1_init_37 : decode cX1_init 37 = .ok (.aload_n 0, 1) := by decide +kernel
theorem dX1_init_38 : decode cX1_init 38 = .ok (.lload 7, 2) := by decide +kernel
theorem dX1_init_40 : decode cX1_init 40 = .ok (.putfield 28, 3) := by decide +kernel
theorem dX1_init_43 : decode cX1_init 43 = .ok (.return_, 1) := by decide +kernel
theorem dX2_init_0 : decode cX2_init 0 = .ok (.aload_n 0, 1) := by decide +kernel
theorem dX2_init_1 : decode cX2_init 1 = .ok (.invokespecial 3, 3) := by decide +kernel
theorem dX2_init_4 : decode cX2_init 4 = .ok (.aload_n 0, 1) := by decide +kernel
theorem dX2_init_5 : decode cX2_init 5 = .ok (.new 9, 3) := by decide +kernel
theorem dX2_init_8 : decode cX2_init 8 = .ok (.dup, 1) := by decide +kernel
theorem dX2_init_9 : decode cX2_init 9 = .ok (.invokespecial 11, 3) := by decide +kernel
theorem dX2_init_12 : decode cX2_init 12 = .ok (.putfield 12, 3) := by decide +kernel
theorem dX2_init_15 : decode cX2_init 15 = .ok (.aload_n 0, 1) := by decide +kernel
theorem dX2_init_16 : decode cX2_init 16 = .ok (.new 18, 3) := by decide +kernel
theorem dX2_init_19 : decode cX2_init 19 = .ok (.dup, 1) := by decide +kernel
theorem dX2_init_20 : decode cX2_init 20 = .ok (.invokespecial 20, 3) := by decide +kernel
theorem dX2_init_23 : decode cX2_init 23 = .ok (.putfield 21, 3) := by decide +kernel
theorem dX2_init_26 : decode cX2_init 26 = .ok (.return_, 1) := by decide +kernel
theorem dX2_clear_0 : decode cX2_clear 0 = .ok (.aload_n 0, 1) := by decide +kernel
theorem dX2_clear_1 : decode cX2_clear 1 = .ok (.getfield 12, 3) := by decide +kernel
theorem dX2_clear_4 : decode cX2_clear 4 = .ok (.invokevirtual 25, 3) := by decide +kernel
theorem dX2_clear_7 : decode cX2_clear 7 = .ok (.aload_n 0, 1) := by decide +kernel
theorem dX2_clear_8 : decode cX2_clear 8 = .ok (.getfield 21, 3) := by decide +kernel
theorem dX2_clear_11 : decode cX2_clear 11 = .ok (.invokevirtual 28, 3) := by decide +kernel
theorem dX2_clear_14 : decode cX2_clear 14 = .ok (.return_, 1) := by decide +kernel
theorem dX2_carryOut_0 : decode cX2_carryOut 0 = .ok (.aload_n 1, 1) := by decide +kernel
theorem dX2_carryOut_1 : decode cX2_carryOut 1 = .ok (.getfield 29, 3) := by decide +kernel
theorem dX2_carryOut_4 : decode cX2_carryOut 4 = .ok (.tableswitch 256 0 11 #[64, 92, 108, 124, 140, 156, 166, 176, 188, 204, 220, 240], 64) := by decide +kernel
theorem dX2_carryOut_68 : decode cX2_carryOut 68 = .ok (.aload_n 0, 1) := by decide +kernel
theorem dX2_carryOut_69 : decode cX2_carryOut 69 = .ok (.getfield 12, 3) := by decide +kernel
theorem dX2_carryOut_72 : decode cX2_carryOut 72 = .ok (.aload_n 1, 1) := by decide +kernel
theorem dX2_carryOut_73 : decode cX2_carryOut 73 = .ok (.getfield 35, 3) := by decide +kernel
theorem dX2_carryOut_76 : decode cX2_carryOut 76 = .ok (.ifCond .eq 7, 3) := by decide +kernel
theorem dX2_carryOut_79 : decode cX2_carryOut 79 = .ok (.iconst 1, 1) := by decide +kernel
theorem dX2_carryOut_80 : decode cX2_carryOut 80 = .ok (.goto 4, 3) := by decide +kernel
theorem dX2_carryOut_83 : decode cX2_carryOut 83 = .ok (.iconst 0, 1) := by decide +kernel
theorem dX2_carryOut_84 : decode cX2_carryOut 84 = .ok (.aload_n 1, 1) := by decide +kernel
theorem dX2_carryOut_85 : decode cX2_carryOut 85 = .ok (.getfield 38, 3) := by decide +kernel
theorem dX2_carryOut_88 : decode cX2_carryOut 88 = .ok (.aload_n 1, 1) := by decide +kernel
theorem dX2_carryOut_89 : decode cX2_carryOut 89 = .ok (.getfield 41, 3) := by decide +kernel
theorem dX2_carryOut_92 : decode cX2_carryOut 92 = .ok (.invokevirtual 44, 3) := by decide +kernel
theorem dX2_carryOut_95 : decode cX2_carryOut 95 = .ok (.ireturn, 1) := by decide +kernel
theorem dX2_carryOut_96 : decode cX2_carryOut 96 = .ok (.aload_n 0, 1) := by decide +kernel
theorem dX2_carryOut_97 : decode cX2_carryOut 97 = .ok (.getfield 12, 3) := by decide +kernel
theorem dX2_carryOut_100 : decode cX2_carryOut 100 = .ok (.aload_n 1, 1) := by decide +kernel
theorem dX2_carryOut_101 : decode cX2_carryOut 101 = .ok (.getfield 35, 3) := by decide +kernel
theorem dX2_carryOut_104 : decode cX2_carryOut 104 = .ok (.aload_n 1, 1) := by decide +kernel
theorem dX2_carryOut_105 : decode cX2_carryOut 105 = .ok (.getfield 38, 3) := by decide +kernel
theorem dX2_carryOut_108 : decode cX2_carryOut 108 = .ok (.invokevirtual 48, 3) := by decide +kernel
theorem dX2_carryOut_111 : decode cX2_carryOut 111 = .ok (.ireturn, 1) := by decide +kernel
theorem dX2_carryOut_112 : decode cX2_carryOut 112 = .ok (.aload_n 0, 1) := by decide +kernel
theorem dX2_carryOut_113 : decode cX2_carryOut 113 = .ok (.getfield 12, 3) := by decide +kernel
theorem dX2_carryOut_116 : decode cX2_carryOut 116 = .ok (.aload_n 1, 1) := by decide +kernel
theorem dX2_carryOut_117 : decode cX2_carryOut 117 = .ok (.getfield 35, 3) := by decide +kernel
theorem dX2_carryOut_120 : decode cX2_carryOut 120 = .ok (.aload_n 1, 1) := by decide +kernel
theorem dX2_carryOut_121 : decode cX2_carryOut 121 = .ok (.getfield 38, 3) := by decide +kernel
theorem dX2_carryOut_124 : decode cX2_carryOut 124 = .ok (.invokevirtual 52, 3) := by decide +kernel
theorem dX2_carryOut_127 : decode cX2_carryOut 127 = .ok (.ireturn, 1) := by decide +kernel
theorem dX2_carryOut_128 : decode cX2_carryOut 128 = .ok (.aload_n 0, 1) := by decide +kernel
theorem dX2_carryOut_129 : decode cX2_carryOut 129 = .ok (.getfield 12, 3) := by decide +kernel
theorem dX2_carryOut_132 : decode cX2_carryOut 132 = .ok (.aload_n 1, 1) := by decide +kernel
theorem dX2_carryOut_133 : decode cX2_carryOut 133 = .ok (.getfield 35, 3) := by decide +kernel
theorem dX2_carryOut_136 : decode cX2_carryOut 136 = .ok (.aload_n 1, 1) := by decide +kernel
theorem dX2_carryOut_137 : decode cX2_carryOut 137 = .ok (.getfield 38, 3) := by decide +kernel
theorem dX2_carryOut_140 : decode cX2_carryOut 140 = .ok (.invokevirtual 55, 3) := by decide +kernel
theorem dX2_carryOut_143 : decode cX2_carryOut 143 = .ok (.ireturn, 1) := by decide +kernel
theorem dX2_carryOut_144 : decode cX2_carryOut 144 = .ok (.aload_n 0, 1) := by decide +kernel
theorem dX2_carryOut_145 : decode cX2_carryOut 145 = .ok (.getfield 12, 3) := by decide +kernel
theorem dX2_carryOut_148 : decode cX2_carryOut 148 = .ok (.aload_n 1, 1) := by decide +kernel
theorem dX2_carryOut_149 : decode cX2_carryOut 149 = .ok (.getfield 35, 3) := by decide +kernel
theorem dX2_carryOut_152 : decode cX2_carryOut 152 = .ok (.aload_n 1, 1) := by decide +kernel
theorem dX2_carryOut_153 : decode cX2_carryOut 153 = .ok (.getfield 38, 3) := by decide +kernel
theorem dX2_carryOut_156 : decode cX2_carryOut 156 = .ok (.invokevirtual 58, 3) := by decide +kernel
theorem dX2_carryOut_159 : decode cX2_carryOut 159 = .ok (.ireturn, 1) := by decide +kernel
theorem dX2_carryOut_160 : decode cX2_carryOut 160 = .ok (.aload_n 0, 1) := by decide +kernel
theorem dX2_carryOut_161 : decode cX2_carryOut 161 = .ok (.getfield 21, 3) := by decide +kernel
theorem dX2_carryOut_164 : decode cX2_carryOut 164 = .ok (.iconst 0, 1) := by decide +kernel
theorem dX2_carryOut_165 : decode cX2_carryOut 165 = .ok (.aload_n 1, 1) := by decide +kernel
theorem dX2_carryOut_166 : decode cX2_carryOut 166 = .ok (.invokevirtual 61, 3) := by decide +kernel
theorem dX2_carryOut_169 : decode cX2_carryOut 169 = .ok (.ireturn, 1) := by decide +kernel
theorem dX2_carryOut_170 : decode cX2_carryOut 170 = .ok (.aload_n 0, 1) := by decide +kernel
theorem dX2_carryOut_171 : decode cX2_carryOut 171 = .ok (.getfield 21, 3) := by decide +kernel
theorem dX2_carryOut_174 : decode cX2_carryOut 174 = .ok (.iconst 1, 1) := by decide +kernel
theorem dX2_carryOut_175 : decode cX2_carryOut 175 = .ok (.aload_n 1, 1) := by decide +kernel
theorem dX2_carryOut_176 : decode cX2_carryOut 176 = .ok (.invokevirtual 61, 3) := by decide +kernel
theorem dX2_carryOut_179 : decode cX2_carryOut 179 = .ok (.ireturn, 1) := by decide +kernel
theorem dX2_carryOut_180 : decode cX2_carryOut 180 = .ok (.aload_n 0, 1) := by decide +kernel
theorem dX2_carryOut_181 : decode cX2_carryOut 181 = .ok (.getfield 21, 3) := by decide +kernel
theorem dX2_carryOut_184 : decode cX2_carryOut 184 = .ok (.aload_n 1, 1) := by decide +kernel
theorem dX2_carryOut_185 : decode cX2_carryOut 185 = .ok (.getfield 35, 3) := by decide +kernel
theorem dX2_carryOut_188 : decode cX2_carryOut 188 = .ok (.invokevirtual 64, 3) := by decide +kernel
theorem dX2_carryOut_191 : decode cX2_carryOut 191 = .ok (.ireturn, 1) := by decide +kernel
theorem dX2_carryOut_192 : decode cX2_carryOut 192 = .ok (.aload_n 0, 1) := by decide +kernel
theorem dX2_carryOut_193 : decode cX2_carryOut 193 = .ok (.getfield 21, 3) := by decide +kernel
theorem dX2_carryOut_196 : decode cX2_carryOut 196 = .ok (.aload_n 1, 1) := by decide +kernel
theorem dX2_carryOut_197 : decode cX2_carryOut 197 = .ok (.getfield 35, 3) := by decide +kernel
theorem dX2_carryOut_200 : decode cX2_carryOut 200 = .ok (.aload_n 1, 1) := by decide +kernel
theorem dX2_carryOut_201 : decode cX2_carryOut 201 = .ok (.getfield 38, 3) := by decide +kernel
theorem dX2_carryOut_204 : decode cX2_carryOut 204 = .ok (.invokevirtual 68, 3) := by decide +kernel
theorem dX2_carryOut_207 : decode cX2_carryOut 207 = .ok (.ireturn, 1) := by decide +kernel
theorem dX2_carryOut_208 : decode cX2_carryOut 208 = .ok (.aload_n 0, 1) := by decide +kernel
theorem dX2_carryOut_209 : decode cX2_carryOut 209 = .ok (.getfield 21, 3) := by decide +kernel
theorem dX2_carryOut_212 : decode cX2_carryOut 212 = .ok (.aload_n 1, 1) := by decide +kernel
theorem dX2_carryOut_213 : decode cX2_carryOut 213 = .ok (.getfield 35, 3) := by decide +kernel
theorem dX2_carryOut_216 : decode cX2_carryOut 216 = .ok (.aload_n 1, 1) := by decide +kernel
theorem dX2_carryOut_217 : decode cX2_carryOut 217 = .ok (.getfield 69, 3) := by decide +kernel
theorem dX2_carryOut_220 : decode cX2_carryOut 220 = .ok (.invokevirtual 73, 3) := by decide +kernel
theorem dX2_carryOut_223 : decode cX2_carryOut 223 = .ok (.ireturn, 1) := by decide +kernel
theorem dX2_carryOut_224 : decode cX2_carryOut 224 = .ok (.aload_n 0, 1) := by decide +kernel
theorem dX2_carryOut_225 : decode cX2_carryOut 225 = .ok (.getfield 21, 3) := by decide +kernel
theorem dX2_carryOut_228 : decode cX2_carryOut 228 = .ok (.aload_n 1, 1) := by decide +kernel
theorem dX2_carryOut_229 : decode cX2_carryOut 229 = .ok (.getfield 35, 3) := by decide +kernel
theorem dX2_carryOut_232 : decode cX2_carryOut 232 = .ok (.aload_n 1, 1) := by decide +kernel
theorem dX2_carryOut_233 : decode cX2_carryOut 233 = .ok (.getfield 38, 3) := by decide +kernel
theorem dX2_carryOut_236 : decode cX2_carryOut 236 = .ok (.aload_n 1, 1) := by decide +kernel
theorem dX2_carryOut_237 : decode cX2_carryOut 237 = .ok (.getfield 69, 3) := by decide +kernel
theorem dX2_carryOut_240 : decode cX2_carryOut 240 = .ok (.invokevirtual 77, 3) := by decide +kernel
theorem dX2_carryOut_243 : decode cX2_carryOut 243 = .ok (.ireturn, 1) := by decide +kernel
theorem dX2_carryOut_244 : decode cX2_carryOut 244 = .ok (.aload_n 0, 1) := by decide +kernel
theorem dX2_carryOut_245 : decode cX2_carryOut 245 = .ok (.getfield 21, 3) := by decide +kernel
theorem dX2_carryOut_248 : decode cX2_carryOut 248 = .ok (.aload_n 1, 1) := by decide +kernel
theorem dX2_carryOut_249 : decode cX2_carryOut 249 = .ok (.getfield 35, 3) := by decide +kernel
theorem dX2_carryOut_252 : decode cX2_carryOut 252 = .ok (.aload_n 1, 1) := by decide +kernel
theorem dX2_carryOut_253 : decode cX2_carryOut 253 = .ok (.getfield 38, 3) := by decide +kernel
theorem dX2_carryOut_256 : decode cX2_carryOut 256 = .ok (.invokevirtual 81, 3) := by decide +kernel
theorem dX2_carryOut_259 : decode cX2_carryOut 259 = .ok (.ireturn, 1) := by decide +kernel
theorem dX2_carryOut_260 : decode cX2_carryOut 260 = .ok (.iconst (-1), 1) := by decide +kernel
theorem dX2_carryOut_261 : decode cX2_carryOut 261 = .ok (.ireturn, 1) := by decide +kernel
theorem dX2_fieldMayCome_0 : decode cX2_fieldMayCome 0 = .ok (.aload_n 0, 1) := by decide +kernel
theorem dX2_fieldMayCome_1 : decode cX2_fieldMayCome 1 = .ok (.getfield 12, 3) := by decide +kernel
theorem dX2_fieldMayCome_4 : decode cX2_fieldMayCome 4 = .ok (.iload_n 1, 1) := by decide +kernel
theorem dX2_fieldMayCome_5 : decode cX2_fieldMayCome 5 = .ok (.invokevirtual 84, 3) := by decide +kernel
theorem dX2_fieldMayCome_8 : decode cX2_fieldMayCome 8 = .ok (.ifCond .eq 45, 3) := by decide +kernel
theorem dX2_fieldMayCome_11 : decode cX2_fieldMayCome 11 = .ok (.iload_n 2, 1) := by decide +kernel
theorem dX2_fieldMayCome_12 : decode cX2_fieldMayCome 12 = .ok (.invokestatic 88, 3) := by decide +kernel
theorem dX2_fieldMayCome_15 : decode cX2_fieldMayCome 15 = .ok (.ifCond .eq 38, 3) := by decide +kernel
theorem dX2_fieldMayCome_18 : decode cX2_fieldMayCome 18 = .ok (.iload_n 3, 1) := by decide +kernel
theorem dX2_fieldMayCome_19 : decode cX2_fieldMayCome 19 = .ok (.invokestatic 91, 3) := by decide +kernel
theorem dX2_fieldMayCome_22 : decode cX2_fieldMayCome 22 = .ok (.ifCond .eq 31, 3) := by decide +kernel
theorem dX2_fieldMayCome_25 : decode cX2_fieldMayCome 25 = .ok (.aload_n 0, 1) := by decide +kernel
theorem dX2_fieldMayCome_26 : decode cX2_fieldMayCome 26 = .ok (.iload_n 1, 1) := by decide +kernel
theorem dX2_fieldMayCome_27 : decode cX2_fieldMayCome 27 = .ok (.iload 4, 2) := by decide +kernel
theorem dX2_fieldMayCome_29 : decode cX2_fieldMayCome 29 = .ok (.invokevirtual 96, 3) := by decide +kernel
theorem dX2_fieldMayCome_32 : decode cX2_fieldMayCome 32 = .ok (.ifCond .eq 21, 3) := by decide +kernel
theorem dX2_fieldMayCome_35 : decode cX2_fieldMayCome 35 = .ok (.aload_n 0, 1) := by decide +kernel
theorem dX2_fieldMayCome_36 : decode cX2_fieldMayCome 36 = .ok (.getfield 21, 3) := by decide +kernel
theorem dX2_fieldMayCome_39 : decode cX2_fieldMayCome 39 = .ok (.iload_n 1, 1) := by decide +kernel
theorem dX2_fieldMayCome_40 : decode cX2_fieldMayCome 40 = .ok (.iload_n 2, 1) := by decide +kernel
theorem dX2_fieldMayCome_41 : decode cX2_fieldMayCome 41 = .ok (.invokevirtual 100, 3) := by decide +kernel
theorem dX2_fieldMayCome_44 : decode cX2_fieldMayCome 44 = .ok (.bipush (-2), 2) := by decide +kernel
theorem dX2_fieldMayCome_46 : decode cX2_fieldMayCome 46 = .ok (.if_icmp .ne 7, 3) := by decide +kernel
theorem dX2_fieldMayCome_49 : decode cX2_fieldMayCome 49 = .ok (.iconst 1, 1) := by decide +kernel
theorem dX2_fieldMayCome_50 : decode cX2_fieldMayCome 50 = .ok (.goto 4, 3) := by decide +kernel
theorem dX2_fieldMayCome_53 : decode cX2_fieldMayCome 53 = .ok (.iconst 0, 1) := by decide +kernel
theorem dX2_fieldMayCome_54 : decode cX2_fieldMayCome 54 = .ok (.ireturn, 1) := by decide +kernel
theorem dX2_methodMayCome_0 : decode cX2_methodMayCome 0 = .ok (.aload_n 0, 1) := by decide +kernel
theorem dX2_methodMayCome_1 : decode cX2_methodMayCome 1 = .ok (.getfield 12, 3) := by decide +kernel
theorem dX2_methodMayCome_4 : decode cX2_methodMayCome 4 = .ok (.iload_n 1, 1) := by decide +kernel
theorem dX2_methodMayCome_5 : decode cX2_methodMayCome 5 = .ok (.invokevirtual 84, 3) := by decide +kernel
theorem dX2_methodMayCome_8 : decode cX2_methodMayCome 8 = .ok (.ifCond .eq 52, 3) := by decide +kernel
theorem dX2_methodMayCome_11 : decode cX2_methodMayCome 11 = .ok (.iload_n 2, 1) := by decide +kernel
theorem dX2_methodMayCome_12 : decode cX2_methodMayCome 12 = .ok (.invokestatic 88, 3) := by decide +kernel
theorem dX2_methodMayCome_15 : decode cX2_methodMayCome 15 = .ok (.ifCond .eq 45, 3) := by decide +kernel
theorem dX2_methodMayCome_18 : decode cX2_methodMayCome 18 = .ok (.aload_n 0, 1) := by decide +kernel
theorem dX2_methodMayCome_19 : decode cX2_methodMayCome 19 = .ok (.getfield 12, 3) := by decide +kernel
theorem dX2_methodMayCome_22 : decode cX2_methodMayCome 22 = .ok (.iload_n 3, 1) := by decide +kernel
theorem dX2_methodMayCome_23 : decode cX2_methodMayCome 23 = .ok (.iload 4, 2) := by decide +kernel
theorem dX2_methodMayCome_25 : decode cX2_methodMayCome 25 = .ok (.invokevirtual 103, 3) := by decide +kernel
theorem dX2_methodMayCome_28 : decode cX2_methodMayCome 28 = .ok (.ifCond .eq 32, 3) := by decide +kernel
theorem dX2_methodMayCome_31 : decode cX2_methodMayCome 31 = .ok (.iload 5, 2) := by decide +kernel
theorem dX2_methodMayCome_33 : decode cX2_methodMayCome 33 = .ok (.invokestatic 106, 3) := by decide +kernel
theorem dX2_methodMayCome_36 : decode cX2_methodMayCome 36 = .ok (.ifCond .eq 24, 3) := by decide +kernel
theorem dX2_methodMayCome_39 : decode cX2_methodMayCome 39 = .ok (.aload_n 0, 1) := by decide +kernel
theorem dX2_methodMayCome_40 : decode cX2_methodMayCome 40 = .ok (.getfield 21, 3) := by decide +kernel
theorem dX2_methodMayCome_43 : decode cX2_methodMayCome 43 = .ok (.iload_n 1, 1) := by decide +kernel
theorem dX2_methodMayCome_44 : decode cX2_methodMayCome 44 = .ok (.iload_n 2, 1) := by decide +kernel
theorem dX2_methodMayCome_45 : decode cX2_methodMayCome 45 = .ok (.iload_n 3, 1) := by decide +kernel
theorem dX2_methodMayCome_46 : decode cX2_methodMayCome 46 = .ok (.iload 4, 2) := by decide +kernel
theorem dX2_methodMayCome_48 : decode cX2_methodMayCome 48 = .ok (.invokevirtual 109, 3) := by decide +kernel
theorem dX2_methodMayCome_51 : decode cX2_methodMayCome 51 = .ok (.bipush (-2), 2) := by decide +kernel
theorem dX2_methodMayCome_53 : decode cX2_methodMayCome 53 = .ok (.if_icmp .ne 7, 3) := by decide +kernel
theorem dX2_methodMayCome_56 : decode cX2_methodMayCome 56 = .ok (.iconst 1, 1) := by decide +kernel
theorem dX2_methodMayCome_57 : decode cX2_methodMayCome 57 = .ok (.goto 4, 3) := by decide +kernel
theorem dX2_methodMayCome_60 : decode cX2_methodMayCome 60 = .ok (.iconst 0, 1) := by decide +kernel
theorem dX2_methodMayCome_61 : decode cX2_methodMayCome 61 = .ok (.ireturn, 1) := by decide +kernel
theorem dX2_mayBeMarked_0 : decode cX2_mayBeMarked 0 = .ok (.aload_n 0, 1) := by decide +kernel
theorem dX2_mayBeMarked_1 : decode cX2_mayBeMarked 1 = .ok (.getfield 21, 3) := by decide +kernel
theorem dX2_mayBeMarked_4 : decode cX2_mayBeMarked 4 = .ok (.iload_n 1, 1) := by decide +kernel
theorem dX2_mayBeMarked_5 : decode cX2_mayBeMarked 5 = .ok (.invokevirtual 113, 3) := by decide +kernel
theorem dX2_mayBeMarked_8 : decode cX2_mayBeMarked 8 = .ok (.ifCond .ne 5, 3) := by decide +kernel
theorem dX2_mayBeMarked_11 : decode cX2_mayBeMarked 11 = .ok (.iconst 0, 1) := by decide +kernel
theorem dX2_mayBeMarked_12 : decode cX2_mayBeMarked 12 = .ok (.ireturn, 1) := by decide +kernel
theorem dX2_mayBeMarked_13 : decode cX2_mayBeMarked 13 = .ok (.aload_n 0, 1) := by decide +kernel
theorem dX2_mayBeMarked_14 : decode cX2_mayBeMarked 14 = .ok (.getfield 21, 3) := by decide +kernel
theorem dX2_mayBeMarked_17 : decode cX2_mayBeMarked 17 = .ok (.iload_n 1, 1) := by decide +kernel
theorem dX2_mayBeMarked_18 : decode cX2_mayBeMarked 18 = .ok (.invokevirtual 116, 3) := by decide +kernel
theorem dX2_mayBeMarked_21 : decode cX2_mayBeMarked 21 = .ok (.ifCond .eq 10, 3) := by decide +kernel
theorem dX2_mayBeMarked_24 : decode cX2_mayBeMarked 24 = .ok (.iload_n 2, 1) := by decide +kernel
theorem dX2_mayBeMarked_25 : decode cX2_mayBeMarked 25 = .ok (.invokestatic 106, 3) := by decide +kernel
theorem dX2_mayBeMarked_28 : decode cX2_mayBeMarked 28 = .ok (.goto 17, 3) := by decide +kernel
theorem dX2_mayBeMarked_31 : decode cX2_mayBeMarked 31 = .ok (.aload_n 0, 1) := by decide +kernel
theorem dX2_mayBeMarked_32 : decode cX2_mayBeMarked 32 = .ok (.aload_n 0, 1) := by decide +kernel
theorem dX2_mayBeMarked_33 : decode cX2_mayBeMarked 33 = .ok (.getfield 21, 3) := by decide +kernel
theorem dX2_mayBeMarked_36 : decode cX2_mayBeMarked 36 = .ok (.getfield 119, 3) := by decide +kernel
theorem dX2_mayBeMarked_39 : decode cX2_mayBeMarked 39 = .ok (.iload_n 1, 1) := by decide +kernel
theorem dX2_mayBeMarked_40 : decode cX2_mayBeMarked 40 = .ok (.iaload, 1) := by decide +kernel
theorem dX2_mayBeMarked_41 : decode cX2_mayBeMarked 41 = .ok (.iload_n 2, 1) := by decide +kernel
theorem dX2_mayBeMarked_42 : decode cX2_mayBeMarked 42 = .ok (.invokevirtual 96, 3) := by decide +kernel
theorem dX2_mayBeMarked_45 : decode cX2_mayBeMarked 45 = .ok (.ireturn, 1) := by decide +kernel
theorem dX2_mayMove_0 : decode cX2_mayMove 0 = .ok (.aload_n 0, 1) := by decide +kernel
theorem dX2_mayMove_1 : decode cX2_mayMove 1 = .ok (.getfield 21, 3) := by decide +kernel
theorem dX2_mayMove_4 : decode cX2_mayMove 4 = .ok (.iload_n 1, 1) := by decide +kernel
theorem dX2_mayMove_5 : decode cX2_mayMove 5 = .ok (.invokevirtual 113, 3) := by decide +kernel
theorem dX2_mayMove_8 : decode cX2_mayMove 8 = .ok (.ifCond .eq 14, 3) := by decide +kernel
theorem dX2_mayMove_11 : decode cX2_mayMove 11 = .ok (.aload_n 0, 1) := by decide +kernel
theorem dX2_mayMove_12 : decode cX2_mayMove 12 = .ok (.getfield 12, 3) := by decide +kernel
theorem dX2_mayMove_15 : decode cX2_mayMove 15 = .ok (.iload_n 2, 1) := by decide +kernel
theorem dX2_mayMove_16 : decode cX2_mayMove 16 = .ok (.invokevirtual 84, 3) := by decide +kernel
theorem dX2_mayMove_19 : decode cX2_mayMove 19 = .ok (.ifCond .ne 5, 3) := by decide +kernel
theorem dX2_mayMove_22 : decode cX2_mayMove 22 = .ok (.iconst 0, 1) := by decide +kernel
theorem dX2_mayMove_23 : decode cX2_mayMove 23 = .ok (.ireturn, 1) := by decide +kernel
theorem dX2_mayMove_24 : decode cX2_mayMove 24 = .ok (.aload_n 0, 1) := by decide +kernel
theorem dX2_mayMove_25 : decode cX2_mayMove 25 = .ok (.getfield 21, 3) := by decide +kernel
theorem dX2_mayMove_28 : decode cX2_mayMove 28 = .ok (.iload_n 2, 1) := by decide +kernel
theorem dX2_mayMove_29 : decode cX2_mayMove 29 = .ok (.iload_n 1, 1) := by decide +kernel
theorem dX2_mayMove_30 : decode cX2_mayMove 30 = .ok (.invokevirtual 123, 3) := by decide +kernel
theorem dX2_mayMove_33 : decode cX2_mayMove 33 = .ok (.bipush (-2), 2) := by decide +kernel
theorem dX2_mayMove_35 : decode cX2_mayMove 35 = .ok (.if_icmp .ne 35, 3) := by decide +kernel
theorem dX2_mayMove_38 : decode cX2_mayMove 38 = .ok (.aload_n 0, 1) := by decide +kernel
theorem dX2_mayMove_39 : decode cX2_mayMove 39 = .ok (.getfield 21, 3) := by decide +kernel
theorem dX2_mayMove_42 : decode cX2_mayMove 42 = .ok (.iload_n 1, 1) := by decide +kernel
theorem dX2_mayMove_43 : decode cX2_mayMove 43 = .ok (.invokevirtual 116, 3) := by decide +kernel
theorem dX2_mayMove_46 : decode cX2_mayMove 46 = .ok (.ifCond .ne 20, 3) := by decide +kernel
theorem dX2_mayMove_49 : decode cX2_mayMove 49 = .ok (.aload_n 0, 1) := by decide +kernel
theorem dX2_mayMove_50 : decode cX2_mayMove 50 = .ok (.iload_n 2, 1) := by decide +kernel
theorem dX2_mayMove_51 : decode cX2_mayMove 51 = .ok (.aload_n 0, 1) := by decide +kernel
theorem dX2_mayMove_52 : decode cX2_mayMove 52 = .ok (.getfield 21, 3) := by decide +kernel
theorem dX2_mayMove_55 : decode cX2_mayMove 55 = .ok (.getfield 126, 3) := by decide +kernel
theorem dX2_mayMove_58 : decode cX2_mayMove 58 = .ok (.iload_n 1, 1) := by decide +kernel
theorem dX2_mayMove_59 : decode cX2_mayMove 59 = .ok (.iaload, 1) := by decide +kernel
theorem dX2_mayMove_60 : decode cX2_mayMove 60 = .ok (.invokevirtual 96, 3) := by decide +kernel
theorem dX2_mayMove_63 : decode cX2_mayMove 63 = .ok (.ifCond .eq 7, 3) := by decide +kernel
theorem dX2_mayMove_66 : decode cX2_mayMove 66 = .ok (.iconst 1, 1) := by decide +kernel
theorem dX2_mayMove_67 : decode cX2_mayMove 67 = .ok (.goto 4, 3) := by decide +kernel
theorem dX2_mayMove_70 : decode cX2_mayMove 70 = .ok (.iconst 0, 1) := by decide +kernel
theorem dX2_mayMove_71 : decode cX2_mayMove 71 = .ok (.ireturn, 1) := by decide +kernel
theorem dX2_areFieldMarks_0 : decode cX2_areFieldMarks 0 = .ok (.iload_n 2, 1) := by decide +kernel
theorem dX2_areFieldMarks_1 : decode cX2_areFieldMarks 1 = .ok (.ifCond .lt 13, 3) := by decide +kernel
theorem dX2_areFieldMarks_4 : decode cX2_areFieldMarks 4 = .ok (.iload_n 2, 1) := by decide +kernel
theorem dX2_areFieldMarks_5 : decode cX2_areFieldMarks 5 = .ok (.bipush 8, 2) := by decide +kernel
theorem dX2_areFieldMarks_7 : decode cX2_areFieldMarks 7 = .ok (.if_icmp .ge 7, 3) := by decide +kernel
theorem dX2_areFieldMarks_10 : decode cX2_areFieldMarks 10 = .ok (.iconst 1, 1) := by decide +kernel
theorem dX2_areFieldMarks_11 : decode cX2_areFieldMarks 11 = .ok (.goto 4, 3) := by decide +kernel
theorem dX2_areFieldMarks_14 : decode cX2_areFieldMarks 14 = .ok (.iconst 0, 1) := by decide +kernel
theorem dX2_areFieldMarks_15 : decode cX2_areFieldMarks 15 = .ok (.istore_n 3, 1) := by decide +kernel
theorem dX2_areFieldMarks_16 : decode cX2_areFieldMarks 16 = .ok (.iload_n 3, 1) := by decide +kernel
theorem dX2_areFieldMarks_17 : decode cX2_areFieldMarks 17 = .ok (.ifCond .eq 24, 3) := by decide +kernel
theorem dX2_areFieldMarks_20 : decode cX2_areFieldMarks 20 = .ok (.aload_n 0, 1) := by decide +kernel
theorem dX2_areFieldMarks_21 : decode cX2_areFieldMarks 21 = .ok (.getfield 12, 3) := by decide +kernel
theorem dX2_areFieldMarks_24 : decode cX2_areFieldMarks 24 = .ok (.iload_n 1, 1) := by decide +kernel
theorem dX2_areFieldMarks_25 : decode cX2_areFieldMarks 25 = .ok (.invokevirtual 129, 3) := by decide +kernel
theorem dX2_areFieldMarks_28 : decode cX2_areFieldMarks 28 = .ok (.ifCond .ne 9, 3) := by decide +kernel
theorem dX2_areFieldMarks_31 : decode cX2_areFieldMarks 31 = .ok (.iload_n 2, 1) := by decide +kernel
theorem dX2_areFieldMarks_32 : decode cX2_areFieldMarks 32 = .ok (.iconst 1, 1) := by decide +kernel
theorem dX2_areFieldMarks_33 : decode cX2_areFieldMarks 33 = .ok (.iand, 1) := by decide +kernel
theorem dX2_areFieldMarks_34 : decode cX2_areFieldMarks 34 = .ok (.ifCond .eq 7, 3) := by decide +kernel
theorem dX2_areFieldMarks_37 : decode cX2_areFieldMarks 37 = .ok (.iconst 1, 1) := by decide +kernel
theorem dX2_areFieldMarks_38 : decode cX2_areFieldMarks 38 = .ok (.goto 4, 3) := by decide +kernel
theorem dX2_areFieldMarks_41 : decode cX2_areFieldMarks 41 = .ok (.iconst 0, 1) := by decide +kernel
theorem dX2_areFieldMarks_42 : decode cX2_areFieldMarks 42 = .ok (.ireturn, 1) := by decide +kernel
theorem dX2_areMethodMarks_0 : decode cX2_areMethodMarks 0 = .ok (.iload_n 0, 1) := by decide +kernel
theorem dX2_areMethodMarks_1 : decode cX2_areMethodMarks 1 = .ok (.ifCond .lt 13, 3) := by decide +kernel
theorem dX2_areMethodMarks_4 : decode cX2_areMethodMarks 4 = .ok (.iload_n 0, 1) := by decide +kernel
theorem dX2_areMethodMarks_5 : decode cX2_areMethodMarks 5 = .ok (.bipush 8, 2) := by decide +kernel
theorem dX2_areMethodMarks_7 : decode cX2_areMethodMarks 7 = .ok (.if_icmp .gt 7, 3) := by decide +kernel
theorem dX2_areMethodMarks_10 : decode cX2_areMethodMarks 10 = .ok (.iconst 1, 1) := by decide +kernel
theorem dX2_areMethodMarks_11 : decode cX2_areMethodMarks 11 = .ok (.goto 4, 3) := by decide +kernel
theorem dX2_areMethodMarks_14 : decode cX2_areMethodMarks 14 = .ok (.iconst 0, 1) := by decide +kernel
theorem dX2_areMethodMarks_15 : decode cX2_areMethodMarks 15 = .ok (.ireturn, 1) := by decide +kernel
theorem dX2_lookForField_0 : decode cX2_lookForField 0 = .ok (.aload_n 0, 1) := by decide +kernel
theorem dX2_lookForField_1 : decode cX2_lookForField 1 = .ok (.getfield 12, 3) := by decide +kernel
theorem dX2_lookForField_4 : decode cX2_lookForField 4 = .ok (.iload_n 1, 1) := by decide +kernel
theorem dX2_lookForField_5 : decode cX2_lookForField 5 = .ok (.iconst 1, 1) := by decide +kernel
theorem dX2_lookForField_6 : decode cX2_lookForField 6 = .ok (.invokevirtual 132, 3) := by decide +kernel
theorem dX2_lookForField_9 : decode cX2_lookForField 9 = .ok (.iconst 0, 1) := by decide +kernel
theorem dX2_lookForField_10 : decode cX2_lookForField 10 = .ok (.istore 4, 2) := by decide +kernel
theorem dX2_lookForField_12 : decode cX2_lookForField 12 = .ok (.iload 4, 2) := by decide +kernel
theorem dX2_lookForField_14 : decode cX2_lookForField 14 = .ok (.aload_n 0, 1) := by decide +kernel
theorem dX2_lookForField_15 : decode cX2_lookForField 15 = .ok (.getfield 12, 3) := by decide +kernel
theorem dX2_lookForField_18 : decode cX2_lookForField 18 = .ok (.getfield 136, 3) := by decide +kernel
theorem dX2_lookForField_21 : decode cX2_lookForField 21 = .ok (.if_icmp .ge 55, 3) := by decide +kernel
theorem dX2_lookForField_24 : decode cX2_lookForField 24 = .ok (.aload_n 0, 1) := by decide +kernel
theorem dX2_lookForField_25 : decode cX2_lookForField 25 = .ok (.getfield 21, 3) := by decide +kernel
theorem dX2_lookForField_28 : decode cX2_lookForField 28 = .ok (.aload_n 0, 1) := by decide +kernel
theorem dX2_lookForField_29 : decode cX2_lookForField 29 = .ok (.getfield 12, 3) := by decide +kernel
theorem dX2_lookForField_32 : decode cX2_lookForField 32 = .ok (.iload 4, 2) := by decide +kernel
theorem dX2_lookForField_34 : decode cX2_lookForField 34 = .ok (.invokevirtual 139, 3) := by decide +kernel
theorem dX2_lookForField_37 : decode cX2_lookForField 37 = .ok (.iload_n 2, 1) := by decide +kernel
theorem dX2_lookForField_38 : decode cX2_lookForField 38 = .ok (.invokevirtual 100, 3) := by decide +kernel
theorem dX2_lookForField_41 : decode cX2_lookForField 41 = .ok (.istore 5, 2) := by decide +kernel
theorem dX2_lookForField_43 : decode cX2_lookForField 43 = .ok (.iload 5, 2) := by decide +kernel
theorem dX2_lookForField_45 : decode cX2_lookForField 45 = .ok (.bipush (-2), 2) := by decide +kernel
theorem dX2_lookForField_47 : decode cX2_lookForField 47 = .ok (.if_icmp .eq 23, 3) := by decide +kernel
theorem dX2_lookForField_50 : decode cX2_lookForField 50 = .ok (.iload_n 3, 1) := by decide +kernel
theorem dX2_lookForField_51 : decode cX2_lookForField 51 = .ok (.ifCond .eq 16, 3) := by decide +kernel
theorem dX2_lookForField_54 : decode cX2_lookForField 54 = .ok (.aload_n 0, 1) := by decide +kernel
theorem dX2_lookForField_55 : decode cX2_lookForField 55 = .ok (.getfield 21, 3) := by decide +kernel
theorem dX2_lookForField_58 : decode cX2_lookForField 58 = .ok (.iload 5, 2) := by decide +kernel
theorem dX2_lookForField_60 : decode cX2_lookForField 60 = .ok (.iconst 4, 1) := by decide +kernel
theorem dX2_lookForField_61 : decode cX2_lookForField 61 = .ok (.invokevirtual 142, 3) := by decide +kernel
theorem dX2_lookForField_64 : decode cX2_lookForField 64 = .ok (.ifCond .ne 6, 3) := by decide +kernel
theorem dX2_lookForField_67 : decode cX2_lookForField 67 = .ok (.iload 5, 2) := by decide +kernel
theorem dX2_lookForField_69 : decode cX2_lookForField 69 = .ok (.ireturn, 1) := by decide +kernel
theorem dX2_lookForField_70 : decode cX2_lookForField 70 = .ok (.iinc 4 1, 3) := by decide +kernel
theorem dX2_lookForField_73 : decode cX2_lookForField 73 = .ok (.goto (-61), 3) := by decide +kernel
theorem dX2_lookForField_76 : decode cX2_lookForField 76 = .ok (.bipush (-2), 2) := by decide +kernel
theorem dX2_lookForField_78 : decode cX2_lookForField 78 = .ok (.ireturn, 1) := by decide +kernel
theorem dX2_lookForMethod_0 : decode cX2_lookForMethod 0 = .ok (.aload_n 0, 1) := by decide +kernel
theorem dX2_lookForMethod_1 : decode cX2_lookForMethod 1 = .ok (.getfield 12, 3) := by decide +kernel
theorem dX2_lookForMethod_4 : decode cX2_lookForMethod 4 = .ok (.iload_n 1, 1) := by decide +kernel
theorem dX2_lookForMethod_5 : decode cX2_lookForMethod 5 = .ok (.iconst 0, 1) := by decide +kernel
theorem dX2_lookForMethod_6 : decode cX2_lookForMethod 6 = .ok (.invokevirtual 132, 3) := by decide +kernel
theorem dX2_lookForMethod_9 : decode cX2_lookForMethod 9 = .ok (.aload_n 0, 1) := by decide +kernel
theorem dX2_lookForMethod_10 : decode cX2_lookForMethod 10 = .ok (.iload_n 2, 1) := by decide +kernel
theorem dX2_lookForMethod_11 : decode cX2_lookForMethod 11 = .ok (.iload_n 3, 1) := by decide +kernel
theorem dX2_lookForMethod_12 : decode cX2_lookForMethod 12 = .ok (.iload 4, 2) := by decide +kernel
theorem dX2_lookForMethod_14 : decode cX2_lookForMethod 14 = .ok (.invokevirtual 145, 3) := by decide +kernel
theorem dX2_lookForMethod_17 : decode cX2_lookForMethod 17 = .ok (.ireturn, 1) := by decide +kernel
theorem dX2_firstMethod_0 : decode cX2_firstMethod 0 = .ok (.iconst 0, 1) := by decide +kernel
theorem dX2_firstMethod_1 : decode cX2_firstMethod 1 = .ok (.istore 4, 2) := by decide +kernel
theorem dX2_firstMethod_3 : decode cX2_firstMethod 3 = .ok (.iload 4, 2) := by decide +kernel
theorem dX2_firstMethod_5 : decode cX2_firstMethod 5 = .ok (.aload_n 0, 1) := by decide +kernel
theorem dX2_firstMethod_6 : decode cX2_firstMethod 6 = .ok (.getfield 12, 3) := by decide +kernel
theorem dX2_firstMethod_9 : decode cX2_firstMethod 9 = .ok (.getfield 136, 3) := by decide +kernel
theorem dX2_firstMethod_12 : decode cX2_firstMethod 12 = .ok (.if_icmp .ge 40, 3) := by decide +kernel
theorem dX2_firstMethod_15 : decode cX2_firstMethod 15 = .ok (.aload_n 0, 1) := by decide +kernel
theorem dX2_firstMethod_16 : decode cX2_firstMethod 16 = .ok (.getfield 21, 3) := by decide +kernel
theorem dX2_firstMethod_19 : decode cX2_firstMethod 19 = .ok (.aload_n 0, 1) := by decide +kernel
theorem dX2_firstMethod_20 : decode cX2_firstMethod 20 = .ok (.getfield 12, 3) := by decide +kernel
theorem dX2_firstMethod_23 : decode cX2_firstMethod 23 = .ok (.iload 4, 2) := by decide +kernel
theorem dX2_firstMethod_25 : decode cX2_firstMethod 25 = .ok (.invokevirtual 139, 3) := by decide +kernel
theorem dX2_firstMethod_28 : decode cX2_firstMethod 28 = .ok (.iload_n 1, 1) := by decide +kernel
theorem dX2_firstMethod_29 : decode cX2_firstMethod 29 = .ok (.iload_n 2, 1) := by decide +kernel
theorem dX2_firstMethod_30 : decode cX2_firstMethod 30 = .ok (.iload_n 3, 1) := by decide +kernel
theorem dX2_firstMethod_31 : decode cX2_firstMethod 31 = .ok (.invokevirtual 109, 3) := by decide +kernel
theorem dX2_firstMethod_34 : decode cX2_firstMethod 34 = .ok (.istore 5, 2) := by decide +kernel
theorem dX2_firstMethod_36 : decode cX2_firstMethod 36 = .ok (.iload 5, 2) := by decide +kernel
theorem dX2_firstMethod_38 : decode cX2_firstMethod 38 = .ok (.bipush (-2), 2) := by decide +kernel
theorem dX2_firstMethod_40 : decode cX2_firstMethod 40 = .ok (.if_icmp .eq 6, 3) := by decide +kernel
theorem dX2_firstMethod_43 : decode cX2_firstMethod 43 = .ok (.iload 5, 2) := by decide +kernel
theorem dX2_firstMethod_45 : decode cX2_firstMethod 45 = .ok (.ireturn, 1) := by decide +kernel
theorem dX2_firstMethod_46 : decode cX2_firstMethod 46 = .ok (.iinc 4 1, 3) := by decide +kernel
theorem dX2_firstMethod_49 : decode cX2_firstMethod 49 = .ok (.goto (-46), 3) := by decide +kernel
theorem dX2_firstMethod_52 : decode cX2_firstMethod 52 = .ok (.bipush (-2), 2) := by decide +kernel
theorem dX2_firstMethod_54 : decode cX2_firstMethod 54 = .ok (.ireturn, 1) := by decide +kernel
theorem dX2_select_0 : decode cX2_select 0 = .ok (.iload_n 1, 1) := by decide +kernel
theorem dX2_select_1 : decode cX2_select 1 = .ok (.istore 5, 2) := by decide +kernel
theorem dX2_select_3 : decode cX2_select 3 = .ok (.iconst 0, 1) := by decide +kernel
theorem dX2_select_4 : decode cX2_select 4 = .ok (.istore 6, 2) := by decide +kernel
theorem dX2_select_6 : decode cX2_select 6 = .ok (.iload 6, 2) := by decide +kernel
theorem dX2_select_8 : decode cX2_select 8 = .ok (.bipush 12, 2) := by decide +kernel
theorem dX2_select_10 : decode cX2_select 10 = .ok (.if_icmp .ge 81, 3) := by decide +kernel
theorem dX2_select_13 : decode cX2_select 13 = .ok (.aload_n 0, 1) := by decide +kernel
theorem dX2_select_14 : decode cX2_select 14 = .ok (.getfield 12, 3) := by decide +kernel
theorem dX2_select_17 : decode cX2_select 17 = .ok (.iload 5, 2) := by decide +kernel
theorem dX2_select_19 : decode cX2_select 19 = .ok (.invokevirtual 84, 3) := by decide +kernel
theorem dX2_select_22 : decode cX2_select 22 = .ok (.ifCond .eq 69, 3) := by decide +kernel
theorem dX2_select_25 : decode cX2_select 25 = .ok (.aload_n 0, 1) := by decide +kernel
theorem dX2_select_26 : decode cX2_select 26 = .ok (.getfield 21, 3) := by decide +kernel
theorem dX2_select_29 : decode cX2_select 29 = .ok (.iload 5, 2) := by decide +kernel
theorem dX2_select_31 : decode cX2_select 31 = .ok (.iload_n 2, 1) := by decide +kernel
theorem dX2_select_32 : decode cX2_select 32 = .ok (.iload_n 3, 1) := by decide +kernel
theorem dX2_select_33 : decode cX2_select 33 = .ok (.iload 4, 2) := by decide +kernel
theorem dX2_select_35 : decode cX2_select 35 = .ok (.invokevirtual 109, 3) := by decide +kernel
theorem dX2_select_38 : decode cX2_select 38 = .ok (.istore 7, 2) := by decide +kernel
theorem dX2_select_40 : decode cX2_select 40 = .ok (.aload_n 0, 1) := by decide +kernel
theorem dX2_select_41 : decode cX2_select 41 = .ok (.getfield 21, 3) := by decide +kernel
theorem dX2_select_44 : decode cX2_select 44 = .ok (.iload 7, 2) := by decide +kernel
theorem dX2_select_46 : decode cX2_select 46 = .ok (.invokevirtual 149, 3) := by decide +kernel
theorem dX2_select_49 : decode cX2_select 49 = .ok (.ifCond .eq 25, 3) := by decide +kernel
theorem dX2_select_52 : decode cX2_select 52 = .ok (.aload_n 0, 1) := by decide +kernel
theorem dX2_select_53 : decode cX2_select 53 = .ok (.getfield 21, 3) := by decide +kernel
theorem dX2_select_56 : decode cX2_select 56 = .ok (.iload 7, 2) := by decide +kernel
theorem dX2_select_58 : decode cX2_select 58 = .ok (.bipush 8, 2) := by decide +kernel
theorem dX2_select_60 : decode cX2_select 60 = .ok (.invokevirtual 142, 3) := by decide +kernel
theorem dX2_select_63 : decode cX2_select 63 = .ok (.ifCond .eq 8, 3) := by decide +kernel
theorem dX2_select_66 : decode cX2_select 66 = .ok (.bipush (-2), 2) := by decide +kernel
theorem dX2_select_68 : decode cX2_select 68 = .ok (.goto 5, 3) := by decide +kernel
theorem dX2_select_71 : decode cX2_select 71 = .ok (.iload 7, 2) := by decide +kernel
theorem dX2_select_73 : decode cX2_select 73 = .ok (.ireturn, 1) := by decide +kernel
theorem dX2_select_74 : decode cX2_select 74 = .ok (.aload_n 0, 1) := by decide +kernel
theorem dX2_select_75 : decode cX2_select 75 = .ok (.getfield 12, 3) := by decide +kernel
theorem dX2_select_78 : decode cX2_select 78 = .ok (.iload 5, 2) := by decide +kernel
theorem dX2_select_80 : decode cX2_select 80 = .ok (.invokevirtual 152, 3) := by decide +kernel
theorem dX2_select_83 : decode cX2_select 83 = .ok (.istore 5, 2) := by decide +kernel
theorem dX2_select_85 : decode cX2_select 85 = .ok (.iinc 6 1, 3) := by decide +kernel
theorem dX2_select_88 : decode cX2_select 88 = .ok (.goto (-82), 3) := by decide +kernel
theorem dX2_select_91 : decode cX2_select 91 = .ok (.aload_n 0, 1) := by decide +kernel
theorem dX2_select_92 : decode cX2_select 92 = .ok (.iload_n 1, 1) := by decide +kernel
theorem dX2_select_93 : decode cX2_select 93 = .ok (.iload_n 2, 1) := by decide +kernel
theorem dX2_select_94 : decode cX2_select 94 = .ok (.iload_n 3, 1) := by decide +kernel
theorem dX2_select_95 : decode cX2_select 95 = .ok (.iload 4, 2) := by decide +kernel
theorem dX2_select_97 : decode cX2_select 97 = .ok (.invokevirtual 155, 3) := by decide +kernel
theorem dX2_select_100 : decode cX2_select 100 = .ok (.ireturn, 1) := by decide +kernel
theorem dX2_selectOfFaces_0 : decode cX2_selectOfFaces 0 = .ok (.aload_n 0, 1) := by decide +kernel
theorem dX2_selectOfFaces_1 : decode cX2_selectOfFaces 1 = .ok (.getfield 12, 3) := by decide +kernel
theorem dX2_selectOfFaces_4 : decode cX2_selectOfFaces 4 = .ok (.iload_n 1, 1) := by decide +kernel
theorem dX2_selectOfFaces_5 : decode cX2_selectOfFaces 5 = .ok (.invokevirtual 158, 3) := by decide +kernel
theorem dX2_selectOfFaces_8 : decode cX2_selectOfFaces 8 = .ok (.istore 5, 2) := by decide +kernel
theorem dX2_selectOfFaces_10 : decode cX2_selectOfFaces 10 = .ok (.iconst 0, 1) := by decide +kernel
theorem dX2_selectOfFaces_11 : decode cX2_selectOfFaces 11 = .ok (.istore 6, 2) := by decide +kernel
theorem dX2_selectOfFaces_13 : decode cX2_selectOfFaces 13 = .ok (.iconst 0, 1) := by decide +kernel
theorem dX2_selectOfFaces_14 : decode cX2_selectOfFaces 14 = .ok (.istore 7, 2) := by decide +kernel
theorem dX2_selectOfFaces_16 : decode cX2_selectOfFaces 16 = .ok (.iload 7, 2) := by decide +kernel
theorem dX2_selectOfFaces_18 : decode cX2_selectOfFaces 18 = .ok (.aload_n 0, 1) := by decide +kernel
theorem dX2_selectOfFaces_19 : decode cX2_selectOfFaces 19 = .ok (.getfield 12, 3) := by decide +kernel
theorem dX2_selectOfFaces_22 : decode cX2_selectOfFaces 22 = .ok (.getfield 161, 3) := by decide +kernel
theorem dX2_selectOfFaces_25 : decode cX2_selectOfFaces 25 = .ok (.if_icmp .ge 51, 3) := by decide +kernel
theorem dX2_selectOfFaces_28 : decode cX2_selectOfFaces 28 = .ok (.iload 5, 2) := by decide +kernel
theorem dX2_selectOfFaces_30 : decode cX2_selectOfFaces 30 = .ok (.iload 7, 2) := by decide +kernel
theorem dX2_selectOfFaces_32 : decode cX2_selectOfFaces 32 = .ok (.ishr, 1) := by decide +kernel
theorem dX2_selectOfFaces_33 : decode cX2_selectOfFaces 33 = .ok (.iconst 1, 1) := by decide +kernel
theorem dX2_selectOfFaces_34 : decode cX2_selectOfFaces 34 = .ok (.iand, 1) := by decide +kernel
theorem dX2_selectOfFaces_35 : decode cX2_selectOfFaces 35 = .ok (.ifCond .eq 35, 3) := by decide +kernel
theorem dX2_selectOfFaces_38 : decode cX2_selectOfFaces 38 = .ok (.aload_n 0, 1) := by decide +kernel
theorem dX2_selectOfFaces_39 : decode cX2_selectOfFaces 39 = .ok (.getfield 21, 3) := by decide +kernel
theorem dX2_selectOfFaces_42 : decode cX2_selectOfFaces 42 = .ok (.aload_n 0, 1) := by decide +kernel
theorem dX2_selectOfFaces_43 : decode cX2_selectOfFaces 43 = .ok (.getfield 21, 3) := by decide +kernel
theorem dX2_selectOfFaces_46 : decode cX2_selectOfFaces 46 = .ok (.iload 7, 2) := by decide +kernel
theorem dX2_selectOfFaces_48 : decode cX2_selectOfFaces 48 = .ok (.iload_n 2, 1) := by decide +kernel
theorem dX2_selectOfFaces_49 : decode cX2_selectOfFaces 49 = .ok (.iload_n 3, 1) := by decide +kernel
theorem dX2_selectOfFaces_50 : decode cX2_selectOfFaces 50 = .ok (.iload 4, 2) := by decide +kernel
theorem dX2_selectOfFaces_52 : decode cX2_selectOfFaces 52 = .ok (.invokevirtual 109, 3) := by decide +kernel
theorem dX2_selectOfFaces_55 : decode cX2_selectOfFaces 55 = .ok (.invokevirtual 149, 3) := by decide +kernel
theorem dX2_selectOfFaces_58 : decode cX2_selectOfFaces 58 = .ok (.ifCond .eq 12, 3) := by decide +kernel
theorem dX2_selectOfFaces_61 : decode cX2_selectOfFaces 61 = .ok (.iload 6, 2) := by decide +kernel
theorem dX2_selectOfFaces_63 : decode cX2_selectOfFaces 63 = .ok (.iconst 1, 1) := by decide +kernel
theorem dX2_selectOfFaces_64 : decode cX2_selectOfFaces 64 = .ok (.iload 7, 2) := by decide +kernel
theorem dX2_selectOfFaces_66 : decode cX2_selectOfFaces 66 = .ok (.ishl, 1) := by decide +kernel
theorem dX2_selectOfFaces_67 : decode cX2_selectOfFaces 67 = .ok (.ior, 1) := by decide +kernel
theorem dX2_selectOfFaces_68 : decode cX2_selectOfFaces 68 = .ok (.istore 6, 2) := by decide +kernel
theorem dX2_selectOfFaces_70 : decode cX2_selectOfFaces 70 = .ok (.iinc 7 1, 3) := by decide +kernel
theorem dX2_selectOfFaces_73 : decode cX2_selectOfFaces 73 = .ok (.goto (-57), 3) := by decide +kernel
theorem dX2_selectOfFaces_76 : decode cX2_selectOfFaces 76 = .ok (.bipush (-2), 2) := by decide +kernel
theorem dX2_selectOfFaces_78 : decode cX2_selectOfFaces 78 = .ok (.istore 7, 2) := by decide +kernel
theorem dX2_selectOfFaces_80 : decode cX2_selectOfFaces 80 = .ok (.iconst 0, 1) := by decide +kernel
theorem dX2_selectOfFaces_81 : decode cX2_selectOfFaces 81 = .ok (.istore 8, 2) := by decide +kernel
theorem dX2_selectOfFaces_83 : decode cX2_selectOfFaces 83 = .ok (.iload 8, 2) := by decide +kernel
theorem dX2_selectOfFaces_85 : decode cX2_selectOfFaces 85 = .ok (.aload_n 0, 1) := by decide +kernel
theorem dX2_selectOfFaces_86 : decode cX2_selectOfFaces 86 = .ok (.getfield 12, 3) := by decide +kernel
theorem dX2_selectOfFaces_89 : decode cX2_selectOfFaces 89 = .ok (.getfield 161, 3) := by decide +kernel
theorem dX2_selectOfFaces_92 : decode cX2_selectOfFaces 92 = .ok (.if_icmp .ge 85, 3) := by decide +kernel
theorem dX2_selectOfFaces_95 : decode cX2_selectOfFaces 95 = .ok (.iload 6, 2) := by decide +kernel
theorem dX2_selectOfFaces_97 : decode cX2_selectOfFaces 97 = .ok (.iload 8, 2) := by decide +kernel
theorem dX2_selectOfFaces_99 : decode cX2_selectOfFaces 99 = .ok (.ishr, 1) := by decide +kernel
theorem dX2_selectOfFaces_100 : decode cX2_selectOfFaces 100 = .ok (.iconst 1, 1) := by decide +kernel
theorem dX2_selectOfFaces_101 : decode cX2_selectOfFaces 101 = .ok (.iand, 1) := by decide +kernel
theorem dX2_selectOfFaces_102 : decode cX2_selectOfFaces 102 = .ok (.ifCond .eq 30, 3) := by decide +kernel
theorem dX2_selectOfFaces_105 : decode cX2_selectOfFaces 105 = .ok (.aload_n 0, 1) := by decide +kernel
theorem dX2_selectOfFaces_106 : decode cX2_selectOfFaces 106 = .ok (.iload 8, 2) := by decide +kernel
theorem dX2_selectOfFaces_108 : decode cX2_selectOfFaces 108 = .ok (.iload 6, 2) := by decide +kernel
theorem dX2_selectOfFaces_110 : decode cX2_selectOfFaces 110 = .ok (.invokevirtual 164, 3) := by decide +kernel
theorem dX2_selectOfFaces_113 : decode cX2_selectOfFaces 113 = .ok (.ifCond .eq 19, 3) := by decide +kernel
theorem dX2_selectOfFaces_116 : decode cX2_selectOfFaces 116 = .ok (.aload_n 0, 1) := by decide +kernel
theorem dX2_selectOfFaces_117 : decode cX2_selectOfFaces 117 = .ok (.getfield 21, 3) := by decide +kernel
theorem dX2_selectOfFaces_120 : decode cX2_selectOfFaces 120 = .ok (.iload 8, 2) := by decide +kernel
theorem dX2_selectOfFaces_122 : decode cX2_selectOfFaces 122 = .ok (.iload_n 2, 1) := by decide +kernel
theorem dX2_selectOfFaces_123 : decode cX2_selectOfFaces 123 = .ok (.iload_n 3, 1) := by decide +kernel
theorem dX2_selectOfFaces_124 : decode cX2_selectOfFaces 124 = .ok (.iload 4, 2) := by decide +kernel
theorem dX2_selectOfFaces_126 : decode cX2_selectOfFaces 126 = .ok (.invokevirtual 109, 3) := by decide +kernel
theorem dX2_selectOfFaces_129 : decode cX2_selectOfFaces 129 = .ok (.goto 5, 3) := by decide +kernel
theorem dX2_selectOfFaces_132 : decode cX2_selectOfFaces 132 = .ok (.bipush (-2), 2) := by decide +kernel
theorem dX2_selectOfFaces_134 : decode cX2_selectOfFaces 134 = .ok (.istore 9, 2) := by decide +kernel
theorem dX2_selectOfFaces_136 : decode cX2_selectOfFaces 136 = .ok (.iload 9, 2) := by decide +kernel
theorem dX2_selectOfFaces_138 : decode cX2_selectOfFaces 138 = .ok (.bipush (-2), 2) := by decide +kernel
theorem dX2_selectOfFaces_140 : decode cX2_selectOfFaces 140 = .ok (.if_icmp .eq 31, 3) := by decide +kernel
theorem dX2_selectOfFaces_143 : decode cX2_selectOfFaces 143 = .ok (.aload_n 0, 1) := by decide +kernel
theorem dX2_selectOfFaces_144 : decode cX2_selectOfFaces 144 = .ok (.getfield 21, 3) := by decide +kernel
theorem dX2_selectOfFaces_147 : decode cX2_selectOfFaces 147 = .ok (.iload 9, 2) := by decide +kernel
theorem dX2_selectOfFaces_149 : decode cX2_selectOfFaces 149 = .ok (.bipush 8, 2) := by decide +kernel
theorem dX2_selectOfFaces_151 : decode cX2_selectOfFaces 151 = .ok (.invokevirtual 142, 3) := by decide +kernel
theorem dX2_selectOfFaces_154 : decode cX2_selectOfFaces 154 = .ok (.ifCond .ne 17, 3) := by decide +kernel
theorem dX2_selectOfFaces_157 : decode cX2_selectOfFaces 157 = .ok (.iload 7, 2) := by decide +kernel
theorem dX2_selectOfFaces_159 : decode cX2_selectOfFaces 159 = .ok (.bipush (-2), 2) := by decide +kernel
theorem dX2_selectOfFaces_161 : decode cX2_selectOfFaces 161 = .ok (.if_icmp .eq 6, 3) := by decide +kernel
theorem dX2_selectOfFaces_164 : decode cX2_selectOfFaces 164 = .ok (.bipush (-4), 2) := by decide +kernel
theorem dX2_selectOfFaces_166 : decode cX2_selectOfFaces 166 = .ok (.ireturn, 1) := by decide +kernel
theorem dX2_selectOfFaces_167 : decode cX2_selectOfFaces 167 = .ok (.iload 9, 2) := by decide +kernel
theorem dX2_selectOfFaces_169 : decode cX2_selectOfFaces 169 = .ok (.istore 7, 2) := by decide +kernel
theorem dX2_selectOfFaces_171 : decode cX2_selectOfFaces 171 = .ok (.iinc 8 1, 3) := by decide +kernel
theorem dX2_selectOfFaces_174 : decode cX2_selectOfFaces 174 = .ok (.goto (-91), 3) := by decide +kernel
theorem dX2_selectOfFaces_177 : decode cX2_selectOfFaces 177 = .ok (.iload 7, 2) := by decide +kernel
theorem dX2_selectOfFaces_179 : decode cX2_selectOfFaces 179 = .ok (.ireturn, 1) := by decide +kernel
theorem dX2_isLowest_0 : decode cX2_isLowest 0 = .ok (.iconst 0, 1) := by decide +kernel
theorem dX2_isLowest_1 : decode cX2_isLowest 1 = .ok (.istore_n 3, 1) := by decide +kernel
theorem dX2_isLowest_2 : decode cX2_isLowest 2 = .ok (.iload_n 3, 1) := by decide +kernel
theorem dX2_isLowest_3 : decode cX2_isLowest 3 = .ok (.aload_n 0, 1) := by decide +kernel
theorem dX2_isLowest_4 : decode cX2_isLowest 4 = .ok (.getfield 12, 3) := by decide +kernel
theorem dX2_isLowest_7 : decode cX2_isLowest 7 = .ok (.getfield 161, 3) := by decide +kernel
theorem dX2_isLowest_10 : decode cX2_isLowest 10 = .ok (.if_icmp .ge 36, 3) := by decide +kernel
theorem dX2_isLowest_13 : decode cX2_isLowest 13 = .ok (.iload_n 3, 1) := by decide +kernel
theorem dX2_isLowest_14 : decode cX2_isLowest 14 = .ok (.iload_n 1, 1) := by decide +kernel
theorem dX2_isLowest_15 : decode cX2_isLowest 15 = .ok (.if_icmp .eq 25, 3) := by decide +kernel
theorem dX2_isLowest_18 : decode cX2_isLowest 18 = .ok (.iload_n 2, 1) := by decide +kernel
theorem dX2_isLowest_19 : decode cX2_isLowest 19 = .ok (.iload_n 3, 1) := by decide +kernel
theorem dX2_isLowest_20 : decode cX2_isLowest 20 = .ok (.ishr, 1) := by decide +kernel
theorem dX2_isLowest_21 : decode cX2_isLowest 21 = .ok (.iconst 1, 1) := by decide +kernel
theorem dX2_isLowest_22 : decode cX2_isLowest 22 = .ok (.iand, 1) := by decide +kernel
theorem dX2_isLowest_23 : decode cX2_isLowest 23 = .ok (.ifCond .eq 17, 3) := by decide +kernel
theorem dX2_isLowest_26 : decode cX2_isLowest 26 = .ok (.aload_n 0, 1) := by decide +kernel
theorem dX2_isLowest_27 : decode cX2_isLowest 27 = .ok (.getfield 12, 3) := by decide +kernel
theorem dX2_isLowest_30 : decode cX2_isLowest 30 = .ok (.iload_n 3, 1) := by decide +kernel
theorem dX2_isLowest_31 : decode cX2_isLowest 31 = .ok (.iload_n 1, 1) := by decide +kernel
theorem dX2_isLowest_32 : decode cX2_isLowest 32 = .ok (.invokevirtual 167, 3) := by decide +kernel
theorem dX2_isLowest_35 : decode cX2_isLowest 35 = .ok (.ifCond .eq 5, 3) := by decide +kernel
theorem dX2_isLowest_38 : decode cX2_isLowest 38 = .ok (.iconst 0, 1) := by decide +kernel
theorem dX2_isLowest_39 : decode cX2_isLowest 39 = .ok (.ireturn, 1) := by decide +kernel
theorem dX2_isLowest_40 : decode cX2_isLowest 40 = .ok (.iinc 3 1, 3) := by decide +kernel
theorem dX2_isLowest_43 : decode cX2_isLowest 43 = .ok (.goto (-41), 3) := by decide +kernel
theorem dX2_isLowest_46 : decode cX2_isLowest 46 = .ok (.iconst 1, 1) := by decide +kernel
theorem dX2_isLowest_47 : decode cX2_isLowest 47 = .ok (.ireturn, 1) := by decide +kernel
theorem dX2_failureOfReading_0 : decode cX2_failureOfReading 0 = .ok (.iconst 0, 1) := by decide +kernel
theorem dX2_failureOfReading_1 : decode cX2_failureOfReading 1 = .ok (.istore_n 2, 1) := by decide +kernel
theorem dX2_failureOfReading_2 : decode cX2_failureOfReading 2 = .ok (.iload_n 1, 1) := by decide +kernel
theorem dX2_failureOfReading_3 : decode cX2_failureOfReading 3 = .ok (.istore_n 3, 1) := by decide +kernel
theorem dX2_failureOfReading_4 : decode cX2_failureOfReading 4 = .ok (.aload_n 0, 1) := by decide +kernel
theorem dX2_failureOfReading_5 : decode cX2_failureOfReading 5 = .ok (.getfield 12, 3) := by decide +kernel
theorem dX2_failureOfReading_8 : decode cX2_failureOfReading 8 = .ok (.iload_n 3, 1) := by decide +kernel
theorem dX2_failureOfReading_9 : decode cX2_failureOfReading 9 = .ok (.invokevirtual 152, 3) := by decide +kernel
theorem dX2_failureOfReading_12 : decode cX2_failureOfReading 12 = .ok (.istore 4, 2) := by decide +kernel
theorem dX2_failureOfReading_14 : decode cX2_failureOfReading 14 = .ok (.iconst 0, 1) := by decide +kernel
theorem dX2_failureOfReading_15 : decode cX2_failureOfReading 15 = .ok (.istore 5, 2) := by decide +kernel
theorem dX2_failureOfReading_17 : decode cX2_failureOfReading 17 = .ok (.iload 5, 2) := by decide +kernel
theorem dX2_failureOfReading_19 : decode cX2_failureOfReading 19 = .ok (.bipush 12, 2) := by decide +kernel
theorem dX2_failureOfReading_21 : decode cX2_failureOfReading 21 = .ok (.if_icmp .ge 56, 3) := by decide +kernel
theorem dX2_failureOfReading_24 : decode cX2_failureOfReading 24 = .ok (.iload 4, 2) := by decide +kernel
theorem dX2_failureOfReading_26 : decode cX2_failureOfReading 26 = .ok (.bipush (-2), 2) := by decide +kernel
theorem dX2_failureOfReading_28 : decode cX2_failureOfReading 28 = .ok (.if_icmp .eq 49, 3) := by decide +kernel
theorem dX2_failureOfReading_31 : decode cX2_failureOfReading 31 = .ok (.aload_n 0, 1) := by decide +kernel
theorem dX2_failureOfReading_32 : decode cX2_failureOfReading 32 = .ok (.getfield 12, 3) := by decide +kernel
theorem dX2_failureOfReading_35 : decode cX2_failureOfReading 35 = .ok (.iload 4, 2) := by decide +kernel
theorem dX2_failureOfReading_37 : decode cX2_failureOfReading 37 = .ok (.invokevirtual 170, 3) := by decide +kernel
theorem dX2_failureOfReading_40 : decode cX2_failureOfReading 40 = .ok (.ifCond .eq 8, 3) := by decide +kernel
theorem dX2_failureOfReading_43 : decode cX2_failureOfReading 43 = .ok (.iconst 1, 1) := by decide +kernel
theorem dX2_failureOfReading_44 : decode cX2_failureOfReading 44 = .ok (.istore_n 2, 1) := by decide +kernel
theorem dX2_failureOfReading_45 : decode cX2_failureOfReading 45 = .ok (.goto 13, 3) := by decide +kernel
theorem dX2_failureOfReading_48 : decode cX2_failureOfReading 48 = .ok (.aload_n 0, 1) := by decide +kernel
theorem dX2_failureOfReading_49 : decode cX2_failureOfReading 49 = .ok (.iload_n 3, 1) := by decide +kernel
theorem dX2_failureOfReading_50 : decode cX2_failureOfReading 50 = .ok (.invokevirtual 173, 3) := by decide +kernel
theorem dX2_failureOfReading_53 : decode cX2_failureOfReading 53 = .ok (.ifCond .eq 5, 3) := by decide +kernel
theorem dX2_failureOfReading_56 : decode cX2_failureOfReading 56 = .ok (.iconst 2, 1) := by decide +kernel
theorem dX2_failureOfReading_57 : decode cX2_failureOfReading 57 = .ok (.istore_n 2, 1) := by decide +kernel
theorem dX2_failureOfReading_58 : decode cX2_failureOfReading 58 = .ok (.iload 4, 2) := by decide +kernel
theorem dX2_failureOfReading_60 : decode cX2_failureOfReading 60 = .ok (.istore_n 3, 1) := by decide +kernel
theorem dX2_failureOfReading_61 : decode cX2_failureOfReading 61 = .ok (.aload_n 0, 1) := by decide +kernel
theorem dX2_failureOfReading_62 : decode cX2_failureOfReading 62 = .ok (.getfield 12, 3) := by decide +kernel
theorem dX2_failureOfReading_65 : decode cX2_failureOfReading 65 = .ok (.iload_n 3, 1) := by decide +kernel
theorem dX2_failureOfReading_66 : decode cX2_failureOfReading 66 = .ok (.invokevirtual 152, 3) := by decide +kernel
theorem dX2_failureOfReading_69 : decode cX2_failureOfReading 69 = .ok (.istore 4, 2) := by decide +kernel
theorem dX2_failureOfReading_71 : decode cX2_failureOfReading 71 = .ok (.iinc 5 1, 3) := by decide +kernel
theorem dX2_failureOfReading_74 : decode cX2_failureOfReading 74 = .ok (.goto (-57), 3) := by decide +kernel
theorem dX2_failureOfReading_77 : decode cX2_failureOfReading 77 = .ok (.iload_n 2, 1) := by decide +kernel
theorem dX2_failureOfReading_78 : decode cX2_failureOfReading 78 = .ok (.ireturn, 1) := by decide +kernel
theorem dX2_isBroken_0 : decode cX2_isBroken 0 = .ok (.aload_n 0, 1) := by decide +kernel
theorem dX2_isBroken_1 : decode cX2_isBroken 1 = .ok (.getfield 21, 3) := by decide +kernel
theorem dX2_isBroken_4 : decode cX2_isBroken 4 = .ok (.astore_n 2, 1) := by decide +kernel
theorem dX2_isBroken_5 : decode cX2_isBroken 5 = .ok (.aload_n 0, 1) := by decide +kernel
theorem dX2_isBroken_6 : decode cX2_isBroken 6 = .ok (.getfield 12, 3) := by decide +kernel
theorem dX2_isBroken_9 : decode cX2_isBroken 9 = .ok (.iload_n 1, 1) := by decide +kernel
theorem dX2_isBroken_10 : decode cX2_isBroken 10 = .ok (.invokevirtual 176, 3) := by decide +kernel
theorem dX2_isBroken_13 : decode cX2_isBroken 13 = .ok (.istore_n 3, 1) := by decide +kernel
theorem dX2_isBroken_14 : decode cX2_isBroken 14 = .ok (.iconst 0, 1) := by decide +kernel
theorem dX2_isBroken_15 : decode cX2_isBroken 15 = .ok (.istore 4, 2) := by decide +kernel
theorem dX2_isBroken_17 : decode cX2_isBroken 17 = .ok (.iload 4, 2) := by decide +kernel
theorem dX2_isBroken_19 : decode cX2_isBroken 19 = .ok (.bipush 60, 2) := by decide +kernel
theorem dX2_isBroken_21 : decode cX2_isBroken 21 = .ok (.if_icmp .ge 77, 3) := by decide +kernel
theorem dX2_isBroken_24 : decode cX2_isBroken 24 = .ok (.aload_n 2, 1) := by decide +kernel
theorem dX2_isBroken_25 : decode cX2_isBroken 25 = .ok (.iload 4, 2) := by decide +kernel
theorem dX2_isBroken_27 : decode cX2_isBroken 27 = .ok (.iconst 2, 1) := by decide +kernel
theorem dX2_isBroken_28 : decode cX2_isBroken 28 = .ok (.invokevirtual 142, 3) := by decide +kernel
theorem dX2_isBroken_31 : decode cX2_isBroken 31 = .ok (.ifCond .eq 61, 3) := by decide +kernel
theorem dX2_isBroken_34 : decode cX2_isBroken 34 = .ok (.aload_n 2, 1) := by decide +kernel
theorem dX2_isBroken_35 : decode cX2_isBroken 35 = .ok (.iload 4, 2) := by decide +kernel
theorem dX2_isBroken_37 : decode cX2_isBroken 37 = .ok (.invokevirtual 149, 3) := by decide +kernel
theorem dX2_isBroken_40 : decode cX2_isBroken 40 = .ok (.ifCond .eq 52, 3) := by decide +kernel
theorem dX2_isBroken_43 : decode cX2_isBroken 43 = .ok (.iload_n 3, 1) := by decide +kernel
theorem dX2_isBroken_44 : decode cX2_isBroken 44 = .ok (.aload_n 2, 1) := by decide +kernel
theorem dX2_isBroken_45 : decode cX2_isBroken 45 = .ok (.getfield 119, 3) := by decide +kernel
theorem dX2_isBroken_48 : decode cX2_isBroken 48 = .ok (.iload 4, 2) := by decide +kernel
theorem dX2_isBroken_50 : decode cX2_isBroken 50 = .ok (.iaload, 1) := by decide +kernel
theorem dX2_isBroken_51 : decode cX2_isBroken 51 = .ok (.ishr, 1) := by decide +kernel
theorem dX2_isBroken_52 : decode cX2_isBroken 52 = .ok (.iconst 1, 1) := by decide +kernel
theorem dX2_isBroken_53 : decode cX2_isBroken 53 = .ok (.iand, 1) := by decide +kernel
theorem dX2_isBroken_54 : decode cX2_isBroken 54 = .ok (.ifCond .eq 38, 3) := by decide +kernel
theorem dX2_isBroken_57 : decode cX2_isBroken 57 = .ok (.aload_n 2, 1) := by decide +kernel
theorem dX2_isBroken_58 : decode cX2_isBroken 58 = .ok (.aload_n 2, 1) := by decide +kernel
theorem dX2_isBroken_59 : decode cX2_isBroken 59 = .ok (.iload_n 1, 1) := by decide +kernel
theorem dX2_isBroken_60 : decode cX2_isBroken 60 = .ok (.aload_n 2, 1) := by decide +kernel
theorem dX2_isBroken_61 : decode cX2_isBroken 61 = .ok (.getfield 179, 3) := by decide +kernel
theorem dX2_isBroken_64 : decode cX2_isBroken 64 = .ok (.iload 4, 2) := by decide +kernel
theorem dX2_isBroken_66 : decode cX2_isBroken 66 = .ok (.iaload, 1) := by decide +kernel
theorem dX2_isBroken_67 : decode cX2_isBroken 67 = .ok (.aload_n 2, 1) := by decide +kernel
theorem dX2_isBroken_68 : decode cX2_isBroken 68 = .ok (.getfield 182, 3) := by decide +kernel
theorem dX2_isBroken_71 : decode cX2_isBroken 71 = .ok (.iload 4, 2) := by decide +kernel
theorem dX2_isBroken_73 : decode cX2_isBroken 73 = .ok (.iaload, 1) := by decide +kernel
theorem dX2_isBroken_74 : decode cX2_isBroken 74 = .ok (.aload_n 2, 1) := by decide +kernel
theorem dX2_isBroken_75 : decode cX2_isBroken 75 = .ok (.getfield 185, 3) := by decide +kernel
theorem dX2_isBroken_78 : decode cX2_isBroken 78 = .ok (.iload 4, 2) := by decide +kernel
theorem dX2_isBroken_80 : decode cX2_isBroken 80 = .ok (.iaload, 1) := by decide +kernel
theorem dX2_isBroken_81 : decode cX2_isBroken 81 = .ok (.invokevirtual 109, 3) := by decide +kernel
theorem dX2_isBroken_84 : decode cX2_isBroken 84 = .ok (.invokevirtual 149, 3) := by decide +kernel
theorem dX2_isBroken_87 : decode cX2_isBroken 87 = .ok (.ifCond .eq 5, 3) := by decide +kernel
theorem dX2_isBroken_90 : decode cX2_isBroken 90 = .ok (.iconst 1, 1) := by decide +kernel
theorem dX2_isBroken_91 : decode cX2_isBroken 91 = .ok (.ireturn, 1) := by decide +kernel
theorem dX2_isBroken_92 : decode cX2_isBroken 92 = .ok (.iinc 4 1, 3) := by decide +kernel
theorem dX2_isBroken_95 : decode cX2_isBroken 95 = .ok (.goto (-78), 3) := by decide +kernel
theorem dX2_isBroken_98 : decode cX2_isBroken 98 = .ok (.iconst 0, 1) := by decide +kernel
theorem dX2_isBroken_99 : decode cX2_isBroken 99 = .ok (.ireturn, 1) := by decide +kernel
theorem dX3_isKind_0 : decode cX3_isKind 0 = .ok (.iload_n 0, 1) := by decide +kernel
theorem dX3_isKind_1 : decode cX3_isKind 1 = .ok (.ifCond .lt 15, 3) := by decide +kernel
theorem dX3_isKind_4 : decode cX3_isKind 4 = .ok (.iload_n 0, 1) := by decide +kernel
theorem dX3_isKind_5 : decode cX3_isKind 5 = .ok (.getstatic 7, 3) := by decide +kernel
theorem dX3_isKind_8 : decode cX3_isKind 8 = .ok (.arraylength, 1) := by decide +kernel
theorem dX3_isKind_9 : decode cX3_isKind 9 = .ok (.if_icmp .ge 7, 3) := by decide +kernel
theorem dX3_isKind_12 : decode cX3_isKind 12 = .ok (.iconst 1, 1) := by decide +kernel
theorem dX3_isKind_13 : decode cX3_isKind 13 = .ok (.goto 4, 3) := by decide +kernel
theorem dX3_isKind_16 : decode cX3_isKind 16 = .ok (.iconst 0, 1) := by decide +kernel
theorem dX3_isKind_17 : decode cX3_isKind 17 = .ok (.ireturn, 1) := by decide +kernel
theorem dX3_widens_0 : decode cX3_widens 0 = .ok (.iload_n 0, 1) := by decide +kernel
theorem dX3_widens_1 : decode cX3_widens 1 = .ok (.invokestatic 13, 3) := by decide +kernel
theorem dX3_widens_4 : decode cX3_widens 4 = .ok (.ifCond .eq 26, 3) := by decide +kernel
theorem dX3_widens_7 : decode cX3_widens 7 = .ok (.iload_n 1, 1) := by decide +kernel
theorem dX3_widens_8 : decode cX3_widens 8 = .ok (.invokestatic 13, 3) := by decide +kernel
theorem dX3_widens_11 : decode cX3_widens 11 = .ok (.ifCond .eq 19, 3) := by decide +kernel
theorem dX3_widens_14 : decode cX3_widens 14 = .ok (.getstatic 7, 3) := by decide +kernel
theorem dX3_widens_17 : decode cX3_widens 17 = .ok (.iload_n 0, 1) := by decide +kernel
theorem dX3_widens_18 : decode cX3_widens 18 = .ok (.iaload, 1) := by decide +kernel
theorem dX3_widens_19 : decode cX3_widens 19 = .ok (.iload_n 1, 1) := by decide +kernel
theorem dX3_widens_20 : decode cX3_widens 20 = .ok (.ishr, 1) := by decide +kernel
theorem dX3_widens_21 : decode cX3_widens 21 = .ok (.iconst 1, 1) := by decide +kernel
theorem dX3_widens_22 : decode cX3_widens 22 = .ok (.iand, 1) := by decide +kernel
theorem dX3_widens_23 : decode cX3_widens 23 = .ok (.ifCond .eq 7, 3) := by decide +kernel
theorem dX3_widens_26 : decode cX3_widens 26 = .ok (.iconst 1, 1) := by decide +kernel
theorem dX3_widens_27 : decode cX3_widens 27 = .ok (.goto 4, 3) := by decide +kernel
theorem dX3_widens_30 : decode cX3_widens 30 = .ok (.iconst 0, 1) := by decide +kernel
theorem dX3_widens_31 : decode cX3_widens 31 = .ok (.ireturn, 1) := by decide +kernel
theorem dX3_comesOut_0 : decode cX3_comesOut 0 = .ok (.iload_n 0, 1) := by decide +kernel
theorem dX3_comesOut_1 : decode cX3_comesOut 1 = .ok (.tableswitch 86 0 7 #[47, 59, 64, 69, 74, 86, 78, 82], 47) := by decide +kernel
theorem dX3_comesOut_48 : decode cX3_comesOut 48 = .ok (.lload_n 1, 1) := by decide +kernel
theorem dX3_comesOut_49 : decode cX3_comesOut 49 = .ok (.lconst 0, 1) := by decide +kernel
theorem dX3_comesOut_50 : decode cX3_comesOut 50 = .ok (.lcmp, 1) := by decide +kernel
theorem dX3_comesOut_51 : decode cX3_comesOut 51 = .ok (.ifCond .eq 7, 3) := by decide +kernel
theorem dX3_comesOut_54 : decode cX3_comesOut 54 = .ok (.lconst 1, 1) := by decide +kernel
theorem dX3_comesOut_55 : decode cX3_comesOut 55 = .ok (.goto 4, 3) := by decide +kernel
theorem dX3_comesOut_58 : decode cX3_comesOut 58 = .ok (.lconst 0, 1) := by decide +kernel
theorem dX3_comesOut_59 : decode cX3_comesOut 59 = .ok (.lreturn, 1) := by decide +kernel
theorem dX3_comesOut_60 : decode cX3_comesOut 60 = .ok (.lload_n 1, 1) := by decide +kernel
theorem dX3_comesOut_61 : decode cX3_comesOut 61 = .ok (.l2i, 1) := by decide +kernel
theorem dX3_comesOut_62 : decode cX3_comesOut 62 = .ok (.i2b, 1) := by decide +kernel
theorem dX3_comesOut_63 : decode cX3_comesOut 63 = .ok (.i2l, 1) := by decide +kernel
theorem dX3_comesOut_64 : decode cX3_comesOut 64 = .ok (.lreturn, 1) := by decide +kernel
theorem dX3_comesOut_65 : decode cX3_comesOut 65 = .ok (.lload_n 1, 1) := by decide +kernel
theorem dX3_comesOut_66 : decode cX3_comesOut 66 = .ok (.l2i, 1) := by decide +kernel
theorem dX3_comesOut_67 : decode cX3_comesOut 67 = .ok (.i2c, 1) := by decide +kernel
theorem dX3_comesOut_68 : decode cX3_comesOut 68 = .ok (.i2l, 1) := by decide +kernel
theorem dX3_comesOut_69 : decode cX3_comesOut 69 = .ok (.lreturn, 1) := by decide +kernel
theorem dX3_comesOut_70 : decode cX3_comesOut 70 = .ok (.lload_n 1, 1) := by decide +kernel
theorem dX3_comesOut_71 : decode cX3_comesOut 71 = .ok (.l2i, 1) := by decide +kernel
theorem dX3_comesOut_72 : decode cX3_comesOut 72 = .ok (.i2s, 1) := by decide +kernel
theorem dX3_comesOut_73 : decode cX3_comesOut 73 = .ok (.i2l, 1) := by decide +kernel
theorem dX3_comesOut_74 : decode cX3_comesOut 74 = .ok (.lreturn, 1) := by decide +kernel
theorem dX3_comesOut_75 : decode cX3_comesOut 75 = .ok (.lload_n 1, 1) := by decide +kernel
theorem dX3_comesOut_76 : decode cX3_comesOut 76 = .ok (.l2i, 1) := by decide +kernel
theorem dX3_comesOut_77 : decode cX3_comesOut 77 = .ok (.i2l, 1) := by decide +kernel
theorem dX3_comesOut_78 : decode cX3_comesOut 78 = .ok (.lreturn, 1) := by decide +kernel
theorem dX3_comesOut_79 : decode cX3_comesOut 79 = .ok (.lload_n 1, 1) := by decide +kernel
theorem dX3_comesOut_80 : decode cX3_comesOut 80 = .ok (.l2f, 1) := by decide +kernel
theorem dX3_comesOut_81 : decode cX3_comesOut 81 = .ok (.f2l, 1) := by decide +kernel
theorem dX3_comesOut_82 : decode cX3_comesOut 82 = .ok (.lreturn, 1) := by decide +kernel
theorem dX3_comesOut_83 : decode cX3_comesOut 83 = .ok (.lload_n 1, 1) := by decide +kernel
theorem dX3_comesOut_84 : decode cX3_comesOut 84 = .ok (.l2d, 1) := by decide +kernel
theorem dX3_comesOut_85 : decode cX3_comesOut 85 = .ok (.d2l, 1) := by decide +kernel
theorem dX3_comesOut_86 : decode cX3_comesOut 86 = .ok (.lreturn, 1) := by decide +kernel
theorem dX3_comesOut_87 : decode cX3_comesOut 87 = .ok (.lload_n 1, 1) := by decide +kernel
theorem dX3_comesOut_88 : decode cX3_comesOut 88 = .ok (.lreturn, 1) := by decide +kernel
theorem dX4_init_0 : decode cX4_init 0 = .ok (.aload_n 0, 1) := by decide +kernel
theorem dX4_init_1 : decode cX4_init 1 = .ok (.invokespecial 3, 3) := by decide +kernel
theorem dX4_init_4 : decode cX4_init 4 = .ok (.aload_n 0, 1) := by decide +kernel
theorem dX4_init_5 : decode cX4_init 5 = .ok (.bipush 60, 2) := by decide +kernel
theorem dX4_init_7 : decode cX4_init 7 = .ok (.newarray .int, 2) := by decide +kernel
theorem dX4_init_9 : decode cX4_init 9 = .ok (.putfield 11, 3) := by decide +kernel
theorem dX4_init_12 : decode cX4_init 12 = .ok (.aload_n 0, 1) := by decide +kernel
theorem dX4_init_13 : decode cX4_init 13 = .ok (.aload_n 1, 1) := by decide +kernel
theorem dX4_init_14 : decode cX4_init 14 = .ok (.putfield 17, 3) := by decide +kernel
theorem dX4_init_17 : decode cX4_init 17 = .ok (.return_, 1) := by decide +kernel
theorem dX4_faultOf_0 : decode cX4_faultOf 0 = .ok (.aload_n 1, 1) := by decide +kernel
theorem dX4_faultOf_1 : decode cX4_faultOf 1 = .ok (.getfield 21, 3) := by decide +kernel
theorem dX4_faultOf_4 : decode cX4_faultOf 4 = .ok (.lookupswitch 40 #[(0, 28), (1, 34)], 28) := by decide +kernel
theorem dX4_faultOf_32 : decode cX4_faultOf 32 = .ok (.aload_n 0, 1) := by decide +kernel
theorem dX4_faultOf_33 : decode cX4_faultOf 33 = .ok (.aload_n 1, 1) := by decide +kernel
theorem dX4_faultOf_34 : decode cX4_faultOf 34 = .ok (.invokevirtual 27, 3) := by decide +kernel
theorem dX4_faultOf_37 : decode cX4_faultOf 37 = .ok (.ireturn, 1) := by decide +kernel
theorem dX4_faultOf_38 : decode cX4_faultOf 38 = .ok (.aload_n 0, 1) := by decide +kernel
theorem dX4_faultOf_39 : decode cX4_faultOf 39 = .ok (.aload_n 1, 1) := by decide +kernel
theorem dX4_faultOf_40 : decode cX4_faultOf 40 = .ok (.invokevirtual 31, 3) := by decide +kernel
theorem dX4_faultOf_43 : decode cX4_faultOf 43 = .ok (.ireturn, 1) := by decide +kernel
theorem dX4_faultOf_44 : decode cX4_faultOf 44 = .ok (.aload_n 0, 1) := by decide +kernel
theorem dX4_faultOf_45 : decode cX4_faultOf 45 = .ok (.getfield 17, 3) := by decide +kernel
theorem dX4_faultOf_48 : decode cX4_faultOf 48 = .ok (.getfield 34, 3) := by decide +kernel
theorem dX4_faultOf_51 : decode cX4_faultOf 51 = .ok (.aload_n 1, 1) := by decide +kernel
theorem dX4_faultOf_52 : decode cX4_faultOf 52 = .ok (.getfield 40, 3) := by decide +kernel
theorem dX4_faultOf_55 : decode cX4_faultOf 55 = .ok (.invokevirtual 43, 3) := by decide +kernel
theorem dX4_faultOf_58 : decode cX4_faultOf 58 = .ok (.ifCond .ne 20, 3) := by decide +kernel
theorem dX4_faultOf_61 : decode cX4_faultOf 61 = .ok (.aload_n 0, 1) := by decide +kernel
theorem dX4_faultOf_62 : decode cX4_faultOf 62 = .ok (.getfield 17, 3) := by decide +kernel
theorem dX4_faultOf_65 : decode cX4_faultOf 65 = .ok (.getfield 34, 3) := by decide +kernel
theorem dX4_faultOf_68 : decode cX4_faultOf 68 = .ok (.aload_n 1, 1) := by decide +kernel
theorem dX4_faultOf_69 : decode cX4_faultOf 69 = .ok (.getfield 40, 3) := by decide +kernel
theorem dX4_faultOf_72 : decode cX4_faultOf 72 = .ok (.invokevirtual 49, 3) := by decide +kernel
theorem dX4_faultOf_75 : decode cX4_faultOf 75 = .ok (.ifCond .eq 7, 3) := by decide +kernel
theorem dX4_faultOf_78 : decode cX4_faultOf 78 = .ok (.iconst 3, 1) := by decide +kernel
theorem dX4_faultOf_79 : decode cX4_faultOf 79 = .ok (.goto 4, 3) := by decide +kernel
theorem dX4_faultOf_82 : decode cX4_faultOf 82 = .ok (.iconst 0, 1) := by decide +kernel
theorem dX4_faultOf_83 : decode cX4_faultOf 83 = .ok (.ireturn, 1) := by decide +kernel
theorem dX4_faultOfGet_0 : decode cX4_faultOfGet 0 = .ok (.aload_n 0, 1) := by decide +kernel
theorem dX4_faultOfGet_1 : decode cX4_faultOfGet 1 = .ok (.getfield 17, 3) := by decide +kernel
theorem dX4_faultOfGet_4 : decode cX4_faultOfGet 4 = .ok (.getfield 52, 3) := by decide +kernel
theorem dX4_faultOfGet_7 : decode cX4_faultOfGet 7 = .ok (.astore_n 2, 1) := by decide +kernel
theorem dX4_faultOfGet_8 : decode cX4_faultOfGet 8 = .ok (.aload_n 0, 1) := by decide +kernel
theorem dX4_faultOfGet_9 : decode cX4_faultOfGet 9 = .ok (.getfield 17, 3) := by decide +kernel
theorem dX4_faultOfGet_12 : decode cX4_faultOfGet 12 = .ok (.aload_n 1, 1) := by decide +kernel
theorem dX4_faultOfGet_13 : decode cX4_faultOfGet 13 = .ok (.getfield 40, 3) := by decide +kernel
theorem dX4_faultOfGet_16 : decode cX4_faultOfGet 16 = .ok (.aload_n 1, 1) := by decide +kernel
theorem dX4_faultOfGet_17 : decode cX4_faultOfGet 17 = .ok (.getfield 56, 3) := by decide +kernel
theorem dX4_faultOfGet_20 : decode cX4_faultOfGet 20 = .ok (.iconst 1, 1) := by decide +kernel
theorem dX4_faultOfGet_21 : decode cX4_faultOfGet 21 = .ok (.invokevirtual 59, 3) := by decide +kernel
theorem dX4_faultOfGet_24 : decode cX4_faultOfGet 24 = .ok (.istore_n 3, 1) := by decide +kernel
theorem dX4_faultOfGet_25 : decode cX4_faultOfGet 25 = .ok (.aload_n 2, 1) := by decide +kernel
theorem dX4_faultOfGet_26 : decode cX4_faultOfGet 26 = .ok (.iload_n 3, 1) := by decide +kernel
theorem dX4_faultOfGet_27 : decode cX4_faultOfGet 27 = .ok (.invokevirtual 63, 3) := by decide +kernel
theorem dX4_faultOfGet_30 : decode cX4_faultOfGet 30 = .ok (.ifCond .ne 5, 3) := by decide +kernel
theorem dX4_faultOfGet_33 : decode cX4_faultOfGet 33 = .ok (.iconst 1, 1) := by decide +kernel
theorem dX4_faultOfGet_34 : decode cX4_faultOfGet 34 = .ok (.ireturn, 1) := by decide +kernel
theorem dX4_faultOfGet_35 : decode cX4_faultOfGet 35 = .ok (.aload_n 1, 1) := by decide +kernel
theorem dX4_faultOfGet_36 : decode cX4_faultOfGet 36 = .ok (.aload_n 2, 1) := by decide +kernel
theorem dX4_faultOfGet_37 : decode cX4_faultOfGet 37 = .ok (.getfield 66, 3) := by decide +kernel
theorem dX4_faultOfGet_40 : decode cX4_faultOfGet 40 = .ok (.iload_n 3, 1) := by decide +kernel
theorem dX4_faultOfGet_41 : decode cX4_faultOfGet 41 = .ok (.iaload, 1) := by decide +kernel
theorem dX4_faultOfGet_42 : decode cX4_faultOfGet 42 = .ok (.putfield 69, 3) := by decide +kernel
theorem dX4_faultOfGet_45 : decode cX4_faultOfGet 45 = .ok (.aload_n 1, 1) := by decide +kernel
theorem dX4_faultOfGet_46 : decode cX4_faultOfGet 46 = .ok (.aload_n 2, 1) := by decide +kernel
theorem dX4_faultOfGet_47 : decode cX4_faultOfGet 47 = .ok (.iload_n 3, 1) := by decide +kernel
theorem dX4_faultOfGet_48 : decode cX4_faultOfGet 48 = .ok (.iconst 1, 1) := by decide +kernel
theorem dX4_faultOfGet_49 : decode cX4_faultOfGet 49 = .ok (.invokevirtual 72, 3) := by decide +kernel
theorem dX4_faultOfGet_52 : decode cX4_faultOfGet 52 = .ok (.putfield 76, 3) := by decide +kernel
theorem dX4_faultOfGet_55 : decode cX4_faultOfGet 55 = .ok (.aload_n 1, 1) := by decide +kernel
theorem dX4_faultOfGet_56 : decode cX4_faultOfGet 56 = .ok (.aload_n 1, 1) := by decide +kernel
theorem dX4_faultOfGet_57 : decode cX4_faultOfGet 57 = .ok (.getfield 76, 3) := by decide +kernel
theorem dX4_faultOfGet_60 : decode cX4_faultOfGet 60 = .ok (.ifCond .eq 16, 3) := by decide +kernel
theorem dX4_faultOfGet_63 : decode cX4_faultOfGet 63 = .ok (.aload_n 2, 1) := by decide +kernel
theorem dX4_faultOfGet_64 : decode cX4_faultOfGet 64 = .ok (.iload_n 3, 1) := by decide +kernel
theorem dX4_faultOfGet_65 : decode cX4_faultOfGet 65 = .ok (.iconst 2, 1) := by decide +kernel
theorem dX4_faultOfGet_66 : decode cX4_faultOfGet 66 = .ok (.invokevirtual 72, 3) := by decide +kernel
theorem dX4_faultOfGet_69 : decode cX4_faultOfGet 69 = .ok (.ifCond .eq 7, 3) := by decide +kernel
theorem dX4_faultOfGet_72 : decode cX4_faultOfGet 72 = .ok (.iconst 1, 1) := by decide +kernel
theorem dX4_faultOfGet_73 : decode cX4_faultOfGet 73 = .ok (.goto 4, 3) := by decide +kernel
theorem dX4_faultOfGet_76 : decode cX4_faultOfGet 76 = .ok (.iconst 0, 1) := by decide +kernel
theorem dX4_faultOfGet_77 : decode cX4_faultOfGet 77 = .ok (.putfield 80, 3) := by decide +kernel
theorem dX4_faultOfGet_80 : decode cX4_faultOfGet 80 = .ok (.aload_n 1, 1) := by decide +kernel
theorem dX4_faultOfGet_81 : decode cX4_faultOfGet 81 = .ok (.aload_n 1, 1) := by decide +kernel
theorem dX4_faultOfGet_82 : decode cX4_faultOfGet 82 = .ok (.getfield 80, 3) := by decide +kernel
theorem dX4_faultOfGet_85 : decode cX4_faultOfGet 85 = .ok (.ifCond .eq 12, 3) := by decide +kernel
theorem dX4_faultOfGet_88 : decode cX4_faultOfGet 88 = .ok (.aload_n 2, 1) := by decide +kernel
theorem dX4_faultOfGet_89 : decode cX4_faultOfGet 89 = .ok (.getfield 83, 3) := by decide +kernel
theorem dX4_faultOfGet_92 : decode cX4_faultOfGet 92 = .ok (.iload_n 3, 1) := by decide +kernel
theorem dX4_faultOfGet_93 : decode cX4_faultOfGet 93 = .ok (.laload, 1) := by decide +kernel
theorem dX4_faultOfGet_94 : decode cX4_faultOfGet 94 = .ok (.goto 4, 3) := by decide +kernel
theorem dX4_faultOfGet_97 : decode cX4_faultOfGet 97 = .ok (.lconst 0, 1) := by decide +kernel
theorem dX4_faultOfGet_98 : decode cX4_faultOfGet 98 = .ok (.putfield 87, 3) := by decide +kernel
theorem dX4_faultOfGet_101 : decode cX4_faultOfGet 101 = .ok (.iconst 0, 1) := by decide +kernel
theorem dX4_faultOfGet_102 : decode cX4_faultOfGet 102 = .ok (.ireturn, 1) := by decide +kernel
theorem dX4_faultOfCall_0 : decode cX4_faultOfCall 0 = .ok (.aload_n 0, 1) := by decide +kernel
theorem dX4_faultOfCall_1 : decode cX4_faultOfCall 1 = .ok (.getfield 17, 3) := by decide +kernel
theorem dX4_faultOfCall_4 : decode cX4_faultOfCall 4 = .ok (.getfield 52, 3) := by decide +kernel
theorem dX4_faultOfCall_7 : decode cX4_faultOfCall 7 = .ok (.astore_n 2, 1) := by decide +kernel
theorem dX4_faultOfCall_8 : decode cX4_faultOfCall 8 = .ok (.aload_n 0, 1) := by decide +kernel
theorem dX4_faultOfCall_9 : decode cX4_faultOfCall 9 = .ok (.aload_n 1, 1) := by decide +kernel
theorem dX4_faultOfCall_10 : decode cX4_faultOfCall 10 = .ok (.invokevirtual 91, 3) := by decide +kernel
theorem dX4_faultOfCall_13 : decode cX4_faultOfCall 13 = .ok (.aload_n 0, 1) := by decide +kernel
theorem dX4_faultOfCall_14 : decode cX4_faultOfCall 14 = .ok (.getfield 95, 3) := by decide +kernel
theorem dX4_faultOfCall_17 : decode cX4_faultOfCall 17 = .ok (.ifCond .ne 5, 3) := by decide +kernel
theorem dX4_faultOfCall_20 : decode cX4_faultOfCall 20 = .ok (.iconst 1, 1) := by decide +kernel
theorem dX4_faultOfCall_21 : decode cX4_faultOfCall 21 = .ok (.ireturn, 1) := by decide +kernel
theorem dX4_faultOfCall_22 : decode cX4_faultOfCall 22 = .ok (.aload_n 0, 1) := by decide +kernel
theorem dX4_faultOfCall_23 : decode cX4_faultOfCall 23 = .ok (.invokevirtual 98, 3) := by decide +kernel
theorem dX4_faultOfCall_26 : decode cX4_faultOfCall 26 = .ok (.istore_n 3, 1) := by decide +kernel
theorem dX4_faultOfCall_27 : decode cX4_faultOfCall 27 = .ok (.aload_n 2, 1) := by decide +kernel
theorem dX4_faultOfCall_28 : decode cX4_faultOfCall 28 = .ok (.iload_n 3, 1) := by decide +kernel
theorem dX4_faultOfCall_29 : decode cX4_faultOfCall 29 = .ok (.invokevirtual 102, 3) := by decide +kernel
theorem dX4_faultOfCall_32 : decode cX4_faultOfCall 32 = .ok (.ifCond .ne 5, 3) := by decide +kernel
theorem dX4_faultOfCall_35 : decode cX4_faultOfCall 35 = .ok (.iconst 2, 1) := by decide +kernel
theorem dX4_faultOfCall_36 : decode cX4_faultOfCall 36 = .ok (.ireturn, 1) := by decide +kernel
theorem dX4_faultOfCall_37 : decode cX4_faultOfCall 37 = .ok (.aload_n 1, 1) := by decide +kernel
theorem dX4_faultOfCall_38 : decode cX4_faultOfCall 38 = .ok (.aload_n 0, 1) := by decide +kernel
theorem dX4_faultOfCall_39 : decode cX4_faultOfCall 39 = .ok (.getfield 17, 3) := by decide +kernel
theorem dX4_faultOfCall_42 : decode cX4_faultOfCall 42 = .ok (.getfield 34, 3) := by decide +kernel
theorem dX4_faultOfCall_45 : decode cX4_faultOfCall 45 = .ok (.aload_n 1, 1) := by decide +kernel
theorem dX4_faultOfCall_46 : decode cX4_faultOfCall 46 = .ok (.getfield 40, 3) := by decide +kernel
theorem dX4_faultOfCall_49 : decode cX4_faultOfCall 49 = .ok (.invokevirtual 43, 3) := by decide +kernel
theorem dX4_faultOfCall_52 : decode cX4_faultOfCall 52 = .ok (.putfield 105, 3) := by decide +kernel
theorem dX4_faultOfCall_55 : decode cX4_faultOfCall 55 = .ok (.aload_n 1, 1) := by decide +kernel
theorem dX4_faultOfCall_56 : decode cX4_faultOfCall 56 = .ok (.aload_n 2, 1) := by decide +kernel
theorem dX4_faultOfCall_57 : decode cX4_faultOfCall 57 = .ok (.getfield 66, 3) := by decide +kernel
theorem dX4_faultOfCall_60 : decode cX4_faultOfCall 60 = .ok (.iload_n 3, 1) := by decide +kernel
theorem dX4_faultOfCall_61 : decode cX4_faultOfCall 61 = .ok (.iaload, 1) := by decide +kernel
theorem dX4_faultOfCall_62 : decode cX4_faultOfCall 62 = .ok (.putfield 108, 3) := by decide +kernel
theorem dX4_faultOfCall_65 : decode cX4_faultOfCall 65 = .ok (.aload_n 1, 1) := by decide +kernel
theorem dX4_faultOfCall_66 : decode cX4_faultOfCall 66 = .ok (.aload_n 2, 1) := by decide +kernel
theorem dX4_faultOfCall_67 : decode cX4_faultOfCall 67 = .ok (.getfield 110, 3) := by decide +kernel
theorem dX4_faultOfCall_70 : decode cX4_faultOfCall 70 = .ok (.iload_n 3, 1) := by decide +kernel
theorem dX4_faultOfCall_71 : decode cX4_faultOfCall 71 = .ok (.iaload, 1) := by decide +kernel
theorem dX4_faultOfCall_72 : decode cX4_faultOfCall 72 = .ok (.putfield 113, 3) := by decide +kernel
theorem dX4_faultOfCall_75 : decode cX4_faultOfCall 75 = .ok (.aload_n 1, 1) := by decide +kernel
theorem dX4_faultOfCall_76 : decode cX4_faultOfCall 76 = .ok (.aload_n 2, 1) := by decide +kernel
theorem dX4_faultOfCall_77 : decode cX4_faultOfCall 77 = .ok (.iload_n 3, 1) := by decide +kernel
theorem dX4_faultOfCall_78 : decode cX4_faultOfCall 78 = .ok (.iconst 1, 1) := by decide +kernel
theorem dX4_faultOfCall_79 : decode cX4_faultOfCall 79 = .ok (.invokevirtual 72, 3) := by decide +kernel
theorem dX4_faultOfCall_82 : decode cX4_faultOfCall 82 = .ok (.putfield 76, 3) := by decide +kernel
theorem dX4_faultOfCall_85 : decode cX4_faultOfCall 85 = .ok (.iconst 0, 1) := by decide +kernel
theorem dX4_faultOfCall_86 : decode cX4_faultOfCall 86 = .ok (.ireturn, 1) := by decide +kernel
theorem dX4_findFitting_0 : decode cX4_findFitting 0 = .ok (.aload_n 0, 1) := by decide +kernel
theorem dX4_findFitting_1 : decode cX4_findFitting 1 = .ok (.iconst 0, 1) := by decide +kernel
theorem dX4_findFitting_2 : decode cX4_findFitting 2 = .ok (.putfield 95, 3) := by decide +kernel
theorem dX4_findFitting_5 : decode cX4_findFitting 5 = .ok (.aload_n 0, 1) := by decide +kernel
theorem dX4_findFitting_6 : decode cX4_findFitting 6 = .ok (.getfield 17, 3) := by decide +kernel
theorem dX4_findFitting_9 : decode cX4_findFitting 9 = .ok (.getfield 34, 3) := by decide +kernel
theorem dX4_findFitting_12 : decode cX4_findFitting 12 = .ok (.aload_n 1, 1) := by decide +kernel
theorem dX4_findFitting_13 : decode cX4_findFitting 13 = .ok (.getfield 40, 3) := by decide +kernel
theorem dX4_findFitting_16 : decode cX4_findFitting 16 = .ok (.iconst 0, 1) := by decide +kernel
theorem dX4_findFitting_17 : decode cX4_findFitting 17 = .ok (.invokevirtual 115, 3) := by decide +kernel
theorem dX4_findFitting_20 : decode cX4_findFitting 20 = .ok (.iconst 0, 1) := by decide +kernel
theorem dX4_findFitting_21 : decode cX4_findFitting 21 = .ok (.istore_n 2, 1) := by decide +kernel
theorem dX4_findFitting_22 : decode cX4_findFitting 22 = .ok (.iload_n 2, 1) := by decide +kernel
theorem dX4_findFitting_23 : decode cX4_findFitting 23 = .ok (.bipush 60, 2) := by decide +kernel
theorem dX4_findFitting_25 : decode cX4_findFitting 25 = .ok (.if_icmp .ge 50, 3) := by decide +kernel
theorem dX4_findFitting_28 : decode cX4_findFitting 28 = .ok (.aload_n 0, 1) := by decide +kernel
theorem dX4_findFitting_29 : decode cX4_findFitting 29 = .ok (.getfield 95, 3) := by decide +kernel
theorem dX4_findFitting_32 : decode cX4_findFitting 32 = .ok (.aload_n 0, 1) := by decide +kernel
theorem dX4_findFitting_33 : decode cX4_findFitting 33 = .ok (.getfield 11, 3) := by decide +kernel
theorem dX4_findFitting_36 : decode cX4_findFitting 36 = .ok (.arraylength, 1) := by decide +kernel
theorem dX4_findFitting_37 : decode cX4_findFitting 37 = .ok (.if_icmp .ge 38, 3) := by decide +kernel
theorem dX4_findFitting_40 : decode cX4_findFitting 40 = .ok (.aload_n 0, 1) := by decide +kernel
theorem dX4_findFitting_41 : decode cX4_findFitting 41 = .ok (.iload_n 2, 1) := by decide +kernel
theorem dX4_findFitting_42 : decode cX4_findFitting 42 = .ok (.aload_n 1, 1) := by decide +kernel
theorem dX4_findFitting_43 : decode cX4_findFitting 43 = .ok (.invokevirtual 119, 3) := by decide +kernel
theorem dX4_findFitting_46 : decode cX4_findFitting 46 = .ok (.ifCond .eq 23, 3) := by decide +kernel
theorem dX4_findFitting_49 : decode cX4_findFitting 49 = .ok (.aload_n 0, 1) := by decide +kernel
theorem dX4_findFitting_50 : decode cX4_findFitting 50 = .ok (.getfield 11, 3) := by decide +kernel
theorem dX4_findFitting_53 : decode cX4_findFitting 53 = .ok (.aload_n 0, 1) := by decide +kernel
theorem dX4_findFitting_54 : decode cX4_findFitting 54 = .ok (.getfield 95, 3) := by decide +kernel
theorem dX4_findFitting_57 : decode cX4_findFitting 57 = .ok (.iload_n 2, 1) := by decide +kernel
theorem dX4_findFitting_58 : decode cX4_findFitting 58 = .ok (.iastore, 1) := by decide +kernel
theorem dX4_findFitting_59 : decode cX4_findFitting 59 = .ok (.aload_n 0, 1) := by decide +kernel
theorem dX4_findFitting_60 : decode cX4_findFitting 60 = .ok (.dup, 1) := by decide +kernel
theorem dX4_findFitting_61 : decode cX4_findFitting 61 = .ok (.getfield 95, 3) := by decide +kernel
theorem dX4_findFitting_64 : decode cX4_findFitting 64 = .ok (.iconst 1, 1) := by decide +kernel
theorem dX4_findFitting_65 : decode cX4_findFitting 65 = .ok (.iadd, 1) := by decide +kernel
theorem dX4_findFitting_66 : decode cX4_findFitting 66 = .ok (.putfield 95, 3) := by decide +kernel
theorem dX4_findFitting_69 : decode cX4_findFitting 69 = .ok (.iinc 2 1, 3) := by decide +kernel
theorem dX4_findFitting_72 : decode cX4_findFitting 72 = .ok (.goto (-50), 3) := by decide +kernel
theorem dX4_findFitting_75 : decode cX4_findFitting 75 = .ok (.return_, 1) := by decide +kernel
theorem dX4_fits_0 : decode cX4_fits 0 = .ok (.aload_n 0, 1) := by decide +kernel
theorem dX4_fits_1 : decode cX4_fits 1 = .ok (.getfield 17, 3) := by decide +kernel
theorem dX4_fits_4 : decode cX4_fits 4 = .ok (.getfield 52, 3) := by decide +kernel
theorem dX4_fits_7 : decode cX4_fits 7 = .ok (.astore_n 3, 1) := by decide +kernel
theorem dX4_fits_8 : decode cX4_fits 8 = .ok (.aload_n 3, 1) := by decide +kernel
theorem dX4_fits_9 : decode cX4_fits 9 = .ok (.iload_n 1, 1) := by decide +kernel
theorem dX4_fits_10 : decode cX4_fits 10 = .ok (.invokevirtual 102, 3) := by decide +kernel
theorem dX4_fits_13 : decode cX4_fits 13 = .ok (.ifCond .eq 25, 3) := by decide +kernel
theorem dX4_fits_16 : decode cX4_fits 16 = .ok (.aload_n 3, 1) := by decide +kernel
theorem dX4_fits_17 : decode cX4_fits 17 = .ok (.getfield 123, 3) := by decide +kernel
theorem dX4_fits_20 : decode cX4_fits 20 = .ok (.iload_n 1, 1) := by decide +kernel
theorem dX4_fits_21 : decode cX4_fits 21 = .ok (.iaload, 1) := by decide +kernel
theorem dX4_fits_22 : decode cX4_fits 22 = .ok (.aload_n 2, 1) := by decide +kernel
theorem dX4_fits_23 : decode cX4_fits 23 = .ok (.getfield 56, 3) := by decide +kernel
theorem dX4_fits_26 : decode cX4_fits 26 = .ok (.if_icmp .ne 12, 3) := by decide +kernel
theorem dX4_fits_29 : decode cX4_fits 29 = .ok (.aload_n 3, 1) := by decide +kernel
theorem dX4_fits_30 : decode cX4_fits 30 = .ok (.iload_n 1, 1) := by decide +kernel
theorem dX4_fits_31 : decode cX4_fits 31 = .ok (.iconst 4, 1) := by decide +kernel
theorem dX4_fits_32 : decode cX4_fits 32 = .ok (.invokevirtual 72, 3) := by decide +kernel
theorem dX4_fits_35 : decode cX4_fits 35 = .ok (.ifCond .eq 5, 3) := by decide +kernel
theorem dX4_fits_38 : decode cX4_fits 38 = .ok (.iconst 0, 1) := by decide +kernel
theorem dX4_fits_39 : decode cX4_fits 39 = .ok (.ireturn, 1) := by decide +kernel
theorem dX4_fits_40 : decode cX4_fits 40 = .ok (.aload_n 3, 1) := by decide +kernel
theorem dX4_fits_41 : decode cX4_fits 41 = .ok (.getfield 66, 3) := by decide +kernel
theorem dX4_fits_44 : decode cX4_fits 44 = .ok (.iload_n 1, 1) := by decide +kernel
theorem dX4_fits_45 : decode cX4_fits 45 = .ok (.iaload, 1) := by decide +kernel
theorem dX4_fits_46 : decode cX4_fits 46 = .ok (.istore 4, 2) := by decide +kernel
theorem dX4_fits_48 : decode cX4_fits 48 = .ok (.aload_n 3, 1) := by decide +kernel
theorem dX4_fits_49 : decode cX4_fits 49 = .ok (.getfield 110, 3) := by decide +kernel
theorem dX4_fits_52 : decode cX4_fits 52 = .ok (.iload_n 1, 1) := by decide +kernel
theorem dX4_fits_53 : decode cX4_fits 53 = .ok (.iaload, 1) := by decide +kernel
theorem dX4_fits_54 : decode cX4_fits 54 = .ok (.istore 5, 2) := by decide +kernel
theorem dX4_fits_56 : decode cX4_fits 56 = .ok (.aload_n 0, 1) := by decide +kernel
theorem dX4_fits_57 : decode cX4_fits 57 = .ok (.getfield 17, 3) := by decide +kernel
theorem dX4_fits_60 : decode cX4_fits 60 = .ok (.getfield 34, 3) := by decide +kernel
theorem dX4_fits_63 : decode cX4_fits 63 = .ok (.aload_n 2, 1) := by decide +kernel
theorem dX4_fits_64 : decode cX4_fits 64 = .ok (.getfield 126, 3) := by decide +kernel
theorem dX4_fits_67 : decode cX4_fits 67 = .ok (.iload 4, 2) := by decide +kernel
theorem dX4_fits_69 : decode cX4_fits 69 = .ok (.invokevirtual 129, 3) := by decide +kernel
theorem dX4_fits_72 : decode cX4_fits 72 = .ok (.ifCond .eq 45, 3) := by decide +kernel
theorem dX4_fits_75 : decode cX4_fits 75 = .ok (.aload_n 0, 1) := by decide +kernel
theorem dX4_fits_76 : decode cX4_fits 76 = .ok (.getfield 17, 3) := by decide +kernel
theorem dX4_fits_79 : decode cX4_fits 79 = .ok (.getfield 34, 3) := by decide +kernel
theorem dX4_fits_82 : decode cX4_fits 82 = .ok (.aload_n 2, 1) := by decide +kernel
theorem dX4_fits_83 : decode cX4_fits 83 = .ok (.getfield 132, 3) := by decide +kernel
theorem dX4_fits_86 : decode cX4_fits 86 = .ok (.iload 5, 2) := by decide +kernel
theorem dX4_fits_88 : decode cX4_fits 88 = .ok (.invokevirtual 129, 3) := by decide +kernel
theorem dX4_fits_91 : decode cX4_fits 91 = .ok (.ifCond .eq 26, 3) := by decide +kernel
theorem dX4_fits_94 : decode cX4_fits 94 = .ok (.aload_n 0, 1) := by decide +kernel
theorem dX4_fits_95 : decode cX4_fits 95 = .ok (.getfield 17, 3) := by decide +kernel
theorem dX4_fits_98 : decode cX4_fits 98 = .ok (.aload_n 2, 1) := by decide +kernel
theorem dX4_fits_99 : decode cX4_fits 99 = .ok (.getfield 56, 3) := by decide +kernel
theorem dX4_fits_102 : decode cX4_fits 102 = .ok (.iload 4, 2) := by decide +kernel
theorem dX4_fits_104 : decode cX4_fits 104 = .ok (.iload 5, 2) := by decide +kernel
theorem dX4_fits_106 : decode cX4_fits 106 = .ok (.invokevirtual 135, 3) := by decide +kernel
theorem dX4_fits_109 : decode cX4_fits 109 = .ok (.iload_n 1, 1) := by decide +kernel
theorem dX4_fits_110 : decode cX4_fits 110 = .ok (.if_icmp .ne 7, 3) := by decide +kernel
theorem dX4_fits_113 : decode cX4_fits 113 = .ok (.iconst 1, 1) := by decide +kernel
theorem dX4_fits_114 : decode cX4_fits 114 = .ok (.goto 4, 3) := by decide +kernel
theorem dX4_fits_117 : decode cX4_fits 117 = .ok (.iconst 0, 1) := by decide +kernel
theorem dX4_fits_118 : decode cX4_fits 118 = .ok (.ireturn, 1) := by decide +kernel
theorem dX4_narrowest_0 : decode cX4_narrowest 0 = .ok (.iconst 0, 1) := by decide +kernel
theorem dX4_narrowest_1 : decode cX4_narrowest 1 = .ok (.istore_n 1, 1) := by decide +kernel
theorem dX4_narrowest_2 : decode cX4_narrowest 2 = .ok (.iload_n 1, 1) := by decide +kernel
theorem dX4_narrowest_3 : decode cX4_narrowest 3 = .ok (.aload_n 0, 1) := by decide +kernel
theorem dX4_narrowest_4 : decode cX4_narrowest 4 = .ok (.getfield 95, 3) := by decide +kernel
theorem dX4_narrowest_7 : decode cX4_narrowest 7 = .ok (.if_icmp .ge 29, 3) := by decide +kernel
theorem dX4_narrowest_10 : decode cX4_narrowest 10 = .ok (.aload_n 0, 1) := by decide +kernel
theorem dX4_narrowest_11 : decode cX4_narrowest 11 = .ok (.aload_n 0, 1) := by decide +kernel
theorem dX4_narrowest_12 : decode cX4_narrowest 12 = .ok (.getfield 11, 3) := by decide +kernel
theorem dX4_narrowest_15 : decode cX4_narrowest 15 = .ok (.iload_n 1, 1) := by decide +kernel
theorem dX4_narrowest_16 : decode cX4_narrowest 16 = .ok (.iaload, 1) := by decide +kernel
theorem dX4_narrowest_17 : decode cX4_narrowest 17 = .ok (.invokevirtual 139, 3) := by decide +kernel
theorem dX4_narrowest_20 : decode cX4_narrowest 20 = .ok (.ifCond .eq 10, 3) := by decide +kernel
theorem dX4_narrowest_23 : decode cX4_narrowest 23 = .ok (.aload_n 0, 1) := by decide +kernel
theorem dX4_narrowest_24 : decode cX4_narrowest 24 = .ok (.getfield 11, 3) := by decide +kernel
theorem dX4_narrowest_27 : decode cX4_narrowest 27 = .ok (.iload_n 1, 1) := by decide +kernel
theorem dX4_narrowest_28 : decode cX4_narrowest 28 = .ok (.iaload, 1) := by decide +kernel
theorem dX4_narrowest_29 : decode cX4_narrowest 29 = .ok (.ireturn, 1) := by decide +kernel
theorem dX4_narrowest_30 : decode cX4_narrowest 30 = .ok (.iinc 1 1, 3) := by decide +kernel
theorem dX4_narrowest_33 : decode cX4_narrowest 33 = .ok (.goto (-31), 3) := by decide +kernel
theorem dX4_narrowest_36 : decode cX4_narrowest 36 = .ok (.bipush (-2), 2) := by decide +kernel
theorem dX4_narrowest_38 : decode cX4_narrowest 38 = .ok (.ireturn, 1) := by decide +kernel
theorem dX4_goesIntoAll_0 : decode cX4_goesIntoAll 0 = .ok (.aload_n 0, 1) := by decide +kernel
theorem dX4_goesIntoAll_1 : decode cX4_goesIntoAll 1 = .ok (.getfield 17, 3) := by decide +kernel
theorem dX4_goesIntoAll_4 : decode cX4_goesIntoAll 4 = .ok (.getfield 52, 3) := by decide +kernel
theorem dX4_goesIntoAll_7 : decode cX4_goesIntoAll 7 = .ok (.astore_n 2, 1) := by decide +kernel
theorem dX4_goesIntoAll_8 : decode cX4_goesIntoAll 8 = .ok (.iconst 0, 1) := by decide +kernel
theorem dX4_goesIntoAll_9 : decode cX4_goesIntoAll 9 = .ok (.istore_n 3, 1) := by decide +kernel
theorem dX4_goesIntoAll_10 : decode cX4_goesIntoAll 10 = .ok (.iload_n 3, 1) := by decide +kernel
theorem dX4_goesIntoAll_11 : decode cX4_goesIntoAll 11 = .ok (.aload_n 0, 1) := by decide +kernel
theorem dX4_goesIntoAll_12 : decode cX4_goesIntoAll 12 = .ok (.getfield 95, 3) := by decide +kernel
theorem dX4_goesIntoAll_15 : decode cX4_goesIntoAll 15 = .ok (.if_icmp .ge 71, 3) := by decide +kernel
theorem dX4_goesIntoAll_18 : decode cX4_goesIntoAll 18 = .ok (.aload_n 0, 1) := by decide +kernel
theorem dX4_goesIntoAll_19 : decode cX4_goesIntoAll 19 = .ok (.getfield 11, 3) := by decide +kernel
theorem dX4_goesIntoAll_22 : decode cX4_goesIntoAll 22 = .ok (.iload_n 3, 1) := by decide +kernel
theorem dX4_goesIntoAll_23 : decode cX4_goesIntoAll 23 = .ok (.iaload, 1) := by decide +kernel
theorem dX4_goesIntoAll_24 : decode cX4_goesIntoAll 24 = .ok (.istore 4, 2) := by decide +kernel
theorem dX4_goesIntoAll_26 : decode cX4_goesIntoAll 26 = .ok (.aload_n 0, 1) := by decide +kernel
theorem dX4_goesIntoAll_27 : decode cX4_goesIntoAll 27 = .ok (.getfield 17, 3) := by decide +kernel
theorem dX4_goesIntoAll_30 : decode cX4_goesIntoAll 30 = .ok (.getfield 34, 3) := by decide +kernel
theorem dX4_goesIntoAll_33 : decode cX4_goesIntoAll 33 = .ok (.aload_n 2, 1) := by decide +kernel
theorem dX4_goesIntoAll_34 : decode cX4_goesIntoAll 34 = .ok (.getfield 66, 3) := by decide +kernel
theorem dX4_goesIntoAll_37 : decode cX4_goesIntoAll 37 = .ok (.iload_n 1, 1) := by decide +kernel
theorem dX4_goesIntoAll_38 : decode cX4_goesIntoAll 38 = .ok (.iaload, 1) := by decide +kernel
theorem dX4_goesIntoAll_39 : decode cX4_goesIntoAll 39 = .ok (.aload_n 2, 1) := by decide +kernel
theorem dX4_goesIntoAll_40 : decode cX4_goesIntoAll 40 = .ok (.getfield 66, 3) := by decide +kernel
theorem dX4_goesIntoAll_43 : decode cX4_goesIntoAll 43 = .ok (.iload 4, 2) := by decide +kernel
theorem dX4_goesIntoAll_45 : decode cX4_goesIntoAll 45 = .ok (.iaload, 1) := by decide +kernel
theorem dX4_goesIntoAll_46 : decode cX4_goesIntoAll 46 = .ok (.invokevirtual 129, 3) := by decide +kernel
theorem dX4_goesIntoAll_49 : decode cX4_goesIntoAll 49 = .ok (.ifCond .eq 29, 3) := by decide +kernel
theorem dX4_goesIntoAll_52 : decode cX4_goesIntoAll 52 = .ok (.aload_n 0, 1) := by decide +kernel
theorem dX4_goesIntoAll_53 : decode cX4_goesIntoAll 53 = .ok (.getfield 17, 3) := by decide +kernel
theorem dX4_goesIntoAll_56 : decode cX4_goesIntoAll 56 = .ok (.getfield 34, 3) := by decide +kernel
theorem dX4_goesIntoAll_59 : decode cX4_goesIntoAll 59 = .ok (.aload_n 2, 1) := by decide +kernel
theorem dX4_goesIntoAll_60 : decode cX4_goesIntoAll 60 = .ok (.getfield 110, 3) := by decide +kernel
theorem dX4_goesIntoAll_63 : decode cX4_goesIntoAll 63 = .ok (.iload_n 1, 1) := by decide +kernel
theorem dX4_goesIntoAll_64 : decode cX4_goesIntoAll 64 = .ok (.iaload, 1) := by decide +kernel
theorem dX4_goesIntoAll_65 : decode cX4_goesIntoAll 65 = .ok (.aload_n 2, 1) := by decide +kernel
theorem dX4_goesIntoAll_66 : decode cX4_goesIntoAll 66 = .ok (.getfield 110, 3) := by decide +kernel
theorem dX4_goesIntoAll_69 : decode cX4_goesIntoAll 69 = .ok (.iload 4, 2) := by decide +kernel
theorem dX4_goesIntoAll_71 : decode cX4_goesIntoAll 71 = .ok (.iaload, 1) := by decide +kernel
theorem dX4_goesIntoAll_72 : decode cX4_goesIntoAll 72 = .ok (.invokevirtual 129, 3) := by decide +kernel
theorem dX4_goesIntoAll_75 : decode cX4_goesIntoAll 75 = .ok (.ifCond .ne 5, 3) := by decide +kernel
theorem dX4_goesIntoAll_78 : decode cX4_goesIntoAll 78 = .ok (.iconst 0, 1) := by decide +kernel
theorem dX4_goesIntoAll_79 : decode cX4_goesIntoAll 79 = .ok (.ireturn, 1) := by decide +kernel
theorem dX4_goesIntoAll_80 : decode cX4_goesIntoAll 80 = .ok (.iinc 3 1, 3) := by decide +kernel
theorem dX4_goesIntoAll_83 : decode cX4_goesIntoAll 83 = .ok (.goto (-73), 3) := by decide +kernel
theorem dX4_goesIntoAll_86 : decode cX4_goesIntoAll 86 = .ok (.iconst 1, 1) := by decide +kernel
theorem dX4_goesIntoAll_87 : decode cX4_goesIntoAll 87 = .ok (.ireturn, 1) := by decide +kernel
theorem dX5_init_0 : decode cX5_init 0 = .ok (.aload_n 0, 1) := by decide +kernel
theorem dX5_init_1 : decode cX5_init 1 = .ok (.invokespecial 3, 3) := by decide +kernel
theorem dX5_init_4 : decode cX5_init 4 = .ok (.aload_n 0, 1) := by decide +kernel
theorem dX5_init_5 : decode cX5_init 5 = .ok (.aload_n 1, 1) := by decide +kernel
theorem dX5_init_6 : decode cX5_init 6 = .ok (.putfield 9, 3) := by decide +kernel
theorem dX5_init_9 : decode cX5_init 9 = .ok (.return_, 1) := by decide +kernel
theorem dX5_failureOf_0 : decode cX5_failureOf 0 = .ok (.aload_n 0, 1) := by decide +kernel
theorem dX5_failureOf_1 : decode cX5_failureOf 1 = .ok (.lconst 0, 1) := by decide +kernel
theorem dX5_failureOf_2 : decode cX5_failureOf 2 = .ok (.putfield 15, 3) := by decide +kernel
theorem dX5_failureOf_5 : decode cX5_failureOf 5 = .ok (.aload_n 0, 1) := by decide +kernel
theorem dX5_failureOf_6 : decode cX5_failureOf 6 = .ok (.getfield 9, 3) := by decide +kernel
theorem dX5_failureOf_9 : decode cX5_failureOf 9 = .ok (.getfield 19, 3) := by decide +kernel
theorem dX5_failureOf_12 : decode cX5_failureOf 12 = .ok (.aload_n 1, 1) := by decide +kernel
theorem dX5_failureOf_13 : decode cX5_failureOf 13 = .ok (.getfield 25, 3) := by decide +kernel
theorem dX5_failureOf_16 : decode cX5_failureOf 16 = .ok (.invokevirtual 31, 3) := by decide +kernel
theorem dX5_failureOf_19 : decode cX5_failureOf 19 = .ok (.ifCond .eq 24, 3) := by decide +kernel
theorem dX5_failureOf_22 : decode cX5_failureOf 22 = .ok (.aload_n 0, 1) := by decide +kernel
theorem dX5_failureOf_23 : decode cX5_failureOf 23 = .ok (.getfield 9, 3) := by decide +kernel
theorem dX5_failureOf_26 : decode cX5_failureOf 26 = .ok (.getfield 19, 3) := by decide +kernel
theorem dX5_failureOf_29 : decode cX5_failureOf 29 = .ok (.aload_n 1, 1) := by decide +kernel
theorem dX5_failureOf_30 : decode cX5_failureOf 30 = .ok (.getfield 37, 3) := by decide +kernel
theorem dX5_failureOf_33 : decode cX5_failureOf 33 = .ok (.aload_n 1, 1) := by decide +kernel
theorem dX5_failureOf_34 : decode cX5_failureOf 34 = .ok (.getfield 40, 3) := by decide +kernel
theorem dX5_failureOf_37 : decode cX5_failureOf 37 = .ok (.invokevirtual 43, 3) := by decide +kernel
theorem dX5_failureOf_40 : decode cX5_failureOf 40 = .ok (.ifCond .ne 5, 3) := by decide +kernel
theorem dX5_failureOf_43 : decode cX5_failureOf 43 = .ok (.iconst 3, 1) := by decide +kernel
theorem dX5_failureOf_44 : decode cX5_failureOf 44 = .ok (.ireturn, 1) := by decide +kernel
theorem dX5_failureOf_45 : decode cX5_failureOf 45 = .ok (.aload_n 1, 1) := by decide +kernel
theorem dX5_failureOf_46 : decode cX5_failureOf 46 = .ok (.getfield 47, 3) := by decide +kernel
theorem dX5_failureOf_49 : decode cX5_failureOf 49 = .ok (.ifCond .eq 13, 3) := by decide +kernel
theorem dX5_failureOf_52 : decode cX5_failureOf 52 = .ok (.aload_n 0, 1) := by decide +kernel
theorem dX5_failureOf_53 : decode cX5_failureOf 53 = .ok (.aload_n 1, 1) := by decide +kernel
theorem dX5_failureOf_54 : decode cX5_failureOf 54 = .ok (.getfield 51, 3) := by decide +kernel
theorem dX5_failureOf_57 : decode cX5_failureOf 57 = .ok (.putfield 15, 3) := by decide +kernel
theorem dX5_failureOf_60 : decode cX5_failureOf 60 = .ok (.iconst 0, 1) := by decide +kernel
theorem dX5_failureOf_61 : decode cX5_failureOf 61 = .ok (.ireturn, 1) := by decide +kernel
theorem dX5_failureOf_62 : decode cX5_failureOf 62 = .ok (.aload_n 0, 1) := by decide +kernel
theorem dX5_failureOf_63 : decode cX5_failureOf 63 = .ok (.getfield 9, 3) := by decide +kernel
theorem dX5_failureOf_66 : decode cX5_failureOf 66 = .ok (.aload_n 1, 1) := by decide +kernel
theorem dX5_failureOf_67 : decode cX5_failureOf 67 = .ok (.getfield 25, 3) := by decide +kernel
theorem dX5_failureOf_70 : decode cX5_failureOf 70 = .ok (.invokevirtual 54, 3) := by decide +kernel
theorem dX5_failureOf_73 : decode cX5_failureOf 73 = .ok (.istore_n 3, 1) := by decide +kernel
theorem dX5_failureOf_74 : decode cX5_failureOf 74 = .ok (.iload_n 3, 1) := by decide +kernel
theorem dX5_failureOf_75 : decode cX5_failureOf 75 = .ok (.ifCond .eq 5, 3) := by decide +kernel
theorem dX5_failureOf_78 : decode cX5_failureOf 78 = .ok (.iload_n 3, 1) := by decide +kernel
theorem dX5_failureOf_79 : decode cX5_failureOf 79 = .ok (.ireturn, 1) := by decide +kernel
theorem dX5_failureOf_80 : decode cX5_failureOf 80 = .ok (.aload_n 1, 1) := by decide +kernel
theorem dX5_failureOf_81 : decode cX5_failureOf 81 = .ok (.getfield 58, 3) := by decide +kernel
theorem dX5_failureOf_84 : decode cX5_failureOf 84 = .ok (.lookupswitch 42 #[(0, 28), (1, 35)], 28) := by decide +kernel
theorem dX5_failureOf_112 : decode cX5_failureOf 112 = .ok (.aload_n 0, 1) := by decide +kernel
theorem dX5_failureOf_113 : decode cX5_failureOf 113 = .ok (.aload_n 1, 1) := by decide +kernel
theorem dX5_failureOf_114 : decode cX5_failureOf 114 = .ok (.iload_n 2, 1) := by decide +kernel
theorem dX5_failureOf_115 : decode cX5_failureOf 115 = .ok (.invokevirtual 61, 3) := by decide +kernel
theorem dX5_failureOf_118 : decode cX5_failureOf 118 = .ok (.ireturn, 1) := by decide +kernel
theorem dX5_failureOf_119 : decode cX5_failureOf 119 = .ok (.aload_n 0, 1) := by decide +kernel
theorem dX5_failureOf_120 : decode cX5_failureOf 120 = .ok (.aload_n 1, 1) := by decide +kernel
theorem dX5_failureOf_121 : decode cX5_failureOf 121 = .ok (.iload_n 2, 1) := by decide +kernel
theorem dX5_failureOf_122 : decode cX5_failureOf 122 = .ok (.invokevirtual 65, 3) := by decide +kernel
theorem dX5_failureOf_125 : decode cX5_failureOf 125 = .ok (.ireturn, 1) := by decide +kernel
theorem dX5_failureOf_126 : decode cX5_failureOf 126 = .ok (.aload_n 0, 1) := by decide +kernel
theorem dX5_failureOf_127 : decode cX5_failureOf 127 = .ok (.aload_n 1, 1) := by decide +kernel
theorem dX5_failureOf_128 : decode cX5_failureOf 128 = .ok (.invokevirtual 68, 3) := by decide +kernel
theorem dX5_failureOf_131 : decode cX5_failureOf 131 = .ok (.ireturn, 1) := by decide +kernel
theorem dX5_failureOfGet_0 : decode cX5_failureOfGet 0 = .ok (.aload_n 0, 1) := by decide +kernel
theorem dX5_failureOfGet_1 : decode cX5_failureOfGet 1 = .ok (.getfield 9, 3) := by decide +kernel
theorem dX5_failureOfGet_4 : decode cX5_failureOfGet 4 = .ok (.getfield 72, 3) := by decide +kernel
theorem dX5_failureOfGet_7 : decode cX5_failureOfGet 7 = .ok (.astore_n 3, 1) := by decide +kernel
theorem dX5_failureOfGet_8 : decode cX5_failureOfGet 8 = .ok (.aload_n 0, 1) := by decide +kernel
theorem dX5_failureOfGet_9 : decode cX5_failureOfGet 9 = .ok (.getfield 9, 3) := by decide +kernel
theorem dX5_failureOfGet_12 : decode cX5_failureOfGet 12 = .ok (.aload_n 1, 1) := by decide +kernel
theorem dX5_failureOfGet_13 : decode cX5_failureOfGet 13 = .ok (.getfield 25, 3) := by decide +kernel
theorem dX5_failureOfGet_16 : decode cX5_failureOfGet 16 = .ok (.aload_n 1, 1) := by decide +kernel
theorem dX5_failureOfGet_17 : decode cX5_failureOfGet 17 = .ok (.getfield 76, 3) := by decide +kernel
theorem dX5_failureOfGet_20 : decode cX5_failureOfGet 20 = .ok (.iconst 0, 1) := by decide +kernel
theorem dX5_failureOfGet_21 : decode cX5_failureOfGet 21 = .ok (.invokevirtual 79, 3) := by decide +kernel
theorem dX5_failureOfGet_24 : decode cX5_failureOfGet 24 = .ok (.istore 4, 2) := by decide +kernel
theorem dX5_failureOfGet_26 : decode cX5_failureOfGet 26 = .ok (.aload_n 0, 1) := by decide +kernel
theorem dX5_failureOfGet_27 : decode cX5_failureOfGet 27 = .ok (.aload_n 1, 1) := by decide +kernel
theorem dX5_failureOfGet_28 : decode cX5_failureOfGet 28 = .ok (.iload 4, 2) := by decide +kernel
theorem dX5_failureOfGet_30 : decode cX5_failureOfGet 30 = .ok (.invokevirtual 83, 3) := by decide +kernel
theorem dX5_failureOfGet_33 : decode cX5_failureOfGet 33 = .ok (.istore 5, 2) := by decide +kernel
theorem dX5_failureOfGet_35 : decode cX5_failureOfGet 35 = .ok (.iload 5, 2) := by decide +kernel
theorem dX5_failureOfGet_37 : decode cX5_failureOfGet 37 = .ok (.ifCond .ne 18, 3) := by decide +kernel
theorem dX5_failureOfGet_40 : decode cX5_failureOfGet 40 = .ok (.aload_n 1, 1) := by decide +kernel
theorem dX5_failureOfGet_41 : decode cX5_failureOfGet 41 = .ok (.getfield 86, 3) := by decide +kernel
theorem dX5_failureOfGet_44 : decode cX5_failureOfGet 44 = .ok (.ifCond .ne 11, 3) := by decide +kernel
theorem dX5_failureOfGet_47 : decode cX5_failureOfGet 47 = .ok (.aload_n 0, 1) := by decide +kernel
theorem dX5_failureOfGet_48 : decode cX5_failureOfGet 48 = .ok (.aload_n 1, 1) := by decide +kernel
theorem dX5_failureOfGet_49 : decode cX5_failureOfGet 49 = .ok (.iload_n 2, 1) := by decide +kernel
theorem dX5_failureOfGet_50 : decode cX5_failureOfGet 50 = .ok (.invokevirtual 89, 3) := by decide +kernel
theorem dX5_failureOfGet_53 : decode cX5_failureOfGet 53 = .ok (.istore 5, 2) := by decide +kernel
theorem dX5_failureOfGet_55 : decode cX5_failureOfGet 55 = .ok (.iload 5, 2) := by decide +kernel
theorem dX5_failureOfGet_57 : decode cX5_failureOfGet 57 = .ok (.ifCond .eq 6, 3) := by decide +kernel
theorem dX5_failureOfGet_60 : decode cX5_failureOfGet 60 = .ok (.iload 5, 2) := by decide +kernel
theorem dX5_failureOfGet_62 : decode cX5_failureOfGet 62 = .ok (.ireturn, 1) := by decide +kernel
theorem dX5_failureOfGet_63 : decode cX5_failureOfGet 63 = .ok (.aload_n 3, 1) := by decide +kernel
theorem dX5_failureOfGet_64 : decode cX5_failureOfGet 64 = .ok (.getfield 92, 3) := by decide +kernel
theorem dX5_failureOfGet_67 : decode cX5_failureOfGet 67 = .ok (.iload 4, 2) := by decide +kernel
theorem dX5_failureOfGet_69 : decode cX5_failureOfGet 69 = .ok (.iaload, 1) := by decide +kernel
theorem dX5_failureOfGet_70 : decode cX5_failureOfGet 70 = .ok (.aload_n 1, 1) := by decide +kernel
theorem dX5_failureOfGet_71 : decode cX5_failureOfGet 71 = .ok (.getfield 97, 3) := by decide +kernel
theorem dX5_failureOfGet_74 : decode cX5_failureOfGet 74 = .ok (.invokestatic 100, 3) := by decide +kernel
theorem dX5_failureOfGet_77 : decode cX5_failureOfGet 77 = .ok (.ifCond .ne 6, 3) := by decide +kernel
theorem dX5_failureOfGet_80 : decode cX5_failureOfGet 80 = .ok (.bipush 7, 2) := by decide +kernel
theorem dX5_failureOfGet_82 : decode cX5_failureOfGet 82 = .ok (.ireturn, 1) := by decide +kernel
theorem dX5_failureOfGet_83 : decode cX5_failureOfGet 83 = .ok (.aload_n 0, 1) := by decide +kernel
theorem dX5_failureOfGet_84 : decode cX5_failureOfGet 84 = .ok (.aload_n 1, 1) := by decide +kernel
theorem dX5_failureOfGet_85 : decode cX5_failureOfGet 85 = .ok (.getfield 97, 3) := by decide +kernel
theorem dX5_failureOfGet_88 : decode cX5_failureOfGet 88 = .ok (.aload_n 3, 1) := by decide +kernel
theorem dX5_failureOfGet_89 : decode cX5_failureOfGet 89 = .ok (.getfield 105, 3) := by decide +kernel
theorem dX5_failureOfGet_92 : decode cX5_failureOfGet 92 = .ok (.iload 4, 2) := by decide +kernel
theorem dX5_failureOfGet_94 : decode cX5_failureOfGet 94 = .ok (.laload, 1) := by decide +kernel
theorem dX5_failureOfGet_95 : decode cX5_failureOfGet 95 = .ok (.invokestatic 109, 3) := by decide +kernel
theorem dX5_failureOfGet_98 : decode cX5_failureOfGet 98 = .ok (.putfield 15, 3) := by decide +kernel
theorem dX5_failureOfGet_101 : decode cX5_failureOfGet 101 = .ok (.iconst 0, 1) := by decide +kernel
theorem dX5_failureOfGet_102 : decode cX5_failureOfGet 102 = .ok (.ireturn, 1) := by decide +kernel
theorem dX5_failureOfCall_0 : decode cX5_failureOfCall 0 = .ok (.aload_n 0, 1) := by decide +kernel
theorem dX5_failureOfCall_1 : decode cX5_failureOfCall 1 = .ok (.getfield 9, 3) := by decide +kernel
theorem dX5_failureOfCall_4 : decode cX5_failureOfCall 4 = .ok (.getfield 72, 3) := by decide +kernel
theorem dX5_failureOfCall_7 : decode cX5_failureOfCall 7 = .ok (.astore_n 3, 1) := by decide +kernel
theorem dX5_failureOfCall_8 : decode cX5_failureOfCall 8 = .ok (.aload_n 0, 1) := by decide +kernel
theorem dX5_failureOfCall_9 : decode cX5_failureOfCall 9 = .ok (.getfield 9, 3) := by decide +kernel
theorem dX5_failureOfCall_12 : decode cX5_failureOfCall 12 = .ok (.getfield 19, 3) := by decide +kernel
theorem dX5_failureOfCall_15 : decode cX5_failureOfCall 15 = .ok (.aload_n 1, 1) := by decide +kernel
theorem dX5_failureOfCall_16 : decode cX5_failureOfCall 16 = .ok (.getfield 25, 3) := by decide +kernel
theorem dX5_failureOfCall_19 : decode cX5_failureOfCall 19 = .ok (.invokevirtual 113, 3) := by decide +kernel
theorem dX5_failureOfCall_22 : decode cX5_failureOfCall 22 = .ok (.aload_n 1, 1) := by decide +kernel
theorem dX5_failureOfCall_23 : decode cX5_failureOfCall 23 = .ok (.getfield 116, 3) := by decide +kernel
theorem dX5_failureOfCall_26 : decode cX5_failureOfCall 26 = .ok (.if_icmp .eq 5, 3) := by decide +kernel
theorem dX5_failureOfCall_29 : decode cX5_failureOfCall 29 = .ok (.iconst 5, 1) := by decide +kernel
theorem dX5_failureOfCall_30 : decode cX5_failureOfCall 30 = .ok (.ireturn, 1) := by decide +kernel
theorem dX5_failureOfCall_31 : decode cX5_failureOfCall 31 = .ok (.aload_n 0, 1) := by decide +kernel
theorem dX5_failureOfCall_32 : decode cX5_failureOfCall 32 = .ok (.getfield 9, 3) := by decide +kernel
theorem dX5_failureOfCall_35 : decode cX5_failureOfCall 35 = .ok (.aload_n 1, 1) := by decide +kernel
theorem dX5_failureOfCall_36 : decode cX5_failureOfCall 36 = .ok (.getfield 25, 3) := by decide +kernel
theorem dX5_failureOfCall_39 : decode cX5_failureOfCall 39 = .ok (.aload_n 1, 1) := by decide +kernel
theorem dX5_failureOfCall_40 : decode cX5_failureOfCall 40 = .ok (.getfield 76, 3) := by decide +kernel
theorem dX5_failureOfCall_43 : decode cX5_failureOfCall 43 = .ok (.aload_n 1, 1) := by decide +kernel
theorem dX5_failureOfCall_44 : decode cX5_failureOfCall 44 = .ok (.getfield 37, 3) := by decide +kernel
theorem dX5_failureOfCall_47 : decode cX5_failureOfCall 47 = .ok (.aload_n 1, 1) := by decide +kernel
theorem dX5_failureOfCall_48 : decode cX5_failureOfCall 48 = .ok (.getfield 40, 3) := by decide +kernel
theorem dX5_failureOfCall_51 : decode cX5_failureOfCall 51 = .ok (.invokevirtual 119, 3) := by decide +kernel
theorem dX5_failureOfCall_54 : decode cX5_failureOfCall 54 = .ok (.istore 4, 2) := by decide +kernel
theorem dX5_failureOfCall_56 : decode cX5_failureOfCall 56 = .ok (.aload_n 0, 1) := by decide +kernel
theorem dX5_failureOfCall_57 : decode cX5_failureOfCall 57 = .ok (.aload_n 1, 1) := by decide +kernel
theorem dX5_failureOfCall_58 : decode cX5_failureOfCall 58 = .ok (.iload 4, 2) := by decide +kernel
theorem dX5_failureOfCall_60 : decode cX5_failureOfCall 60 = .ok (.invokevirtual 83, 3) := by decide +kernel
theorem dX5_failureOfCall_63 : decode cX5_failureOfCall 63 = .ok (.istore 5, 2) := by decide +kernel
theorem dX5_failureOfCall_65 : decode cX5_failureOfCall 65 = .ok (.iload 5, 2) := by decide +kernel
theorem dX5_failureOfCall_67 : decode cX5_failureOfCall 67 = .ok (.ifCond .ne 18, 3) := by decide +kernel
theorem dX5_failureOfCall_70 : decode cX5_failureOfCall 70 = .ok (.aload_n 1, 1) := by decide +kernel
theorem dX5_failureOfCall_71 : decode cX5_failureOfCall 71 = .ok (.getfield 86, 3) := by decide +kernel
theorem dX5_failureOfCall_74 : decode cX5_failureOfCall 74 = .ok (.ifCond .ne 11, 3) := by decide +kernel
theorem dX5_failureOfCall_77 : decode cX5_failureOfCall 77 = .ok (.aload_n 0, 1) := by decide +kernel
theorem dX5_failureOfCall_78 : decode cX5_failureOfCall 78 = .ok (.aload_n 1, 1) := by decide +kernel
theorem dX5_failureOfCall_79 : decode cX5_failureOfCall 79 = .ok (.iload_n 2, 1) := by decide +kernel
theorem dX5_failureOfCall_80 : decode cX5_failureOfCall 80 = .ok (.invokevirtual 89, 3) := by decide +kernel
theorem dX5_failureOfCall_83 : decode cX5_failureOfCall 83 = .ok (.istore 5, 2) := by decide +kernel
theorem dX5_failureOfCall_85 : decode cX5_failureOfCall 85 = .ok (.iload 5, 2) := by decide +kernel
theorem dX5_failureOfCall_87 : decode cX5_failureOfCall 87 = .ok (.ifCond .eq 6, 3) := by decide +kernel
theorem dX5_failureOfCall_90 : decode cX5_failureOfCall 90 = .ok (.iload 5, 2) := by decide +kernel
theorem dX5_failureOfCall_92 : decode cX5_failureOfCall 92 = .ok (.ireturn, 1) := by decide +kernel
theorem dX5_failureOfCall_93 : decode cX5_failureOfCall 93 = .ok (.aload_n 1, 1) := by decide +kernel
theorem dX5_failureOfCall_94 : decode cX5_failureOfCall 94 = .ok (.getfield 86, 3) := by decide +kernel
theorem dX5_failureOfCall_97 : decode cX5_failureOfCall 97 = .ok (.ifCond .eq 8, 3) := by decide +kernel
theorem dX5_failureOfCall_100 : decode cX5_failureOfCall 100 = .ok (.iload 4, 2) := by decide +kernel
theorem dX5_failureOfCall_102 : decode cX5_failureOfCall 102 = .ok (.goto 23, 3) := by decide +kernel
theorem dX5_failureOfCall_105 : decode cX5_failureOfCall 105 = .ok (.aload_n 0, 1) := by decide +kernel
theorem dX5_failureOfCall_106 : decode cX5_failureOfCall 106 = .ok (.getfield 9, 3) := by decide +kernel
theorem dX5_failureOfCall_109 : decode cX5_failureOfCall 109 = .ok (.iload_n 2, 1) := by decide +kernel
theorem dX5_failureOfCall_110 : decode cX5_failureOfCall 110 = .ok (.aload_n 1, 1) := by decide +kernel
theorem dX5_failureOfCall_111 : decode cX5_failureOfCall 111 = .ok (.getfield 76, 3) := by decide +kernel
theorem dX5_failureOfCall_114 : decode cX5_failureOfCall 114 = .ok (.aload_n 1, 1) := by decide +kernel
theorem dX5_failureOfCall_115 : decode cX5_failureOfCall 115 = .ok (.getfield 37, 3) := by decide +kernel
theorem dX5_failureOfCall_118 : decode cX5_failureOfCall 118 = .ok (.aload_n 1, 1) := by decide +kernel
theorem dX5_failureOfCall_119 : decode cX5_failureOfCall 119 = .ok (.getfield 40, 3) := by decide +kernel
theorem dX5_failureOfCall_122 : decode cX5_failureOfCall 122 = .ok (.invokevirtual 123, 3) := by decide +kernel
theorem dX5_failureOfCall_125 : decode cX5_failureOfCall 125 = .ok (.istore 6, 2) := by decide +kernel
theorem dX5_failureOfCall_127 : decode cX5_failureOfCall 127 = .ok (.aload_n 3, 1) := by decide +kernel
theorem dX5_failureOfCall_128 : decode cX5_failureOfCall 128 = .ok (.iload 6, 2) := by decide +kernel
theorem dX5_failureOfCall_130 : decode cX5_failureOfCall 130 = .ok (.invokevirtual 126, 3) := by decide +kernel
theorem dX5_failureOfCall_133 : decode cX5_failureOfCall 133 = .ok (.ifCond .ne 17, 3) := by decide +kernel
theorem dX5_failureOfCall_136 : decode cX5_failureOfCall 136 = .ok (.iload 6, 2) := by decide +kernel
theorem dX5_failureOfCall_138 : decode cX5_failureOfCall 138 = .ok (.bipush (-4), 2) := by decide +kernel
theorem dX5_failureOfCall_140 : decode cX5_failureOfCall 140 = .ok (.if_icmp .ne 7, 3) := by decide +kernel
theorem dX5_failureOfCall_143 : decode cX5_failureOfCall 143 = .ok (.iconst 5, 1) := by decide +kernel
theorem dX5_failureOfCall_144 : decode cX5_failureOfCall 144 = .ok (.goto 5, 3) := by decide +kernel
theorem dX5_failureOfCall_147 : decode cX5_failureOfCall 147 = .ok (.bipush 8, 2) := by decide +kernel
theorem dX5_failureOfCall_149 : decode cX5_failureOfCall 149 = .ok (.ireturn, 1) := by decide +kernel
theorem dX5_failureOfCall_150 : decode cX5_failureOfCall 150 = .ok (.aload_n 0, 1) := by decide +kernel
theorem dX5_failureOfCall_151 : decode cX5_failureOfCall 151 = .ok (.aload_n 3, 1) := by decide +kernel
theorem dX5_failureOfCall_152 : decode cX5_failureOfCall 152 = .ok (.getfield 105, 3) := by decide +kernel
theorem dX5_failureOfCall_155 : decode cX5_failureOfCall 155 = .ok (.iload 6, 2) := by decide +kernel
theorem dX5_failureOfCall_157 : decode cX5_failureOfCall 157 = .ok (.laload, 1) := by decide +kernel
theorem dX5_failureOfCall_158 : decode cX5_failureOfCall 158 = .ok (.putfield 15, 3) := by decide +kernel
theorem dX5_failureOfCall_161 : decode cX5_failureOfCall 161 = .ok (.iconst 0, 1) := by decide +kernel
theorem dX5_failureOfCall_162 : decode cX5_failureOfCall 162 = .ok (.ireturn, 1) := by decide +kernel
theorem dX5_failureOfNew_0 : decode cX5_failureOfNew 0 = .ok (.aload_n 0, 1) := by decide +kernel
theorem dX5_failureOfNew_1 : decode cX5_failureOfNew 1 = .ok (.getfield 9, 3) := by decide +kernel
theorem dX5_failureOfNew_4 : decode cX5_failureOfNew 4 = .ok (.getfield 19, 3) := by decide +kernel
theorem dX5_failureOfNew_7 : decode cX5_failureOfNew 7 = .ok (.aload_n 1, 1) := by decide +kernel
theorem dX5_failureOfNew_8 : decode cX5_failureOfNew 8 = .ok (.getfield 25, 3) := by decide +kernel
theorem dX5_failureOfNew_11 : decode cX5_failureOfNew 11 = .ok (.invokevirtual 129, 3) := by decide +kernel
theorem dX5_failureOfNew_14 : decode cX5_failureOfNew 14 = .ok (.ifCond .eq 6, 3) := by decide +kernel
theorem dX5_failureOfNew_17 : decode cX5_failureOfNew 17 = .ok (.bipush 9, 2) := by decide +kernel
theorem dX5_failureOfNew_19 : decode cX5_failureOfNew 19 = .ok (.ireturn, 1) := by decide +kernel
theorem dX5_failureOfNew_20 : decode cX5_failureOfNew 20 = .ok (.aload_n 0, 1) := by decide +kernel
theorem dX5_failureOfNew_21 : decode cX5_failureOfNew 21 = .ok (.aload_n 1, 1) := by decide +kernel
theorem dX5_failureOfNew_22 : decode cX5_failureOfNew 22 = .ok (.getfield 25, 3) := by decide +kernel
theorem dX5_failureOfNew_25 : decode cX5_failureOfNew 25 = .ok (.i2l, 1) := by decide +kernel
theorem dX5_failureOfNew_26 : decode cX5_failureOfNew 26 = .ok (.putfield 15, 3) := by decide +kernel
