theorem dX7_walk_113 : decode cX7_walk 113 = .ok (.iadd, 1) := by decide +kernel
theorem dX7_walk_114 : decode cX7_walk 114 = .ok (.iaload, 1) := by decide +kernel
theorem dX7_walk_115 : decode cX7_walk 115 = .ok (.iload_n 2, 1) := by decide +kernel
theorem dX7_walk_116 : decode cX7_walk 116 = .ok (.iload_n 3, 1) := by decide +kernel
theorem dX7_walk_117 : decode cX7_walk 117 = .ok (.iconst 1, 1) := by decide +kernel
theorem dX7_walk_118 : decode cX7_walk 118 = .ok (.iadd, 1) := by decide +kernel
theorem dX7_walk_119 : decode cX7_walk 119 = .ok (.invokevirtual 80, 3) := by decide +kernel
theorem dX7_walk_122 : decode cX7_walk 122 = .ok (.iinc 4 1, 3) := by decide +kernel
theorem dX7_walk_125 : decode cX7_walk 125 = .ok (.goto (-33), 3) := by decide +kernel
theorem dX7_walk_128 : decode cX7_walk 128 = .ok (.iload_n 2, 1) := by decide +kernel
theorem dX7_walk_129 : decode cX7_walk 129 = .ok (.ifCond .eq 17, 3) := by decide +kernel
theorem dX7_walk_132 : decode cX7_walk 132 = .ok (.aload_n 0, 1) := by decide +kernel
theorem dX7_walk_133 : decode cX7_walk 133 = .ok (.aload_n 0, 1) := by decide +kernel
theorem dX7_walk_134 : decode cX7_walk 134 = .ok (.getfield 15, 3) := by decide +kernel
theorem dX7_walk_137 : decode cX7_walk 137 = .ok (.iload_n 1, 1) := by decide +kernel
theorem dX7_walk_138 : decode cX7_walk 138 = .ok (.iaload, 1) := by decide +kernel
theorem dX7_walk_139 : decode cX7_walk 139 = .ok (.iconst 1, 1) := by decide +kernel
theorem dX7_walk_140 : decode cX7_walk 140 = .ok (.iload_n 3, 1) := by decide +kernel
theorem dX7_walk_141 : decode cX7_walk 141 = .ok (.iconst 1, 1) := by decide +kernel
theorem dX7_walk_142 : decode cX7_walk 142 = .ok (.iadd, 1) := by decide +kernel
theorem dX7_walk_143 : decode cX7_walk 143 = .ok (.invokevirtual 80, 3) := by decide +kernel
theorem dX7_walk_146 : decode cX7_walk 146 = .ok (.return_, 1) := by decide +kernel
theorem dX7_tell_0 : decode cX7_tell 0 = .ok (.aload_n 0, 1) := by decide +kernel
theorem dX7_tell_1 : decode cX7_tell 1 = .ok (.iload_n 1, 1) := by decide +kernel
theorem dX7_tell_2 : decode cX7_tell 2 = .ok (.invokevirtual 45, 3) := by decide +kernel
theorem dX7_tell_5 : decode cX7_tell 5 = .ok (.ifCond .ne 5, 3) := by decide +kernel
theorem dX7_tell_8 : decode cX7_tell 8 = .ok (.iconst (-1), 1) := by decide +kernel
theorem dX7_tell_9 : decode cX7_tell 9 = .ok (.ireturn, 1) := by decide +kernel
theorem dX7_tell_10 : decode cX7_tell 10 = .ok (.iload_n 2, 1) := by decide +kernel
theorem dX7_tell_11 : decode cX7_tell 11 = .ok (.tableswitch 86 0 6 #[41, 56, 63, 70, 77, 77, 77], 41) := by decide +kernel
theorem dX7_tell_52 : decode cX7_tell 52 = .ok (.aload_n 0, 1) := by decide +kernel
theorem dX7_tell_53 : decode cX7_tell 53 = .ok (.getfield 11, 3) := by decide +kernel
theorem dX7_tell_56 : decode cX7_tell 56 = .ok (.iload_n 1, 1) := by decide +kernel
theorem dX7_tell_57 : decode cX7_tell 57 = .ok (.baload, 1) := by decide +kernel
theorem dX7_tell_58 : decode cX7_tell 58 = .ok (.ifCond .eq 7, 3) := by decide +kernel
theorem dX7_tell_61 : decode cX7_tell 61 = .ok (.iconst 1, 1) := by decide +kernel
theorem dX7_tell_62 : decode cX7_tell 62 = .ok (.goto 4, 3) := by decide +kernel
theorem dX7_tell_65 : decode cX7_tell 65 = .ok (.iconst 0, 1) := by decide +kernel
theorem dX7_tell_66 : decode cX7_tell 66 = .ok (.ireturn, 1) := by decide +kernel
theorem dX7_tell_67 : decode cX7_tell 67 = .ok (.aload_n 0, 1) := by decide +kernel
theorem dX7_tell_68 : decode cX7_tell 68 = .ok (.getfield 15, 3) := by decide +kernel
theorem dX7_tell_71 : decode cX7_tell 71 = .ok (.iload_n 1, 1) := by decide +kernel
theorem dX7_tell_72 : decode cX7_tell 72 = .ok (.iaload, 1) := by decide +kernel
theorem dX7_tell_73 : decode cX7_tell 73 = .ok (.ireturn, 1) := by decide +kernel
theorem dX7_tell_74 : decode cX7_tell 74 = .ok (.aload_n 0, 1) := by decide +kernel
theorem dX7_tell_75 : decode cX7_tell 75 = .ok (.getfield 19, 3) := by decide +kernel
theorem dX7_tell_78 : decode cX7_tell 78 = .ok (.iload_n 1, 1) := by decide +kernel
theorem dX7_tell_79 : decode cX7_tell 79 = .ok (.iaload, 1) := by decide +kernel
theorem dX7_tell_80 : decode cX7_tell 80 = .ok (.ireturn, 1) := by decide +kernel
theorem dX7_tell_81 : decode cX7_tell 81 = .ok (.aload_n 0, 1) := by decide +kernel
theorem dX7_tell_82 : decode cX7_tell 82 = .ok (.getfield 22, 3) := by decide +kernel
theorem dX7_tell_85 : decode cX7_tell 85 = .ok (.iload_n 1, 1) := by decide +kernel
theorem dX7_tell_86 : decode cX7_tell 86 = .ok (.iaload, 1) := by decide +kernel
theorem dX7_tell_87 : decode cX7_tell 87 = .ok (.ireturn, 1) := by decide +kernel
theorem dX7_tell_88 : decode cX7_tell 88 = .ok (.aload_n 0, 1) := by decide +kernel
theorem dX7_tell_89 : decode cX7_tell 89 = .ok (.iload_n 1, 1) := by decide +kernel
theorem dX7_tell_90 : decode cX7_tell 90 = .ok (.iload_n 2, 1) := by decide +kernel
theorem dX7_tell_91 : decode cX7_tell 91 = .ok (.iconst 4, 1) := by decide +kernel
theorem dX7_tell_92 : decode cX7_tell 92 = .ok (.isub, 1) := by decide +kernel
theorem dX7_tell_93 : decode cX7_tell 93 = .ok (.invokevirtual 60, 3) := by decide +kernel
theorem dX7_tell_96 : decode cX7_tell 96 = .ok (.ireturn, 1) := by decide +kernel
theorem dX7_tell_97 : decode cX7_tell 97 = .ok (.iconst (-1), 1) := by decide +kernel
theorem dX7_tell_98 : decode cX7_tell 98 = .ok (.ireturn, 1) := by decide +kernel
theorem dX7_digestOn_0 : decode cX7_digestOn 0 = .ok (.lload_n 1, 1) := by decide +kernel
theorem dX7_digestOn_1 : decode cX7_digestOn 1 = .ok (.lstore_n 3, 1) := by decide +kernel
theorem dX7_digestOn_2 : decode cX7_digestOn 2 = .ok (.iconst 0, 1) := by decide +kernel
theorem dX7_digestOn_3 : decode cX7_digestOn 3 = .ok (.istore 5, 2) := by decide +kernel
theorem dX7_digestOn_5 : decode cX7_digestOn 5 = .ok (.iload 5, 2) := by decide +kernel
theorem dX7_digestOn_7 : decode cX7_digestOn 7 = .ok (.aload_n 0, 1) := by decide +kernel
theorem dX7_digestOn_8 : decode cX7_digestOn 8 = .ok (.getfield 34, 3) := by decide +kernel
theorem dX7_digestOn_11 : decode cX7_digestOn 11 = .ok (.if_icmp .ge 41, 3) := by decide +kernel
theorem dX7_digestOn_14 : decode cX7_digestOn 14 = .ok (.iconst 0, 1) := by decide +kernel
theorem dX7_digestOn_15 : decode cX7_digestOn 15 = .ok (.istore 6, 2) := by decide +kernel
theorem dX7_digestOn_17 : decode cX7_digestOn 17 = .ok (.iload 6, 2) := by decide +kernel
theorem dX7_digestOn_19 : decode cX7_digestOn 19 = .ok (.bipush 6, 2) := by decide +kernel
theorem dX7_digestOn_21 : decode cX7_digestOn 21 = .ok (.if_icmp .gt 25, 3) := by decide +kernel
theorem dX7_digestOn_24 : decode cX7_digestOn 24 = .ok (.ldc2_w 84, 3) := by decide +kernel
theorem dX7_digestOn_27 : decode cX7_digestOn 27 = .ok (.lload_n 3, 1) := by decide +kernel
theorem dX7_digestOn_28 : decode cX7_digestOn 28 = .ok (.lmul, 1) := by decide +kernel
theorem dX7_digestOn_29 : decode cX7_digestOn 29 = .ok (.aload_n 0, 1) := by decide +kernel
theorem dX7_digestOn_30 : decode cX7_digestOn 30 = .ok (.iload 5, 2) := by decide +kernel
theorem dX7_digestOn_32 : decode cX7_digestOn 32 = .ok (.iload 6, 2) := by decide +kernel
theorem dX7_digestOn_34 : decode cX7_digestOn 34 = .ok (.invokevirtual 86, 3) := by decide +kernel
theorem dX7_digestOn_37 : decode cX7_digestOn 37 = .ok (.i2l, 1) := by decide +kernel
theorem dX7_digestOn_38 : decode cX7_digestOn 38 = .ok (.ladd, 1) := by decide +kernel
theorem dX7_digestOn_39 : decode cX7_digestOn 39 = .ok (.lstore_n 3, 1) := by decide +kernel
theorem dX7_digestOn_40 : decode cX7_digestOn 40 = .ok (.iinc 6 1, 3) := by decide +kernel
theorem dX7_digestOn_43 : decode cX7_digestOn 43 = .ok (.goto (-26), 3) := by decide +kernel
theorem dX7_digestOn_46 : decode cX7_digestOn 46 = .ok (.iinc 5 1, 3) := by decide +kernel
theorem dX7_digestOn_49 : decode cX7_digestOn 49 = .ok (.goto (-44), 3) := by decide +kernel
theorem dX7_digestOn_52 : decode cX7_digestOn 52 = .ok (.lload_n 3, 1) := by decide +kernel
theorem dX7_digestOn_53 : decode cX7_digestOn 53 = .ok (.lreturn, 1) := by decide +kernel
theorem dX8_init_0 : decode cX8_init 0 = .ok (.aload_n 0, 1) := by decide +kernel
theorem dX8_init_1 : decode cX8_init 1 = .ok (.invokespecial 1, 3) := by decide +kernel
theorem dX8_init_4 : decode cX8_init 4 = .ok (.aload_n 0, 1) := by decide +kernel
theorem dX8_init_5 : decode cX8_init 5 = .ok (.new 7, 3) := by decide +kernel
theorem dX8_init_8 : decode cX8_init 8 = .ok (.dup, 1) := by decide +kernel
theorem dX8_init_9 : decode cX8_init 9 = .ok (.invokespecial 9, 3) := by decide +kernel
theorem dX8_init_12 : decode cX8_init 12 = .ok (.putfield 10, 3) := by decide +kernel
theorem dX8_init_15 : decode cX8_init 15 = .ok (.aload_n 0, 1) := by decide +kernel
theorem dX8_init_16 : decode cX8_init 16 = .ok (.new 16, 3) := by decide +kernel
theorem dX8_init_19 : decode cX8_init 19 = .ok (.dup, 1) := by decide +kernel
theorem dX8_init_20 : decode cX8_init 20 = .ok (.aload_n 0, 1) := by decide +kernel
theorem dX8_init_21 : decode cX8_init 21 = .ok (.getfield 10, 3) := by decide +kernel
theorem dX8_init_24 : decode cX8_init 24 = .ok (.invokespecial 18, 3) := by decide +kernel
theorem dX8_init_27 : decode cX8_init 27 = .ok (.putfield 21, 3) := by decide +kernel
theorem dX8_init_30 : decode cX8_init 30 = .ok (.aload_n 0, 1) := by decide +kernel
theorem dX8_init_31 : decode cX8_init 31 = .ok (.new 25, 3) := by decide +kernel
theorem dX8_init_34 : decode cX8_init 34 = .ok (.dup, 1) := by decide +kernel
theorem dX8_init_35 : decode cX8_init 35 = .ok (.aload_n 0, 1) := by decide +kernel
theorem dX8_init_36 : decode cX8_init 36 = .ok (.getfield 10, 3) := by decide +kernel
theorem dX8_init_39 : decode cX8_init 39 = .ok (.invokespecial 27, 3) := by decide +kernel
theorem dX8_init_42 : decode cX8_init 42 = .ok (.putfield 28, 3) := by decide +kernel
theorem dX8_init_45 : decode cX8_init 45 = .ok (.aload_n 0, 1) := by decide +kernel
theorem dX8_init_46 : decode cX8_init 46 = .ok (.bipush 120, 2) := by decide +kernel
theorem dX8_init_48 : decode cX8_init 48 = .ok (.anewarray 32, 3) := by decide +kernel
theorem dX8_init_51 : decode cX8_init 51 = .ok (.putfield 34, 3) := by decide +kernel
theorem dX8_init_54 : decode cX8_init 54 = .ok (.aload_n 0, 1) := by decide +kernel
theorem dX8_init_55 : decode cX8_init 55 = .ok (.bipush 24, 2) := by decide +kernel
theorem dX8_init_57 : decode cX8_init 57 = .ok (.anewarray 38, 3) := by decide +kernel
theorem dX8_init_60 : decode cX8_init 60 = .ok (.putfield 40, 3) := by decide +kernel
theorem dX8_init_63 : decode cX8_init 63 = .ok (.aload_n 0, 1) := by decide +kernel
theorem dX8_init_64 : decode cX8_init 64 = .ok (.new 38, 3) := by decide +kernel
theorem dX8_init_67 : decode cX8_init 67 = .ok (.dup, 1) := by decide +kernel
theorem dX8_init_68 : decode cX8_init 68 = .ok (.invokespecial 44, 3) := by decide +kernel
theorem dX8_init_71 : decode cX8_init 71 = .ok (.putfield 45, 3) := by decide +kernel
theorem dX8_init_74 : decode cX8_init 74 = .ok (.return_, 1) := by decide +kernel
theorem dX8_type_0 : decode cX8_type 0 = .ok (.aload_n 0, 1) := by decide +kernel
theorem dX8_type_1 : decode cX8_type 1 = .ok (.getfield 10, 3) := by decide +kernel
theorem dX8_type_4 : decode cX8_type 4 = .ok (.getfield 49, 3) := by decide +kernel
theorem dX8_type_7 : decode cX8_type 7 = .ok (.iload_n 1, 1) := by decide +kernel
theorem dX8_type_8 : decode cX8_type 8 = .ok (.iload_n 2, 1) := by decide +kernel
theorem dX8_type_9 : decode cX8_type 9 = .ok (.iload_n 3, 1) := by decide +kernel
theorem dX8_type_10 : decode cX8_type 10 = .ok (.invokevirtual 53, 3) := by decide +kernel
theorem dX8_type_13 : decode cX8_type 13 = .ok (.ifCond .ne 5, 3) := by decide +kernel
theorem dX8_type_16 : decode cX8_type 16 = .ok (.iconst (-1), 1) := by decide +kernel
theorem dX8_type_17 : decode cX8_type 17 = .ok (.ireturn, 1) := by decide +kernel
theorem dX8_type_18 : decode cX8_type 18 = .ok (.aload_n 0, 1) := by decide +kernel
theorem dX8_type_19 : decode cX8_type 19 = .ok (.getfield 10, 3) := by decide +kernel
theorem dX8_type_22 : decode cX8_type 22 = .ok (.getfield 49, 3) := by decide +kernel
theorem dX8_type_25 : decode cX8_type 25 = .ok (.getfield 59, 3) := by decide +kernel
theorem dX8_type_28 : decode cX8_type 28 = .ok (.bipush 12, 2) := by decide +kernel
theorem dX8_type_30 : decode cX8_type 30 = .ok (.if_icmp .lt 6, 3) := by decide +kernel
theorem dX8_type_33 : decode cX8_type 33 = .ok (.bipush (-3), 2) := by decide +kernel
theorem dX8_type_35 : decode cX8_type 35 = .ok (.ireturn, 1) := by decide +kernel
theorem dX8_type_36 : decode cX8_type 36 = .ok (.aload_n 0, 1) := by decide +kernel
theorem dX8_type_37 : decode cX8_type 37 = .ok (.new 32, 3) := by decide +kernel
theorem dX8_type_40 : decode cX8_type 40 = .ok (.dup, 1) := by decide +kernel
theorem dX8_type_41 : decode cX8_type 41 = .ok (.iconst 0, 1) := by decide +kernel
theorem dX8_type_42 : decode cX8_type 42 = .ok (.iload_n 1, 1) := by decide +kernel
theorem dX8_type_43 : decode cX8_type 43 = .ok (.ifCond .eq 7, 3) := by decide +kernel
theorem dX8_type_46 : decode cX8_type 46 = .ok (.iconst 1, 1) := by decide +kernel
theorem dX8_type_47 : decode cX8_type 47 = .ok (.goto 4, 3) := by decide +kernel
theorem dX8_type_50 : decode cX8_type 50 = .ok (.iconst 0, 1) := by decide +kernel
theorem dX8_type_51 : decode cX8_type 51 = .ok (.iload_n 2, 1) := by decide +kernel
theorem dX8_type_52 : decode cX8_type 52 = .ok (.iload_n 3, 1) := by decide +kernel
theorem dX8_type_53 : decode cX8_type 53 = .ok (.iconst 0, 1) := by decide +kernel
theorem dX8_type_54 : decode cX8_type 54 = .ok (.iconst 0, 1) := by decide +kernel
theorem dX8_type_55 : decode cX8_type 55 = .ok (.lconst 0, 1) := by decide +kernel
theorem dX8_type_56 : decode cX8_type 56 = .ok (.invokespecial 63, 3) := by decide +kernel
theorem dX8_type_59 : decode cX8_type 59 = .ok (.invokevirtual 66, 3) := by decide +kernel
theorem dX8_type_62 : decode cX8_type 62 = .ok (.ireturn, 1) := by decide +kernel
theorem dX8_above_0 : decode cX8_above 0 = .ok (.aload_n 0, 1) := by decide +kernel
theorem dX8_above_1 : decode cX8_above 1 = .ok (.getfield 10, 3) := by decide +kernel
theorem dX8_above_4 : decode cX8_above 4 = .ok (.getfield 49, 3) := by decide +kernel
theorem dX8_above_7 : decode cX8_above 7 = .ok (.iload_n 1, 1) := by decide +kernel
theorem dX8_above_8 : decode cX8_above 8 = .ok (.invokevirtual 70, 3) := by decide +kernel
theorem dX8_above_11 : decode cX8_above 11 = .ok (.ifCond .eq 23, 3) := by decide +kernel
theorem dX8_above_14 : decode cX8_above 14 = .ok (.iload_n 2, 1) := by decide +kernel
theorem dX8_above_15 : decode cX8_above 15 = .ok (.bipush (-2), 2) := by decide +kernel
theorem dX8_above_17 : decode cX8_above 17 = .ok (.if_icmp .eq 19, 3) := by decide +kernel
theorem dX8_above_20 : decode cX8_above 20 = .ok (.aload_n 0, 1) := by decide +kernel
theorem dX8_above_21 : decode cX8_above 21 = .ok (.getfield 10, 3) := by decide +kernel
theorem dX8_above_24 : decode cX8_above 24 = .ok (.getfield 49, 3) := by decide +kernel
theorem dX8_above_27 : decode cX8_above 27 = .ok (.iload_n 2, 1) := by decide +kernel
theorem dX8_above_28 : decode cX8_above 28 = .ok (.invokevirtual 70, 3) := by decide +kernel
theorem dX8_above_31 : decode cX8_above 31 = .ok (.ifCond .ne 5, 3) := by decide +kernel
theorem dX8_above_34 : decode cX8_above 34 = .ok (.iconst (-1), 1) := by decide +kernel
theorem dX8_above_35 : decode cX8_above 35 = .ok (.ireturn, 1) := by decide +kernel
theorem dX8_above_36 : decode cX8_above 36 = .ok (.aload_n 0, 1) := by decide +kernel
theorem dX8_above_37 : decode cX8_above 37 = .ok (.getfield 10, 3) := by decide +kernel
theorem dX8_above_40 : decode cX8_above 40 = .ok (.getfield 49, 3) := by decide +kernel
theorem dX8_above_43 : decode cX8_above 43 = .ok (.iload_n 2, 1) := by decide +kernel
theorem dX8_above_44 : decode cX8_above 44 = .ok (.iload_n 1, 1) := by decide +kernel
theorem dX8_above_45 : decode cX8_above 45 = .ok (.invokevirtual 74, 3) := by decide +kernel
theorem dX8_above_48 : decode cX8_above 48 = .ok (.ifCond .eq 6, 3) := by decide +kernel
theorem dX8_above_51 : decode cX8_above 51 = .ok (.bipush (-4), 2) := by decide +kernel
theorem dX8_above_53 : decode cX8_above 53 = .ok (.ireturn, 1) := by decide +kernel
theorem dX8_above_54 : decode cX8_above 54 = .ok (.aload_n 0, 1) := by decide +kernel
theorem dX8_above_55 : decode cX8_above 55 = .ok (.new 32, 3) := by decide +kernel
theorem dX8_above_58 : decode cX8_above 58 = .ok (.dup, 1) := by decide +kernel
theorem dX8_above_59 : decode cX8_above 59 = .ok (.iconst 1, 1) := by decide +kernel
theorem dX8_above_60 : decode cX8_above 60 = .ok (.iload_n 1, 1) := by decide +kernel
theorem dX8_above_61 : decode cX8_above 61 = .ok (.iload_n 2, 1) := by decide +kernel
theorem dX8_above_62 : decode cX8_above 62 = .ok (.iconst 0, 1) := by decide +kernel
theorem dX8_above_63 : decode cX8_above 63 = .ok (.iconst 0, 1) := by decide +kernel
theorem dX8_above_64 : decode cX8_above 64 = .ok (.iconst 0, 1) := by decide +kernel
theorem dX8_above_65 : decode cX8_above 65 = .ok (.lconst 0, 1) := by decide +kernel
theorem dX8_above_66 : decode cX8_above 66 = .ok (.invokespecial 63, 3) := by decide +kernel
theorem dX8_above_69 : decode cX8_above 69 = .ok (.invokevirtual 66, 3) := by decide +kernel
theorem dX8_above_72 : decode cX8_above 72 = .ok (.ireturn, 1) := by decide +kernel
theorem dX8_face_0 : decode cX8_face 0 = .ok (.aload_n 0, 1) := by decide +kernel
theorem dX8_face_1 : decode cX8_face 1 = .ok (.getfield 10, 3) := by decide +kernel
theorem dX8_face_4 : decode cX8_face 4 = .ok (.getfield 49, 3) := by decide +kernel
theorem dX8_face_7 : decode cX8_face 7 = .ok (.iload_n 1, 1) := by decide +kernel
theorem dX8_face_8 : decode cX8_face 8 = .ok (.iload_n 2, 1) := by decide +kernel
theorem dX8_face_9 : decode cX8_face 9 = .ok (.invokevirtual 78, 3) := by decide +kernel
theorem dX8_face_12 : decode cX8_face 12 = .ok (.ifCond .ne 5, 3) := by decide +kernel
theorem dX8_face_15 : decode cX8_face 15 = .ok (.iconst (-1), 1) := by decide +kernel
theorem dX8_face_16 : decode cX8_face 16 = .ok (.ireturn, 1) := by decide +kernel
theorem dX8_face_17 : decode cX8_face 17 = .ok (.aload_n 0, 1) := by decide +kernel
theorem dX8_face_18 : decode cX8_face 18 = .ok (.getfield 10, 3) := by decide +kernel
theorem dX8_face_21 : decode cX8_face 21 = .ok (.getfield 49, 3) := by decide +kernel
theorem dX8_face_24 : decode cX8_face 24 = .ok (.iload_n 2, 1) := by decide +kernel
theorem dX8_face_25 : decode cX8_face 25 = .ok (.iload_n 1, 1) := by decide +kernel
theorem dX8_face_26 : decode cX8_face 26 = .ok (.invokevirtual 74, 3) := by decide +kernel
theorem dX8_face_29 : decode cX8_face 29 = .ok (.ifCond .eq 6, 3) := by decide +kernel
theorem dX8_face_32 : decode cX8_face 32 = .ok (.bipush (-4), 2) := by decide +kernel
theorem dX8_face_34 : decode cX8_face 34 = .ok (.ireturn, 1) := by decide +kernel
theorem dX8_face_35 : decode cX8_face 35 = .ok (.aload_n 0, 1) := by decide +kernel
theorem dX8_face_36 : decode cX8_face 36 = .ok (.new 32, 3) := by decide +kernel
theorem dX8_face_39 : decode cX8_face 39 = .ok (.dup, 1) := by decide +kernel
theorem dX8_face_40 : decode cX8_face 40 = .ok (.iconst 2, 1) := by decide +kernel
theorem dX8_face_41 : decode cX8_face 41 = .ok (.iload_n 1, 1) := by decide +kernel
theorem dX8_face_42 : decode cX8_face 42 = .ok (.iload_n 2, 1) := by decide +kernel
theorem dX8_face_43 : decode cX8_face 43 = .ok (.iconst 0, 1) := by decide +kernel
theorem dX8_face_44 : decode cX8_face 44 = .ok (.iconst 0, 1) := by decide +kernel
theorem dX8_face_45 : decode cX8_face 45 = .ok (.iconst 0, 1) := by decide +kernel
theorem dX8_face_46 : decode cX8_face 46 = .ok (.lconst 0, 1) := by decide +kernel
theorem dX8_face_47 : decode cX8_face 47 = .ok (.invokespecial 63, 3) := by decide +kernel
theorem dX8_face_50 : decode cX8_face 50 = .ok (.invokevirtual 66, 3) := by decide +kernel
theorem dX8_face_53 : decode cX8_face 53 = .ok (.ireturn, 1) := by decide +kernel
theorem dX8_unface_0 : decode cX8_unface 0 = .ok (.aload_n 0, 1) := by decide +kernel
theorem dX8_unface_1 : decode cX8_unface 1 = .ok (.getfield 10, 3) := by decide +kernel
theorem dX8_unface_4 : decode cX8_unface 4 = .ok (.getfield 49, 3) := by decide +kernel
theorem dX8_unface_7 : decode cX8_unface 7 = .ok (.iload_n 1, 1) := by decide +kernel
theorem dX8_unface_8 : decode cX8_unface 8 = .ok (.iload_n 2, 1) := by decide +kernel
theorem dX8_unface_9 : decode cX8_unface 9 = .ok (.invokevirtual 81, 3) := by decide +kernel
theorem dX8_unface_12 : decode cX8_unface 12 = .ok (.bipush (-2), 2) := by decide +kernel
theorem dX8_unface_14 : decode cX8_unface 14 = .ok (.if_icmp .ne 5, 3) := by decide +kernel
theorem dX8_unface_17 : decode cX8_unface 17 = .ok (.iconst (-1), 1) := by decide +kernel
theorem dX8_unface_18 : decode cX8_unface 18 = .ok (.ireturn, 1) := by decide +kernel
theorem dX8_unface_19 : decode cX8_unface 19 = .ok (.aload_n 0, 1) := by decide +kernel
theorem dX8_unface_20 : decode cX8_unface 20 = .ok (.new 32, 3) := by decide +kernel
theorem dX8_unface_23 : decode cX8_unface 23 = .ok (.dup, 1) := by decide +kernel
theorem dX8_unface_24 : decode cX8_unface 24 = .ok (.iconst 3, 1) := by decide +kernel
theorem dX8_unface_25 : decode cX8_unface 25 = .ok (.iload_n 1, 1) := by decide +kernel
theorem dX8_unface_26 : decode cX8_unface 26 = .ok (.iload_n 2, 1) := by decide +kernel
theorem dX8_unface_27 : decode cX8_unface 27 = .ok (.iconst 0, 1) := by decide +kernel
theorem dX8_unface_28 : decode cX8_unface 28 = .ok (.iconst 0, 1) := by decide +kernel
theorem dX8_unface_29 : decode cX8_unface 29 = .ok (.iconst 0, 1) := by decide +kernel
theorem dX8_unface_30 : decode cX8_unface 30 = .ok (.lconst 0, 1) := by decide +kernel
theorem dX8_unface_31 : decode cX8_unface 31 = .ok (.invokespecial 63, 3) := by decide +kernel
theorem dX8_unface_34 : decode cX8_unface 34 = .ok (.invokevirtual 66, 3) := by decide +kernel
theorem dX8_unface_37 : decode cX8_unface 37 = .ok (.ireturn, 1) := by decide +kernel
theorem dX8_marks_0 : decode cX8_marks 0 = .ok (.aload_n 0, 1) := by decide +kernel
theorem dX8_marks_1 : decode cX8_marks 1 = .ok (.getfield 10, 3) := by decide +kernel
theorem dX8_marks_4 : decode cX8_marks 4 = .ok (.getfield 49, 3) := by decide +kernel
theorem dX8_marks_7 : decode cX8_marks 7 = .ok (.iload_n 1, 1) := by decide +kernel
theorem dX8_marks_8 : decode cX8_marks 8 = .ok (.invokevirtual 85, 3) := by decide +kernel
theorem dX8_marks_11 : decode cX8_marks 11 = .ok (.ifCond .eq 10, 3) := by decide +kernel
theorem dX8_marks_14 : decode cX8_marks 14 = .ok (.iload_n 2, 1) := by decide +kernel
theorem dX8_marks_15 : decode cX8_marks 15 = .ok (.invokestatic 88, 3) := by decide +kernel
theorem dX8_marks_18 : decode cX8_marks 18 = .ok (.ifCond .ne 5, 3) := by decide +kernel
theorem dX8_marks_21 : decode cX8_marks 21 = .ok (.iconst (-1), 1) := by decide +kernel
theorem dX8_marks_22 : decode cX8_marks 22 = .ok (.ireturn, 1) := by decide +kernel
theorem dX8_marks_23 : decode cX8_marks 23 = .ok (.aload_n 0, 1) := by decide +kernel
theorem dX8_marks_24 : decode cX8_marks 24 = .ok (.new 32, 3) := by decide +kernel
theorem dX8_marks_27 : decode cX8_marks 27 = .ok (.dup, 1) := by decide +kernel
theorem dX8_marks_28 : decode cX8_marks 28 = .ok (.iconst 4, 1) := by decide +kernel
theorem dX8_marks_29 : decode cX8_marks 29 = .ok (.iload_n 1, 1) := by decide +kernel
theorem dX8_marks_30 : decode cX8_marks 30 = .ok (.iload_n 2, 1) := by decide +kernel
theorem dX8_marks_31 : decode cX8_marks 31 = .ok (.iconst 0, 1) := by decide +kernel
theorem dX8_marks_32 : decode cX8_marks 32 = .ok (.iconst 0, 1) := by decide +kernel
theorem dX8_marks_33 : decode cX8_marks 33 = .ok (.iconst 0, 1) := by decide +kernel
theorem dX8_marks_34 : decode cX8_marks 34 = .ok (.lconst 0, 1) := by decide +kernel
theorem dX8_marks_35 : decode cX8_marks 35 = .ok (.invokespecial 63, 3) := by decide +kernel
theorem dX8_marks_38 : decode cX8_marks 38 = .ok (.invokevirtual 66, 3) := by decide +kernel
theorem dX8_marks_41 : decode cX8_marks 41 = .ok (.ireturn, 1) := by decide +kernel
theorem dX8_field_0 : decode cX8_field 0 = .ok (.aload_n 0, 1) := by decide +kernel
theorem dX8_field_1 : decode cX8_field 1 = .ok (.getfield 10, 3) := by decide +kernel
theorem dX8_field_4 : decode cX8_field 4 = .ok (.iload_n 1, 1) := by decide +kernel
theorem dX8_field_5 : decode cX8_field 5 = .ok (.iload_n 2, 1) := by decide +kernel
theorem dX8_field_6 : decode cX8_field 6 = .ok (.iload_n 3, 1) := by decide +kernel
theorem dX8_field_7 : decode cX8_field 7 = .ok (.iload 4, 2) := by decide +kernel
theorem dX8_field_9 : decode cX8_field 9 = .ok (.invokevirtual 91, 3) := by decide +kernel
theorem dX8_field_12 : decode cX8_field 12 = .ok (.ifCond .ne 5, 3) := by decide +kernel
theorem dX8_field_15 : decode cX8_field 15 = .ok (.iconst (-1), 1) := by decide +kernel
theorem dX8_field_16 : decode cX8_field 16 = .ok (.ireturn, 1) := by decide +kernel
theorem dX8_field_17 : decode cX8_field 17 = .ok (.aload_n 0, 1) := by decide +kernel
theorem dX8_field_18 : decode cX8_field 18 = .ok (.getfield 10, 3) := by decide +kernel
theorem dX8_field_21 : decode cX8_field 21 = .ok (.getfield 95, 3) := by decide +kernel
theorem dX8_field_24 : decode cX8_field 24 = .ok (.invokevirtual 99, 3) := by decide +kernel
theorem dX8_field_27 : decode cX8_field 27 = .ok (.ifCond .eq 6, 3) := by decide +kernel
theorem dX8_field_30 : decode cX8_field 30 = .ok (.bipush (-3), 2) := by decide +kernel
theorem dX8_field_32 : decode cX8_field 32 = .ok (.ireturn, 1) := by decide +kernel
theorem dX8_field_33 : decode cX8_field 33 = .ok (.aload_n 0, 1) := by decide +kernel
theorem dX8_field_34 : decode cX8_field 34 = .ok (.new 32, 3) := by decide +kernel
theorem dX8_field_37 : decode cX8_field 37 = .ok (.dup, 1) := by decide +kernel
theorem dX8_field_38 : decode cX8_field 38 = .ok (.iconst 5, 1) := by decide +kernel
theorem dX8_field_39 : decode cX8_field 39 = .ok (.iload_n 1, 1) := by decide +kernel
theorem dX8_field_40 : decode cX8_field 40 = .ok (.iload_n 2, 1) := by decide +kernel
theorem dX8_field_41 : decode cX8_field 41 = .ok (.iload_n 3, 1) := by decide +kernel
theorem dX8_field_42 : decode cX8_field 42 = .ok (.bipush (-2), 2) := by decide +kernel
theorem dX8_field_44 : decode cX8_field 44 = .ok (.iload 4, 2) := by decide +kernel
theorem dX8_field_46 : decode cX8_field 46 = .ok (.lload 5, 2) := by decide +kernel
theorem dX8_field_48 : decode cX8_field 48 = .ok (.invokespecial 63, 3) := by decide +kernel
theorem dX8_field_51 : decode cX8_field 51 = .ok (.invokevirtual 66, 3) := by decide +kernel
theorem dX8_field_54 : decode cX8_field 54 = .ok (.ireturn, 1) := by decide +kernel
theorem dX8_method_0 : decode cX8_method 0 = .ok (.aload_n 0, 1) := by decide +kernel
theorem dX8_method_1 : decode cX8_method 1 = .ok (.getfield 10, 3) := by decide +kernel
theorem dX8_method_4 : decode cX8_method 4 = .ok (.iload_n 1, 1) := by decide +kernel
theorem dX8_method_5 : decode cX8_method 5 = .ok (.iload_n 2, 1) := by decide +kernel
theorem dX8_method_6 : decode cX8_method 6 = .ok (.iload_n 3, 1) := by decide +kernel
theorem dX8_method_7 : decode cX8_method 7 = .ok (.iload 4, 2) := by decide +kernel
theorem dX8_method_9 : decode cX8_method 9 = .ok (.iload 5, 2) := by decide +kernel
theorem dX8_method_11 : decode cX8_method 11 = .ok (.invokevirtual 105, 3) := by decide +kernel
theorem dX8_method_14 : decode cX8_method 14 = .ok (.ifCond .ne 5, 3) := by decide +kernel
theorem dX8_method_17 : decode cX8_method 17 = .ok (.iconst (-1), 1) := by decide +kernel
theorem dX8_method_18 : decode cX8_method 18 = .ok (.ireturn, 1) := by decide +kernel
theorem dX8_method_19 : decode cX8_method 19 = .ok (.aload_n 0, 1) := by decide +kernel
theorem dX8_method_20 : decode cX8_method 20 = .ok (.getfield 10, 3) := by decide +kernel
theorem dX8_method_23 : decode cX8_method 23 = .ok (.getfield 95, 3) := by decide +kernel
theorem dX8_method_26 : decode cX8_method 26 = .ok (.invokevirtual 99, 3) := by decide +kernel
theorem dX8_method_29 : decode cX8_method 29 = .ok (.ifCond .eq 6, 3) := by decide +kernel
theorem dX8_method_32 : decode cX8_method 32 = .ok (.bipush (-3), 2) := by decide +kernel
theorem dX8_method_34 : decode cX8_method 34 = .ok (.ireturn, 1) := by decide +kernel
theorem dX8_method_35 : decode cX8_method 35 = .ok (.aload_n 0, 1) := by decide +kernel
theorem dX8_method_36 : decode cX8_method 36 = .ok (.new 32, 3) := by decide +kernel
theorem dX8_method_39 : decode cX8_method 39 = .ok (.dup, 1) := by decide +kernel
theorem dX8_method_40 : decode cX8_method 40 = .ok (.bipush 6, 2) := by decide +kernel
theorem dX8_method_42 : decode cX8_method 42 = .ok (.iload_n 1, 1) := by decide +kernel
theorem dX8_method_43 : decode cX8_method 43 = .ok (.iload_n 2, 1) := by decide +kernel
theorem dX8_method_44 : decode cX8_method 44 = .ok (.iload_n 3, 1) := by decide +kernel
theorem dX8_method_45 : decode cX8_method 45 = .ok (.iload 4, 2) := by decide +kernel
theorem dX8_method_47 : decode cX8_method 47 = .ok (.iload 5, 2) := by decide +kernel
theorem dX8_method_49 : decode cX8_method 49 = .ok (.iload 6, 2) := by decide +kernel
theorem dX8_method_51 : decode cX8_method 51 = .ok (.i2l, 1) := by decide +kernel
theorem dX8_method_52 : decode cX8_method 52 = .ok (.invokespecial 63, 3) := by decide +kernel
theorem dX8_method_55 : decode cX8_method 55 = .ok (.invokevirtual 66, 3) := by decide +kernel
theorem dX8_method_58 : decode cX8_method 58 = .ok (.ireturn, 1) := by decide +kernel
theorem dX8_drop_0 : decode cX8_drop 0 = .ok (.aload_n 0, 1) := by decide +kernel
theorem dX8_drop_1 : decode cX8_drop 1 = .ok (.getfield 10, 3) := by decide +kernel
theorem dX8_drop_4 : decode cX8_drop 4 = .ok (.getfield 95, 3) := by decide +kernel
theorem dX8_drop_7 : decode cX8_drop 7 = .ok (.iload_n 1, 1) := by decide +kernel
theorem dX8_drop_8 : decode cX8_drop 8 = .ok (.invokevirtual 109, 3) := by decide +kernel
theorem dX8_drop_11 : decode cX8_drop 11 = .ok (.ifCond .ne 5, 3) := by decide +kernel
theorem dX8_drop_14 : decode cX8_drop 14 = .ok (.iconst (-1), 1) := by decide +kernel
theorem dX8_drop_15 : decode cX8_drop 15 = .ok (.ireturn, 1) := by decide +kernel
theorem dX8_drop_16 : decode cX8_drop 16 = .ok (.aload_n 0, 1) := by decide +kernel
theorem dX8_drop_17 : decode cX8_drop 17 = .ok (.new 32, 3) := by decide +kernel
theorem dX8_drop_20 : decode cX8_drop 20 = .ok (.dup, 1) := by decide +kernel
theorem dX8_drop_21 : decode cX8_drop 21 = .ok (.bipush 7, 2) := by decide +kernel
theorem dX8_drop_23 : decode cX8_drop 23 = .ok (.iload_n 1, 1) := by decide +kernel
theorem dX8_drop_24 : decode cX8_drop 24 = .ok (.iconst 0, 1) := by decide +kernel
theorem dX8_drop_25 : decode cX8_drop 25 = .ok (.iconst 0, 1) := by decide +kernel
theorem dX8_drop_26 : decode cX8_drop 26 = .ok (.iconst 0, 1) := by decide +kernel
theorem dX8_drop_27 : decode cX8_drop 27 = .ok (.iconst 0, 1) := by decide +kernel
theorem dX8_drop_28 : decode cX8_drop 28 = .ok (.lconst 0, 1) := by decide +kernel
theorem dX8_drop_29 : decode cX8_drop 29 = .ok (.invokespecial 63, 3) := by decide +kernel
theorem dX8_drop_32 : decode cX8_drop 32 = .ok (.invokevirtual 66, 3) := by decide +kernel
theorem dX8_drop_35 : decode cX8_drop 35 = .ok (.ireturn, 1) := by decide +kernel
theorem dX8_mark_0 : decode cX8_mark 0 = .ok (.aload_n 0, 1) := by decide +kernel
theorem dX8_mark_1 : decode cX8_mark 1 = .ok (.getfield 10, 3) := by decide +kernel
theorem dX8_mark_4 : decode cX8_mark 4 = .ok (.iload_n 1, 1) := by decide +kernel
theorem dX8_mark_5 : decode cX8_mark 5 = .ok (.iload_n 2, 1) := by decide +kernel
theorem dX8_mark_6 : decode cX8_mark 6 = .ok (.invokevirtual 112, 3) := by decide +kernel
theorem dX8_mark_9 : decode cX8_mark 9 = .ok (.ifCond .ne 5, 3) := by decide +kernel
theorem dX8_mark_12 : decode cX8_mark 12 = .ok (.iconst (-1), 1) := by decide +kernel
theorem dX8_mark_13 : decode cX8_mark 13 = .ok (.ireturn, 1) := by decide +kernel
theorem dX8_mark_14 : decode cX8_mark 14 = .ok (.aload_n 0, 1) := by decide +kernel
theorem dX8_mark_15 : decode cX8_mark 15 = .ok (.new 32, 3) := by decide +kernel
theorem dX8_mark_18 : decode cX8_mark 18 = .ok (.dup, 1) := by decide +kernel
theorem dX8_mark_19 : decode cX8_mark 19 = .ok (.bipush 8, 2) := by decide +kernel
theorem dX8_mark_21 : decode cX8_mark 21 = .ok (.iload_n 1, 1) := by decide +kernel
theorem dX8_mark_22 : decode cX8_mark 22 = .ok (.iload_n 2, 1) := by decide +kernel
theorem dX8_mark_23 : decode cX8_mark 23 = .ok (.iconst 0, 1) := by decide +kernel
theorem dX8_mark_24 : decode cX8_mark 24 = .ok (.iconst 0, 1) := by decide +kernel
theorem dX8_mark_25 : decode cX8_mark 25 = .ok (.iconst 0, 1) := by decide +kernel
theorem dX8_mark_26 : decode cX8_mark 26 = .ok (.lconst 0, 1) := by decide +kernel
theorem dX8_mark_27 : decode cX8_mark 27 = .ok (.invokespecial 63, 3) := by decide +kernel
theorem dX8_mark_30 : decode cX8_mark 30 = .ok (.invokevirtual 66, 3) := by decide +kernel
theorem dX8_mark_33 : decode cX8_mark 33 = .ok (.ireturn, 1) := by decide +kernel
theorem dX8_set_0 : decode cX8_set 0 = .ok (.aload_n 0, 1) := by decide +kernel
theorem dX8_set_1 : decode cX8_set 1 = .ok (.getfield 10, 3) := by decide +kernel
theorem dX8_set_4 : decode cX8_set 4 = .ok (.getfield 95, 3) := by decide +kernel
theorem dX8_set_7 : decode cX8_set 7 = .ok (.iload_n 1, 1) := by decide +kernel
theorem dX8_set_8 : decode cX8_set 8 = .ok (.invokevirtual 109, 3) := by decide +kernel
theorem dX8_set_11 : decode cX8_set 11 = .ok (.ifCond .ne 5, 3) := by decide +kernel
theorem dX8_set_14 : decode cX8_set 14 = .ok (.iconst (-1), 1) := by decide +kernel
theorem dX8_set_15 : decode cX8_set 15 = .ok (.ireturn, 1) := by decide +kernel
theorem dX8_set_16 : decode cX8_set 16 = .ok (.aload_n 0, 1) := by decide +kernel
theorem dX8_set_17 : decode cX8_set 17 = .ok (.new 32, 3) := by decide +kernel
theorem dX8_set_20 : decode cX8_set 20 = .ok (.dup, 1) := by decide +kernel
theorem dX8_set_21 : decode cX8_set 21 = .ok (.bipush 9, 2) := by decide +kernel
theorem dX8_set_23 : decode cX8_set 23 = .ok (.iload_n 1, 1) := by decide +kernel
theorem dX8_set_24 : decode cX8_set 24 = .ok (.iconst 0, 1) := by decide +kernel
theorem dX8_set_25 : decode cX8_set 25 = .ok (.iconst 0, 1) := by decide +kernel
theorem dX8_set_26 : decode cX8_set 26 = .ok (.iconst 0, 1) := by decide +kernel
theorem dX8_set_27 : decode cX8_set 27 = .ok (.iconst 0, 1) := by decide +kernel
theorem dX8_set_28 : decode cX8_set 28 = .ok (.lload_n 2, 1) := by decide +kernel
theorem dX8_set_29 : decode cX8_set 29 = .ok (.invokespecial 63, 3) := by decide +kernel
theorem dX8_set_32 : decode cX8_set 32 = .ok (.invokevirtual 66, 3) := by decide +kernel
theorem dX8_set_35 : decode cX8_set 35 = .ok (.ireturn, 1) := by decide +kernel
theorem dX8_retype_0 : decode cX8_retype 0 = .ok (.aload_n 0, 1) := by decide +kernel
theorem dX8_retype_1 : decode cX8_retype 1 = .ok (.getfield 10, 3) := by decide +kernel
theorem dX8_retype_4 : decode cX8_retype 4 = .ok (.getfield 95, 3) := by decide +kernel
theorem dX8_retype_7 : decode cX8_retype 7 = .ok (.iload_n 1, 1) := by decide +kernel
theorem dX8_retype_8 : decode cX8_retype 8 = .ok (.invokevirtual 115, 3) := by decide +kernel
theorem dX8_retype_11 : decode cX8_retype 11 = .ok (.ifCond .eq 10, 3) := by decide +kernel
theorem dX8_retype_14 : decode cX8_retype 14 = .ok (.iload_n 2, 1) := by decide +kernel
theorem dX8_retype_15 : decode cX8_retype 15 = .ok (.invokestatic 118, 3) := by decide +kernel
theorem dX8_retype_18 : decode cX8_retype 18 = .ok (.ifCond .ne 5, 3) := by decide +kernel
theorem dX8_retype_21 : decode cX8_retype 21 = .ok (.iconst (-1), 1) := by decide +kernel
theorem dX8_retype_22 : decode cX8_retype 22 = .ok (.ireturn, 1) := by decide +kernel
theorem dX8_retype_23 : decode cX8_retype 23 = .ok (.aload_n 0, 1) := by decide +kernel
theorem dX8_retype_24 : decode cX8_retype 24 = .ok (.new 32, 3) := by decide +kernel
theorem dX8_retype_27 : decode cX8_retype 27 = .ok (.dup, 1) := by decide +kernel
theorem dX8_retype_28 : decode cX8_retype 28 = .ok (.bipush 10, 2) := by decide +kernel
theorem dX8_retype_30 : decode cX8_retype 30 = .ok (.iload_n 1, 1) := by decide +kernel
theorem dX8_retype_31 : decode cX8_retype 31 = .ok (.iload_n 2, 1) := by decide +kernel
theorem dX8_retype_32 : decode cX8_retype 32 = .ok (.iconst 0, 1) := by decide +kernel
theorem dX8_retype_33 : decode cX8_retype 33 = .ok (.iconst 0, 1) := by decide +kernel
theorem dX8_retype_34 : decode cX8_retype 34 = .ok (.iconst 0, 1) := by decide +kernel
theorem dX8_retype_35 : decode cX8_retype 35 = .ok (.lload_n 3, 1) := by decide +kernel
theorem dX8_retype_36 : decode cX8_retype 36 = .ok (.invokespecial 63, 3) := by decide +kernel
theorem dX8_retype_39 : decode cX8_retype 39 = .ok (.invokevirtual 66, 3) := by decide +kernel
theorem dX8_retype_42 : decode cX8_retype 42 = .ok (.ireturn, 1) := by decide +kernel
theorem dX8_move_0 : decode cX8_move 0 = .ok (.aload_n 0, 1) := by decide +kernel
theorem dX8_move_1 : decode cX8_move 1 = .ok (.getfield 10, 3) := by decide +kernel
theorem dX8_move_4 : decode cX8_move 4 = .ok (.iload_n 1, 1) := by decide +kernel
theorem dX8_move_5 : decode cX8_move 5 = .ok (.iload_n 2, 1) := by decide +kernel
theorem dX8_move_6 : decode cX8_move 6 = .ok (.invokevirtual 123, 3) := by decide +kernel
theorem dX8_move_9 : decode cX8_move 9 = .ok (.ifCond .ne 5, 3) := by decide +kernel
theorem dX8_move_12 : decode cX8_move 12 = .ok (.iconst (-1), 1) := by decide +kernel
theorem dX8_move_13 : decode cX8_move 13 = .ok (.ireturn, 1) := by decide +kernel
theorem dX8_move_14 : decode cX8_move 14 = .ok (.aload_n 0, 1) := by decide +kernel
theorem dX8_move_15 : decode cX8_move 15 = .ok (.new 32, 3) := by decide +kernel
theorem dX8_move_18 : decode cX8_move 18 = .ok (.dup, 1) := by decide +kernel
theorem dX8_move_19 : decode cX8_move 19 = .ok (.bipush 11, 2) := by decide +kernel
theorem dX8_move_21 : decode cX8_move 21 = .ok (.iload_n 1, 1) := by decide +kernel
theorem dX8_move_22 : decode cX8_move 22 = .ok (.iload_n 2, 1) := by decide +kernel
theorem dX8_move_23 : decode cX8_move 23 = .ok (.iconst 0, 1) := by decide +kernel
theorem dX8_move_24 : decode cX8_move 24 = .ok (.iconst 0, 1) := by decide +kernel
theorem dX8_move_25 : decode cX8_move 25 = .ok (.iconst 0, 1) := by decide +kernel
theorem dX8_move_26 : decode cX8_move 26 = .ok (.lconst 0, 1) := by decide +kernel
theorem dX8_move_27 : decode cX8_move 27 = .ok (.invokespecial 63, 3) := by decide +kernel
theorem dX8_move_30 : decode cX8_move 30 = .ok (.invokevirtual 66, 3) := by decide +kernel
theorem dX8_move_33 : decode cX8_move 33 = .ok (.ireturn, 1) := by decide +kernel
theorem dX8_undo_0 : decode cX8_undo 0 = .ok (.aload_n 0, 1) := by decide +kernel
theorem dX8_undo_1 : decode cX8_undo 1 = .ok (.getfield 126, 3) := by decide +kernel
theorem dX8_undo_4 : decode cX8_undo 4 = .ok (.ifCond .gt 6, 3) := by decide +kernel
theorem dX8_undo_7 : decode cX8_undo 7 = .ok (.bipush (-2), 2) := by decide +kernel
theorem dX8_undo_9 : decode cX8_undo 9 = .ok (.ireturn, 1) := by decide +kernel
theorem dX8_undo_10 : decode cX8_undo 10 = .ok (.aload_n 0, 1) := by decide +kernel
theorem dX8_undo_11 : decode cX8_undo 11 = .ok (.dup, 1) := by decide +kernel
theorem dX8_undo_12 : decode cX8_undo 12 = .ok (.getfield 126, 3) := by decide +kernel
theorem dX8_undo_15 : decode cX8_undo 15 = .ok (.iconst 1, 1) := by decide +kernel
theorem dX8_undo_16 : decode cX8_undo 16 = .ok (.isub, 1) := by decide +kernel
theorem dX8_undo_17 : decode cX8_undo 17 = .ok (.putfield 126, 3) := by decide +kernel
theorem dX8_undo_20 : decode cX8_undo 20 = .ok (.aload_n 0, 1) := by decide +kernel
theorem dX8_undo_21 : decode cX8_undo 21 = .ok (.getfield 34, 3) := by decide +kernel
theorem dX8_undo_24 : decode cX8_undo 24 = .ok (.aload_n 0, 1) := by decide +kernel
theorem dX8_undo_25 : decode cX8_undo 25 = .ok (.getfield 126, 3) := by decide +kernel
theorem dX8_undo_28 : decode cX8_undo 28 = .ok (.aconst_null, 1) := by decide +kernel
theorem dX8_undo_29 : decode cX8_undo 29 = .ok (.aastore, 1) := by decide +kernel
theorem dX8_undo_30 : decode cX8_undo 30 = .ok (.aload_n 0, 1) := by decide +kernel
theorem dX8_undo_31 : decode cX8_undo 31 = .ok (.getfield 10, 3) := by decide +kernel
theorem dX8_undo_34 : decode cX8_undo 34 = .ok (.invokevirtual 129, 3) := by decide +kernel
theorem dX8_undo_37 : decode cX8_undo 37 = .ok (.aload_n 0, 1) := by decide +kernel
theorem dX8_undo_38 : decode cX8_undo 38 = .ok (.iconst 0, 1) := by decide +kernel
theorem dX8_undo_39 : decode cX8_undo 39 = .ok (.aload_n 0, 1) := by decide +kernel
theorem dX8_undo_40 : decode cX8_undo 40 = .ok (.getfield 126, 3) := by decide +kernel
theorem dX8_undo_43 : decode cX8_undo 43 = .ok (.invokevirtual 132, 3) := by decide +kernel
theorem dX8_undo_46 : decode cX8_undo 46 = .ok (.aload_n 0, 1) := by decide +kernel
theorem dX8_undo_47 : decode cX8_undo 47 = .ok (.getfield 126, 3) := by decide +kernel
theorem dX8_undo_50 : decode cX8_undo 50 = .ok (.ireturn, 1) := by decide +kernel
theorem dX8_get_0 : decode cX8_get 0 = .ok (.aload_n 0, 1) := by decide +kernel
theorem dX8_get_1 : decode cX8_get 1 = .ok (.getfield 10, 3) := by decide +kernel
theorem dX8_get_4 : decode cX8_get 4 = .ok (.getfield 49, 3) := by decide +kernel
theorem dX8_get_7 : decode cX8_get 7 = .ok (.iload_n 1, 1) := by decide +kernel
theorem dX8_get_8 : decode cX8_get 8 = .ok (.invokevirtual 85, 3) := by decide +kernel
theorem dX8_get_11 : decode cX8_get 11 = .ok (.ifCond .eq 10, 3) := by decide +kernel
theorem dX8_get_14 : decode cX8_get 14 = .ok (.iload_n 2, 1) := by decide +kernel
theorem dX8_get_15 : decode cX8_get 15 = .ok (.invokestatic 136, 3) := by decide +kernel
theorem dX8_get_18 : decode cX8_get 18 = .ok (.ifCond .ne 5, 3) := by decide +kernel
theorem dX8_get_21 : decode cX8_get 21 = .ok (.iconst (-1), 1) := by decide +kernel
theorem dX8_get_22 : decode cX8_get 22 = .ok (.ireturn, 1) := by decide +kernel
theorem dX8_get_23 : decode cX8_get 23 = .ok (.aload_n 0, 1) := by decide +kernel
theorem dX8_get_24 : decode cX8_get 24 = .ok (.iconst 0, 1) := by decide +kernel
theorem dX8_get_25 : decode cX8_get 25 = .ok (.iload_n 1, 1) := by decide +kernel
theorem dX8_get_26 : decode cX8_get 26 = .ok (.iload_n 2, 1) := by decide +kernel
theorem dX8_get_27 : decode cX8_get 27 = .ok (.bipush (-2), 2) := by decide +kernel
theorem dX8_get_29 : decode cX8_get 29 = .ok (.bipush (-2), 2) := by decide +kernel
theorem dX8_get_31 : decode cX8_get 31 = .ok (.invokevirtual 139, 3) := by decide +kernel
theorem dX8_get_34 : decode cX8_get 34 = .ok (.ireturn, 1) := by decide +kernel
theorem dX8_call_0 : decode cX8_call 0 = .ok (.aload_n 0, 1) := by decide +kernel
theorem dX8_call_1 : decode cX8_call 1 = .ok (.getfield 10, 3) := by decide +kernel
theorem dX8_call_4 : decode cX8_call 4 = .ok (.getfield 49, 3) := by decide +kernel
theorem dX8_call_7 : decode cX8_call 7 = .ok (.iload_n 1, 1) := by decide +kernel
theorem dX8_call_8 : decode cX8_call 8 = .ok (.invokevirtual 85, 3) := by decide +kernel
theorem dX8_call_11 : decode cX8_call 11 = .ok (.ifCond .eq 26, 3) := by decide +kernel
theorem dX8_call_14 : decode cX8_call 14 = .ok (.iload_n 2, 1) := by decide +kernel
theorem dX8_call_15 : decode cX8_call 15 = .ok (.invokestatic 136, 3) := by decide +kernel
theorem dX8_call_18 : decode cX8_call 18 = .ok (.ifCond .eq 19, 3) := by decide +kernel
theorem dX8_call_21 : decode cX8_call 21 = .ok (.aload_n 0, 1) := by decide +kernel
theorem dX8_call_22 : decode cX8_call 22 = .ok (.getfield 10, 3) := by decide +kernel
theorem dX8_call_25 : decode cX8_call 25 = .ok (.getfield 49, 3) := by decide +kernel
theorem dX8_call_28 : decode cX8_call 28 = .ok (.iload_n 3, 1) := by decide +kernel
theorem dX8_call_29 : decode cX8_call 29 = .ok (.iload 4, 2) := by decide +kernel
theorem dX8_call_31 : decode cX8_call 31 = .ok (.invokevirtual 143, 3) := by decide +kernel
theorem dX8_call_34 : decode cX8_call 34 = .ok (.ifCond .ne 5, 3) := by decide +kernel
theorem dX8_call_37 : decode cX8_call 37 = .ok (.iconst (-1), 1) := by decide +kernel
theorem dX8_call_38 : decode cX8_call 38 = .ok (.ireturn, 1) := by decide +kernel
theorem dX8_call_39 : decode cX8_call 39 = .ok (.aload_n 0, 1) := by decide +kernel
theorem dX8_call_40 : decode cX8_call 40 = .ok (.iconst 1, 1) := by decide +kernel
theorem dX8_call_41 : decode cX8_call 41 = .ok (.iload_n 1, 1) := by decide +kernel
theorem dX8_call_42 : decode cX8_call 42 = .ok (.iload_n 2, 1) := by decide +kernel
theorem dX8_call_43 : decode cX8_call 43 = .ok (.iload_n 3, 1) := by decide +kernel
theorem dX8_call_44 : decode cX8_call 44 = .ok (.iload 4, 2) := by decide +kernel
theorem dX8_call_46 : decode cX8_call 46 = .ok (.invokevirtual 139, 3) := by decide +kernel
theorem dX8_call_49 : decode cX8_call 49 = .ok (.ireturn, 1) := by decide +kernel
theorem dX8_make_0 : decode cX8_make 0 = .ok (.aload_n 0, 1) := by decide +kernel
theorem dX8_make_1 : decode cX8_make 1 = .ok (.getfield 10, 3) := by decide +kernel
theorem dX8_make_4 : decode cX8_make 4 = .ok (.getfield 49, 3) := by decide +kernel
theorem dX8_make_7 : decode cX8_make 7 = .ok (.iload_n 1, 1) := by decide +kernel
theorem dX8_make_8 : decode cX8_make 8 = .ok (.invokevirtual 85, 3) := by decide +kernel
theorem dX8_make_11 : decode cX8_make 11 = .ok (.ifCond .ne 5, 3) := by decide +kernel
theorem dX8_make_14 : decode cX8_make 14 = .ok (.iconst (-1), 1) := by decide +kernel
theorem dX8_make_15 : decode cX8_make 15 = .ok (.ireturn, 1) := by decide +kernel
theorem dX8_make_16 : decode cX8_make 16 = .ok (.aload_n 0, 1) := by decide +kernel
theorem dX8_make_17 : decode cX8_make 17 = .ok (.iconst 2, 1) := by decide +kernel
theorem dX8_make_18 : decode cX8_make 18 = .ok (.iload_n 1, 1) := by decide +kernel
theorem dX8_make_19 : decode cX8_make 19 = .ok (.bipush (-2), 2) := by decide +kernel
theorem dX8_make_21 : decode cX8_make 21 = .ok (.bipush (-2), 2) := by decide +kernel
theorem dX8_make_23 : decode cX8_make 23 = .ok (.bipush (-2), 2) := by decide +kernel
theorem dX8_make_25 : decode cX8_make 25 = .ok (.invokevirtual 139, 3) := by decide +kernel
theorem dX8_make_28 : decode cX8_make 28 = .ok (.ireturn, 1) := by decide +kernel
theorem dX8_meet_0 : decode cX8_meet 0 = .ok (.aload_n 0, 1) := by decide +kernel
theorem dX8_meet_1 : decode cX8_meet 1 = .ok (.iload_n 1, 1) := by decide +kernel
theorem dX8_meet_2 : decode cX8_meet 2 = .ok (.invokevirtual 146, 3) := by decide +kernel
theorem dX8_meet_5 : decode cX8_meet 5 = .ok (.astore_n 3, 1) := by decide +kernel
theorem dX8_meet_6 : decode cX8_meet 6 = .ok (.aload_n 3, 1) := by decide +kernel
theorem dX8_meet_7 : decode cX8_meet 7 = .ok (.ifnull 17, 3) := by decide +kernel
theorem dX8_meet_10 : decode cX8_meet 10 = .ok (.aload_n 0, 1) := by decide +kernel
theorem dX8_meet_11 : decode cX8_meet 11 = .ok (.getfield 10, 3) := by decide +kernel
theorem dX8_meet_14 : decode cX8_meet 14 = .ok (.getfield 49, 3) := by decide +kernel
theorem dX8_meet_17 : decode cX8_meet 17 = .ok (.iload_n 2, 1) := by decide +kernel
theorem dX8_meet_18 : decode cX8_meet 18 = .ok (.invokevirtual 70, 3) := by decide +kernel
theorem dX8_meet_21 : decode cX8_meet 21 = .ok (.ifCond .ne 5, 3) := by decide +kernel
theorem dX8_meet_24 : decode cX8_meet 24 = .ok (.iconst (-1), 1) := by decide +kernel
theorem dX8_meet_25 : decode cX8_meet 25 = .ok (.ireturn, 1) := by decide +kernel
theorem dX8_meet_26 : decode cX8_meet 26 = .ok (.aload_n 0, 1) := by decide +kernel
theorem dX8_meet_27 : decode cX8_meet 27 = .ok (.aload_n 3, 1) := by decide +kernel
theorem dX8_meet_28 : decode cX8_meet 28 = .ok (.iload_n 2, 1) := by decide +kernel
theorem dX8_meet_29 : decode cX8_meet 29 = .ok (.invokevirtual 150, 3) := by decide +kernel
theorem dX8_meet_32 : decode cX8_meet 32 = .ok (.ireturn, 1) := by decide +kernel
theorem dX8_asked_0 : decode cX8_asked 0 = .ok (.aload_n 0, 1) := by decide +kernel
theorem dX8_asked_1 : decode cX8_asked 1 = .ok (.getfield 154, 3) := by decide +kernel
theorem dX8_asked_4 : decode cX8_asked 4 = .ok (.lreturn, 1) := by decide +kernel
theorem dX8_anew_0 : decode cX8_anew 0 = .ok (.aload_n 0, 1) := by decide +kernel
theorem dX8_anew_1 : decode cX8_anew 1 = .ok (.iload_n 1, 1) := by decide +kernel
theorem dX8_anew_2 : decode cX8_anew 2 = .ok (.invokevirtual 146, 3) := by decide +kernel
theorem dX8_anew_5 : decode cX8_anew 5 = .ok (.astore_n 3, 1) := by decide +kernel
theorem dX8_anew_6 : decode cX8_anew 6 = .ok (.aload_n 3, 1) := by decide +kernel
theorem dX8_anew_7 : decode cX8_anew 7 = .ok (.ifnull 17, 3) := by decide +kernel
theorem dX8_anew_10 : decode cX8_anew 10 = .ok (.aload_n 0, 1) := by decide +kernel
theorem dX8_anew_11 : decode cX8_anew 11 = .ok (.getfield 10, 3) := by decide +kernel
theorem dX8_anew_14 : decode cX8_anew 14 = .ok (.getfield 49, 3) := by decide +kernel
theorem dX8_anew_17 : decode cX8_anew 17 = .ok (.iload_n 2, 1) := by decide +kernel
theorem dX8_anew_18 : decode cX8_anew 18 = .ok (.invokevirtual 70, 3) := by decide +kernel
theorem dX8_anew_21 : decode cX8_anew 21 = .ok (.ifCond .ne 5, 3) := by decide +kernel
theorem dX8_anew_24 : decode cX8_anew 24 = .ok (.iconst (-1), 1) := by decide +kernel
theorem dX8_anew_25 : decode cX8_anew 25 = .ok (.ireturn, 1) := by decide +kernel
theorem dX8_anew_26 : decode cX8_anew 26 = .ok (.aload_n 0, 1) := by decide +kernel
theorem dX8_anew_27 : decode cX8_anew 27 = .ok (.getfield 10, 3) := by decide +kernel
theorem dX8_anew_30 : decode cX8_anew 30 = .ok (.getfield 49, 3) := by decide +kernel
theorem dX8_anew_33 : decode cX8_anew 33 = .ok (.aload_n 3, 1) := by decide +kernel
theorem dX8_anew_34 : decode cX8_anew 34 = .ok (.getfield 158, 3) := by decide +kernel
theorem dX8_anew_37 : decode cX8_anew 37 = .ok (.invokevirtual 85, 3) := by decide +kernel
theorem dX8_anew_40 : decode cX8_anew 40 = .ok (.ifCond .eq 24, 3) := by decide +kernel
theorem dX8_anew_43 : decode cX8_anew 43 = .ok (.aload_n 0, 1) := by decide +kernel
theorem dX8_anew_44 : decode cX8_anew 44 = .ok (.getfield 10, 3) := by decide +kernel
theorem dX8_anew_47 : decode cX8_anew 47 = .ok (.getfield 49, 3) := by decide +kernel
theorem dX8_anew_50 : decode cX8_anew 50 = .ok (.aload_n 3, 1) := by decide +kernel
theorem dX8_anew_51 : decode cX8_anew 51 = .ok (.getfield 161, 3) := by decide +kernel
theorem dX8_anew_54 : decode cX8_anew 54 = .ok (.aload_n 3, 1) := by decide +kernel
theorem dX8_anew_55 : decode cX8_anew 55 = .ok (.getfield 164, 3) := by decide +kernel
theorem dX8_anew_58 : decode cX8_anew 58 = .ok (.invokevirtual 143, 3) := by decide +kernel
theorem dX8_anew_61 : decode cX8_anew 61 = .ok (.ifCond .ne 6, 3) := by decide +kernel
theorem dX8_anew_64 : decode cX8_anew 64 = .ok (.bipush (-2), 2) := by decide +kernel
theorem dX8_anew_66 : decode cX8_anew 66 = .ok (.ireturn, 1) := by decide +kernel
theorem dX8_anew_67 : decode cX8_anew 67 = .ok (.aload_n 0, 1) := by decide +kernel
theorem dX8_anew_68 : decode cX8_anew 68 = .ok (.getfield 45, 3) := by decide +kernel
theorem dX8_anew_71 : decode cX8_anew 71 = .ok (.aload_n 3, 1) := by decide +kernel
theorem dX8_anew_72 : decode cX8_anew 72 = .ok (.getfield 167, 3) := by decide +kernel
theorem dX8_anew_75 : decode cX8_anew 75 = .ok (.aload_n 3, 1) := by decide +kernel
theorem dX8_anew_76 : decode cX8_anew 76 = .ok (.getfield 158, 3) := by decide +kernel
theorem dX8_anew_79 : decode cX8_anew 79 = .ok (.aload_n 3, 1) := by decide +kernel
theorem dX8_anew_80 : decode cX8_anew 80 = .ok (.getfield 170, 3) := by decide +kernel
theorem dX8_anew_83 : decode cX8_anew 83 = .ok (.aload_n 3, 1) := by decide +kernel
theorem dX8_anew_84 : decode cX8_anew 84 = .ok (.getfield 161, 3) := by decide +kernel
theorem dX8_anew_87 : decode cX8_anew 87 = .ok (.aload_n 3, 1) := by decide +kernel
theorem dX8_anew_88 : decode cX8_anew 88 = .ok (.getfield 164, 3) := by decide +kernel
theorem dX8_anew_91 : decode cX8_anew 91 = .ok (.invokevirtual 173, 3) := by decide +kernel
theorem dX8_anew_94 : decode cX8_anew 94 = .ok (.aload_n 0, 1) := by decide +kernel
theorem dX8_anew_95 : decode cX8_anew 95 = .ok (.getfield 21, 3) := by decide +kernel
theorem dX8_anew_98 : decode cX8_anew 98 = .ok (.aload_n 0, 1) := by decide +kernel
theorem dX8_anew_99 : decode cX8_anew 99 = .ok (.getfield 45, 3) := by decide +kernel
theorem dX8_anew_102 : decode cX8_anew 102 = .ok (.invokevirtual 177, 3) := by decide +kernel
theorem dX8_anew_105 : decode cX8_anew 105 = .ok (.istore 4, 2) := by decide +kernel
theorem dX8_anew_107 : decode cX8_anew 107 = .ok (.iload 4, 2) := by decide +kernel
theorem dX8_anew_109 : decode cX8_anew 109 = .ok (.ifCond .eq 11, 3) := by decide +kernel
theorem dX8_anew_112 : decode cX8_anew 112 = .ok (.bipush (-10), 2) := by decide +kernel
theorem dX8_anew_114 : decode cX8_anew 114 = .ok (.iload 4, 2) := by decide +kernel
theorem dX8_anew_116 : decode cX8_anew 116 = .ok (.isub, 1) := by decide +kernel
theorem dX8_anew_117 : decode cX8_anew 117 = .ok (.goto 12, 3) := by decide +kernel
theorem dX8_anew_120 : decode cX8_anew 120 = .ok (.aload_n 0, 1) := by decide +kernel
theorem dX8_anew_121 : decode cX8_anew 121 = .ok (.aload_n 0, 1) := by decide +kernel
theorem dX8_anew_122 : decode cX8_anew 122 = .ok (.getfield 45, 3) := by decide +kernel
theorem dX8_anew_125 : decode cX8_anew 125 = .ok (.iload_n 2, 1) := by decide +kernel
theorem dX8_anew_126 : decode cX8_anew 126 = .ok (.invokevirtual 150, 3) := by decide +kernel
theorem dX8_anew_129 : decode cX8_anew 129 = .ok (.ireturn, 1) := by decide +kernel
theorem dX8_culprit_0 : decode cX8_culprit 0 = .ok (.aload_n 0, 1) := by decide +kernel
theorem dX8_culprit_1 : decode cX8_culprit 1 = .ok (.iload_n 1, 1) := by decide +kernel
theorem dX8_culprit_2 : decode cX8_culprit 2 = .ok (.invokevirtual 146, 3) := by decide +kernel
theorem dX8_culprit_5 : decode cX8_culprit 5 = .ok (.astore_n 3, 1) := by decide +kernel
theorem dX8_culprit_6 : decode cX8_culprit 6 = .ok (.aload_n 3, 1) := by decide +kernel
theorem dX8_culprit_7 : decode cX8_culprit 7 = .ok (.ifnull 17, 3) := by decide +kernel
theorem dX8_culprit_10 : decode cX8_culprit 10 = .ok (.aload_n 0, 1) := by decide +kernel
theorem dX8_culprit_11 : decode cX8_culprit 11 = .ok (.getfield 10, 3) := by decide +kernel
theorem dX8_culprit_14 : decode cX8_culprit 14 = .ok (.getfield 49, 3) := by decide +kernel
theorem dX8_culprit_17 : decode cX8_culprit 17 = .ok (.iload_n 2, 1) := by decide +kernel
theorem dX8_culprit_18 : decode cX8_culprit 18 = .ok (.invokevirtual 70, 3) := by decide +kernel
theorem dX8_culprit_21 : decode cX8_culprit 21 = .ok (.ifCond .ne 5, 3) := by decide +kernel
theorem dX8_culprit_24 : decode cX8_culprit 24 = .ok (.iconst (-1), 1) := by decide +kernel
theorem dX8_culprit_25 : decode cX8_culprit 25 = .ok (.ireturn, 1) := by decide +kernel
theorem dX8_culprit_26 : decode cX8_culprit 26 = .ok (.aload_n 0, 1) := by decide +kernel
theorem dX8_culprit_27 : decode cX8_culprit 27 = .ok (.getfield 126, 3) := by decide +kernel
theorem dX8_culprit_30 : decode cX8_culprit 30 = .ok (.aload_n 3, 1) := by decide +kernel
theorem dX8_culprit_31 : decode cX8_culprit 31 = .ok (.getfield 181, 3) := by decide +kernel
theorem dX8_culprit_34 : decode cX8_culprit 34 = .ok (.if_icmp .ge 6, 3) := by decide +kernel
theorem dX8_culprit_37 : decode cX8_culprit 37 = .ok (.bipush (-2), 2) := by decide +kernel
theorem dX8_culprit_39 : decode cX8_culprit 39 = .ok (.ireturn, 1) := by decide +kernel
theorem dX8_culprit_40 : decode cX8_culprit 40 = .ok (.aload_n 0, 1) := by decide +kernel
theorem dX8_culprit_41 : decode cX8_culprit 41 = .ok (.getfield 10, 3) := by decide +kernel
theorem dX8_culprit_44 : decode cX8_culprit 44 = .ok (.invokevirtual 129, 3) := by decide +kernel
theorem dX8_culprit_47 : decode cX8_culprit 47 = .ok (.aload_n 0, 1) := by decide +kernel
theorem dX8_culprit_48 : decode cX8_culprit 48 = .ok (.iconst 0, 1) := by decide +kernel
theorem dX8_culprit_49 : decode cX8_culprit 49 = .ok (.aload_n 3, 1) := by decide +kernel
theorem dX8_culprit_50 : decode cX8_culprit 50 = .ok (.getfield 181, 3) := by decide +kernel
theorem dX8_culprit_53 : decode cX8_culprit 53 = .ok (.invokevirtual 132, 3) := by decide +kernel
theorem dX8_culprit_56 : decode cX8_culprit 56 = .ok (.aload_n 0, 1) := by decide +kernel
theorem dX8_culprit_57 : decode cX8_culprit 57 = .ok (.getfield 10, 3) := by decide +kernel
theorem dX8_culprit_60 : decode cX8_culprit 60 = .ok (.getfield 49, 3) := by decide +kernel
theorem dX8_culprit_63 : decode cX8_culprit 63 = .ok (.iload_n 2, 1) := by decide +kernel
theorem dX8_culprit_64 : decode cX8_culprit 64 = .ok (.invokevirtual 70, 3) := by decide +kernel
theorem dX8_culprit_67 : decode cX8_culprit 67 = .ok (.ifCond .ne 17, 3) := by decide +kernel
theorem dX8_culprit_70 : decode cX8_culprit 70 = .ok (.aload_n 0, 1) := by decide +kernel
theorem dX8_culprit_71 : decode cX8_culprit 71 = .ok (.aload_n 3, 1) := by decide +kernel
theorem dX8_culprit_72 : decode cX8_culprit 72 = .ok (.getfield 181, 3) := by decide +kernel
theorem dX8_culprit_75 : decode cX8_culprit 75 = .ok (.aload_n 0, 1) := by decide +kernel
theorem dX8_culprit_76 : decode cX8_culprit 76 = .ok (.getfield 126, 3) := by decide +kernel
theorem dX8_culprit_79 : decode cX8_culprit 79 = .ok (.invokevirtual 132, 3) := by decide +kernel
theorem dX8_culprit_82 : decode cX8_culprit 82 = .ok (.iconst (-1), 1) := by decide +kernel
theorem dX8_culprit_83 : decode cX8_culprit 83 = .ok (.ireturn, 1) := by decide +kernel
theorem dX8_culprit_84 : decode cX8_culprit 84 = .ok (.aload_n 0, 1) := by decide +kernel
theorem dX8_culprit_85 : decode cX8_culprit 85 = .ok (.aload_n 3, 1) := by decide +kernel
theorem dX8_culprit_86 : decode cX8_culprit 86 = .ok (.iload_n 2, 1) := by decide +kernel
theorem dX8_culprit_87 : decode cX8_culprit 87 = .ok (.invokevirtual 184, 3) := by decide +kernel
theorem dX8_culprit_90 : decode cX8_culprit 90 = .ok (.istore 4, 2) := by decide +kernel
theorem dX8_culprit_92 : decode cX8_culprit 92 = .ok (.aload_n 0, 1) := by decide +kernel
theorem dX8_culprit_93 : decode cX8_culprit 93 = .ok (.iload 4, 2) := by decide +kernel
theorem dX8_culprit_95 : decode cX8_culprit 95 = .ok (.ifCond .ne 10, 3) := by decide +kernel
theorem dX8_culprit_98 : decode cX8_culprit 98 = .ok (.aload_n 0, 1) := by decide +kernel
theorem dX8_culprit_99 : decode cX8_culprit 99 = .ok (.getfield 126, 3) := by decide +kernel
theorem dX8_culprit_102 : decode cX8_culprit 102 = .ok (.goto 5, 3) := by decide +kernel
theorem dX8_culprit_105 : decode cX8_culprit 105 = .ok (.iload 4, 2) := by decide +kernel
theorem dX8_culprit_107 : decode cX8_culprit 107 = .ok (.aload_n 0, 1) := by decide +kernel
theorem dX8_culprit_108 : decode cX8_culprit 108 = .ok (.getfield 126, 3) := by decide +kernel
theorem dX8_culprit_111 : decode cX8_culprit 111 = .ok (.invokevirtual 132, 3) := by decide +kernel
theorem dX8_culprit_114 : decode cX8_culprit 114 = .ok (.iload 4, 2) := by decide +kernel
theorem dX8_culprit_116 : decode cX8_culprit 116 = .ok (.ireturn, 1) := by decide +kernel
theorem dX8_caller_0 : decode cX8_caller 0 = .ok (.aload_n 0, 1) := by decide +kernel
theorem dX8_caller_1 : decode cX8_caller 1 = .ok (.iload_n 1, 1) := by decide +kernel
theorem dX8_caller_2 : decode cX8_caller 2 = .ok (.invokevirtual 146, 3) := by decide +kernel
theorem dX8_caller_5 : decode cX8_caller 5 = .ok (.astore_n 3, 1) := by decide +kernel
theorem dX8_caller_6 : decode cX8_caller 6 = .ok (.aload_n 3, 1) := by decide +kernel
theorem dX8_caller_7 : decode cX8_caller 7 = .ok (.ifnonnull 7, 3) := by decide +kernel
theorem dX8_caller_10 : decode cX8_caller 10 = .ok (.iconst (-1), 1) := by decide +kernel
theorem dX8_caller_11 : decode cX8_caller 11 = .ok (.goto 8, 3) := by decide +kernel
theorem dX8_caller_14 : decode cX8_caller 14 = .ok (.aload_n 3, 1) := by decide +kernel
theorem dX8_caller_15 : decode cX8_caller 15 = .ok (.iload_n 2, 1) := by decide +kernel
theorem dX8_caller_16 : decode cX8_caller 16 = .ok (.invokevirtual 187, 3) := by decide +kernel
theorem dX8_caller_19 : decode cX8_caller 19 = .ok (.ireturn, 1) := by decide +kernel
theorem dX8_told_0 : decode cX8_told 0 = .ok (.aload_n 0, 1) := by decide +kernel
theorem dX8_told_1 : decode cX8_told 1 = .ok (.getfield 10, 3) := by decide +kernel
theorem dX8_told_4 : decode cX8_told 4 = .ok (.getfield 49, 3) := by decide +kernel
theorem dX8_told_7 : decode cX8_told 7 = .ok (.iload_n 1, 1) := by decide +kernel
theorem dX8_told_8 : decode cX8_told 8 = .ok (.iload_n 2, 1) := by decide +kernel
theorem dX8_told_9 : decode cX8_told 9 = .ok (.invokevirtual 191, 3) := by decide +kernel
theorem dX8_told_12 : decode cX8_told 12 = .ok (.ireturn, 1) := by decide +kernel
theorem dX8_below_0 : decode cX8_below 0 = .ok (.aload_n 0, 1) := by decide +kernel
theorem dX8_below_1 : decode cX8_below 1 = .ok (.getfield 10, 3) := by decide +kernel
theorem dX8_below_4 : decode cX8_below 4 = .ok (.getfield 49, 3) := by decide +kernel
theorem dX8_below_7 : decode cX8_below 7 = .ok (.iload_n 1, 1) := by decide +kernel
theorem dX8_below_8 : decode cX8_below 8 = .ok (.invokevirtual 85, 3) := by decide +kernel
theorem dX8_below_11 : decode cX8_below 11 = .ok (.ifCond .eq 17, 3) := by decide +kernel
theorem dX8_below_14 : decode cX8_below 14 = .ok (.aload_n 0, 1) := by decide +kernel
theorem dX8_below_15 : decode cX8_below 15 = .ok (.getfield 10, 3) := by decide +kernel
theorem dX8_below_18 : decode cX8_below 18 = .ok (.getfield 49, 3) := by decide +kernel
theorem dX8_below_21 : decode cX8_below 21 = .ok (.iload_n 2, 1) := by decide +kernel
theorem dX8_below_22 : decode cX8_below 22 = .ok (.invokevirtual 85, 3) := by decide +kernel
theorem dX8_below_25 : decode cX8_below 25 = .ok (.ifCond .ne 5, 3) := by decide +kernel
theorem dX8_below_28 : decode cX8_below 28 = .ok (.iconst (-1), 1) := by decide +kernel
theorem dX8_below_29 : decode cX8_below 29 = .ok (.ireturn, 1) := by decide +kernel
theorem dX8_below_30 : decode cX8_below 30 = .ok (.aload_n 0, 1) := by decide +kernel
theorem dX8_below_31 : decode cX8_below 31 = .ok (.getfield 10, 3) := by decide +kernel
theorem dX8_below_34 : decode cX8_below 34 = .ok (.getfield 49, 3) := by decide +kernel
theorem dX8_below_37 : decode cX8_below 37 = .ok (.iload_n 1, 1) := by decide +kernel
theorem dX8_below_38 : decode cX8_below 38 = .ok (.iload_n 2, 1) := by decide +kernel
theorem dX8_below_39 : decode cX8_below 39 = .ok (.invokevirtual 74, 3) := by decide +kernel
theorem dX8_below_42 : decode cX8_below 42 = .ok (.ifCond .eq 7, 3) := by decide +kernel
theorem dX8_below_45 : decode cX8_below 45 = .ok (.iconst 1, 1) := by decide +kernel
theorem dX8_below_46 : decode cX8_below 46 = .ok (.goto 4, 3) := by decide +kernel
theorem dX8_below_49 : decode cX8_below 49 = .ok (.iconst 0, 1) := by decide +kernel
theorem dX8_below_50 : decode cX8_below 50 = .ok (.ireturn, 1) := by decide +kernel
theorem dX8_member_0 : decode cX8_member 0 = .ok (.aload_n 0, 1) := by decide +kernel
theorem dX8_member_1 : decode cX8_member 1 = .ok (.getfield 10, 3) := by decide +kernel
theorem dX8_member_4 : decode cX8_member 4 = .ok (.getfield 95, 3) := by decide +kernel
theorem dX8_member_7 : decode cX8_member 7 = .ok (.iload_n 1, 1) := by decide +kernel
theorem dX8_member_8 : decode cX8_member 8 = .ok (.iload_n 2, 1) := by decide +kernel
theorem dX8_member_9 : decode cX8_member 9 = .ok (.invokevirtual 193, 3) := by decide +kernel
theorem dX8_member_12 : decode cX8_member 12 = .ok (.ireturn, 1) := by decide +kernel
theorem dX8_selected_0 : decode cX8_selected 0 = .ok (.aload_n 0, 1) := by decide +kernel
theorem dX8_selected_1 : decode cX8_selected 1 = .ok (.getfield 10, 3) := by decide +kernel
theorem dX8_selected_4 : decode cX8_selected 4 = .ok (.getfield 49, 3) := by decide +kernel
theorem dX8_selected_7 : decode cX8_selected 7 = .ok (.iload_n 1, 1) := by decide +kernel
theorem dX8_selected_8 : decode cX8_selected 8 = .ok (.invokevirtual 70, 3) := by decide +kernel
theorem dX8_selected_11 : decode cX8_selected 11 = .ok (.ifCond .eq 17, 3) := by decide +kernel
theorem dX8_selected_14 : decode cX8_selected 14 = .ok (.aload_n 0, 1) := by decide +kernel
theorem dX8_selected_15 : decode cX8_selected 15 = .ok (.getfield 10, 3) := by decide +kernel
theorem dX8_selected_18 : decode cX8_selected 18 = .ok (.getfield 95, 3) := by decide +kernel
theorem dX8_selected_21 : decode cX8_selected 21 = .ok (.iload_n 2, 1) := by decide +kernel
theorem dX8_selected_22 : decode cX8_selected 22 = .ok (.invokevirtual 194, 3) := by decide +kernel
theorem dX8_selected_25 : decode cX8_selected 25 = .ok (.ifCond .ne 5, 3) := by decide +kernel
theorem dX8_selected_28 : decode cX8_selected 28 = .ok (.iconst (-1), 1) := by decide +kernel
theorem dX8_selected_29 : decode cX8_selected 29 = .ok (.ireturn, 1) := by decide +kernel
theorem dX8_selected_30 : decode cX8_selected 30 = .ok (.aload_n 0, 1) := by decide +kernel
theorem dX8_selected_31 : decode cX8_selected 31 = .ok (.getfield 10, 3) := by decide +kernel
theorem dX8_selected_34 : decode cX8_selected 34 = .ok (.getfield 95, 3) := by decide +kernel
theorem dX8_selected_37 : decode cX8_selected 37 = .ok (.astore_n 3, 1) := by decide +kernel
theorem dX8_selected_38 : decode cX8_selected 38 = .ok (.aload_n 0, 1) := by decide +kernel
theorem dX8_selected_39 : decode cX8_selected 39 = .ok (.getfield 10, 3) := by decide +kernel
theorem dX8_selected_42 : decode cX8_selected 42 = .ok (.iload_n 1, 1) := by decide +kernel
theorem dX8_selected_43 : decode cX8_selected 43 = .ok (.aload_n 3, 1) := by decide +kernel
theorem dX8_selected_44 : decode cX8_selected 44 = .ok (.getfield 197, 3) := by decide +kernel
theorem dX8_selected_47 : decode cX8_selected 47 = .ok (.iload_n 2, 1) := by decide +kernel
theorem dX8_selected_48 : decode cX8_selected 48 = .ok (.iaload, 1) := by decide +kernel
theorem dX8_selected_49 : decode cX8_selected 49 = .ok (.aload_n 3, 1) := by decide +kernel
theorem dX8_selected_50 : decode cX8_selected 50 = .ok (.getfield 200, 3) := by decide +kernel
theorem dX8_selected_53 : decode cX8_selected 53 = .ok (.iload_n 2, 1) := by decide +kernel
theorem dX8_selected_54 : decode cX8_selected 54 = .ok (.iaload, 1) := by decide +kernel
theorem dX8_selected_55 : decode cX8_selected 55 = .ok (.aload_n 3, 1) := by decide +kernel
theorem dX8_selected_56 : decode cX8_selected 56 = .ok (.getfield 203, 3) := by decide +kernel
theorem dX8_selected_59 : decode cX8_selected 59 = .ok (.iload_n 2, 1) := by decide +kernel
theorem dX8_selected_60 : decode cX8_selected 60 = .ok (.iaload, 1) := by decide +kernel
theorem dX8_selected_61 : decode cX8_selected 61 = .ok (.invokevirtual 206, 3) := by decide +kernel
theorem dX8_selected_64 : decode cX8_selected 64 = .ok (.ireturn, 1) := by decide +kernel
theorem dX8_count_0 : decode cX8_count 0 = .ok (.iload_n 1, 1) := by decide +kernel
theorem dX8_count_1 : decode cX8_count 1 = .ok (.tableswitch 63 0 3 #[31, 42, 53, 58], 31) := by decide +kernel
theorem dX8_count_32 : decode cX8_count 32 = .ok (.aload_n 0, 1) := by decide +kernel
theorem dX8_count_33 : decode cX8_count 33 = .ok (.getfield 10, 3) := by decide +kernel
theorem dX8_count_36 : decode cX8_count 36 = .ok (.getfield 49, 3) := by decide +kernel
theorem dX8_count_39 : decode cX8_count 39 = .ok (.getfield 59, 3) := by decide +kernel
theorem dX8_count_42 : decode cX8_count 42 = .ok (.ireturn, 1) := by decide +kernel
theorem dX8_count_43 : decode cX8_count 43 = .ok (.aload_n 0, 1) := by decide +kernel
theorem dX8_count_44 : decode cX8_count 44 = .ok (.getfield 10, 3) := by decide +kernel
theorem dX8_count_47 : decode cX8_count 47 = .ok (.getfield 95, 3) := by decide +kernel
theorem dX8_count_50 : decode cX8_count 50 = .ok (.getfield 210, 3) := by decide +kernel
theorem dX8_count_53 : decode cX8_count 53 = .ok (.ireturn, 1) := by decide +kernel
theorem dX8_count_54 : decode cX8_count 54 = .ok (.aload_n 0, 1) := by decide +kernel
theorem dX8_count_55 : decode cX8_count 55 = .ok (.getfield 211, 3) := by decide +kernel
theorem dX8_count_58 : decode cX8_count 58 = .ok (.ireturn, 1) := by decide +kernel
theorem dX8_count_59 : decode cX8_count 59 = .ok (.aload_n 0, 1) := by decide +kernel
theorem dX8_count_60 : decode cX8_count 60 = .ok (.getfield 126, 3) := by decide +kernel
theorem dX8_count_63 : decode cX8_count 63 = .ok (.ireturn, 1) := by decide +kernel
theorem dX8_count_64 : decode cX8_count 64 = .ok (.iconst (-1), 1) := by decide +kernel
theorem dX8_count_65 : decode cX8_count 65 = .ok (.ireturn, 1) := by decide +kernel
theorem dX8_digest_0 : decode cX8_digest 0 = .ok (.ldc2_w 214, 3) := by decide +kernel
theorem dX8_digest_3 : decode cX8_digest 3 = .ok (.aload_n 0, 1) := by decide +kernel
theorem dX8_digest_4 : decode cX8_digest 4 = .ok (.getfield 10, 3) := by decide +kernel
theorem dX8_digest_7 : decode cX8_digest 7 = .ok (.getfield 95, 3) := by decide +kernel
theorem dX8_digest_10 : decode cX8_digest 10 = .ok (.aload_n 0, 1) := by decide +kernel
theorem dX8_digest_11 : decode cX8_digest 11 = .ok (.getfield 10, 3) := by decide +kernel
theorem dX8_digest_14 : decode cX8_digest 14 = .ok (.getfield 49, 3) := by decide +kernel
theorem dX8_digest_17 : decode cX8_digest 17 = .ok (.ldc2_w 216, 3) := by decide +kernel
theorem dX8_digest_20 : decode cX8_digest 20 = .ok (.invokevirtual 218, 3) := by decide +kernel
theorem dX8_digest_23 : decode cX8_digest 23 = .ok (.invokevirtual 222, 3) := by decide +kernel
theorem dX8_digest_26 : decode cX8_digest 26 = .ok (.lmul, 1) := by decide +kernel
theorem dX8_digest_27 : decode cX8_digest 27 = .ok (.aload_n 0, 1) := by decide +kernel
theorem dX8_digest_28 : decode cX8_digest 28 = .ok (.getfield 126, 3) := by decide +kernel
theorem dX8_digest_31 : decode cX8_digest 31 = .ok (.i2l, 1) := by decide +kernel
theorem dX8_digest_32 : decode cX8_digest 32 = .ok (.ladd, 1) := by decide +kernel
theorem dX8_digest_33 : decode cX8_digest 33 = .ok (.lreturn, 1) := by decide +kernel
theorem dX8_carryOut_0 : decode cX8_carryOut 0 = .ok (.aload_n 0, 1) := by decide +kernel
theorem dX8_carryOut_1 : decode cX8_carryOut 1 = .ok (.getfield 126, 3) := by decide +kernel
theorem dX8_carryOut_4 : decode cX8_carryOut 4 = .ok (.bipush 120, 2) := by decide +kernel
theorem dX8_carryOut_6 : decode cX8_carryOut 6 = .ok (.if_icmp .lt 6, 3) := by decide +kernel
theorem dX8_carryOut_9 : decode cX8_carryOut 9 = .ok (.bipush (-3), 2) := by decide +kernel
theorem dX8_carryOut_11 : decode cX8_carryOut 11 = .ok (.ireturn, 1) := by decide +kernel
theorem dX8_carryOut_12 : decode cX8_carryOut 12 = .ok (.aload_n 0, 1) := by decide +kernel
theorem dX8_carryOut_13 : decode cX8_carryOut 13 = .ok (.getfield 34, 3) := by decide +kernel
theorem dX8_carryOut_16 : decode cX8_carryOut 16 = .ok (.aload_n 0, 1) := by decide +kernel
theorem dX8_carryOut_17 : decode cX8_carryOut 17 = .ok (.getfield 126, 3) := by decide +kernel
theorem dX8_carryOut_20 : decode cX8_carryOut 20 = .ok (.aload_n 1, 1) := by decide +kernel
theorem dX8_carryOut_21 : decode cX8_carryOut 21 = .ok (.aastore, 1) := by decide +kernel
theorem dX8_carryOut_22 : decode cX8_carryOut 22 = .ok (.aload_n 0, 1) := by decide +kernel
theorem dX8_carryOut_23 : decode cX8_carryOut 23 = .ok (.dup, 1) := by decide +kernel
theorem dX8_carryOut_24 : decode cX8_carryOut 24 = .ok (.getfield 126, 3) := by decide +kernel
theorem dX8_carryOut_27 : decode cX8_carryOut 27 = .ok (.iconst 1, 1) := by decide +kernel
theorem dX8_carryOut_28 : decode cX8_carryOut 28 = .ok (.iadd, 1) := by decide +kernel
theorem dX8_carryOut_29 : decode cX8_carryOut 29 = .ok (.putfield 126, 3) := by decide +kernel
theorem dX8_carryOut_32 : decode cX8_carryOut 32 = .ok (.aload_n 0, 1) := by decide +kernel
theorem dX8_carryOut_33 : decode cX8_carryOut 33 = .ok (.getfield 10, 3) := by decide +kernel
theorem dX8_carryOut_36 : decode cX8_carryOut 36 = .ok (.aload_n 1, 1) := by decide +kernel
theorem dX8_carryOut_37 : decode cX8_carryOut 37 = .ok (.invokevirtual 223, 3) := by decide +kernel
theorem dX8_carryOut_40 : decode cX8_carryOut 40 = .ok (.ireturn, 1) := by decide +kernel
theorem dX8_redo_0 : decode cX8_redo 0 = .ok (.iload_n 1, 1) := by decide +kernel
theorem dX8_redo_1 : decode cX8_redo 1 = .ok (.iconst 0, 1) := by decide +kernel
theorem dX8_redo_2 : decode cX8_redo 2 = .ok (.invokestatic 224, 3) := by decide +kernel
theorem dX8_redo_5 : decode cX8_redo 5 = .ok (.istore_n 3, 1) := by decide +kernel
theorem dX8_redo_6 : decode cX8_redo 6 = .ok (.iload_n 3, 1) := by decide +kernel
theorem dX8_redo_7 : decode cX8_redo 7 = .ok (.iload_n 2, 1) := by decide +kernel
theorem dX8_redo_8 : decode cX8_redo 8 = .ok (.if_icmp .ge 41, 3) := by decide +kernel
theorem dX8_redo_11 : decode cX8_redo 11 = .ok (.iload_n 3, 1) := by decide +kernel
theorem dX8_redo_12 : decode cX8_redo 12 = .ok (.aload_n 0, 1) := by decide +kernel
theorem dX8_redo_13 : decode cX8_redo 13 = .ok (.getfield 34, 3) := by decide +kernel
theorem dX8_redo_16 : decode cX8_redo 16 = .ok (.arraylength, 1) := by decide +kernel
theorem dX8_redo_17 : decode cX8_redo 17 = .ok (.if_icmp .ge 32, 3) := by decide +kernel
theorem dX8_redo_20 : decode cX8_redo 20 = .ok (.aload_n 0, 1) := by decide +kernel
theorem dX8_redo_21 : decode cX8_redo 21 = .ok (.getfield 34, 3) := by decide +kernel
theorem dX8_redo_24 : decode cX8_redo 24 = .ok (.iload_n 3, 1) := by decide +kernel
theorem dX8_redo_25 : decode cX8_redo 25 = .ok (.aaload, 1) := by decide +kernel
theorem dX8_redo_26 : decode cX8_redo 26 = .ok (.astore 4, 2) := by decide +kernel
theorem dX8_redo_28 : decode cX8_redo 28 = .ok (.aload 4, 2) := by decide +kernel
theorem dX8_redo_30 : decode cX8_redo 30 = .ok (.ifnull 13, 3) := by decide +kernel
theorem dX8_redo_33 : decode cX8_redo 33 = .ok (.aload_n 0, 1) := by decide +kernel
theorem dX8_redo_34 : decode cX8_redo 34 = .ok (.getfield 10, 3) := by decide +kernel
theorem dX8_redo_37 : decode cX8_redo 37 = .ok (.aload 4, 2) := by decide +kernel
theorem dX8_redo_39 : decode cX8_redo 39 = .ok (.invokevirtual 223, 3) := by decide +kernel
theorem dX8_redo_42 : decode cX8_redo 42 = .ok (.pop, 1) := by decide +kernel
theorem dX8_redo_43 : decode cX8_redo 43 = .ok (.iinc 3 1, 3) := by decide +kernel
theorem dX8_redo_46 : decode cX8_redo 46 = .ok (.goto (-40), 3) := by decide +kernel
theorem dX8_redo_49 : decode cX8_redo 49 = .ok (.return_, 1) := by decide +kernel
theorem dX8_keepCaller_0 : decode cX8_keepCaller 0 = .ok (.aload_n 0, 1) := by decide +kernel
theorem dX8_keepCaller_1 : decode cX8_keepCaller 1 = .ok (.getfield 211, 3) := by decide +kernel
theorem dX8_keepCaller_4 : decode cX8_keepCaller 4 = .ok (.bipush 24, 2) := by decide +kernel
theorem dX8_keepCaller_6 : decode cX8_keepCaller 6 = .ok (.if_icmp .lt 6, 3) := by decide +kernel
theorem dX8_keepCaller_9 : decode cX8_keepCaller 9 = .ok (.bipush (-3), 2) := by decide +kernel
theorem dX8_keepCaller_11 : decode cX8_keepCaller 11 = .ok (.ireturn, 1) := by decide +kernel
theorem dX8_keepCaller_12 : decode cX8_keepCaller 12 = .ok (.new 38, 3) := by decide +kernel
theorem dX8_keepCaller_15 : decode cX8_keepCaller 15 = .ok (.dup, 1) := by decide +kernel
theorem dX8_keepCaller_16 : decode cX8_keepCaller 16 = .ok (.invokespecial 44, 3) := by decide +kernel
theorem dX8_keepCaller_19 : decode cX8_keepCaller 19 = .ok (.astore 6, 2) := by decide +kernel
theorem dX8_keepCaller_21 : decode cX8_keepCaller 21 = .ok (.aload 6, 2) := by decide +kernel
theorem dX8_keepCaller_23 : decode cX8_keepCaller 23 = .ok (.iload_n 1, 1) := by decide +kernel
theorem dX8_keepCaller_24 : decode cX8_keepCaller 24 = .ok (.iload_n 2, 1) := by decide +kernel
theorem dX8_keepCaller_25 : decode cX8_keepCaller 25 = .ok (.iload_n 3, 1) := by decide +kernel
theorem dX8_keepCaller_26 : decode cX8_keepCaller 26 = .ok (.iload 4, 2) := by decide +kernel
theorem dX8_keepCaller_28 : decode cX8_keepCaller 28 = .ok (.iload 5, 2) := by decide +kernel
theorem dX8_keepCaller_30 : decode cX8_keepCaller 30 = .ok (.invokevirtual 173, 3) := by decide +kernel
theorem dX8_keepCaller_33 : decode cX8_keepCaller 33 = .ok (.aload_n 0, 1) := by decide +kernel
theorem dX8_keepCaller_34 : decode cX8_keepCaller 34 = .ok (.getfield 21, 3) := by decide +kernel
theorem dX8_keepCaller_37 : decode cX8_keepCaller 37 = .ok (.aload 6, 2) := by decide +kernel
theorem dX8_keepCaller_39 : decode cX8_keepCaller 39 = .ok (.invokevirtual 177, 3) := by decide +kernel
theorem dX8_keepCaller_42 : decode cX8_keepCaller 42 = .ok (.istore 7, 2) := by decide +kernel
theorem dX8_keepCaller_44 : decode cX8_keepCaller 44 = .ok (.iload 7, 2) := by decide +kernel
theorem dX8_keepCaller_46 : decode cX8_keepCaller 46 = .ok (.ifCond .eq 9, 3) := by decide +kernel
theorem dX8_keepCaller_49 : decode cX8_keepCaller 49 = .ok (.bipush (-10), 2) := by decide +kernel
theorem dX8_keepCaller_51 : decode cX8_keepCaller 51 = .ok (.iload 7, 2) := by decide +kernel
theorem dX8_keepCaller_53 : decode cX8_keepCaller 53 = .ok (.isub, 1) := by decide +kernel
theorem dX8_keepCaller_54 : decode cX8_keepCaller 54 = .ok (.ireturn, 1) := by decide +kernel
theorem dX8_keepCaller_55 : decode cX8_keepCaller 55 = .ok (.aload 6, 2) := by decide +kernel
theorem dX8_keepCaller_57 : decode cX8_keepCaller 57 = .ok (.aload_n 0, 1) := by decide +kernel
theorem dX8_keepCaller_58 : decode cX8_keepCaller 58 = .ok (.getfield 126, 3) := by decide +kernel
theorem dX8_keepCaller_61 : decode cX8_keepCaller 61 = .ok (.putfield 181, 3) := by decide +kernel
theorem dX8_keepCaller_64 : decode cX8_keepCaller 64 = .ok (.aload_n 0, 1) := by decide +kernel
theorem dX8_keepCaller_65 : decode cX8_keepCaller 65 = .ok (.getfield 40, 3) := by decide +kernel
theorem dX8_keepCaller_68 : decode cX8_keepCaller 68 = .ok (.aload_n 0, 1) := by decide +kernel
theorem dX8_keepCaller_69 : decode cX8_keepCaller 69 = .ok (.getfield 211, 3) := by decide +kernel
theorem dX8_keepCaller_72 : decode cX8_keepCaller 72 = .ok (.aload 6, 2) := by decide +kernel
theorem dX8_keepCaller_74 : decode cX8_keepCaller 74 = .ok (.aastore, 1) := by decide +kernel
theorem dX8_keepCaller_75 : decode cX8_keepCaller 75 = .ok (.aload_n 0, 1) := by decide +kernel
theorem dX8_keepCaller_76 : decode cX8_keepCaller 76 = .ok (.dup, 1) := by decide +kernel
theorem dX8_keepCaller_77 : decode cX8_keepCaller 77 = .ok (.getfield 211, 3) := by decide +kernel
theorem dX8_keepCaller_80 : decode cX8_keepCaller 80 = .ok (.iconst 1, 1) := by decide +kernel
theorem dX8_keepCaller_81 : decode cX8_keepCaller 81 = .ok (.iadd, 1) := by decide +kernel
theorem dX8_keepCaller_82 : decode cX8_keepCaller 82 = .ok (.putfield 211, 3) := by decide +kernel
theorem dX8_keepCaller_85 : decode cX8_keepCaller 85 = .ok (.aload_n 0, 1) := by decide +kernel
theorem dX8_keepCaller_86 : decode cX8_keepCaller 86 = .ok (.getfield 211, 3) := by decide +kernel
theorem dX8_keepCaller_89 : decode cX8_keepCaller 89 = .ok (.iconst 1, 1) := by decide +kernel
theorem dX8_keepCaller_90 : decode cX8_keepCaller 90 = .ok (.isub, 1) := by decide +kernel
theorem dX8_keepCaller_91 : decode cX8_keepCaller 91 = .ok (.ireturn, 1) := by decide +kernel
theorem dX8_callerAt_0 : decode cX8_callerAt 0 = .ok (.iload_n 1, 1) := by decide +kernel
theorem dX8_callerAt_1 : decode cX8_callerAt 1 = .ok (.ifCond .lt 20, 3) := by decide +kernel
theorem dX8_callerAt_4 : decode cX8_callerAt 4 = .ok (.iload_n 1, 1) := by decide +kernel
theorem dX8_callerAt_5 : decode cX8_callerAt 5 = .ok (.aload_n 0, 1) := by decide +kernel
theorem dX8_callerAt_6 : decode cX8_callerAt 6 = .ok (.getfield 211, 3) := by decide +kernel
theorem dX8_callerAt_9 : decode cX8_callerAt 9 = .ok (.if_icmp .ge 12, 3) := by decide +kernel
theorem dX8_callerAt_12 : decode cX8_callerAt 12 = .ok (.aload_n 0, 1) := by decide +kernel
theorem dX8_callerAt_13 : decode cX8_callerAt 13 = .ok (.getfield 40, 3) := by decide +kernel
theorem dX8_callerAt_16 : decode cX8_callerAt 16 = .ok (.iload_n 1, 1) := by decide +kernel
theorem dX8_callerAt_17 : decode cX8_callerAt 17 = .ok (.aaload, 1) := by decide +kernel
theorem dX8_callerAt_18 : decode cX8_callerAt 18 = .ok (.goto 4, 3) := by decide +kernel
theorem dX8_callerAt_21 : decode cX8_callerAt 21 = .ok (.aconst_null, 1) := by decide +kernel
theorem dX8_callerAt_22 : decode cX8_callerAt 22 = .ok (.areturn, 1) := by decide +kernel
theorem dX8_tellMeeting_0 : decode cX8_tellMeeting 0 = .ok (.aload_n 0, 1) := by decide +kernel
theorem dX8_tellMeeting_1 : decode cX8_tellMeeting 1 = .ok (.getfield 28, 3) := by decide +kernel
theorem dX8_tellMeeting_4 : decode cX8_tellMeeting 4 = .ok (.aload_n 1, 1) := by decide +kernel
theorem dX8_tellMeeting_5 : decode cX8_tellMeeting 5 = .ok (.iload_n 2, 1) := by decide +kernel
theorem dX8_tellMeeting_6 : decode cX8_tellMeeting 6 = .ok (.invokevirtual 229, 3) := by decide +kernel
theorem dX8_tellMeeting_9 : decode cX8_tellMeeting 9 = .ok (.istore_n 3, 1) := by decide +kernel
theorem dX8_tellMeeting_10 : decode cX8_tellMeeting 10 = .ok (.iload_n 3, 1) := by decide +kernel
theorem dX8_tellMeeting_11 : decode cX8_tellMeeting 11 = .ok (.ifCond .eq 8, 3) := by decide +kernel
theorem dX8_tellMeeting_14 : decode cX8_tellMeeting 14 = .ok (.bipush (-30), 2) := by decide +kernel
theorem dX8_tellMeeting_16 : decode cX8_tellMeeting 16 = .ok (.iload_n 3, 1) := by decide +kernel
theorem dX8_tellMeeting_17 : decode cX8_tellMeeting 17 = .ok (.isub, 1) := by decide +kernel
theorem dX8_tellMeeting_18 : decode cX8_tellMeeting 18 = .ok (.ireturn, 1) := by decide +kernel
theorem dX8_tellMeeting_19 : decode cX8_tellMeeting 19 = .ok (.aload_n 0, 1) := by decide +kernel
theorem dX8_tellMeeting_20 : decode cX8_tellMeeting 20 = .ok (.aload_n 0, 1) := by decide +kernel
theorem dX8_tellMeeting_21 : decode cX8_tellMeeting 21 = .ok (.getfield 28, 3) := by decide +kernel
theorem dX8_tellMeeting_24 : decode cX8_tellMeeting 24 = .ok (.getfield 232, 3) := by decide +kernel
theorem dX8_tellMeeting_27 : decode cX8_tellMeeting 27 = .ok (.putfield 154, 3) := by decide +kernel
theorem dX8_tellMeeting_30 : decode cX8_tellMeeting 30 = .ok (.iconst 0, 1) := by decide +kernel
theorem dX8_tellMeeting_31 : decode cX8_tellMeeting 31 = .ok (.ireturn, 1) := by decide +kernel
theorem dX8_firstChange_0 : decode cX8_firstChange 0 = .ok (.aload_n 0, 1) := by decide +kernel
theorem dX8_firstChange_1 : decode cX8_firstChange 1 = .ok (.getfield 28, 3) := by decide +kernel
theorem dX8_firstChange_4 : decode cX8_firstChange 4 = .ok (.aload_n 1, 1) := by decide +kernel
theorem dX8_firstChange_5 : decode cX8_firstChange 5 = .ok (.iload_n 2, 1) := by decide +kernel
theorem dX8_firstChange_6 : decode cX8_firstChange 6 = .ok (.invokevirtual 229, 3) := by decide +kernel
theorem dX8_firstChange_9 : decode cX8_firstChange 9 = .ok (.istore_n 3, 1) := by decide +kernel
theorem dX8_firstChange_10 : decode cX8_firstChange 10 = .ok (.aload_n 0, 1) := by decide +kernel
theorem dX8_firstChange_11 : decode cX8_firstChange 11 = .ok (.getfield 28, 3) := by decide +kernel
theorem dX8_firstChange_14 : decode cX8_firstChange 14 = .ok (.getfield 232, 3) := by decide +kernel
theorem dX8_firstChange_17 : decode cX8_firstChange 17 = .ok (.lstore 4, 2) := by decide +kernel
theorem dX8_firstChange_19 : decode cX8_firstChange 19 = .ok (.aload_n 1, 1) := by decide +kernel
theorem dX8_firstChange_20 : decode cX8_firstChange 20 = .ok (.getfield 181, 3) := by decide +kernel
theorem dX8_firstChange_23 : decode cX8_firstChange 23 = .ok (.istore 6, 2) := by decide +kernel
theorem dX8_firstChange_25 : decode cX8_firstChange 25 = .ok (.iload 6, 2) := by decide +kernel
theorem dX8_firstChange_27 : decode cX8_firstChange 27 = .ok (.aload_n 0, 1) := by decide +kernel
theorem dX8_firstChange_28 : decode cX8_firstChange 28 = .ok (.getfield 126, 3) := by decide +kernel
theorem dX8_firstChange_31 : decode cX8_firstChange 31 = .ok (.if_icmp .ge 64, 3) := by decide +kernel
theorem dX8_firstChange_34 : decode cX8_firstChange 34 = .ok (.aload_n 0, 1) := by decide +kernel
theorem dX8_firstChange_35 : decode cX8_firstChange 35 = .ok (.iload 6, 2) := by decide +kernel
theorem dX8_firstChange_37 : decode cX8_firstChange 37 = .ok (.iload 6, 2) := by decide +kernel
theorem dX8_firstChange_39 : decode cX8_firstChange 39 = .ok (.iconst 1, 1) := by decide +kernel
theorem dX8_firstChange_40 : decode cX8_firstChange 40 = .ok (.iadd, 1) := by decide +kernel
theorem dX8_firstChange_41 : decode cX8_firstChange 41 = .ok (.invokevirtual 132, 3) := by decide +kernel
theorem dX8_firstChange_44 : decode cX8_firstChange 44 = .ok (.aload_n 0, 1) := by decide +kernel
theorem dX8_firstChange_45 : decode cX8_firstChange 45 = .ok (.getfield 10, 3) := by decide +kernel
theorem dX8_firstChange_48 : decode cX8_firstChange 48 = .ok (.getfield 49, 3) := by decide +kernel
theorem dX8_firstChange_51 : decode cX8_firstChange 51 = .ok (.iload_n 2, 1) := by decide +kernel
theorem dX8_firstChange_52 : decode cX8_firstChange 52 = .ok (.invokevirtual 70, 3) := by decide +kernel
theorem dX8_firstChange_55 : decode cX8_firstChange 55 = .ok (.ifCond .eq 29, 3) := by decide +kernel
theorem dX8_firstChange_58 : decode cX8_firstChange 58 = .ok (.aload_n 0, 1) := by decide +kernel
theorem dX8_firstChange_59 : decode cX8_firstChange 59 = .ok (.getfield 28, 3) := by decide +kernel
theorem dX8_firstChange_62 : decode cX8_firstChange 62 = .ok (.aload_n 1, 1) := by decide +kernel
theorem dX8_firstChange_63 : decode cX8_firstChange 63 = .ok (.iload_n 2, 1) := by decide +kernel
theorem dX8_firstChange_64 : decode cX8_firstChange 64 = .ok (.invokevirtual 229, 3) := by decide +kernel
theorem dX8_firstChange_67 : decode cX8_firstChange 67 = .ok (.iload_n 3, 1) := by decide +kernel
theorem dX8_firstChange_68 : decode cX8_firstChange 68 = .ok (.if_icmp .ne 16, 3) := by decide +kernel
theorem dX8_firstChange_71 : decode cX8_firstChange 71 = .ok (.aload_n 0, 1) := by decide +kernel
theorem dX8_firstChange_72 : decode cX8_firstChange 72 = .ok (.getfield 28, 3) := by decide +kernel
theorem dX8_firstChange_75 : decode cX8_firstChange 75 = .ok (.getfield 232, 3) := by decide +kernel
theorem dX8_firstChange_78 : decode cX8_firstChange 78 = .ok (.lload 4, 2) := by decide +kernel
theorem dX8_firstChange_80 : decode cX8_firstChange 80 = .ok (.lcmp, 1) := by decide +kernel
theorem dX8_firstChange_81 : decode cX8_firstChange 81 = .ok (.ifCond .eq 8, 3) := by decide +kernel
theorem dX8_firstChange_84 : decode cX8_firstChange 84 = .ok (.iload 6, 2) := by decide +kernel
theorem dX8_firstChange_86 : decode cX8_firstChange 86 = .ok (.iconst 1, 1) := by decide +kernel
theorem dX8_firstChange_87 : decode cX8_firstChange 87 = .ok (.iadd, 1) := by decide +kernel
theorem dX8_firstChange_88 : decode cX8_firstChange 88 = .ok (.ireturn, 1) := by decide +kernel
theorem dX8_firstChange_89 : decode cX8_firstChange 89 = .ok (.iinc 6 1, 3) := by decide +kernel
theorem dX8_firstChange_92 : decode cX8_firstChange 92 = .ok (.goto (-67), 3) := by decide +kernel
theorem dX8_firstChange_95 : decode cX8_firstChange 95 = .ok (.iconst 0, 1) := by decide +kernel
theorem dX8_firstChange_96 : decode cX8_firstChange 96 = .ok (.ireturn, 1) := by decide +kernel
theorem dX9_init_0 : decode cX9_init 0 = .ok (.aload_n 0, 1) := by decide +kernel
theorem dX9_init_1 : decode cX9_init 1 = .ok (.invokespecial 1, 3) := by decide +kernel
theorem dX9_init_4 : decode cX9_init 4 = .ok (.aload_n 0, 1) := by decide +kernel
theorem dX9_init_5 : decode cX9_init 5 = .ok (.bipush 12, 2) := by decide +kernel
theorem dX9_init_7 : decode cX9_init 7 = .ok (.newarray .boolean, 2) := by decide +kernel
theorem dX9_init_9 : decode cX9_init 9 = .ok (.putfield 7, 3) := by decide +kernel
theorem dX9_init_12 : decode cX9_init 12 = .ok (.aload_n 0, 1) := by decide +kernel
theorem dX9_init_13 : decode cX9_init 13 = .ok (.bipush 12, 2) := by decide +kernel
theorem dX9_init_15 : decode cX9_init 15 = .ok (.newarray .int, 2) := by decide +kernel
theorem dX9_init_17 : decode cX9_init 17 = .ok (.putfield 13, 3) := by decide +kernel
theorem dX9_init_20 : decode cX9_init 20 = .ok (.aload_n 0, 1) := by decide +kernel
theorem dX9_init_21 : decode cX9_init 21 = .ok (.bipush 12, 2) := by decide +kernel
theorem dX9_init_23 : decode cX9_init 23 = .ok (.newarray .int, 2) := by decide +kernel
theorem dX9_init_25 : decode cX9_init 25 = .ok (.putfield 17, 3) := by decide +kernel
theorem dX9_init_28 : decode cX9_init 28 = .ok (.aload_n 0, 1) := by decide +kernel
theorem dX9_init_29 : decode cX9_init 29 = .ok (.bipush 12, 2) := by decide +kernel
theorem dX9_init_31 : decode cX9_init 31 = .ok (.newarray .int, 2) := by decide +kernel
theorem dX9_init_33 : decode cX9_init 33 = .ok (.putfield 20, 3) := by decide +kernel
theorem dX9_init_36 : decode cX9_init 36 = .ok (.aload_n 0, 1) := by decide +kernel
theorem dX9_init_37 : decode cX9_init 37 = .ok (.bipush 36, 2) := by decide +kernel
theorem dX9_init_39 : decode cX9_init 39 = .ok (.newarray .int, 2) := by decide +kernel
theorem dX9_init_41 : decode cX9_init 41 = .ok (.putfield 23, 3) := by decide +kernel
theorem dX9_init_44 : decode cX9_init 44 = .ok (.aload_n 0, 1) := by decide +kernel
theorem dX9_init_45 : decode cX9_init 45 = .ok (.bipush 60, 2) := by decide +kernel
theorem dX9_init_47 : decode cX9_init 47 = .ok (.newarray .boolean, 2) := by decide +kernel
theorem dX9_init_49 : decode cX9_init 49 = .ok (.putfield 26, 3) := by decide +kernel
theorem dX9_init_52 : decode cX9_init 52 = .ok (.aload_n 0, 1) := by decide +kernel
theorem dX9_init_53 : decode cX9_init 53 = .ok (.bipush 60, 2) := by decide +kernel
theorem dX9_init_55 : decode cX9_init 55 = .ok (.newarray .boolean, 2) := by decide +kernel
theorem dX9_init_57 : decode cX9_init 57 = .ok (.putfield 29, 3) := by decide +kernel
theorem dX9_init_60 : decode cX9_init 60 = .ok (.aload_n 0, 1) := by decide +kernel
theorem dX9_init_61 : decode cX9_init 61 = .ok (.bipush 60, 2) := by decide +kernel
theorem dX9_init_63 : decode cX9_init 63 = .ok (.newarray .int, 2) := by decide +kernel
theorem dX9_init_65 : decode cX9_init 65 = .ok (.putfield 32, 3) := by decide +kernel
theorem dX9_init_68 : decode cX9_init 68 = .ok (.aload_n 0, 1) := by decide +kernel
theorem dX9_init_69 : decode cX9_init 69 = .ok (.bipush 60, 2) := by decide +kernel
theorem dX9_init_71 : decode cX9_init 71 = .ok (.newarray .int, 2) := by decide +kernel
theorem dX9_init_73 : decode cX9_init 73 = .ok (.putfield 35, 3) := by decide +kernel
theorem dX9_init_76 : decode cX9_init 76 = .ok (.aload_n 0, 1) := by decide +kernel
theorem dX9_init_77 : decode cX9_init 77 = .ok (.bipush 60, 2) := by decide +kernel
theorem dX9_init_79 : decode cX9_init 79 = .ok (.newarray .int, 2) := by decide +kernel
theorem dX9_init_81 : decode cX9_init 81 = .ok (.putfield 38, 3) := by decide +kernel
theorem dX9_init_84 : decode cX9_init 84 = .ok (.aload_n 0, 1) := by decide +kernel
theorem dX9_init_85 : decode cX9_init 85 = .ok (.bipush 60, 2) := by decide +kernel
theorem dX9_init_87 : decode cX9_init 87 = .ok (.newarray .int, 2) := by decide +kernel
theorem dX9_init_89 : decode cX9_init 89 = .ok (.putfield 41, 3) := by decide +kernel
theorem dX9_init_92 : decode cX9_init 92 = .ok (.aload_n 0, 1) := by decide +kernel
theorem dX9_init_93 : decode cX9_init 93 = .ok (.bipush 60, 2) := by decide +kernel
theorem dX9_init_95 : decode cX9_init 95 = .ok (.newarray .int, 2) := by decide +kernel
theorem dX9_init_97 : decode cX9_init 97 = .ok (.putfield 44, 3) := by decide +kernel
theorem dX9_init_100 : decode cX9_init 100 = .ok (.aload_n 0, 1) := by decide +kernel
theorem dX9_init_101 : decode cX9_init 101 = .ok (.bipush 60, 2) := by decide +kernel
theorem dX9_init_103 : decode cX9_init 103 = .ok (.newarray .int, 2) := by decide +kernel
theorem dX9_init_105 : decode cX9_init 105 = .ok (.putfield 47, 3) := by decide +kernel
theorem dX9_init_108 : decode cX9_init 108 = .ok (.aload_n 0, 1) := by decide +kernel
theorem dX9_init_109 : decode cX9_init 109 = .ok (.bipush 60, 2) := by decide +kernel
theorem dX9_init_111 : decode cX9_init 111 = .ok (.newarray .long, 2) := by decide +kernel
theorem dX9_init_113 : decode cX9_init 113 = .ok (.putfield 50, 3) := by decide +kernel
theorem dX9_init_116 : decode cX9_init 116 = .ok (.aload_n 0, 1) := by decide +kernel
theorem dX9_init_117 : decode cX9_init 117 = .ok (.bipush 64, 2) := by decide +kernel
theorem dX9_init_119 : decode cX9_init 119 = .ok (.newarray .int, 2) := by decide +kernel
theorem dX9_init_121 : decode cX9_init 121 = .ok (.putfield 54, 3) := by decide +kernel
theorem dX9_init_124 : decode cX9_init 124 = .ok (.aload_n 0, 1) := by decide +kernel
theorem dX9_init_125 : decode cX9_init 125 = .ok (.bipush 120, 2) := by decide +kernel
theorem dX9_init_127 : decode cX9_init 127 = .ok (.newarray .int, 2) := by decide +kernel
theorem dX9_init_129 : decode cX9_init 129 = .ok (.putfield 57, 3) := by decide +kernel
theorem dX9_init_132 : decode cX9_init 132 = .ok (.aload_n 0, 1) := by decide +kernel
theorem dX9_init_133 : decode cX9_init 133 = .ok (.bipush 120, 2) := by decide +kernel
theorem dX9_init_135 : decode cX9_init 135 = .ok (.newarray .int, 2) := by decide +kernel
theorem dX9_init_137 : decode cX9_init 137 = .ok (.putfield 60, 3) := by decide +kernel
theorem dX9_init_140 : decode cX9_init 140 = .ok (.aload_n 0, 1) := by decide +kernel
theorem dX9_init_141 : decode cX9_init 141 = .ok (.bipush 120, 2) := by decide +kernel
theorem dX9_init_143 : decode cX9_init 143 = .ok (.newarray .int, 2) := by decide +kernel
theorem dX9_init_145 : decode cX9_init 145 = .ok (.putfield 63, 3) := by decide +kernel
theorem dX9_init_148 : decode cX9_init 148 = .ok (.aload_n 0, 1) := by decide +kernel
theorem dX9_init_149 : decode cX9_init 149 = .ok (.bipush 120, 2) := by decide +kernel
theorem dX9_init_151 : decode cX9_init 151 = .ok (.newarray .int, 2) := by decide +kernel
theorem dX9_init_153 : decode cX9_init 153 = .ok (.putfield 66, 3) := by decide +kernel
theorem dX9_init_156 : decode cX9_init 156 = .ok (.aload_n 0, 1) := by decide +kernel
theorem dX9_init_157 : decode cX9_init 157 = .ok (.bipush 120, 2) := by decide +kernel
theorem dX9_init_159 : decode cX9_init 159 = .ok (.newarray .int, 2) := by decide +kernel
theorem dX9_init_161 : decode cX9_init 161 = .ok (.putfield 69, 3) := by decide +kernel
theorem dX9_init_164 : decode cX9_init 164 = .ok (.aload_n 0, 1) := by decide +kernel
theorem dX9_init_165 : decode cX9_init 165 = .ok (.bipush 120, 2) := by decide +kernel
theorem dX9_init_167 : decode cX9_init 167 = .ok (.newarray .int, 2) := by decide +kernel
theorem dX9_init_169 : decode cX9_init 169 = .ok (.putfield 72, 3) := by decide +kernel
theorem dX9_init_172 : decode cX9_init 172 = .ok (.aload_n 0, 1) := by decide +kernel
theorem dX9_init_173 : decode cX9_init 173 = .ok (.bipush 120, 2) := by decide +kernel
theorem dX9_init_175 : decode cX9_init 175 = .ok (.newarray .long, 2) := by decide +kernel
theorem dX9_init_177 : decode cX9_init 177 = .ok (.putfield 75, 3) := by decide +kernel
theorem dX9_init_180 : decode cX9_init 180 = .ok (.aload_n 0, 1) := by decide +kernel
theorem dX9_init_181 : decode cX9_init 181 = .ok (.sipush 4096, 3) := by decide +kernel
theorem dX9_init_184 : decode cX9_init 184 = .ok (.newarray .int, 2) := by decide +kernel
theorem dX9_init_186 : decode cX9_init 186 = .ok (.putfield 78, 3) := by decide +kernel
theorem dX9_init_189 : decode cX9_init 189 = .ok (.aload_n 0, 1) := by decide +kernel
theorem dX9_init_190 : decode cX9_init 190 = .ok (.sipush 4096, 3) := by decide +kernel
theorem dX9_init_193 : decode cX9_init 193 = .ok (.newarray .int, 2) := by decide +kernel
theorem dX9_init_195 : decode cX9_init 195 = .ok (.putfield 81, 3) := by decide +kernel
theorem dX9_init_198 : decode cX9_init 198 = .ok (.aload_n 0, 1) := by decide +kernel
theorem dX9_init_199 : decode cX9_init 199 = .ok (.bipush 12, 2) := by decide +kernel
theorem dX9_init_201 : decode cX9_init 201 = .ok (.newarray .int, 2) := by decide +kernel
theorem dX9_init_203 : decode cX9_init 203 = .ok (.putfield 84, 3) := by decide +kernel
theorem dX9_init_206 : decode cX9_init 206 = .ok (.aload_n 0, 1) := by decide +kernel
theorem dX9_init_207 : decode cX9_init 207 = .ok (.bipush 25, 2) := by decide +kernel
theorem dX9_init_209 : decode cX9_init 209 = .ok (.newarray .int, 2) := by decide +kernel
theorem dX9_init_211 : decode cX9_init 211 = .ok (.putfield 87, 3) := by decide +kernel
theorem dX9_init_214 : decode cX9_init 214 = .ok (.aload_n 0, 1) := by decide +kernel
theorem dX9_init_215 : decode cX9_init 215 = .ok (.bipush 25, 2) := by decide +kernel
theorem dX9_init_217 : decode cX9_init 217 = .ok (.newarray .int, 2) := by decide +kernel
theorem dX9_init_219 : decode cX9_init 219 = .ok (.putfield 90, 3) := by decide +kernel
theorem dX9_init_222 : decode cX9_init 222 = .ok (.aload_n 0, 1) := by decide +kernel
theorem dX9_init_223 : decode cX9_init 223 = .ok (.bipush 25, 2) := by decide +kernel
theorem dX9_init_225 : decode cX9_init 225 = .ok (.newarray .int, 2) := by decide +kernel
theorem dX9_init_227 : decode cX9_init 227 = .ok (.putfield 93, 3) := by decide +kernel
theorem dX9_init_230 : decode cX9_init 230 = .ok (.aload_n 0, 1) := by decide +kernel
theorem dX9_init_231 : decode cX9_init 231 = .ok (.bipush 25, 2) := by decide +kernel
theorem dX9_init_233 : decode cX9_init 233 = .ok (.newarray .int, 2) := by decide +kernel
theorem dX9_init_235 : decode cX9_init 235 = .ok (.putfield 96, 3) := by decide +kernel
theorem dX9_init_238 : decode cX9_init 238 = .ok (.aload_n 0, 1) := by decide +kernel
theorem dX9_init_239 : decode cX9_init 239 = .ok (.bipush 25, 2) := by decide +kernel
theorem dX9_init_241 : decode cX9_init 241 = .ok (.newarray .int, 2) := by decide +kernel
theorem dX9_init_243 : decode cX9_init 243 = .ok (.putfield 99, 3) := by decide +kernel
theorem dX9_init_246 : decode cX9_init 246 = .ok (.aload_n 0, 1) := by decide +kernel
theorem dX9_init_247 : decode cX9_init 247 = .ok (.bipush 25, 2) := by decide +kernel
theorem dX9_init_249 : decode cX9_init 249 = .ok (.newarray .int, 2) := by decide +kernel
theorem dX9_init_251 : decode cX9_init 251 = .ok (.putfield 102, 3) := by decide +kernel
theorem dX9_init_254 : decode cX9_init 254 = .ok (.aload_n 0, 1) := by decide +kernel
theorem dX9_init_255 : decode cX9_init 255 = .ok (.bipush 25, 2) := by decide +kernel
theorem dX9_init_257 : decode cX9_init 257 = .ok (.newarray .int, 2) := by decide +kernel
theorem dX9_init_259 : decode cX9_init 259 = .ok (.putfield 105, 3) := by decide +kernel
theorem dX9_init_262 : decode cX9_init 262 = .ok (.aload_n 0, 1) := by decide +kernel
theorem dX9_init_263 : decode cX9_init 263 = .ok (.bipush 25, 2) := by decide +kernel
theorem dX9_init_265 : decode cX9_init 265 = .ok (.newarray .boolean, 2) := by decide +kernel
theorem dX9_init_267 : decode cX9_init 267 = .ok (.putfield 108, 3) := by decide +kernel
theorem dX9_init_270 : decode cX9_init 270 = .ok (.aload_n 0, 1) := by decide +kernel
theorem dX9_init_271 : decode cX9_init 271 = .ok (.bipush 25, 2) := by decide +kernel
theorem dX9_init_273 : decode cX9_init 273 = .ok (.newarray .long, 2) := by decide +kernel
theorem dX9_init_275 : decode cX9_init 275 = .ok (.putfield 111, 3) := by decide +kernel
theorem dX9_init_278 : decode cX9_init 278 = .ok (.aload_n 0, 1) := by decide +kernel
theorem dX9_init_279 : decode cX9_init 279 = .ok (.bipush 25, 2) := by decide +kernel
theorem dX9_init_281 : decode cX9_init 281 = .ok (.newarray .boolean, 2) := by decide +kernel
theorem dX9_init_283 : decode cX9_init 283 = .ok (.putfield 114, 3) := by decide +kernel
theorem dX9_init_286 : decode cX9_init 286 = .ok (.aload_n 0, 1) := by decide +kernel
theorem dX9_init_287 : decode cX9_init 287 = .ok (.bipush 25, 2) := by decide +kernel
theorem dX9_init_289 : decode cX9_init 289 = .ok (.newarray .boolean, 2) := by decide +kernel
theorem dX9_init_291 : decode cX9_init 291 = .ok (.putfield 117, 3) := by decide +kernel
theorem dX9_init_294 : decode cX9_init 294 = .ok (.aload_n 0, 1) := by decide +kernel
theorem dX9_init_295 : decode cX9_init 295 = .ok (.bipush 25, 2) := by decide +kernel
theorem dX9_init_297 : decode cX9_init 297 = .ok (.newarray .int, 2) := by decide +kernel
theorem dX9_init_299 : decode cX9_init 299 = .ok (.putfield 120, 3) := by decide +kernel
theorem dX9_init_302 : decode cX9_init 302 = .ok (.aload_n 0, 1) := by decide +kernel
theorem dX9_init_303 : decode cX9_init 303 = .ok (.bipush 25, 2) := by decide +kernel
theorem dX9_init_305 : decode cX9_init 305 = .ok (.newarray .int, 2) := by decide +kernel
theorem dX9_init_307 : decode cX9_init 307 = .ok (.putfield 123, 3) := by decide +kernel
theorem dX9_init_310 : decode cX9_init 310 = .ok (.aload_n 0, 1) := by decide +kernel
theorem dX9_init_311 : decode cX9_init 311 = .ok (.bipush 60, 2) := by decide +kernel
theorem dX9_init_313 : decode cX9_init 313 = .ok (.newarray .boolean, 2) := by decide +kernel
theorem dX9_init_315 : decode cX9_init 315 = .ok (.putfield 126, 3) := by decide +kernel
theorem dX9_init_318 : decode cX9_init 318 = .ok (.return_, 1) := by decide +kernel
theorem dX9_in_0 : decode cX9_in 0 = .ok (.lload_n 0, 1) := by decide +kernel
theorem dX9_in_1 : decode cX9_in 1 = .ok (.lload_n 2, 1) := by decide +kernel
theorem dX9_in_2 : decode cX9_in 2 = .ok (.lcmp, 1) := by decide +kernel
theorem dX9_in_3 : decode cX9_in 3 = .ok (.ifCond .lt 14, 3) := by decide +kernel
theorem dX9_in_6 : decode cX9_in 6 = .ok (.lload_n 0, 1) := by decide +kernel
theorem dX9_in_7 : decode cX9_in 7 = .ok (.lload 4, 2) := by decide +kernel
theorem dX9_in_9 : decode cX9_in 9 = .ok (.lcmp, 1) := by decide +kernel
theorem dX9_in_10 : decode cX9_in 10 = .ok (.ifCond .gt 7, 3) := by decide +kernel
theorem dX9_in_13 : decode cX9_in 13 = .ok (.iconst 1, 1) := by decide +kernel
theorem dX9_in_14 : decode cX9_in 14 = .ok (.goto 4, 3) := by decide +kernel
theorem dX9_in_17 : decode cX9_in 17 = .ok (.iconst 0, 1) := by decide +kernel
theorem dX9_in_18 : decode cX9_in 18 = .ok (.ireturn, 1) := by decide +kernel
theorem dX9_isType_0 : decode cX9_isType 0 = .ok (.iload_n 1, 1) := by decide +kernel
theorem dX9_isType_1 : decode cX9_isType 1 = .ok (.i2l, 1) := by decide +kernel
theorem dX9_isType_2 : decode cX9_isType 2 = .ok (.lconst 0, 1) := by decide +kernel
theorem dX9_isType_3 : decode cX9_isType 3 = .ok (.aload_n 0, 1) := by decide +kernel
theorem dX9_isType_4 : decode cX9_isType 4 = .ok (.getfield 129, 3) := by decide +kernel
theorem dX9_isType_7 : decode cX9_isType 7 = .ok (.iconst 1, 1) := by decide +kernel
theorem dX9_isType_8 : decode cX9_isType 8 = .ok (.isub, 1) := by decide +kernel
theorem dX9_isType_9 : decode cX9_isType 9 = .ok (.i2l, 1) := by decide +kernel
theorem dX9_isType_10 : decode cX9_isType 10 = .ok (.invokestatic 133, 3) := by decide +kernel
theorem dX9_isType_13 : decode cX9_isType 13 = .ok (.ireturn, 1) := by decide +kernel
theorem dX9_isClass_0 : decode cX9_isClass 0 = .ok (.aload_n 0, 1) := by decide +kernel
theorem dX9_isClass_1 : decode cX9_isClass 1 = .ok (.iload_n 1, 1) := by decide +kernel
theorem dX9_isClass_2 : decode cX9_isClass 2 = .ok (.invokevirtual 137, 3) := by decide +kernel
theorem dX9_isClass_5 : decode cX9_isClass 5 = .ok (.ifCond .eq 16, 3) := by decide +kernel
theorem dX9_isClass_8 : decode cX9_isClass 8 = .ok (.aload_n 0, 1) := by decide +kernel
theorem dX9_isClass_9 : decode cX9_isClass 9 = .ok (.getfield 7, 3) := by decide +kernel
theorem dX9_isClass_12 : decode cX9_isClass 12 = .ok (.iload_n 1, 1) := by decide +kernel
theorem dX9_isClass_13 : decode cX9_isClass 13 = .ok (.baload, 1) := by decide +kernel
theorem dX9_isClass_14 : decode cX9_isClass 14 = .ok (.ifCond .ne 7, 3) := by decide +kernel
theorem dX9_isClass_17 : decode cX9_isClass 17 = .ok (.iconst 1, 1) := by decide +kernel
theorem dX9_isClass_18 : decode cX9_isClass 18 = .ok (.goto 4, 3) := by decide +kernel
theorem dX9_isClass_21 : decode cX9_isClass 21 = .ok (.iconst 0, 1) := by decide +kernel
theorem dX9_isClass_22 : decode cX9_isClass 22 = .ok (.ireturn, 1) := by decide +kernel
theorem dX9_isHere_0 : decode cX9_isHere 0 = .ok (.iload_n 1, 1) := by decide +kernel
theorem dX9_isHere_1 : decode cX9_isHere 1 = .ok (.i2l, 1) := by decide +kernel
theorem dX9_isHere_2 : decode cX9_isHere 2 = .ok (.lconst 0, 1) := by decide +kernel
theorem dX9_isHere_3 : decode cX9_isHere 3 = .ok (.ldc2_w 141, 3) := by decide +kernel
theorem dX9_isHere_6 : decode cX9_isHere 6 = .ok (.invokestatic 133, 3) := by decide +kernel
theorem dX9_isHere_9 : decode cX9_isHere 9 = .ok (.ifCond .eq 16, 3) := by decide +kernel
theorem dX9_isHere_12 : decode cX9_isHere 12 = .ok (.aload_n 0, 1) := by decide +kernel
theorem dX9_isHere_13 : decode cX9_isHere 13 = .ok (.getfield 26, 3) := by decide +kernel
theorem dX9_isHere_16 : decode cX9_isHere 16 = .ok (.iload_n 1, 1) := by decide +kernel
theorem dX9_isHere_17 : decode cX9_isHere 17 = .ok (.baload, 1) := by decide +kernel
theorem dX9_isHere_18 : decode cX9_isHere 18 = .ok (.ifCond .eq 7, 3) := by decide +kernel
theorem dX9_isHere_21 : decode cX9_isHere 21 = .ok (.iconst 1, 1) := by decide +kernel
theorem dX9_isHere_22 : decode cX9_isHere 22 = .ok (.goto 4, 3) := by decide +kernel
theorem dX9_isHere_25 : decode cX9_isHere 25 = .ok (.iconst 0, 1) := by decide +kernel
theorem dX9_isHere_26 : decode cX9_isHere 26 = .ok (.ireturn, 1) := by decide +kernel
theorem dX9_ups_0 : decode cX9_ups 0 = .ok (.iconst 1, 1) := by decide +kernel
theorem dX9_ups_1 : decode cX9_ups 1 = .ok (.iload_n 1, 1) := by decide +kernel
theorem dX9_ups_2 : decode cX9_ups 2 = .ok (.ishl, 1) := by decide +kernel
theorem dX9_ups_3 : decode cX9_ups 3 = .ok (.istore_n 2, 1) := by decide +kernel
theorem dX9_ups_4 : decode cX9_ups 4 = .ok (.iconst 1, 1) := by decide +kernel
theorem dX9_ups_5 : decode cX9_ups 5 = .ok (.istore_n 3, 1) := by decide +kernel
theorem dX9_ups_6 : decode cX9_ups 6 = .ok (.aload_n 0, 1) := by decide +kernel
theorem dX9_ups_7 : decode cX9_ups 7 = .ok (.getfield 54, 3) := by decide +kernel
theorem dX9_ups_10 : decode cX9_ups 10 = .ok (.iconst 0, 1) := by decide +kernel
theorem dX9_ups_11 : decode cX9_ups 11 = .ok (.iload_n 1, 1) := by decide +kernel
theorem dX9_ups_12 : decode cX9_ups 12 = .ok (.iastore, 1) := by decide +kernel
theorem dX9_ups_13 : decode cX9_ups 13 = .ok (.iconst 0, 1) := by decide +kernel
theorem dX9_ups_14 : decode cX9_ups 14 = .ok (.istore 4, 2) := by decide +kernel
theorem dX9_ups_16 : decode cX9_ups 16 = .ok (.iload 4, 2) := by decide +kernel
theorem dX9_ups_18 : decode cX9_ups 18 = .ok (.iload_n 3, 1) := by decide +kernel
theorem dX9_ups_19 : decode cX9_ups 19 = .ok (.if_icmp .ge 100, 3) := by decide +kernel
theorem dX9_ups_22 : decode cX9_ups 22 = .ok (.aload_n 0, 1) := by decide +kernel
theorem dX9_ups_23 : decode cX9_ups 23 = .ok (.getfield 54, 3) := by decide +kernel
theorem dX9_ups_26 : decode cX9_ups 26 = .ok (.iload 4, 2) := by decide +kernel
theorem dX9_ups_28 : decode cX9_ups 28 = .ok (.iaload, 1) := by decide +kernel
theorem dX9_ups_29 : decode cX9_ups 29 = .ok (.istore 5, 2) := by decide +kernel
theorem dX9_ups_31 : decode cX9_ups 31 = .ok (.iconst (-1), 1) := by decide +kernel
theorem dX9_ups_32 : decode cX9_ups 32 = .ok (.istore 6, 2) := by decide +kernel
theorem dX9_ups_34 : decode cX9_ups 34 = .ok (.iload 6, 2) := by decide +kernel
theorem dX9_ups_36 : decode cX9_ups 36 = .ok (.aload_n 0, 1) := by decide +kernel
theorem dX9_ups_37 : decode cX9_ups 37 = .ok (.getfield 20, 3) := by decide +kernel
theorem dX9_ups_40 : decode cX9_ups 40 = .ok (.iload 5, 2) := by decide +kernel
theorem dX9_ups_42 : decode cX9_ups 42 = .ok (.iaload, 1) := by decide +kernel
theorem dX9_ups_43 : decode cX9_ups 43 = .ok (.if_icmp .ge 70, 3) := by decide +kernel
theorem dX9_ups_46 : decode cX9_ups 46 = .ok (.iload 6, 2) := by decide +kernel
theorem dX9_ups_48 : decode cX9_ups 48 = .ok (.ifCond .ge 13, 3) := by decide +kernel
theorem dX9_ups_51 : decode cX9_ups 51 = .ok (.aload_n 0, 1) := by decide +kernel
theorem dX9_ups_52 : decode cX9_ups 52 = .ok (.getfield 13, 3) := by decide +kernel
theorem dX9_ups_55 : decode cX9_ups 55 = .ok (.iload 5, 2) := by decide +kernel
theorem dX9_ups_57 : decode cX9_ups 57 = .ok (.iaload, 1) := by decide +kernel
theorem dX9_ups_58 : decode cX9_ups 58 = .ok (.goto 15, 3) := by decide +kernel
theorem dX9_ups_61 : decode cX9_ups 61 = .ok (.aload_n 0, 1) := by decide +kernel
theorem dX9_ups_62 : decode cX9_ups 62 = .ok (.getfield 23, 3) := by decide +kernel
theorem dX9_ups_65 : decode cX9_ups 65 = .ok (.iconst 3, 1) := by decide +kernel
theorem dX9_ups_66 : decode cX9_ups 66 = .ok (.iload 5, 2) := by decide +kernel
theorem dX9_ups_68 : decode cX9_ups 68 = .ok (.imul, 1) := by decide +kernel
theorem dX9_ups_69 : decode cX9_ups 69 = .ok (.iload 6, 2) := by decide +kernel
theorem dX9_ups_71 : decode cX9_ups 71 = .ok (.iadd, 1) := by decide +kernel
theorem dX9_ups_72 : decode cX9_ups 72 = .ok (.iaload, 1) := by decide +kernel
theorem dX9_ups_73 : decode cX9_ups 73 = .ok (.istore 7, 2) := by decide +kernel
theorem dX9_ups_75 : decode cX9_ups 75 = .ok (.iload 7, 2) := by decide +kernel
theorem dX9_ups_77 : decode cX9_ups 77 = .ok (.ifCond .lt 30, 3) := by decide +kernel
theorem dX9_ups_80 : decode cX9_ups 80 = .ok (.iload_n 2, 1) := by decide +kernel
theorem dX9_ups_81 : decode cX9_ups 81 = .ok (.iload 7, 2) := by decide +kernel
theorem dX9_ups_83 : decode cX9_ups 83 = .ok (.ishr, 1) := by decide +kernel
theorem dX9_ups_84 : decode cX9_ups 84 = .ok (.iconst 1, 1) := by decide +kernel
theorem dX9_ups_85 : decode cX9_ups 85 = .ok (.iand, 1) := by decide +kernel
theorem dX9_ups_86 : decode cX9_ups 86 = .ok (.ifCond .ne 21, 3) := by decide +kernel
theorem dX9_ups_89 : decode cX9_ups 89 = .ok (.iload_n 2, 1) := by decide +kernel
theorem dX9_ups_90 : decode cX9_ups 90 = .ok (.iconst 1, 1) := by decide +kernel
theorem dX9_ups_91 : decode cX9_ups 91 = .ok (.iload 7, 2) := by decide +kernel
theorem dX9_ups_93 : decode cX9_ups 93 = .ok (.ishl, 1) := by decide +kernel
theorem dX9_ups_94 : decode cX9_ups 94 = .ok (.ior, 1) := by decide +kernel
theorem dX9_ups_95 : decode cX9_ups 95 = .ok (.istore_n 2, 1) := by decide +kernel
theorem dX9_ups_96 : decode cX9_ups 96 = .ok (.aload_n 0, 1) := by decide +kernel
theorem dX9_ups_97 : decode cX9_ups 97 = .ok (.getfield 54, 3) := by decide +kernel
theorem dX9_ups_100 : decode cX9_ups 100 = .ok (.iload_n 3, 1) := by decide +kernel
theorem dX9_ups_101 : decode cX9_ups 101 = .ok (.iload 7, 2) := by decide +kernel
theorem dX9_ups_103 : decode cX9_ups 103 = .ok (.iastore, 1) := by decide +kernel
theorem dX9_ups_104 : decode cX9_ups 104 = .ok (.iinc 3 1, 3) := by decide +kernel
theorem dX9_ups_107 : decode cX9_ups 107 = .ok (.iinc 6 1, 3) := by decide +kernel
theorem dX9_ups_110 : decode cX9_ups 110 = .ok (.goto (-76), 3) := by decide +kernel
theorem dX9_ups_113 : decode cX9_ups 113 = .ok (.iinc 4 1, 3) := by decide +kernel
theorem dX9_ups_116 : decode cX9_ups 116 = .ok (.goto (-100), 3) := by decide +kernel
theorem dX9_ups_119 : decode cX9_ups 119 = .ok (.iload_n 2, 1) := by decide +kernel
theorem dX9_ups_120 : decode cX9_ups 120 = .ok (.ireturn, 1) := by decide +kernel
theorem dX9_isBelow_0 : decode cX9_isBelow 0 = .ok (.aload_n 0, 1) := by decide +kernel
theorem dX9_isBelow_1 : decode cX9_isBelow 1 = .ok (.iload_n 1, 1) := by decide +kernel
theorem dX9_isBelow_2 : decode cX9_isBelow 2 = .ok (.invokevirtual 143, 3) := by decide +kernel
theorem dX9_isBelow_5 : decode cX9_isBelow 5 = .ok (.iload_n 2, 1) := by decide +kernel
theorem dX9_isBelow_6 : decode cX9_isBelow 6 = .ok (.ishr, 1) := by decide +kernel
theorem dX9_isBelow_7 : decode cX9_isBelow 7 = .ok (.iconst 1, 1) := by decide +kernel
theorem dX9_isBelow_8 : decode cX9_isBelow 8 = .ok (.iand, 1) := by decide +kernel
theorem dX9_isBelow_9 : decode cX9_isBelow 9 = .ok (.iconst 1, 1) := by decide +kernel
theorem dX9_isBelow_10 : decode cX9_isBelow 10 = .ok (.if_icmp .ne 7, 3) := by decide +kernel
theorem dX9_isBelow_13 : decode cX9_isBelow 13 = .ok (.iconst 1, 1) := by decide +kernel
theorem dX9_isBelow_14 : decode cX9_isBelow 14 = .ok (.goto 4, 3) := by decide +kernel
theorem dX9_isBelow_17 : decode cX9_isBelow 17 = .ok (.iconst 0, 1) := by decide +kernel
theorem dX9_isBelow_18 : decode cX9_isBelow 18 = .ok (.ireturn, 1) := by decide +kernel
theorem dX9_ownOf_0 : decode cX9_ownOf 0 = .ok (.iconst 0, 1) := by decide +kernel
theorem dX9_ownOf_1 : decode cX9_ownOf 1 = .ok (.istore 6, 2) := by decide +kernel
theorem dX9_ownOf_3 : decode cX9_ownOf 3 = .ok (.iload 6, 2) := by decide +kernel
theorem dX9_ownOf_5 : decode cX9_ownOf 5 = .ok (.bipush 60, 2) := by decide +kernel
theorem dX9_ownOf_7 : decode cX9_ownOf 7 = .ok (.if_icmp .ge 95, 3) := by decide +kernel
theorem dX9_ownOf_10 : decode cX9_ownOf 10 = .ok (.aload_n 0, 1) := by decide +kernel
theorem dX9_ownOf_11 : decode cX9_ownOf 11 = .ok (.getfield 26, 3) := by decide +kernel
theorem dX9_ownOf_14 : decode cX9_ownOf 14 = .ok (.iload 6, 2) := by decide +kernel
theorem dX9_ownOf_16 : decode cX9_ownOf 16 = .ok (.baload, 1) := by decide +kernel
theorem dX9_ownOf_17 : decode cX9_ownOf 17 = .ok (.ifCond .eq 40, 3) := by decide +kernel
theorem dX9_ownOf_20 : decode cX9_ownOf 20 = .ok (.aload_n 0, 1) := by decide +kernel
theorem dX9_ownOf_21 : decode cX9_ownOf 21 = .ok (.getfield 32, 3) := by decide +kernel
theorem dX9_ownOf_24 : decode cX9_ownOf 24 = .ok (.iload 6, 2) := by decide +kernel
theorem dX9_ownOf_26 : decode cX9_ownOf 26 = .ok (.iaload, 1) := by decide +kernel
theorem dX9_ownOf_27 : decode cX9_ownOf 27 = .ok (.iload_n 1, 1) := by decide +kernel
theorem dX9_ownOf_28 : decode cX9_ownOf 28 = .ok (.if_icmp .ne 29, 3) := by decide +kernel
theorem dX9_ownOf_31 : decode cX9_ownOf 31 = .ok (.aload_n 0, 1) := by decide +kernel
theorem dX9_ownOf_32 : decode cX9_ownOf 32 = .ok (.getfield 29, 3) := by decide +kernel
theorem dX9_ownOf_35 : decode cX9_ownOf 35 = .ok (.iload 6, 2) := by decide +kernel
theorem dX9_ownOf_37 : decode cX9_ownOf 37 = .ok (.baload, 1) := by decide +kernel
theorem dX9_ownOf_38 : decode cX9_ownOf 38 = .ok (.iload_n 2, 1) := by decide +kernel
