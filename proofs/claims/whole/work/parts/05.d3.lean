theorem dX9_ownOf_39 : decode cX9_ownOf 39 = .ok (.if_icmp .ne 18, 3) := by decide +kernel
theorem dX9_ownOf_42 : decode cX9_ownOf 42 = .ok (.aload_n 0, 1) := by decide +kernel
theorem dX9_ownOf_43 : decode cX9_ownOf 43 = .ok (.getfield 35, 3) := by decide +kernel
theorem dX9_ownOf_46 : decode cX9_ownOf 46 = .ok (.iload 6, 2) := by decide +kernel
theorem dX9_ownOf_48 : decode cX9_ownOf 48 = .ok (.iaload, 1) := by decide +kernel
theorem dX9_ownOf_49 : decode cX9_ownOf 49 = .ok (.iload_n 3, 1) := by decide +kernel
theorem dX9_ownOf_50 : decode cX9_ownOf 50 = .ok (.if_icmp .ne 7, 3) := by decide +kernel
theorem dX9_ownOf_53 : decode cX9_ownOf 53 = .ok (.iconst 1, 1) := by decide +kernel
theorem dX9_ownOf_54 : decode cX9_ownOf 54 = .ok (.goto 4, 3) := by decide +kernel
theorem dX9_ownOf_57 : decode cX9_ownOf 57 = .ok (.iconst 0, 1) := by decide +kernel
theorem dX9_ownOf_58 : decode cX9_ownOf 58 = .ok (.istore 7, 2) := by decide +kernel
theorem dX9_ownOf_60 : decode cX9_ownOf 60 = .ok (.iload 7, 2) := by decide +kernel
theorem dX9_ownOf_62 : decode cX9_ownOf 62 = .ok (.ifCond .eq 34, 3) := by decide +kernel
theorem dX9_ownOf_65 : decode cX9_ownOf 65 = .ok (.iload_n 2, 1) := by decide +kernel
theorem dX9_ownOf_66 : decode cX9_ownOf 66 = .ok (.ifCond .eq 27, 3) := by decide +kernel
theorem dX9_ownOf_69 : decode cX9_ownOf 69 = .ok (.aload_n 0, 1) := by decide +kernel
theorem dX9_ownOf_70 : decode cX9_ownOf 70 = .ok (.getfield 44, 3) := by decide +kernel
theorem dX9_ownOf_73 : decode cX9_ownOf 73 = .ok (.iload 6, 2) := by decide +kernel
theorem dX9_ownOf_75 : decode cX9_ownOf 75 = .ok (.iaload, 1) := by decide +kernel
theorem dX9_ownOf_76 : decode cX9_ownOf 76 = .ok (.iload 4, 2) := by decide +kernel
theorem dX9_ownOf_78 : decode cX9_ownOf 78 = .ok (.if_icmp .ne 18, 3) := by decide +kernel
theorem dX9_ownOf_81 : decode cX9_ownOf 81 = .ok (.aload_n 0, 1) := by decide +kernel
theorem dX9_ownOf_82 : decode cX9_ownOf 82 = .ok (.getfield 47, 3) := by decide +kernel
theorem dX9_ownOf_85 : decode cX9_ownOf 85 = .ok (.iload 6, 2) := by decide +kernel
theorem dX9_ownOf_87 : decode cX9_ownOf 87 = .ok (.iaload, 1) := by decide +kernel
theorem dX9_ownOf_88 : decode cX9_ownOf 88 = .ok (.iload 5, 2) := by decide +kernel
theorem dX9_ownOf_90 : decode cX9_ownOf 90 = .ok (.if_icmp .ne 6, 3) := by decide +kernel
theorem dX9_ownOf_93 : decode cX9_ownOf 93 = .ok (.iload 6, 2) := by decide +kernel
theorem dX9_ownOf_95 : decode cX9_ownOf 95 = .ok (.ireturn, 1) := by decide +kernel
theorem dX9_ownOf_96 : decode cX9_ownOf 96 = .ok (.iinc 6 1, 3) := by decide +kernel
theorem dX9_ownOf_99 : decode cX9_ownOf 99 = .ok (.goto (-96), 3) := by decide +kernel
theorem dX9_ownOf_102 : decode cX9_ownOf 102 = .ok (.bipush (-2), 2) := by decide +kernel
theorem dX9_ownOf_104 : decode cX9_ownOf 104 = .ok (.ireturn, 1) := by decide +kernel
theorem dX9_likeIn_0 : decode cX9_likeIn 0 = .ok (.aload_n 0, 1) := by decide +kernel
theorem dX9_likeIn_1 : decode cX9_likeIn 1 = .ok (.iload_n 1, 1) := by decide +kernel
theorem dX9_likeIn_2 : decode cX9_likeIn 2 = .ok (.aload_n 0, 1) := by decide +kernel
theorem dX9_likeIn_3 : decode cX9_likeIn 3 = .ok (.getfield 29, 3) := by decide +kernel
theorem dX9_likeIn_6 : decode cX9_likeIn 6 = .ok (.iload_n 2, 1) := by decide +kernel
theorem dX9_likeIn_7 : decode cX9_likeIn 7 = .ok (.baload, 1) := by decide +kernel
theorem dX9_likeIn_8 : decode cX9_likeIn 8 = .ok (.aload_n 0, 1) := by decide +kernel
theorem dX9_likeIn_9 : decode cX9_likeIn 9 = .ok (.getfield 35, 3) := by decide +kernel
theorem dX9_likeIn_12 : decode cX9_likeIn 12 = .ok (.iload_n 2, 1) := by decide +kernel
theorem dX9_likeIn_13 : decode cX9_likeIn 13 = .ok (.iaload, 1) := by decide +kernel
theorem dX9_likeIn_14 : decode cX9_likeIn 14 = .ok (.aload_n 0, 1) := by decide +kernel
theorem dX9_likeIn_15 : decode cX9_likeIn 15 = .ok (.getfield 44, 3) := by decide +kernel
theorem dX9_likeIn_18 : decode cX9_likeIn 18 = .ok (.iload_n 2, 1) := by decide +kernel
theorem dX9_likeIn_19 : decode cX9_likeIn 19 = .ok (.iaload, 1) := by decide +kernel
theorem dX9_likeIn_20 : decode cX9_likeIn 20 = .ok (.aload_n 0, 1) := by decide +kernel
theorem dX9_likeIn_21 : decode cX9_likeIn 21 = .ok (.getfield 47, 3) := by decide +kernel
theorem dX9_likeIn_24 : decode cX9_likeIn 24 = .ok (.iload_n 2, 1) := by decide +kernel
theorem dX9_likeIn_25 : decode cX9_likeIn 25 = .ok (.iaload, 1) := by decide +kernel
theorem dX9_likeIn_26 : decode cX9_likeIn 26 = .ok (.invokevirtual 147, 3) := by decide +kernel
theorem dX9_likeIn_29 : decode cX9_likeIn 29 = .ok (.ireturn, 1) := by decide +kernel
theorem dX9_widens_0 : decode cX9_widens 0 = .ok (.iload_n 0, 1) := by decide +kernel
theorem dX9_widens_1 : decode cX9_widens 1 = .ok (.iload_n 1, 1) := by decide +kernel
theorem dX9_widens_2 : decode cX9_widens 2 = .ok (.if_icmp .ne 5, 3) := by decide +kernel
theorem dX9_widens_5 : decode cX9_widens 5 = .ok (.iconst 1, 1) := by decide +kernel
theorem dX9_widens_6 : decode cX9_widens 6 = .ok (.ireturn, 1) := by decide +kernel
theorem dX9_widens_7 : decode cX9_widens 7 = .ok (.iload_n 0, 1) := by decide +kernel
theorem dX9_widens_8 : decode cX9_widens 8 = .ok (.ifCond .eq 8, 3) := by decide +kernel
theorem dX9_widens_11 : decode cX9_widens 11 = .ok (.iload_n 1, 1) := by decide +kernel
theorem dX9_widens_12 : decode cX9_widens 12 = .ok (.iconst 3, 1) := by decide +kernel
theorem dX9_widens_13 : decode cX9_widens 13 = .ok (.if_icmp .ge 5, 3) := by decide +kernel
theorem dX9_widens_16 : decode cX9_widens 16 = .ok (.iconst 0, 1) := by decide +kernel
theorem dX9_widens_17 : decode cX9_widens 17 = .ok (.ireturn, 1) := by decide +kernel
theorem dX9_widens_18 : decode cX9_widens 18 = .ok (.iload_n 1, 1) := by decide +kernel
theorem dX9_widens_19 : decode cX9_widens 19 = .ok (.iconst 3, 1) := by decide +kernel
theorem dX9_widens_20 : decode cX9_widens 20 = .ok (.if_icmp .ne 16, 3) := by decide +kernel
theorem dX9_widens_23 : decode cX9_widens 23 = .ok (.iload_n 0, 1) := by decide +kernel
theorem dX9_widens_24 : decode cX9_widens 24 = .ok (.iconst 1, 1) := by decide +kernel
theorem dX9_widens_25 : decode cX9_widens 25 = .ok (.if_icmp .ne 7, 3) := by decide +kernel
theorem dX9_widens_28 : decode cX9_widens 28 = .ok (.iconst 1, 1) := by decide +kernel
theorem dX9_widens_29 : decode cX9_widens 29 = .ok (.goto 17, 3) := by decide +kernel
theorem dX9_widens_32 : decode cX9_widens 32 = .ok (.iconst 0, 1) := by decide +kernel
theorem dX9_widens_33 : decode cX9_widens 33 = .ok (.goto 13, 3) := by decide +kernel
theorem dX9_widens_36 : decode cX9_widens 36 = .ok (.iload_n 0, 1) := by decide +kernel
theorem dX9_widens_37 : decode cX9_widens 37 = .ok (.iload_n 1, 1) := by decide +kernel
theorem dX9_widens_38 : decode cX9_widens 38 = .ok (.if_icmp .ge 7, 3) := by decide +kernel
theorem dX9_widens_41 : decode cX9_widens 41 = .ok (.iconst 1, 1) := by decide +kernel
theorem dX9_widens_42 : decode cX9_widens 42 = .ok (.goto 4, 3) := by decide +kernel
theorem dX9_widens_45 : decode cX9_widens 45 = .ok (.iconst 0, 1) := by decide +kernel
theorem dX9_widens_46 : decode cX9_widens 46 = .ok (.ireturn, 1) := by decide +kernel
theorem dX9_kept_0 : decode cX9_kept 0 = .ok (.iload_n 0, 1) := by decide +kernel
theorem dX9_kept_1 : decode cX9_kept 1 = .ok (.tableswitch 84 0 6 #[43, 55, 60, 66, 71, 75, 77], 43) := by decide +kernel
theorem dX9_kept_44 : decode cX9_kept 44 = .ok (.lload_n 1, 1) := by decide +kernel
theorem dX9_kept_45 : decode cX9_kept 45 = .ok (.lconst 0, 1) := by decide +kernel
theorem dX9_kept_46 : decode cX9_kept 46 = .ok (.lcmp, 1) := by decide +kernel
theorem dX9_kept_47 : decode cX9_kept 47 = .ok (.ifCond .eq 7, 3) := by decide +kernel
theorem dX9_kept_50 : decode cX9_kept 50 = .ok (.lconst 1, 1) := by decide +kernel
theorem dX9_kept_51 : decode cX9_kept 51 = .ok (.goto 4, 3) := by decide +kernel
theorem dX9_kept_54 : decode cX9_kept 54 = .ok (.lconst 0, 1) := by decide +kernel
theorem dX9_kept_55 : decode cX9_kept 55 = .ok (.lreturn, 1) := by decide +kernel
theorem dX9_kept_56 : decode cX9_kept 56 = .ok (.lload_n 1, 1) := by decide +kernel
theorem dX9_kept_57 : decode cX9_kept 57 = .ok (.l2i, 1) := by decide +kernel
theorem dX9_kept_58 : decode cX9_kept 58 = .ok (.i2b, 1) := by decide +kernel
theorem dX9_kept_59 : decode cX9_kept 59 = .ok (.i2l, 1) := by decide +kernel
theorem dX9_kept_60 : decode cX9_kept 60 = .ok (.lreturn, 1) := by decide +kernel
theorem dX9_kept_61 : decode cX9_kept 61 = .ok (.lload_n 1, 1) := by decide +kernel
theorem dX9_kept_62 : decode cX9_kept 62 = .ok (.ldc2_w 151, 3) := by decide +kernel
theorem dX9_kept_65 : decode cX9_kept 65 = .ok (.land, 1) := by decide +kernel
theorem dX9_kept_66 : decode cX9_kept 66 = .ok (.lreturn, 1) := by decide +kernel
theorem dX9_kept_67 : decode cX9_kept 67 = .ok (.lload_n 1, 1) := by decide +kernel
theorem dX9_kept_68 : decode cX9_kept 68 = .ok (.l2i, 1) := by decide +kernel
theorem dX9_kept_69 : decode cX9_kept 69 = .ok (.i2s, 1) := by decide +kernel
theorem dX9_kept_70 : decode cX9_kept 70 = .ok (.i2l, 1) := by decide +kernel
theorem dX9_kept_71 : decode cX9_kept 71 = .ok (.lreturn, 1) := by decide +kernel
theorem dX9_kept_72 : decode cX9_kept 72 = .ok (.lload_n 1, 1) := by decide +kernel
theorem dX9_kept_73 : decode cX9_kept 73 = .ok (.l2i, 1) := by decide +kernel
theorem dX9_kept_74 : decode cX9_kept 74 = .ok (.i2l, 1) := by decide +kernel
theorem dX9_kept_75 : decode cX9_kept 75 = .ok (.lreturn, 1) := by decide +kernel
theorem dX9_kept_76 : decode cX9_kept 76 = .ok (.lload_n 1, 1) := by decide +kernel
theorem dX9_kept_77 : decode cX9_kept 77 = .ok (.lreturn, 1) := by decide +kernel
theorem dX9_kept_78 : decode cX9_kept 78 = .ok (.lload_n 1, 1) := by decide +kernel
theorem dX9_kept_79 : decode cX9_kept 79 = .ok (.l2f, 1) := by decide +kernel
theorem dX9_kept_80 : decode cX9_kept 80 = .ok (.invokestatic 153, 3) := by decide +kernel
theorem dX9_kept_83 : decode cX9_kept 83 = .ok (.i2l, 1) := by decide +kernel
theorem dX9_kept_84 : decode cX9_kept 84 = .ok (.lreturn, 1) := by decide +kernel
theorem dX9_kept_85 : decode cX9_kept 85 = .ok (.lload_n 1, 1) := by decide +kernel
theorem dX9_kept_86 : decode cX9_kept 86 = .ok (.l2d, 1) := by decide +kernel
theorem dX9_kept_87 : decode cX9_kept 87 = .ok (.invokestatic 159, 3) := by decide +kernel
theorem dX9_kept_90 : decode cX9_kept 90 = .ok (.lreturn, 1) := by decide +kernel
theorem dX9_comes_0 : decode cX9_comes 0 = .ok (.iload_n 0, 1) := by decide +kernel
theorem dX9_comes_1 : decode cX9_comes 1 = .ok (.bipush 7, 2) := by decide +kernel
theorem dX9_comes_3 : decode cX9_comes 3 = .ok (.if_icmp .ne 9, 3) := by decide +kernel
theorem dX9_comes_6 : decode cX9_comes 6 = .ok (.lload_n 1, 1) := by decide +kernel
theorem dX9_comes_7 : decode cX9_comes 7 = .ok (.invokestatic 165, 3) := by decide +kernel
theorem dX9_comes_10 : decode cX9_comes 10 = .ok (.d2l, 1) := by decide +kernel
theorem dX9_comes_11 : decode cX9_comes 11 = .ok (.lreturn, 1) := by decide +kernel
theorem dX9_comes_12 : decode cX9_comes 12 = .ok (.iload_n 0, 1) := by decide +kernel
theorem dX9_comes_13 : decode cX9_comes 13 = .ok (.bipush 6, 2) := by decide +kernel
theorem dX9_comes_15 : decode cX9_comes 15 = .ok (.if_icmp .ne 27, 3) := by decide +kernel
theorem dX9_comes_18 : decode cX9_comes 18 = .ok (.lload_n 1, 1) := by decide +kernel
theorem dX9_comes_19 : decode cX9_comes 19 = .ok (.l2i, 1) := by decide +kernel
theorem dX9_comes_20 : decode cX9_comes 20 = .ok (.invokestatic 169, 3) := by decide +kernel
theorem dX9_comes_23 : decode cX9_comes 23 = .ok (.fstore 4, 2) := by decide +kernel
theorem dX9_comes_25 : decode cX9_comes 25 = .ok (.iload_n 3, 1) := by decide +kernel
theorem dX9_comes_26 : decode cX9_comes 26 = .ok (.bipush 6, 2) := by decide +kernel
theorem dX9_comes_28 : decode cX9_comes 28 = .ok (.if_icmp .ne 9, 3) := by decide +kernel
theorem dX9_comes_31 : decode cX9_comes 31 = .ok (.fload 4, 2) := by decide +kernel
theorem dX9_comes_33 : decode cX9_comes 33 = .ok (.f2l, 1) := by decide +kernel
theorem dX9_comes_34 : decode cX9_comes 34 = .ok (.goto 7, 3) := by decide +kernel
theorem dX9_comes_37 : decode cX9_comes 37 = .ok (.fload 4, 2) := by decide +kernel
theorem dX9_comes_39 : decode cX9_comes 39 = .ok (.f2d, 1) := by decide +kernel
theorem dX9_comes_40 : decode cX9_comes 40 = .ok (.d2l, 1) := by decide +kernel
theorem dX9_comes_41 : decode cX9_comes 41 = .ok (.lreturn, 1) := by decide +kernel
theorem dX9_comes_42 : decode cX9_comes 42 = .ok (.iload_n 3, 1) := by decide +kernel
theorem dX9_comes_43 : decode cX9_comes 43 = .ok (.bipush 6, 2) := by decide +kernel
theorem dX9_comes_45 : decode cX9_comes 45 = .ok (.if_icmp .ne 9, 3) := by decide +kernel
theorem dX9_comes_48 : decode cX9_comes 48 = .ok (.lload_n 1, 1) := by decide +kernel
theorem dX9_comes_49 : decode cX9_comes 49 = .ok (.l2f, 1) := by decide +kernel
theorem dX9_comes_50 : decode cX9_comes 50 = .ok (.f2l, 1) := by decide +kernel
theorem dX9_comes_51 : decode cX9_comes 51 = .ok (.goto 16, 3) := by decide +kernel
theorem dX9_comes_54 : decode cX9_comes 54 = .ok (.iload_n 3, 1) := by decide +kernel
theorem dX9_comes_55 : decode cX9_comes 55 = .ok (.bipush 7, 2) := by decide +kernel
theorem dX9_comes_57 : decode cX9_comes 57 = .ok (.if_icmp .ne 9, 3) := by decide +kernel
theorem dX9_comes_60 : decode cX9_comes 60 = .ok (.lload_n 1, 1) := by decide +kernel
theorem dX9_comes_61 : decode cX9_comes 61 = .ok (.l2d, 1) := by decide +kernel
theorem dX9_comes_62 : decode cX9_comes 62 = .ok (.d2l, 1) := by decide +kernel
theorem dX9_comes_63 : decode cX9_comes 63 = .ok (.goto 4, 3) := by decide +kernel
theorem dX9_comes_66 : decode cX9_comes 66 = .ok (.lload_n 1, 1) := by decide +kernel
theorem dX9_comes_67 : decode cX9_comes 67 = .ok (.lreturn, 1) := by decide +kernel
theorem dX9_areFieldMarks_0 : decode cX9_areFieldMarks 0 = .ok (.iload_n 0, 1) := by decide +kernel
theorem dX9_areFieldMarks_1 : decode cX9_areFieldMarks 1 = .ok (.i2l, 1) := by decide +kernel
theorem dX9_areFieldMarks_2 : decode cX9_areFieldMarks 2 = .ok (.lconst 0, 1) := by decide +kernel
theorem dX9_areFieldMarks_3 : decode cX9_areFieldMarks 3 = .ok (.ldc2_w 173, 3) := by decide +kernel
theorem dX9_areFieldMarks_6 : decode cX9_areFieldMarks 6 = .ok (.invokestatic 133, 3) := by decide +kernel
theorem dX9_areFieldMarks_9 : decode cX9_areFieldMarks 9 = .ok (.ifCond .eq 17, 3) := by decide +kernel
theorem dX9_areFieldMarks_12 : decode cX9_areFieldMarks 12 = .ok (.iload_n 1, 1) := by decide +kernel
theorem dX9_areFieldMarks_13 : decode cX9_areFieldMarks 13 = .ok (.ifCond .eq 9, 3) := by decide +kernel
theorem dX9_areFieldMarks_16 : decode cX9_areFieldMarks 16 = .ok (.iload_n 0, 1) := by decide +kernel
theorem dX9_areFieldMarks_17 : decode cX9_areFieldMarks 17 = .ok (.iconst 1, 1) := by decide +kernel
theorem dX9_areFieldMarks_18 : decode cX9_areFieldMarks 18 = .ok (.iand, 1) := by decide +kernel
theorem dX9_areFieldMarks_19 : decode cX9_areFieldMarks 19 = .ok (.ifCond .eq 7, 3) := by decide +kernel
theorem dX9_areFieldMarks_22 : decode cX9_areFieldMarks 22 = .ok (.iconst 1, 1) := by decide +kernel
theorem dX9_areFieldMarks_23 : decode cX9_areFieldMarks 23 = .ok (.goto 4, 3) := by decide +kernel
theorem dX9_areFieldMarks_26 : decode cX9_areFieldMarks 26 = .ok (.iconst 0, 1) := by decide +kernel
theorem dX9_areFieldMarks_27 : decode cX9_areFieldMarks 27 = .ok (.ireturn, 1) := by decide +kernel
theorem dX9_areMethodMarks_0 : decode cX9_areMethodMarks 0 = .ok (.iload_n 0, 1) := by decide +kernel
theorem dX9_areMethodMarks_1 : decode cX9_areMethodMarks 1 = .ok (.i2l, 1) := by decide +kernel
theorem dX9_areMethodMarks_2 : decode cX9_areMethodMarks 2 = .ok (.lconst 0, 1) := by decide +kernel
theorem dX9_areMethodMarks_3 : decode cX9_areMethodMarks 3 = .ok (.ldc2_w 175, 3) := by decide +kernel
theorem dX9_areMethodMarks_6 : decode cX9_areMethodMarks 6 = .ok (.invokestatic 133, 3) := by decide +kernel
theorem dX9_areMethodMarks_9 : decode cX9_areMethodMarks 9 = .ok (.ifCond .eq 20, 3) := by decide +kernel
theorem dX9_areMethodMarks_12 : decode cX9_areMethodMarks 12 = .ok (.iload_n 0, 1) := by decide +kernel
theorem dX9_areMethodMarks_13 : decode cX9_areMethodMarks 13 = .ok (.bipush 8, 2) := by decide +kernel
theorem dX9_areMethodMarks_15 : decode cX9_areMethodMarks 15 = .ok (.iand, 1) := by decide +kernel
theorem dX9_areMethodMarks_16 : decode cX9_areMethodMarks 16 = .ok (.ifCond .eq 9, 3) := by decide +kernel
theorem dX9_areMethodMarks_19 : decode cX9_areMethodMarks 19 = .ok (.iload_n 0, 1) := by decide +kernel
theorem dX9_areMethodMarks_20 : decode cX9_areMethodMarks 20 = .ok (.bipush 8, 2) := by decide +kernel
theorem dX9_areMethodMarks_22 : decode cX9_areMethodMarks 22 = .ok (.if_icmp .ne 7, 3) := by decide +kernel
theorem dX9_areMethodMarks_25 : decode cX9_areMethodMarks 25 = .ok (.iconst 1, 1) := by decide +kernel
theorem dX9_areMethodMarks_26 : decode cX9_areMethodMarks 26 = .ok (.goto 4, 3) := by decide +kernel
theorem dX9_areMethodMarks_29 : decode cX9_areMethodMarks 29 = .ok (.iconst 0, 1) := by decide +kernel
theorem dX9_areMethodMarks_30 : decode cX9_areMethodMarks 30 = .ok (.ireturn, 1) := by decide +kernel
theorem dX9_areParameters_0 : decode cX9_areParameters 0 = .ok (.iload_n 1, 1) := by decide +kernel
theorem dX9_areParameters_1 : decode cX9_areParameters 1 = .ok (.bipush (-2), 2) := by decide +kernel
theorem dX9_areParameters_3 : decode cX9_areParameters 3 = .ok (.if_icmp .eq 11, 3) := by decide +kernel
theorem dX9_areParameters_6 : decode cX9_areParameters 6 = .ok (.aload_n 0, 1) := by decide +kernel
theorem dX9_areParameters_7 : decode cX9_areParameters 7 = .ok (.iload_n 1, 1) := by decide +kernel
theorem dX9_areParameters_8 : decode cX9_areParameters 8 = .ok (.invokevirtual 137, 3) := by decide +kernel
theorem dX9_areParameters_11 : decode cX9_areParameters 11 = .ok (.ifCond .eq 33, 3) := by decide +kernel
theorem dX9_areParameters_14 : decode cX9_areParameters 14 = .ok (.iload_n 2, 1) := by decide +kernel
theorem dX9_areParameters_15 : decode cX9_areParameters 15 = .ok (.bipush (-2), 2) := by decide +kernel
theorem dX9_areParameters_17 : decode cX9_areParameters 17 = .ok (.if_icmp .eq 11, 3) := by decide +kernel
theorem dX9_areParameters_20 : decode cX9_areParameters 20 = .ok (.aload_n 0, 1) := by decide +kernel
theorem dX9_areParameters_21 : decode cX9_areParameters 21 = .ok (.iload_n 2, 1) := by decide +kernel
theorem dX9_areParameters_22 : decode cX9_areParameters 22 = .ok (.invokevirtual 137, 3) := by decide +kernel
theorem dX9_areParameters_25 : decode cX9_areParameters 25 = .ok (.ifCond .eq 19, 3) := by decide +kernel
theorem dX9_areParameters_28 : decode cX9_areParameters 28 = .ok (.iload_n 1, 1) := by decide +kernel
theorem dX9_areParameters_29 : decode cX9_areParameters 29 = .ok (.bipush (-2), 2) := by decide +kernel
theorem dX9_areParameters_31 : decode cX9_areParameters 31 = .ok (.if_icmp .ne 9, 3) := by decide +kernel
theorem dX9_areParameters_34 : decode cX9_areParameters 34 = .ok (.iload_n 2, 1) := by decide +kernel
theorem dX9_areParameters_35 : decode cX9_areParameters 35 = .ok (.bipush (-2), 2) := by decide +kernel
theorem dX9_areParameters_37 : decode cX9_areParameters 37 = .ok (.if_icmp .ne 7, 3) := by decide +kernel
theorem dX9_areParameters_40 : decode cX9_areParameters 40 = .ok (.iconst 1, 1) := by decide +kernel
theorem dX9_areParameters_41 : decode cX9_areParameters 41 = .ok (.goto 4, 3) := by decide +kernel
theorem dX9_areParameters_44 : decode cX9_areParameters 44 = .ok (.iconst 0, 1) := by decide +kernel
theorem dX9_areParameters_45 : decode cX9_areParameters 45 = .ok (.ireturn, 1) := by decide +kernel
theorem dX9_freeMember_0 : decode cX9_freeMember 0 = .ok (.iconst 0, 1) := by decide +kernel
theorem dX9_freeMember_1 : decode cX9_freeMember 1 = .ok (.istore_n 1, 1) := by decide +kernel
theorem dX9_freeMember_2 : decode cX9_freeMember 2 = .ok (.iload_n 1, 1) := by decide +kernel
theorem dX9_freeMember_3 : decode cX9_freeMember 3 = .ok (.bipush 60, 2) := by decide +kernel
theorem dX9_freeMember_5 : decode cX9_freeMember 5 = .ok (.if_icmp .ge 20, 3) := by decide +kernel
theorem dX9_freeMember_8 : decode cX9_freeMember 8 = .ok (.aload_n 0, 1) := by decide +kernel
theorem dX9_freeMember_9 : decode cX9_freeMember 9 = .ok (.getfield 26, 3) := by decide +kernel
theorem dX9_freeMember_12 : decode cX9_freeMember 12 = .ok (.iload_n 1, 1) := by decide +kernel
theorem dX9_freeMember_13 : decode cX9_freeMember 13 = .ok (.baload, 1) := by decide +kernel
theorem dX9_freeMember_14 : decode cX9_freeMember 14 = .ok (.ifCond .ne 5, 3) := by decide +kernel
theorem dX9_freeMember_17 : decode cX9_freeMember 17 = .ok (.iload_n 1, 1) := by decide +kernel
theorem dX9_freeMember_18 : decode cX9_freeMember 18 = .ok (.ireturn, 1) := by decide +kernel
theorem dX9_freeMember_19 : decode cX9_freeMember 19 = .ok (.iinc 1 1, 3) := by decide +kernel
theorem dX9_freeMember_22 : decode cX9_freeMember 22 = .ok (.goto (-20), 3) := by decide +kernel
theorem dX9_freeMember_25 : decode cX9_freeMember 25 = .ok (.bipush (-2), 2) := by decide +kernel
theorem dX9_freeMember_27 : decode cX9_freeMember 27 = .ok (.ireturn, 1) := by decide +kernel
theorem dX9_refusal_0 : decode cX9_refusal 0 = .ok (.iload_n 1, 1) := by decide +kernel
theorem dX9_refusal_1 : decode cX9_refusal 1 = .ok (.tableswitch 401 0 6 #[43, 106, 154, 161, 193, 219, 314], 43) := by decide +kernel
theorem dX9_refusal_44 : decode cX9_refusal 44 = .ok (.iload_n 3, 1) := by decide +kernel
theorem dX9_refusal_45 : decode cX9_refusal 45 = .ok (.bipush (-2), 2) := by decide +kernel
theorem dX9_refusal_47 : decode cX9_refusal 47 = .ok (.if_icmp .eq 15, 3) := by decide +kernel
theorem dX9_refusal_50 : decode cX9_refusal 50 = .ok (.iload_n 2, 1) := by decide +kernel
theorem dX9_refusal_51 : decode cX9_refusal 51 = .ok (.ifCond .ne 15, 3) := by decide +kernel
theorem dX9_refusal_54 : decode cX9_refusal 54 = .ok (.aload_n 0, 1) := by decide +kernel
theorem dX9_refusal_55 : decode cX9_refusal 55 = .ok (.iload_n 3, 1) := by decide +kernel
theorem dX9_refusal_56 : decode cX9_refusal 56 = .ok (.invokevirtual 177, 3) := by decide +kernel
theorem dX9_refusal_59 : decode cX9_refusal 59 = .ok (.ifCond .eq 7, 3) := by decide +kernel
theorem dX9_refusal_62 : decode cX9_refusal 62 = .ok (.iconst 1, 1) := by decide +kernel
theorem dX9_refusal_63 : decode cX9_refusal 63 = .ok (.goto 4, 3) := by decide +kernel
theorem dX9_refusal_66 : decode cX9_refusal 66 = .ok (.iconst 0, 1) := by decide +kernel
theorem dX9_refusal_67 : decode cX9_refusal 67 = .ok (.istore 7, 2) := by decide +kernel
theorem dX9_refusal_69 : decode cX9_refusal 69 = .ok (.iload 7, 2) := by decide +kernel
theorem dX9_refusal_71 : decode cX9_refusal 71 = .ok (.ifCond .eq 16, 3) := by decide +kernel
theorem dX9_refusal_74 : decode cX9_refusal 74 = .ok (.iload 4, 2) := by decide +kernel
theorem dX9_refusal_76 : decode cX9_refusal 76 = .ok (.i2l, 1) := by decide +kernel
theorem dX9_refusal_77 : decode cX9_refusal 77 = .ok (.lconst 0, 1) := by decide +kernel
theorem dX9_refusal_78 : decode cX9_refusal 78 = .ok (.ldc2_w 180, 3) := by decide +kernel
theorem dX9_refusal_81 : decode cX9_refusal 81 = .ok (.invokestatic 133, 3) := by decide +kernel
theorem dX9_refusal_84 : decode cX9_refusal 84 = .ok (.ifCond .ne 7, 3) := by decide +kernel
theorem dX9_refusal_87 : decode cX9_refusal 87 = .ok (.iconst (-1), 1) := by decide +kernel
theorem dX9_refusal_88 : decode cX9_refusal 88 = .ok (.goto 18, 3) := by decide +kernel
theorem dX9_refusal_91 : decode cX9_refusal 91 = .ok (.aload_n 0, 1) := by decide +kernel
theorem dX9_refusal_92 : decode cX9_refusal 92 = .ok (.getfield 129, 3) := by decide +kernel
theorem dX9_refusal_95 : decode cX9_refusal 95 = .ok (.bipush 12, 2) := by decide +kernel
theorem dX9_refusal_97 : decode cX9_refusal 97 = .ok (.if_icmp .ne 8, 3) := by decide +kernel
theorem dX9_refusal_100 : decode cX9_refusal 100 = .ok (.bipush (-3), 2) := by decide +kernel
theorem dX9_refusal_102 : decode cX9_refusal 102 = .ok (.goto 4, 3) := by decide +kernel
theorem dX9_refusal_105 : decode cX9_refusal 105 = .ok (.iconst 0, 1) := by decide +kernel
theorem dX9_refusal_106 : decode cX9_refusal 106 = .ok (.ireturn, 1) := by decide +kernel
theorem dX9_refusal_107 : decode cX9_refusal 107 = .ok (.aload_n 0, 1) := by decide +kernel
theorem dX9_refusal_108 : decode cX9_refusal 108 = .ok (.iload_n 2, 1) := by decide +kernel
theorem dX9_refusal_109 : decode cX9_refusal 109 = .ok (.invokevirtual 177, 3) := by decide +kernel
theorem dX9_refusal_112 : decode cX9_refusal 112 = .ok (.ifCond .eq 17, 3) := by decide +kernel
theorem dX9_refusal_115 : decode cX9_refusal 115 = .ok (.iload_n 3, 1) := by decide +kernel
theorem dX9_refusal_116 : decode cX9_refusal 116 = .ok (.bipush (-2), 2) := by decide +kernel
theorem dX9_refusal_118 : decode cX9_refusal 118 = .ok (.if_icmp .eq 15, 3) := by decide +kernel
theorem dX9_refusal_121 : decode cX9_refusal 121 = .ok (.aload_n 0, 1) := by decide +kernel
theorem dX9_refusal_122 : decode cX9_refusal 122 = .ok (.iload_n 3, 1) := by decide +kernel
theorem dX9_refusal_123 : decode cX9_refusal 123 = .ok (.invokevirtual 177, 3) := by decide +kernel
theorem dX9_refusal_126 : decode cX9_refusal 126 = .ok (.ifCond .ne 7, 3) := by decide +kernel
theorem dX9_refusal_129 : decode cX9_refusal 129 = .ok (.iconst (-1), 1) := by decide +kernel
theorem dX9_refusal_130 : decode cX9_refusal 130 = .ok (.goto 24, 3) := by decide +kernel
theorem dX9_refusal_133 : decode cX9_refusal 133 = .ok (.iload_n 3, 1) := by decide +kernel
theorem dX9_refusal_134 : decode cX9_refusal 134 = .ok (.bipush (-2), 2) := by decide +kernel
theorem dX9_refusal_136 : decode cX9_refusal 136 = .ok (.if_icmp .eq 17, 3) := by decide +kernel
theorem dX9_refusal_139 : decode cX9_refusal 139 = .ok (.aload_n 0, 1) := by decide +kernel
theorem dX9_refusal_140 : decode cX9_refusal 140 = .ok (.iload_n 3, 1) := by decide +kernel
theorem dX9_refusal_141 : decode cX9_refusal 141 = .ok (.iload_n 2, 1) := by decide +kernel
theorem dX9_refusal_142 : decode cX9_refusal 142 = .ok (.invokevirtual 182, 3) := by decide +kernel
theorem dX9_refusal_145 : decode cX9_refusal 145 = .ok (.ifCond .eq 8, 3) := by decide +kernel
theorem dX9_refusal_148 : decode cX9_refusal 148 = .ok (.bipush (-4), 2) := by decide +kernel
theorem dX9_refusal_150 : decode cX9_refusal 150 = .ok (.goto 4, 3) := by decide +kernel
theorem dX9_refusal_153 : decode cX9_refusal 153 = .ok (.iconst 0, 1) := by decide +kernel
theorem dX9_refusal_154 : decode cX9_refusal 154 = .ok (.ireturn, 1) := by decide +kernel
theorem dX9_refusal_155 : decode cX9_refusal 155 = .ok (.aload_n 0, 1) := by decide +kernel
theorem dX9_refusal_156 : decode cX9_refusal 156 = .ok (.iload_n 2, 1) := by decide +kernel
theorem dX9_refusal_157 : decode cX9_refusal 157 = .ok (.iload_n 3, 1) := by decide +kernel
theorem dX9_refusal_158 : decode cX9_refusal 158 = .ok (.invokevirtual 186, 3) := by decide +kernel
theorem dX9_refusal_161 : decode cX9_refusal 161 = .ok (.ireturn, 1) := by decide +kernel
theorem dX9_refusal_162 : decode cX9_refusal 162 = .ok (.aload_n 0, 1) := by decide +kernel
theorem dX9_refusal_163 : decode cX9_refusal 163 = .ok (.iload_n 2, 1) := by decide +kernel
theorem dX9_refusal_164 : decode cX9_refusal 164 = .ok (.invokevirtual 137, 3) := by decide +kernel
theorem dX9_refusal_167 : decode cX9_refusal 167 = .ok (.ifCond .eq 21, 3) := by decide +kernel
theorem dX9_refusal_170 : decode cX9_refusal 170 = .ok (.iload_n 3, 1) := by decide +kernel
theorem dX9_refusal_171 : decode cX9_refusal 171 = .ok (.i2l, 1) := by decide +kernel
theorem dX9_refusal_172 : decode cX9_refusal 172 = .ok (.lconst 0, 1) := by decide +kernel
theorem dX9_refusal_173 : decode cX9_refusal 173 = .ok (.aload_n 0, 1) := by decide +kernel
theorem dX9_refusal_174 : decode cX9_refusal 174 = .ok (.getfield 20, 3) := by decide +kernel
theorem dX9_refusal_177 : decode cX9_refusal 177 = .ok (.iload_n 2, 1) := by decide +kernel
theorem dX9_refusal_178 : decode cX9_refusal 178 = .ok (.iaload, 1) := by decide +kernel
theorem dX9_refusal_179 : decode cX9_refusal 179 = .ok (.iconst 1, 1) := by decide +kernel
theorem dX9_refusal_180 : decode cX9_refusal 180 = .ok (.isub, 1) := by decide +kernel
theorem dX9_refusal_181 : decode cX9_refusal 181 = .ok (.i2l, 1) := by decide +kernel
theorem dX9_refusal_182 : decode cX9_refusal 182 = .ok (.invokestatic 133, 3) := by decide +kernel
theorem dX9_refusal_185 : decode cX9_refusal 185 = .ok (.ifCond .ne 7, 3) := by decide +kernel
theorem dX9_refusal_188 : decode cX9_refusal 188 = .ok (.iconst (-1), 1) := by decide +kernel
theorem dX9_refusal_189 : decode cX9_refusal 189 = .ok (.goto 4, 3) := by decide +kernel
theorem dX9_refusal_192 : decode cX9_refusal 192 = .ok (.iconst 0, 1) := by decide +kernel
theorem dX9_refusal_193 : decode cX9_refusal 193 = .ok (.ireturn, 1) := by decide +kernel
theorem dX9_refusal_194 : decode cX9_refusal 194 = .ok (.aload_n 0, 1) := by decide +kernel
theorem dX9_refusal_195 : decode cX9_refusal 195 = .ok (.iload_n 2, 1) := by decide +kernel
theorem dX9_refusal_196 : decode cX9_refusal 196 = .ok (.invokevirtual 137, 3) := by decide +kernel
theorem dX9_refusal_199 : decode cX9_refusal 199 = .ok (.ifCond .eq 15, 3) := by decide +kernel
theorem dX9_refusal_202 : decode cX9_refusal 202 = .ok (.iload_n 3, 1) := by decide +kernel
theorem dX9_refusal_203 : decode cX9_refusal 203 = .ok (.i2l, 1) := by decide +kernel
theorem dX9_refusal_204 : decode cX9_refusal 204 = .ok (.lconst 0, 1) := by decide +kernel
theorem dX9_refusal_205 : decode cX9_refusal 205 = .ok (.ldc2_w 180, 3) := by decide +kernel
theorem dX9_refusal_208 : decode cX9_refusal 208 = .ok (.invokestatic 133, 3) := by decide +kernel
theorem dX9_refusal_211 : decode cX9_refusal 211 = .ok (.ifCond .ne 7, 3) := by decide +kernel
theorem dX9_refusal_214 : decode cX9_refusal 214 = .ok (.iconst (-1), 1) := by decide +kernel
theorem dX9_refusal_215 : decode cX9_refusal 215 = .ok (.goto 4, 3) := by decide +kernel
theorem dX9_refusal_218 : decode cX9_refusal 218 = .ok (.iconst 0, 1) := by decide +kernel
theorem dX9_refusal_219 : decode cX9_refusal 219 = .ok (.ireturn, 1) := by decide +kernel
theorem dX9_refusal_220 : decode cX9_refusal 220 = .ok (.aload_n 0, 1) := by decide +kernel
theorem dX9_refusal_221 : decode cX9_refusal 221 = .ok (.iload_n 2, 1) := by decide +kernel
theorem dX9_refusal_222 : decode cX9_refusal 222 = .ok (.invokevirtual 137, 3) := by decide +kernel
theorem dX9_refusal_225 : decode cX9_refusal 225 = .ok (.ifCond .eq 62, 3) := by decide +kernel
theorem dX9_refusal_228 : decode cX9_refusal 228 = .ok (.iload_n 3, 1) := by decide +kernel
theorem dX9_refusal_229 : decode cX9_refusal 229 = .ok (.i2l, 1) := by decide +kernel
theorem dX9_refusal_230 : decode cX9_refusal 230 = .ok (.lconst 0, 1) := by decide +kernel
theorem dX9_refusal_231 : decode cX9_refusal 231 = .ok (.ldc2_w 190, 3) := by decide +kernel
theorem dX9_refusal_234 : decode cX9_refusal 234 = .ok (.invokestatic 133, 3) := by decide +kernel
theorem dX9_refusal_237 : decode cX9_refusal 237 = .ok (.ifCond .eq 50, 3) := by decide +kernel
theorem dX9_refusal_240 : decode cX9_refusal 240 = .ok (.iload 4, 2) := by decide +kernel
theorem dX9_refusal_242 : decode cX9_refusal 242 = .ok (.i2l, 1) := by decide +kernel
theorem dX9_refusal_243 : decode cX9_refusal 243 = .ok (.lconst 0, 1) := by decide +kernel
theorem dX9_refusal_244 : decode cX9_refusal 244 = .ok (.ldc2_w 173, 3) := by decide +kernel
theorem dX9_refusal_247 : decode cX9_refusal 247 = .ok (.invokestatic 133, 3) := by decide +kernel
theorem dX9_refusal_250 : decode cX9_refusal 250 = .ok (.ifCond .eq 37, 3) := by decide +kernel
theorem dX9_refusal_253 : decode cX9_refusal 253 = .ok (.iload 5, 2) := by decide +kernel
theorem dX9_refusal_255 : decode cX9_refusal 255 = .ok (.aload_n 0, 1) := by decide +kernel
theorem dX9_refusal_256 : decode cX9_refusal 256 = .ok (.getfield 7, 3) := by decide +kernel
theorem dX9_refusal_259 : decode cX9_refusal 259 = .ok (.iload_n 2, 1) := by decide +kernel
theorem dX9_refusal_260 : decode cX9_refusal 260 = .ok (.baload, 1) := by decide +kernel
theorem dX9_refusal_261 : decode cX9_refusal 261 = .ok (.invokestatic 192, 3) := by decide +kernel
theorem dX9_refusal_264 : decode cX9_refusal 264 = .ok (.ifCond .eq 23, 3) := by decide +kernel
theorem dX9_refusal_267 : decode cX9_refusal 267 = .ok (.aload_n 0, 1) := by decide +kernel
theorem dX9_refusal_268 : decode cX9_refusal 268 = .ok (.iload_n 2, 1) := by decide +kernel
theorem dX9_refusal_269 : decode cX9_refusal 269 = .ok (.iconst 0, 1) := by decide +kernel
theorem dX9_refusal_270 : decode cX9_refusal 270 = .ok (.iload_n 3, 1) := by decide +kernel
theorem dX9_refusal_271 : decode cX9_refusal 271 = .ok (.bipush (-2), 2) := by decide +kernel
theorem dX9_refusal_273 : decode cX9_refusal 273 = .ok (.bipush (-2), 2) := by decide +kernel
theorem dX9_refusal_275 : decode cX9_refusal 275 = .ok (.invokevirtual 147, 3) := by decide +kernel
theorem dX9_refusal_278 : decode cX9_refusal 278 = .ok (.bipush (-2), 2) := by decide +kernel
theorem dX9_refusal_280 : decode cX9_refusal 280 = .ok (.if_icmp .ne 7, 3) := by decide +kernel
theorem dX9_refusal_283 : decode cX9_refusal 283 = .ok (.iconst 1, 1) := by decide +kernel
theorem dX9_refusal_284 : decode cX9_refusal 284 = .ok (.goto 4, 3) := by decide +kernel
theorem dX9_refusal_287 : decode cX9_refusal 287 = .ok (.iconst 0, 1) := by decide +kernel
theorem dX9_refusal_288 : decode cX9_refusal 288 = .ok (.istore 8, 2) := by decide +kernel
theorem dX9_refusal_290 : decode cX9_refusal 290 = .ok (.iload 8, 2) := by decide +kernel
theorem dX9_refusal_292 : decode cX9_refusal 292 = .ok (.ifCond .ne 7, 3) := by decide +kernel
theorem dX9_refusal_295 : decode cX9_refusal 295 = .ok (.iconst (-1), 1) := by decide +kernel
theorem dX9_refusal_296 : decode cX9_refusal 296 = .ok (.goto 18, 3) := by decide +kernel
theorem dX9_refusal_299 : decode cX9_refusal 299 = .ok (.aload_n 0, 1) := by decide +kernel
theorem dX9_refusal_300 : decode cX9_refusal 300 = .ok (.invokevirtual 196, 3) := by decide +kernel
theorem dX9_refusal_303 : decode cX9_refusal 303 = .ok (.bipush (-2), 2) := by decide +kernel
theorem dX9_refusal_305 : decode cX9_refusal 305 = .ok (.if_icmp .ne 8, 3) := by decide +kernel
theorem dX9_refusal_308 : decode cX9_refusal 308 = .ok (.bipush (-3), 2) := by decide +kernel
theorem dX9_refusal_310 : decode cX9_refusal 310 = .ok (.goto 4, 3) := by decide +kernel
theorem dX9_refusal_313 : decode cX9_refusal 313 = .ok (.iconst 0, 1) := by decide +kernel
theorem dX9_refusal_314 : decode cX9_refusal 314 = .ok (.ireturn, 1) := by decide +kernel
theorem dX9_refusal_315 : decode cX9_refusal 315 = .ok (.aload_n 0, 1) := by decide +kernel
theorem dX9_refusal_316 : decode cX9_refusal 316 = .ok (.iload_n 2, 1) := by decide +kernel
theorem dX9_refusal_317 : decode cX9_refusal 317 = .ok (.invokevirtual 137, 3) := by decide +kernel
theorem dX9_refusal_320 : decode cX9_refusal 320 = .ok (.ifCond .eq 54, 3) := by decide +kernel
theorem dX9_refusal_323 : decode cX9_refusal 323 = .ok (.iload_n 3, 1) := by decide +kernel
theorem dX9_refusal_324 : decode cX9_refusal 324 = .ok (.i2l, 1) := by decide +kernel
theorem dX9_refusal_325 : decode cX9_refusal 325 = .ok (.lconst 0, 1) := by decide +kernel
theorem dX9_refusal_326 : decode cX9_refusal 326 = .ok (.ldc2_w 190, 3) := by decide +kernel
theorem dX9_refusal_329 : decode cX9_refusal 329 = .ok (.invokestatic 133, 3) := by decide +kernel
theorem dX9_refusal_332 : decode cX9_refusal 332 = .ok (.ifCond .eq 42, 3) := by decide +kernel
theorem dX9_refusal_335 : decode cX9_refusal 335 = .ok (.aload_n 0, 1) := by decide +kernel
theorem dX9_refusal_336 : decode cX9_refusal 336 = .ok (.iload 4, 2) := by decide +kernel
theorem dX9_refusal_338 : decode cX9_refusal 338 = .ok (.iload 5, 2) := by decide +kernel
theorem dX9_refusal_340 : decode cX9_refusal 340 = .ok (.invokevirtual 200, 3) := by decide +kernel
theorem dX9_refusal_343 : decode cX9_refusal 343 = .ok (.ifCond .eq 31, 3) := by decide +kernel
theorem dX9_refusal_346 : decode cX9_refusal 346 = .ok (.iload 6, 2) := by decide +kernel
theorem dX9_refusal_348 : decode cX9_refusal 348 = .ok (.invokestatic 203, 3) := by decide +kernel
theorem dX9_refusal_351 : decode cX9_refusal 351 = .ok (.ifCond .eq 23, 3) := by decide +kernel
theorem dX9_refusal_354 : decode cX9_refusal 354 = .ok (.aload_n 0, 1) := by decide +kernel
theorem dX9_refusal_355 : decode cX9_refusal 355 = .ok (.iload_n 2, 1) := by decide +kernel
theorem dX9_refusal_356 : decode cX9_refusal 356 = .ok (.iconst 1, 1) := by decide +kernel
theorem dX9_refusal_357 : decode cX9_refusal 357 = .ok (.iload_n 3, 1) := by decide +kernel
theorem dX9_refusal_358 : decode cX9_refusal 358 = .ok (.iload 4, 2) := by decide +kernel
theorem dX9_refusal_360 : decode cX9_refusal 360 = .ok (.iload 5, 2) := by decide +kernel
theorem dX9_refusal_362 : decode cX9_refusal 362 = .ok (.invokevirtual 147, 3) := by decide +kernel
theorem dX9_refusal_365 : decode cX9_refusal 365 = .ok (.bipush (-2), 2) := by decide +kernel
theorem dX9_refusal_367 : decode cX9_refusal 367 = .ok (.if_icmp .ne 7, 3) := by decide +kernel
theorem dX9_refusal_370 : decode cX9_refusal 370 = .ok (.iconst 1, 1) := by decide +kernel
theorem dX9_refusal_371 : decode cX9_refusal 371 = .ok (.goto 4, 3) := by decide +kernel
theorem dX9_refusal_374 : decode cX9_refusal 374 = .ok (.iconst 0, 1) := by decide +kernel
theorem dX9_refusal_375 : decode cX9_refusal 375 = .ok (.istore 9, 2) := by decide +kernel
theorem dX9_refusal_377 : decode cX9_refusal 377 = .ok (.iload 9, 2) := by decide +kernel
theorem dX9_refusal_379 : decode cX9_refusal 379 = .ok (.ifCond .ne 7, 3) := by decide +kernel
theorem dX9_refusal_382 : decode cX9_refusal 382 = .ok (.iconst (-1), 1) := by decide +kernel
theorem dX9_refusal_383 : decode cX9_refusal 383 = .ok (.goto 18, 3) := by decide +kernel
theorem dX9_refusal_386 : decode cX9_refusal 386 = .ok (.aload_n 0, 1) := by decide +kernel
theorem dX9_refusal_387 : decode cX9_refusal 387 = .ok (.invokevirtual 196, 3) := by decide +kernel
theorem dX9_refusal_390 : decode cX9_refusal 390 = .ok (.bipush (-2), 2) := by decide +kernel
theorem dX9_refusal_392 : decode cX9_refusal 392 = .ok (.if_icmp .ne 8, 3) := by decide +kernel
theorem dX9_refusal_395 : decode cX9_refusal 395 = .ok (.bipush (-3), 2) := by decide +kernel
theorem dX9_refusal_397 : decode cX9_refusal 397 = .ok (.goto 4, 3) := by decide +kernel
theorem dX9_refusal_400 : decode cX9_refusal 400 = .ok (.iconst 0, 1) := by decide +kernel
theorem dX9_refusal_401 : decode cX9_refusal 401 = .ok (.ireturn, 1) := by decide +kernel
theorem dX9_refusal_402 : decode cX9_refusal 402 = .ok (.aload_n 0, 1) := by decide +kernel
theorem dX9_refusal_403 : decode cX9_refusal 403 = .ok (.iload_n 1, 1) := by decide +kernel
theorem dX9_refusal_404 : decode cX9_refusal 404 = .ok (.iload_n 2, 1) := by decide +kernel
theorem dX9_refusal_405 : decode cX9_refusal 405 = .ok (.iload_n 3, 1) := by decide +kernel
theorem dX9_refusal_406 : decode cX9_refusal 406 = .ok (.invokevirtual 206, 3) := by decide +kernel
theorem dX9_refusal_409 : decode cX9_refusal 409 = .ok (.ireturn, 1) := by decide +kernel
theorem dX9_refusalOfFace_0 : decode cX9_refusalOfFace 0 = .ok (.aload_n 0, 1) := by decide +kernel
theorem dX9_refusalOfFace_1 : decode cX9_refusalOfFace 1 = .ok (.iload_n 1, 1) := by decide +kernel
theorem dX9_refusalOfFace_2 : decode cX9_refusalOfFace 2 = .ok (.invokevirtual 137, 3) := by decide +kernel
theorem dX9_refusalOfFace_5 : decode cX9_refusalOfFace 5 = .ok (.ifCond .eq 30, 3) := by decide +kernel
theorem dX9_refusalOfFace_8 : decode cX9_refusalOfFace 8 = .ok (.aload_n 0, 1) := by decide +kernel
theorem dX9_refusalOfFace_9 : decode cX9_refusalOfFace 9 = .ok (.iload_n 2, 1) := by decide +kernel
theorem dX9_refusalOfFace_10 : decode cX9_refusalOfFace 10 = .ok (.invokevirtual 137, 3) := by decide +kernel
theorem dX9_refusalOfFace_13 : decode cX9_refusalOfFace 13 = .ok (.ifCond .eq 22, 3) := by decide +kernel
theorem dX9_refusalOfFace_16 : decode cX9_refusalOfFace 16 = .ok (.aload_n 0, 1) := by decide +kernel
theorem dX9_refusalOfFace_17 : decode cX9_refusalOfFace 17 = .ok (.getfield 7, 3) := by decide +kernel
theorem dX9_refusalOfFace_20 : decode cX9_refusalOfFace 20 = .ok (.iload_n 2, 1) := by decide +kernel
theorem dX9_refusalOfFace_21 : decode cX9_refusalOfFace 21 = .ok (.baload, 1) := by decide +kernel
theorem dX9_refusalOfFace_22 : decode cX9_refusalOfFace 22 = .ok (.ifCond .eq 13, 3) := by decide +kernel
theorem dX9_refusalOfFace_25 : decode cX9_refusalOfFace 25 = .ok (.aload_n 0, 1) := by decide +kernel
theorem dX9_refusalOfFace_26 : decode cX9_refusalOfFace 26 = .ok (.getfield 20, 3) := by decide +kernel
theorem dX9_refusalOfFace_29 : decode cX9_refusalOfFace 29 = .ok (.iload_n 1, 1) := by decide +kernel
theorem dX9_refusalOfFace_30 : decode cX9_refusalOfFace 30 = .ok (.iaload, 1) := by decide +kernel
theorem dX9_refusalOfFace_31 : decode cX9_refusalOfFace 31 = .ok (.iconst 3, 1) := by decide +kernel
theorem dX9_refusalOfFace_32 : decode cX9_refusalOfFace 32 = .ok (.if_icmp .ne 5, 3) := by decide +kernel
theorem dX9_refusalOfFace_35 : decode cX9_refusalOfFace 35 = .ok (.iconst (-1), 1) := by decide +kernel
theorem dX9_refusalOfFace_36 : decode cX9_refusalOfFace 36 = .ok (.ireturn, 1) := by decide +kernel
theorem dX9_refusalOfFace_37 : decode cX9_refusalOfFace 37 = .ok (.iconst 0, 1) := by decide +kernel
theorem dX9_refusalOfFace_38 : decode cX9_refusalOfFace 38 = .ok (.istore_n 3, 1) := by decide +kernel
theorem dX9_refusalOfFace_39 : decode cX9_refusalOfFace 39 = .ok (.iload_n 3, 1) := by decide +kernel
theorem dX9_refusalOfFace_40 : decode cX9_refusalOfFace 40 = .ok (.aload_n 0, 1) := by decide +kernel
theorem dX9_refusalOfFace_41 : decode cX9_refusalOfFace 41 = .ok (.getfield 20, 3) := by decide +kernel
theorem dX9_refusalOfFace_44 : decode cX9_refusalOfFace 44 = .ok (.iload_n 1, 1) := by decide +kernel
theorem dX9_refusalOfFace_45 : decode cX9_refusalOfFace 45 = .ok (.iaload, 1) := by decide +kernel
theorem dX9_refusalOfFace_46 : decode cX9_refusalOfFace 46 = .ok (.if_icmp .ge 25, 3) := by decide +kernel
theorem dX9_refusalOfFace_49 : decode cX9_refusalOfFace 49 = .ok (.aload_n 0, 1) := by decide +kernel
theorem dX9_refusalOfFace_50 : decode cX9_refusalOfFace 50 = .ok (.getfield 23, 3) := by decide +kernel
theorem dX9_refusalOfFace_53 : decode cX9_refusalOfFace 53 = .ok (.iconst 3, 1) := by decide +kernel
theorem dX9_refusalOfFace_54 : decode cX9_refusalOfFace 54 = .ok (.iload_n 1, 1) := by decide +kernel
theorem dX9_refusalOfFace_55 : decode cX9_refusalOfFace 55 = .ok (.imul, 1) := by decide +kernel
theorem dX9_refusalOfFace_56 : decode cX9_refusalOfFace 56 = .ok (.iload_n 3, 1) := by decide +kernel
theorem dX9_refusalOfFace_57 : decode cX9_refusalOfFace 57 = .ok (.iadd, 1) := by decide +kernel
theorem dX9_refusalOfFace_58 : decode cX9_refusalOfFace 58 = .ok (.iaload, 1) := by decide +kernel
theorem dX9_refusalOfFace_59 : decode cX9_refusalOfFace 59 = .ok (.iload_n 2, 1) := by decide +kernel
theorem dX9_refusalOfFace_60 : decode cX9_refusalOfFace 60 = .ok (.if_icmp .ne 5, 3) := by decide +kernel
theorem dX9_refusalOfFace_63 : decode cX9_refusalOfFace 63 = .ok (.iconst (-1), 1) := by decide +kernel
theorem dX9_refusalOfFace_64 : decode cX9_refusalOfFace 64 = .ok (.ireturn, 1) := by decide +kernel
theorem dX9_refusalOfFace_65 : decode cX9_refusalOfFace 65 = .ok (.iinc 3 1, 3) := by decide +kernel
theorem dX9_refusalOfFace_68 : decode cX9_refusalOfFace 68 = .ok (.goto (-29), 3) := by decide +kernel
theorem dX9_refusalOfFace_71 : decode cX9_refusalOfFace 71 = .ok (.aload_n 0, 1) := by decide +kernel
theorem dX9_refusalOfFace_72 : decode cX9_refusalOfFace 72 = .ok (.iload_n 2, 1) := by decide +kernel
theorem dX9_refusalOfFace_73 : decode cX9_refusalOfFace 73 = .ok (.iload_n 1, 1) := by decide +kernel
theorem dX9_refusalOfFace_74 : decode cX9_refusalOfFace 74 = .ok (.invokevirtual 182, 3) := by decide +kernel
theorem dX9_refusalOfFace_77 : decode cX9_refusalOfFace 77 = .ok (.ifCond .eq 8, 3) := by decide +kernel
theorem dX9_refusalOfFace_80 : decode cX9_refusalOfFace 80 = .ok (.bipush (-4), 2) := by decide +kernel
theorem dX9_refusalOfFace_82 : decode cX9_refusalOfFace 82 = .ok (.goto 4, 3) := by decide +kernel
theorem dX9_refusalOfFace_85 : decode cX9_refusalOfFace 85 = .ok (.iconst 0, 1) := by decide +kernel
theorem dX9_refusalOfFace_86 : decode cX9_refusalOfFace 86 = .ok (.ireturn, 1) := by decide +kernel
theorem dX9_refusalOfMember_0 : decode cX9_refusalOfMember 0 = .ok (.aload_n 0, 1) := by decide +kernel
theorem dX9_refusalOfMember_1 : decode cX9_refusalOfMember 1 = .ok (.iload_n 2, 1) := by decide +kernel
theorem dX9_refusalOfMember_2 : decode cX9_refusalOfMember 2 = .ok (.invokevirtual 210, 3) := by decide +kernel
theorem dX9_refusalOfMember_5 : decode cX9_refusalOfMember 5 = .ok (.ifCond .ne 5, 3) := by decide +kernel
theorem dX9_refusalOfMember_8 : decode cX9_refusalOfMember 8 = .ok (.iconst (-1), 1) := by decide +kernel
theorem dX9_refusalOfMember_9 : decode cX9_refusalOfMember 9 = .ok (.ireturn, 1) := by decide +kernel
theorem dX9_refusalOfMember_10 : decode cX9_refusalOfMember 10 = .ok (.iload_n 1, 1) := by decide +kernel
theorem dX9_refusalOfMember_11 : decode cX9_refusalOfMember 11 = .ok (.tableswitch 165 8 11 #[29, 165, 72, 99], 29) := by decide +kernel
theorem dX9_refusalOfMember_40 : decode cX9_refusalOfMember 40 = .ok (.aload_n 0, 1) := by decide +kernel
theorem dX9_refusalOfMember_41 : decode cX9_refusalOfMember 41 = .ok (.getfield 29, 3) := by decide +kernel
theorem dX9_refusalOfMember_44 : decode cX9_refusalOfMember 44 = .ok (.iload_n 2, 1) := by decide +kernel
theorem dX9_refusalOfMember_45 : decode cX9_refusalOfMember 45 = .ok (.baload, 1) := by decide +kernel
theorem dX9_refusalOfMember_46 : decode cX9_refusalOfMember 46 = .ok (.ifCond .eq 13, 3) := by decide +kernel
theorem dX9_refusalOfMember_49 : decode cX9_refusalOfMember 49 = .ok (.iload_n 3, 1) := by decide +kernel
theorem dX9_refusalOfMember_50 : decode cX9_refusalOfMember 50 = .ok (.invokestatic 203, 3) := by decide +kernel
theorem dX9_refusalOfMember_53 : decode cX9_refusalOfMember 53 = .ok (.ifCond .eq 28, 3) := by decide +kernel
theorem dX9_refusalOfMember_56 : decode cX9_refusalOfMember 56 = .ok (.goto 21, 3) := by decide +kernel
theorem dX9_refusalOfMember_59 : decode cX9_refusalOfMember 59 = .ok (.iload_n 3, 1) := by decide +kernel
theorem dX9_refusalOfMember_60 : decode cX9_refusalOfMember 60 = .ok (.aload_n 0, 1) := by decide +kernel
theorem dX9_refusalOfMember_61 : decode cX9_refusalOfMember 61 = .ok (.getfield 7, 3) := by decide +kernel
theorem dX9_refusalOfMember_64 : decode cX9_refusalOfMember 64 = .ok (.aload_n 0, 1) := by decide +kernel
theorem dX9_refusalOfMember_65 : decode cX9_refusalOfMember 65 = .ok (.getfield 32, 3) := by decide +kernel
theorem dX9_refusalOfMember_68 : decode cX9_refusalOfMember 68 = .ok (.iload_n 2, 1) := by decide +kernel
theorem dX9_refusalOfMember_69 : decode cX9_refusalOfMember 69 = .ok (.iaload, 1) := by decide +kernel
theorem dX9_refusalOfMember_70 : decode cX9_refusalOfMember 70 = .ok (.baload, 1) := by decide +kernel
theorem dX9_refusalOfMember_71 : decode cX9_refusalOfMember 71 = .ok (.invokestatic 192, 3) := by decide +kernel
theorem dX9_refusalOfMember_74 : decode cX9_refusalOfMember 74 = .ok (.ifCond .eq 7, 3) := by decide +kernel
theorem dX9_refusalOfMember_77 : decode cX9_refusalOfMember 77 = .ok (.iconst 0, 1) := by decide +kernel
theorem dX9_refusalOfMember_78 : decode cX9_refusalOfMember 78 = .ok (.goto 4, 3) := by decide +kernel
theorem dX9_refusalOfMember_81 : decode cX9_refusalOfMember 81 = .ok (.iconst (-1), 1) := by decide +kernel
theorem dX9_refusalOfMember_82 : decode cX9_refusalOfMember 82 = .ok (.ireturn, 1) := by decide +kernel
theorem dX9_refusalOfMember_83 : decode cX9_refusalOfMember 83 = .ok (.aload_n 0, 1) := by decide +kernel
theorem dX9_refusalOfMember_84 : decode cX9_refusalOfMember 84 = .ok (.getfield 29, 3) := by decide +kernel
theorem dX9_refusalOfMember_87 : decode cX9_refusalOfMember 87 = .ok (.iload_n 2, 1) := by decide +kernel
theorem dX9_refusalOfMember_88 : decode cX9_refusalOfMember 88 = .ok (.baload, 1) := by decide +kernel
theorem dX9_refusalOfMember_89 : decode cX9_refusalOfMember 89 = .ok (.ifCond .ne 15, 3) := by decide +kernel
theorem dX9_refusalOfMember_92 : decode cX9_refusalOfMember 92 = .ok (.iload_n 3, 1) := by decide +kernel
theorem dX9_refusalOfMember_93 : decode cX9_refusalOfMember 93 = .ok (.i2l, 1) := by decide +kernel
theorem dX9_refusalOfMember_94 : decode cX9_refusalOfMember 94 = .ok (.lconst 0, 1) := by decide +kernel
theorem dX9_refusalOfMember_95 : decode cX9_refusalOfMember 95 = .ok (.ldc2_w 173, 3) := by decide +kernel
theorem dX9_refusalOfMember_98 : decode cX9_refusalOfMember 98 = .ok (.invokestatic 133, 3) := by decide +kernel
theorem dX9_refusalOfMember_101 : decode cX9_refusalOfMember 101 = .ok (.ifCond .ne 7, 3) := by decide +kernel
theorem dX9_refusalOfMember_104 : decode cX9_refusalOfMember 104 = .ok (.iconst (-1), 1) := by decide +kernel
theorem dX9_refusalOfMember_105 : decode cX9_refusalOfMember 105 = .ok (.goto 4, 3) := by decide +kernel
theorem dX9_refusalOfMember_108 : decode cX9_refusalOfMember 108 = .ok (.iconst 0, 1) := by decide +kernel
theorem dX9_refusalOfMember_109 : decode cX9_refusalOfMember 109 = .ok (.ireturn, 1) := by decide +kernel
theorem dX9_refusalOfMember_110 : decode cX9_refusalOfMember 110 = .ok (.aload_n 0, 1) := by decide +kernel
theorem dX9_refusalOfMember_111 : decode cX9_refusalOfMember 111 = .ok (.iload_n 3, 1) := by decide +kernel
theorem dX9_refusalOfMember_112 : decode cX9_refusalOfMember 112 = .ok (.invokevirtual 137, 3) := by decide +kernel
theorem dX9_refusalOfMember_115 : decode cX9_refusalOfMember 115 = .ok (.ifCond .eq 24, 3) := by decide +kernel
theorem dX9_refusalOfMember_118 : decode cX9_refusalOfMember 118 = .ok (.iload_n 3, 1) := by decide +kernel
theorem dX9_refusalOfMember_119 : decode cX9_refusalOfMember 119 = .ok (.aload_n 0, 1) := by decide +kernel
theorem dX9_refusalOfMember_120 : decode cX9_refusalOfMember 120 = .ok (.getfield 32, 3) := by decide +kernel
theorem dX9_refusalOfMember_123 : decode cX9_refusalOfMember 123 = .ok (.iload_n 2, 1) := by decide +kernel
theorem dX9_refusalOfMember_124 : decode cX9_refusalOfMember 124 = .ok (.iaload, 1) := by decide +kernel
theorem dX9_refusalOfMember_125 : decode cX9_refusalOfMember 125 = .ok (.if_icmp .eq 14, 3) := by decide +kernel
theorem dX9_refusalOfMember_128 : decode cX9_refusalOfMember 128 = .ok (.aload_n 0, 1) := by decide +kernel
theorem dX9_refusalOfMember_129 : decode cX9_refusalOfMember 129 = .ok (.iload_n 3, 1) := by decide +kernel
theorem dX9_refusalOfMember_130 : decode cX9_refusalOfMember 130 = .ok (.iload_n 2, 1) := by decide +kernel
theorem dX9_refusalOfMember_131 : decode cX9_refusalOfMember 131 = .ok (.invokevirtual 213, 3) := by decide +kernel
theorem dX9_refusalOfMember_134 : decode cX9_refusalOfMember 134 = .ok (.bipush (-2), 2) := by decide +kernel
theorem dX9_refusalOfMember_136 : decode cX9_refusalOfMember 136 = .ok (.if_icmp .eq 5, 3) := by decide +kernel
theorem dX9_refusalOfMember_139 : decode cX9_refusalOfMember 139 = .ok (.iconst (-1), 1) := by decide +kernel
theorem dX9_refusalOfMember_140 : decode cX9_refusalOfMember 140 = .ok (.ireturn, 1) := by decide +kernel
theorem dX9_refusalOfMember_141 : decode cX9_refusalOfMember 141 = .ok (.aload_n 0, 1) := by decide +kernel
theorem dX9_refusalOfMember_142 : decode cX9_refusalOfMember 142 = .ok (.getfield 29, 3) := by decide +kernel
theorem dX9_refusalOfMember_145 : decode cX9_refusalOfMember 145 = .ok (.iload_n 2, 1) := by decide +kernel
theorem dX9_refusalOfMember_146 : decode cX9_refusalOfMember 146 = .ok (.baload, 1) := by decide +kernel
theorem dX9_refusalOfMember_147 : decode cX9_refusalOfMember 147 = .ok (.ifCond .ne 27, 3) := by decide +kernel
theorem dX9_refusalOfMember_150 : decode cX9_refusalOfMember 150 = .ok (.aload_n 0, 1) := by decide +kernel
theorem dX9_refusalOfMember_151 : decode cX9_refusalOfMember 151 = .ok (.getfield 7, 3) := by decide +kernel
theorem dX9_refusalOfMember_154 : decode cX9_refusalOfMember 154 = .ok (.iload_n 3, 1) := by decide +kernel
theorem dX9_refusalOfMember_155 : decode cX9_refusalOfMember 155 = .ok (.baload, 1) := by decide +kernel
theorem dX9_refusalOfMember_156 : decode cX9_refusalOfMember 156 = .ok (.ifCond .eq 18, 3) := by decide +kernel
theorem dX9_refusalOfMember_159 : decode cX9_refusalOfMember 159 = .ok (.aload_n 0, 1) := by decide +kernel
theorem dX9_refusalOfMember_160 : decode cX9_refusalOfMember 160 = .ok (.getfield 38, 3) := by decide +kernel
theorem dX9_refusalOfMember_163 : decode cX9_refusalOfMember 163 = .ok (.iload_n 2, 1) := by decide +kernel
theorem dX9_refusalOfMember_164 : decode cX9_refusalOfMember 164 = .ok (.iaload, 1) := by decide +kernel
theorem dX9_refusalOfMember_165 : decode cX9_refusalOfMember 165 = .ok (.iconst 1, 1) := by decide +kernel
theorem dX9_refusalOfMember_166 : decode cX9_refusalOfMember 166 = .ok (.iand, 1) := by decide +kernel
theorem dX9_refusalOfMember_167 : decode cX9_refusalOfMember 167 = .ok (.ifCond .ne 7, 3) := by decide +kernel
theorem dX9_refusalOfMember_170 : decode cX9_refusalOfMember 170 = .ok (.iconst (-1), 1) := by decide +kernel
theorem dX9_refusalOfMember_171 : decode cX9_refusalOfMember 171 = .ok (.goto 4, 3) := by decide +kernel
theorem dX9_refusalOfMember_174 : decode cX9_refusalOfMember 174 = .ok (.iconst 0, 1) := by decide +kernel
theorem dX9_refusalOfMember_175 : decode cX9_refusalOfMember 175 = .ok (.ireturn, 1) := by decide +kernel
theorem dX9_refusalOfMember_176 : decode cX9_refusalOfMember 176 = .ok (.iconst 0, 1) := by decide +kernel
theorem dX9_refusalOfMember_177 : decode cX9_refusalOfMember 177 = .ok (.ireturn, 1) := by decide +kernel
theorem dX9_does_0 : decode cX9_does 0 = .ok (.iconst 1, 1) := by decide +kernel
theorem dX9_does_1 : decode cX9_does 1 = .ok (.istore 9, 2) := by decide +kernel
theorem dX9_does_3 : decode cX9_does 3 = .ok (.iload_n 1, 1) := by decide +kernel
theorem dX9_does_4 : decode cX9_does 4 = .ok (.tableswitch 274 0 6 #[44, 111, 120, 153, 214, 232, 255], 44) := by decide +kernel
theorem dX9_does_48 : decode cX9_does 48 = .ok (.aload_n 0, 1) := by decide +kernel
theorem dX9_does_49 : decode cX9_does 49 = .ok (.getfield 7, 3) := by decide +kernel
theorem dX9_does_52 : decode cX9_does 52 = .ok (.aload_n 0, 1) := by decide +kernel
theorem dX9_does_53 : decode cX9_does 53 = .ok (.getfield 129, 3) := by decide +kernel
theorem dX9_does_56 : decode cX9_does 56 = .ok (.iload_n 2, 1) := by decide +kernel
theorem dX9_does_57 : decode cX9_does 57 = .ok (.iconst 1, 1) := by decide +kernel
theorem dX9_does_58 : decode cX9_does 58 = .ok (.if_icmp .ne 7, 3) := by decide +kernel
theorem dX9_does_61 : decode cX9_does 61 = .ok (.iconst 1, 1) := by decide +kernel
theorem dX9_does_62 : decode cX9_does 62 = .ok (.goto 4, 3) := by decide +kernel
theorem dX9_does_65 : decode cX9_does 65 = .ok (.iconst 0, 1) := by decide +kernel
theorem dX9_does_66 : decode cX9_does 66 = .ok (.bastore, 1) := by decide +kernel
theorem dX9_does_67 : decode cX9_does 67 = .ok (.aload_n 0, 1) := by decide +kernel
theorem dX9_does_68 : decode cX9_does 68 = .ok (.getfield 13, 3) := by decide +kernel
theorem dX9_does_71 : decode cX9_does 71 = .ok (.aload_n 0, 1) := by decide +kernel
theorem dX9_does_72 : decode cX9_does 72 = .ok (.getfield 129, 3) := by decide +kernel
theorem dX9_does_75 : decode cX9_does 75 = .ok (.iload_n 3, 1) := by decide +kernel
theorem dX9_does_76 : decode cX9_does 76 = .ok (.iastore, 1) := by decide +kernel
theorem dX9_does_77 : decode cX9_does 77 = .ok (.aload_n 0, 1) := by decide +kernel
theorem dX9_does_78 : decode cX9_does 78 = .ok (.getfield 17, 3) := by decide +kernel
theorem dX9_does_81 : decode cX9_does 81 = .ok (.aload_n 0, 1) := by decide +kernel
theorem dX9_does_82 : decode cX9_does 82 = .ok (.getfield 129, 3) := by decide +kernel
theorem dX9_does_85 : decode cX9_does 85 = .ok (.iload 4, 2) := by decide +kernel
theorem dX9_does_87 : decode cX9_does 87 = .ok (.iastore, 1) := by decide +kernel
theorem dX9_does_88 : decode cX9_does 88 = .ok (.aload_n 0, 1) := by decide +kernel
theorem dX9_does_89 : decode cX9_does 89 = .ok (.getfield 20, 3) := by decide +kernel
theorem dX9_does_92 : decode cX9_does 92 = .ok (.aload_n 0, 1) := by decide +kernel
theorem dX9_does_93 : decode cX9_does 93 = .ok (.getfield 129, 3) := by decide +kernel
theorem dX9_does_96 : decode cX9_does 96 = .ok (.iconst 0, 1) := by decide +kernel
theorem dX9_does_97 : decode cX9_does 97 = .ok (.iastore, 1) := by decide +kernel
theorem dX9_does_98 : decode cX9_does 98 = .ok (.aload_n 0, 1) := by decide +kernel
theorem dX9_does_99 : decode cX9_does 99 = .ok (.dup, 1) := by decide +kernel
theorem dX9_does_100 : decode cX9_does 100 = .ok (.getfield 129, 3) := by decide +kernel
theorem dX9_does_103 : decode cX9_does 103 = .ok (.iconst 1, 1) := by decide +kernel
theorem dX9_does_104 : decode cX9_does 104 = .ok (.iadd, 1) := by decide +kernel
theorem dX9_does_105 : decode cX9_does 105 = .ok (.putfield 129, 3) := by decide +kernel
theorem dX9_does_108 : decode cX9_does 108 = .ok (.aload_n 0, 1) := by decide +kernel
theorem dX9_does_109 : decode cX9_does 109 = .ok (.getfield 129, 3) := by decide +kernel
theorem dX9_does_112 : decode cX9_does 112 = .ok (.iconst 1, 1) := by decide +kernel
theorem dX9_does_113 : decode cX9_does 113 = .ok (.isub, 1) := by decide +kernel
theorem dX9_does_114 : decode cX9_does 114 = .ok (.ireturn, 1) := by decide +kernel
theorem dX9_does_115 : decode cX9_does 115 = .ok (.aload_n 0, 1) := by decide +kernel
theorem dX9_does_116 : decode cX9_does 116 = .ok (.getfield 13, 3) := by decide +kernel
theorem dX9_does_119 : decode cX9_does 119 = .ok (.iload_n 2, 1) := by decide +kernel
theorem dX9_does_120 : decode cX9_does 120 = .ok (.iload_n 3, 1) := by decide +kernel
theorem dX9_does_121 : decode cX9_does 121 = .ok (.iastore, 1) := by decide +kernel
theorem dX9_does_122 : decode cX9_does 122 = .ok (.iconst 1, 1) := by decide +kernel
theorem dX9_does_123 : decode cX9_does 123 = .ok (.ireturn, 1) := by decide +kernel
theorem dX9_does_124 : decode cX9_does 124 = .ok (.aload_n 0, 1) := by decide +kernel
theorem dX9_does_125 : decode cX9_does 125 = .ok (.getfield 23, 3) := by decide +kernel
theorem dX9_does_128 : decode cX9_does 128 = .ok (.iconst 3, 1) := by decide +kernel
theorem dX9_does_129 : decode cX9_does 129 = .ok (.iload_n 2, 1) := by decide +kernel
theorem dX9_does_130 : decode cX9_does 130 = .ok (.imul, 1) := by decide +kernel
theorem dX9_does_131 : decode cX9_does 131 = .ok (.aload_n 0, 1) := by decide +kernel
theorem dX9_does_132 : decode cX9_does 132 = .ok (.getfield 20, 3) := by decide +kernel
theorem dX9_does_135 : decode cX9_does 135 = .ok (.iload_n 2, 1) := by decide +kernel
theorem dX9_does_136 : decode cX9_does 136 = .ok (.iaload, 1) := by decide +kernel
theorem dX9_does_137 : decode cX9_does 137 = .ok (.iadd, 1) := by decide +kernel
theorem dX9_does_138 : decode cX9_does 138 = .ok (.iload_n 3, 1) := by decide +kernel
theorem dX9_does_139 : decode cX9_does 139 = .ok (.iastore, 1) := by decide +kernel
theorem dX9_does_140 : decode cX9_does 140 = .ok (.aload_n 0, 1) := by decide +kernel
theorem dX9_does_141 : decode cX9_does 141 = .ok (.getfield 20, 3) := by decide +kernel
theorem dX9_does_144 : decode cX9_does 144 = .ok (.iload_n 2, 1) := by decide +kernel
theorem dX9_does_145 : decode cX9_does 145 = .ok (.dup2, 1) := by decide +kernel
theorem dX9_does_146 : decode cX9_does 146 = .ok (.iaload, 1) := by decide +kernel
theorem dX9_does_147 : decode cX9_does 147 = .ok (.iconst 1, 1) := by decide +kernel
theorem dX9_does_148 : decode cX9_does 148 = .ok (.iadd, 1) := by decide +kernel
theorem dX9_does_149 : decode cX9_does 149 = .ok (.iastore, 1) := by decide +kernel
theorem dX9_does_150 : decode cX9_does 150 = .ok (.aload_n 0, 1) := by decide +kernel
theorem dX9_does_151 : decode cX9_does 151 = .ok (.getfield 20, 3) := by decide +kernel
theorem dX9_does_154 : decode cX9_does 154 = .ok (.iload_n 2, 1) := by decide +kernel
theorem dX9_does_155 : decode cX9_does 155 = .ok (.iaload, 1) := by decide +kernel
theorem dX9_does_156 : decode cX9_does 156 = .ok (.ireturn, 1) := by decide +kernel
theorem dX9_does_157 : decode cX9_does 157 = .ok (.aload_n 0, 1) := by decide +kernel
theorem dX9_does_158 : decode cX9_does 158 = .ok (.getfield 20, 3) := by decide +kernel
theorem dX9_does_161 : decode cX9_does 161 = .ok (.iload_n 2, 1) := by decide +kernel
theorem dX9_does_162 : decode cX9_does 162 = .ok (.dup2, 1) := by decide +kernel
theorem dX9_does_163 : decode cX9_does 163 = .ok (.iaload, 1) := by decide +kernel
theorem dX9_does_164 : decode cX9_does 164 = .ok (.iconst 1, 1) := by decide +kernel
theorem dX9_does_165 : decode cX9_does 165 = .ok (.isub, 1) := by decide +kernel
theorem dX9_does_166 : decode cX9_does 166 = .ok (.iastore, 1) := by decide +kernel
theorem dX9_does_167 : decode cX9_does 167 = .ok (.iload_n 3, 1) := by decide +kernel
theorem dX9_does_168 : decode cX9_does 168 = .ok (.istore 10, 2) := by decide +kernel
theorem dX9_does_170 : decode cX9_does 170 = .ok (.iload 10, 2) := by decide +kernel
theorem dX9_does_172 : decode cX9_does 172 = .ok (.aload_n 0, 1) := by decide +kernel
theorem dX9_does_173 : decode cX9_does 173 = .ok (.getfield 20, 3) := by decide +kernel
theorem dX9_does_176 : decode cX9_does 176 = .ok (.iload_n 2, 1) := by decide +kernel
theorem dX9_does_177 : decode cX9_does 177 = .ok (.iaload, 1) := by decide +kernel
theorem dX9_does_178 : decode cX9_does 178 = .ok (.if_icmp .ge 33, 3) := by decide +kernel
theorem dX9_does_181 : decode cX9_does 181 = .ok (.aload_n 0, 1) := by decide +kernel
theorem dX9_does_182 : decode cX9_does 182 = .ok (.getfield 23, 3) := by decide +kernel
theorem dX9_does_185 : decode cX9_does 185 = .ok (.iconst 3, 1) := by decide +kernel
theorem dX9_does_186 : decode cX9_does 186 = .ok (.iload_n 2, 1) := by decide +kernel
theorem dX9_does_187 : decode cX9_does 187 = .ok (.imul, 1) := by decide +kernel
theorem dX9_does_188 : decode cX9_does 188 = .ok (.iload 10, 2) := by decide +kernel
theorem dX9_does_190 : decode cX9_does 190 = .ok (.iadd, 1) := by decide +kernel
theorem dX9_does_191 : decode cX9_does 191 = .ok (.aload_n 0, 1) := by decide +kernel
theorem dX9_does_192 : decode cX9_does 192 = .ok (.getfield 23, 3) := by decide +kernel
theorem dX9_does_195 : decode cX9_does 195 = .ok (.iconst 3, 1) := by decide +kernel
theorem dX9_does_196 : decode cX9_does 196 = .ok (.iload_n 2, 1) := by decide +kernel
theorem dX9_does_197 : decode cX9_does 197 = .ok (.imul, 1) := by decide +kernel
theorem dX9_does_198 : decode cX9_does 198 = .ok (.iload 10, 2) := by decide +kernel
theorem dX9_does_200 : decode cX9_does 200 = .ok (.iadd, 1) := by decide +kernel
theorem dX9_does_201 : decode cX9_does 201 = .ok (.iconst 1, 1) := by decide +kernel
theorem dX9_does_202 : decode cX9_does 202 = .ok (.iadd, 1) := by decide +kernel
theorem dX9_does_203 : decode cX9_does 203 = .ok (.iaload, 1) := by decide +kernel
theorem dX9_does_204 : decode cX9_does 204 = .ok (.iastore, 1) := by decide +kernel
theorem dX9_does_205 : decode cX9_does 205 = .ok (.iinc 10 1, 3) := by decide +kernel
theorem dX9_does_208 : decode cX9_does 208 = .ok (.goto (-38), 3) := by decide +kernel
theorem dX9_does_211 : decode cX9_does 211 = .ok (.aload_n 0, 1) := by decide +kernel
theorem dX9_does_212 : decode cX9_does 212 = .ok (.getfield 20, 3) := by decide +kernel
theorem dX9_does_215 : decode cX9_does 215 = .ok (.iload_n 2, 1) := by decide +kernel
theorem dX9_does_216 : decode cX9_does 216 = .ok (.iaload, 1) := by decide +kernel
theorem dX9_does_217 : decode cX9_does 217 = .ok (.ireturn, 1) := by decide +kernel
theorem dX9_does_218 : decode cX9_does 218 = .ok (.aload_n 0, 1) := by decide +kernel
theorem dX9_does_219 : decode cX9_does 219 = .ok (.getfield 17, 3) := by decide +kernel
theorem dX9_does_222 : decode cX9_does 222 = .ok (.iload_n 2, 1) := by decide +kernel
theorem dX9_does_223 : decode cX9_does 223 = .ok (.iaload, 1) := by decide +kernel
theorem dX9_does_224 : decode cX9_does 224 = .ok (.istore 9, 2) := by decide +kernel
theorem dX9_does_226 : decode cX9_does 226 = .ok (.aload_n 0, 1) := by decide +kernel
theorem dX9_does_227 : decode cX9_does 227 = .ok (.getfield 17, 3) := by decide +kernel
theorem dX9_does_230 : decode cX9_does 230 = .ok (.iload_n 2, 1) := by decide +kernel
theorem dX9_does_231 : decode cX9_does 231 = .ok (.iload_n 3, 1) := by decide +kernel
theorem dX9_does_232 : decode cX9_does 232 = .ok (.iastore, 1) := by decide +kernel
theorem dX9_does_233 : decode cX9_does 233 = .ok (.iload 9, 2) := by decide +kernel
theorem dX9_does_235 : decode cX9_does 235 = .ok (.ireturn, 1) := by decide +kernel
theorem dX9_does_236 : decode cX9_does 236 = .ok (.aload_n 0, 1) := by decide +kernel
theorem dX9_does_237 : decode cX9_does 237 = .ok (.iconst 0, 1) := by decide +kernel
theorem dX9_does_238 : decode cX9_does 238 = .ok (.iload_n 2, 1) := by decide +kernel
theorem dX9_does_239 : decode cX9_does 239 = .ok (.iload_n 3, 1) := by decide +kernel
theorem dX9_does_240 : decode cX9_does 240 = .ok (.iload 4, 2) := by decide +kernel
theorem dX9_does_242 : decode cX9_does 242 = .ok (.bipush (-2), 2) := by decide +kernel
theorem dX9_does_244 : decode cX9_does 244 = .ok (.iload 5, 2) := by decide +kernel
theorem dX9_does_246 : decode cX9_does 246 = .ok (.iload 4, 2) := by decide +kernel
theorem dX9_does_248 : decode cX9_does 248 = .ok (.lload 7, 2) := by decide +kernel
theorem dX9_does_250 : decode cX9_does 250 = .ok (.invokestatic 216, 3) := by decide +kernel
theorem dX9_does_253 : decode cX9_does 253 = .ok (.bipush (-2), 2) := by decide +kernel
theorem dX9_does_255 : decode cX9_does 255 = .ok (.invokevirtual 220, 3) := by decide +kernel
theorem dX9_does_258 : decode cX9_does 258 = .ok (.ireturn, 1) := by decide +kernel
theorem dX9_does_259 : decode cX9_does 259 = .ok (.aload_n 0, 1) := by decide +kernel
theorem dX9_does_260 : decode cX9_does 260 = .ok (.iconst 1, 1) := by decide +kernel
theorem dX9_does_261 : decode cX9_does 261 = .ok (.iload_n 2, 1) := by decide +kernel
theorem dX9_does_262 : decode cX9_does 262 = .ok (.iload_n 3, 1) := by decide +kernel
theorem dX9_does_263 : decode cX9_does 263 = .ok (.iconst 0, 1) := by decide +kernel
theorem dX9_does_264 : decode cX9_does 264 = .ok (.iload 4, 2) := by decide +kernel
theorem dX9_does_266 : decode cX9_does 266 = .ok (.iload 6, 2) := by decide +kernel
theorem dX9_does_268 : decode cX9_does 268 = .ok (.lload 7, 2) := by decide +kernel
theorem dX9_does_270 : decode cX9_does 270 = .ok (.l2i, 1) := by decide +kernel
theorem dX9_does_271 : decode cX9_does 271 = .ok (.i2l, 1) := by decide +kernel
theorem dX9_does_272 : decode cX9_does 272 = .ok (.iload 5, 2) := by decide +kernel
theorem dX9_does_274 : decode cX9_does 274 = .ok (.invokevirtual 220, 3) := by decide +kernel
theorem dX9_does_277 : decode cX9_does 277 = .ok (.ireturn, 1) := by decide +kernel
theorem dX9_does_278 : decode cX9_does 278 = .ok (.aload_n 0, 1) := by decide +kernel
theorem dX9_does_279 : decode cX9_does 279 = .ok (.iload_n 1, 1) := by decide +kernel
theorem dX9_does_280 : decode cX9_does 280 = .ok (.iload_n 2, 1) := by decide +kernel
theorem dX9_does_281 : decode cX9_does 281 = .ok (.iload_n 3, 1) := by decide +kernel
theorem dX9_does_282 : decode cX9_does 282 = .ok (.lload 7, 2) := by decide +kernel
theorem dX9_does_284 : decode cX9_does 284 = .ok (.invokevirtual 224, 3) := by decide +kernel
theorem dX9_does_287 : decode cX9_does 287 = .ok (.ireturn, 1) := by decide +kernel
theorem dX9_newMember_0 : decode cX9_newMember 0 = .ok (.aload_n 0, 1) := by decide +kernel
theorem dX9_newMember_1 : decode cX9_newMember 1 = .ok (.invokevirtual 196, 3) := by decide +kernel
theorem dX9_newMember_4 : decode cX9_newMember 4 = .ok (.istore 10, 2) := by decide +kernel
theorem dX9_newMember_6 : decode cX9_newMember 6 = .ok (.aload_n 0, 1) := by decide +kernel
theorem dX9_newMember_7 : decode cX9_newMember 7 = .ok (.getfield 26, 3) := by decide +kernel
theorem dX9_newMember_10 : decode cX9_newMember 10 = .ok (.iload 10, 2) := by decide +kernel
theorem dX9_newMember_12 : decode cX9_newMember 12 = .ok (.iconst 1, 1) := by decide +kernel
theorem dX9_newMember_13 : decode cX9_newMember 13 = .ok (.bastore, 1) := by decide +kernel
theorem dX9_newMember_14 : decode cX9_newMember 14 = .ok (.aload_n 0, 1) := by decide +kernel
theorem dX9_newMember_15 : decode cX9_newMember 15 = .ok (.getfield 29, 3) := by decide +kernel
theorem dX9_newMember_18 : decode cX9_newMember 18 = .ok (.iload 10, 2) := by decide +kernel
theorem dX9_newMember_20 : decode cX9_newMember 20 = .ok (.iload_n 1, 1) := by decide +kernel
theorem dX9_newMember_21 : decode cX9_newMember 21 = .ok (.bastore, 1) := by decide +kernel
theorem dX9_newMember_22 : decode cX9_newMember 22 = .ok (.aload_n 0, 1) := by decide +kernel
theorem dX9_newMember_23 : decode cX9_newMember 23 = .ok (.getfield 32, 3) := by decide +kernel
theorem dX9_newMember_26 : decode cX9_newMember 26 = .ok (.iload 10, 2) := by decide +kernel
theorem dX9_newMember_28 : decode cX9_newMember 28 = .ok (.iload_n 2, 1) := by decide +kernel
theorem dX9_newMember_29 : decode cX9_newMember 29 = .ok (.iastore, 1) := by decide +kernel
theorem dX9_newMember_30 : decode cX9_newMember 30 = .ok (.aload_n 0, 1) := by decide +kernel
theorem dX9_newMember_31 : decode cX9_newMember 31 = .ok (.getfield 35, 3) := by decide +kernel
theorem dX9_newMember_34 : decode cX9_newMember 34 = .ok (.iload 10, 2) := by decide +kernel
theorem dX9_newMember_36 : decode cX9_newMember 36 = .ok (.iload_n 3, 1) := by decide +kernel
theorem dX9_newMember_37 : decode cX9_newMember 37 = .ok (.iastore, 1) := by decide +kernel
theorem dX9_newMember_38 : decode cX9_newMember 38 = .ok (.aload_n 0, 1) := by decide +kernel
theorem dX9_newMember_39 : decode cX9_newMember 39 = .ok (.getfield 41, 3) := by decide +kernel
theorem dX9_newMember_42 : decode cX9_newMember 42 = .ok (.iload 10, 2) := by decide +kernel
theorem dX9_newMember_44 : decode cX9_newMember 44 = .ok (.iload 4, 2) := by decide +kernel
theorem dX9_newMember_46 : decode cX9_newMember 46 = .ok (.iastore, 1) := by decide +kernel
theorem dX9_newMember_47 : decode cX9_newMember 47 = .ok (.aload_n 0, 1) := by decide +kernel
theorem dX9_newMember_48 : decode cX9_newMember 48 = .ok (.getfield 44, 3) := by decide +kernel
theorem dX9_newMember_51 : decode cX9_newMember 51 = .ok (.iload 10, 2) := by decide +kernel
theorem dX9_newMember_53 : decode cX9_newMember 53 = .ok (.iload 5, 2) := by decide +kernel
theorem dX9_newMember_55 : decode cX9_newMember 55 = .ok (.iastore, 1) := by decide +kernel
theorem dX9_newMember_56 : decode cX9_newMember 56 = .ok (.aload_n 0, 1) := by decide +kernel
theorem dX9_newMember_57 : decode cX9_newMember 57 = .ok (.getfield 47, 3) := by decide +kernel
theorem dX9_newMember_60 : decode cX9_newMember 60 = .ok (.iload 10, 2) := by decide +kernel
theorem dX9_newMember_62 : decode cX9_newMember 62 = .ok (.iload 9, 2) := by decide +kernel
theorem dX9_newMember_64 : decode cX9_newMember 64 = .ok (.iastore, 1) := by decide +kernel
theorem dX9_newMember_65 : decode cX9_newMember 65 = .ok (.aload_n 0, 1) := by decide +kernel
theorem dX9_newMember_66 : decode cX9_newMember 66 = .ok (.getfield 38, 3) := by decide +kernel
theorem dX9_newMember_69 : decode cX9_newMember 69 = .ok (.iload 10, 2) := by decide +kernel
theorem dX9_newMember_71 : decode cX9_newMember 71 = .ok (.iload 6, 2) := by decide +kernel
theorem dX9_newMember_73 : decode cX9_newMember 73 = .ok (.iastore, 1) := by decide +kernel
theorem dX9_newMember_74 : decode cX9_newMember 74 = .ok (.aload_n 0, 1) := by decide +kernel
theorem dX9_newMember_75 : decode cX9_newMember 75 = .ok (.getfield 50, 3) := by decide +kernel
theorem dX9_newMember_78 : decode cX9_newMember 78 = .ok (.iload 10, 2) := by decide +kernel
theorem dX9_newMember_80 : decode cX9_newMember 80 = .ok (.lload 7, 2) := by decide +kernel
theorem dX9_newMember_82 : decode cX9_newMember 82 = .ok (.lastore, 1) := by decide +kernel
theorem dX9_newMember_83 : decode cX9_newMember 83 = .ok (.iload 10, 2) := by decide +kernel
theorem dX9_newMember_85 : decode cX9_newMember 85 = .ok (.ireturn, 1) := by decide +kernel
theorem dX9_doesMember_0 : decode cX9_doesMember 0 = .ok (.iload_n 1, 1) := by decide +kernel
theorem dX9_doesMember_1 : decode cX9_doesMember 1 = .ok (.tableswitch 114 7 10 #[31, 40, 58, 93], 31) := by decide +kernel
theorem dX9_doesMember_32 : decode cX9_doesMember 32 = .ok (.aload_n 0, 1) := by decide +kernel
theorem dX9_doesMember_33 : decode cX9_doesMember 33 = .ok (.getfield 26, 3) := by decide +kernel
theorem dX9_doesMember_36 : decode cX9_doesMember 36 = .ok (.iload_n 2, 1) := by decide +kernel
theorem dX9_doesMember_37 : decode cX9_doesMember 37 = .ok (.iconst 0, 1) := by decide +kernel
theorem dX9_doesMember_38 : decode cX9_doesMember 38 = .ok (.bastore, 1) := by decide +kernel
theorem dX9_doesMember_39 : decode cX9_doesMember 39 = .ok (.iconst 1, 1) := by decide +kernel
theorem dX9_doesMember_40 : decode cX9_doesMember 40 = .ok (.ireturn, 1) := by decide +kernel
theorem dX9_doesMember_41 : decode cX9_doesMember 41 = .ok (.aload_n 0, 1) := by decide +kernel
theorem dX9_doesMember_42 : decode cX9_doesMember 42 = .ok (.getfield 38, 3) := by decide +kernel
theorem dX9_doesMember_45 : decode cX9_doesMember 45 = .ok (.iload_n 2, 1) := by decide +kernel
theorem dX9_doesMember_46 : decode cX9_doesMember 46 = .ok (.iaload, 1) := by decide +kernel
theorem dX9_doesMember_47 : decode cX9_doesMember 47 = .ok (.istore 6, 2) := by decide +kernel
theorem dX9_doesMember_49 : decode cX9_doesMember 49 = .ok (.aload_n 0, 1) := by decide +kernel
theorem dX9_doesMember_50 : decode cX9_doesMember 50 = .ok (.getfield 38, 3) := by decide +kernel
theorem dX9_doesMember_53 : decode cX9_doesMember 53 = .ok (.iload_n 2, 1) := by decide +kernel
theorem dX9_doesMember_54 : decode cX9_doesMember 54 = .ok (.iload_n 3, 1) := by decide +kernel
theorem dX9_doesMember_55 : decode cX9_doesMember 55 = .ok (.iastore, 1) := by decide +kernel
theorem dX9_doesMember_56 : decode cX9_doesMember 56 = .ok (.iload 6, 2) := by decide +kernel
theorem dX9_doesMember_58 : decode cX9_doesMember 58 = .ok (.ireturn, 1) := by decide +kernel
theorem dX9_doesMember_59 : decode cX9_doesMember 59 = .ok (.aload_n 0, 1) := by decide +kernel
theorem dX9_doesMember_60 : decode cX9_doesMember 60 = .ok (.getfield 50, 3) := by decide +kernel
theorem dX9_doesMember_63 : decode cX9_doesMember 63 = .ok (.iload_n 2, 1) := by decide +kernel
theorem dX9_doesMember_64 : decode cX9_doesMember 64 = .ok (.aload_n 0, 1) := by decide +kernel
theorem dX9_doesMember_65 : decode cX9_doesMember 65 = .ok (.getfield 29, 3) := by decide +kernel
theorem dX9_doesMember_68 : decode cX9_doesMember 68 = .ok (.iload_n 2, 1) := by decide +kernel
theorem dX9_doesMember_69 : decode cX9_doesMember 69 = .ok (.baload, 1) := by decide +kernel
theorem dX9_doesMember_70 : decode cX9_doesMember 70 = .ok (.ifCond .eq 10, 3) := by decide +kernel
theorem dX9_doesMember_73 : decode cX9_doesMember 73 = .ok (.lload 4, 2) := by decide +kernel
theorem dX9_doesMember_75 : decode cX9_doesMember 75 = .ok (.l2i, 1) := by decide +kernel
theorem dX9_doesMember_76 : decode cX9_doesMember 76 = .ok (.i2l, 1) := by decide +kernel
theorem dX9_doesMember_77 : decode cX9_doesMember 77 = .ok (.goto 14, 3) := by decide +kernel
theorem dX9_doesMember_80 : decode cX9_doesMember 80 = .ok (.aload_n 0, 1) := by decide +kernel
theorem dX9_doesMember_81 : decode cX9_doesMember 81 = .ok (.getfield 41, 3) := by decide +kernel
theorem dX9_doesMember_84 : decode cX9_doesMember 84 = .ok (.iload_n 2, 1) := by decide +kernel
theorem dX9_doesMember_85 : decode cX9_doesMember 85 = .ok (.iaload, 1) := by decide +kernel
theorem dX9_doesMember_86 : decode cX9_doesMember 86 = .ok (.lload 4, 2) := by decide +kernel
theorem dX9_doesMember_88 : decode cX9_doesMember 88 = .ok (.invokestatic 216, 3) := by decide +kernel
theorem dX9_doesMember_91 : decode cX9_doesMember 91 = .ok (.lastore, 1) := by decide +kernel
theorem dX9_doesMember_92 : decode cX9_doesMember 92 = .ok (.iconst 1, 1) := by decide +kernel
theorem dX9_doesMember_93 : decode cX9_doesMember 93 = .ok (.ireturn, 1) := by decide +kernel
theorem dX9_doesMember_94 : decode cX9_doesMember 94 = .ok (.aload_n 0, 1) := by decide +kernel
theorem dX9_doesMember_95 : decode cX9_doesMember 95 = .ok (.getfield 41, 3) := by decide +kernel
theorem dX9_doesMember_98 : decode cX9_doesMember 98 = .ok (.iload_n 2, 1) := by decide +kernel
theorem dX9_doesMember_99 : decode cX9_doesMember 99 = .ok (.iload_n 3, 1) := by decide +kernel
theorem dX9_doesMember_100 : decode cX9_doesMember 100 = .ok (.iastore, 1) := by decide +kernel
theorem dX9_doesMember_101 : decode cX9_doesMember 101 = .ok (.aload_n 0, 1) := by decide +kernel
theorem dX9_doesMember_102 : decode cX9_doesMember 102 = .ok (.getfield 50, 3) := by decide +kernel
theorem dX9_doesMember_105 : decode cX9_doesMember 105 = .ok (.iload_n 2, 1) := by decide +kernel
theorem dX9_doesMember_106 : decode cX9_doesMember 106 = .ok (.iload_n 3, 1) := by decide +kernel
theorem dX9_doesMember_107 : decode cX9_doesMember 107 = .ok (.lload 4, 2) := by decide +kernel
theorem dX9_doesMember_109 : decode cX9_doesMember 109 = .ok (.invokestatic 216, 3) := by decide +kernel
theorem dX9_doesMember_112 : decode cX9_doesMember 112 = .ok (.lastore, 1) := by decide +kernel
theorem dX9_doesMember_113 : decode cX9_doesMember 113 = .ok (.iconst 1, 1) := by decide +kernel
theorem dX9_doesMember_114 : decode cX9_doesMember 114 = .ok (.ireturn, 1) := by decide +kernel
theorem dX9_doesMember_115 : decode cX9_doesMember 115 = .ok (.aload_n 0, 1) := by decide +kernel
theorem dX9_doesMember_116 : decode cX9_doesMember 116 = .ok (.getfield 32, 3) := by decide +kernel
theorem dX9_doesMember_119 : decode cX9_doesMember 119 = .ok (.iload_n 2, 1) := by decide +kernel
theorem dX9_doesMember_120 : decode cX9_doesMember 120 = .ok (.iload_n 3, 1) := by decide +kernel
theorem dX9_doesMember_121 : decode cX9_doesMember 121 = .ok (.iastore, 1) := by decide +kernel
theorem dX9_doesMember_122 : decode cX9_doesMember 122 = .ok (.iconst 1, 1) := by decide +kernel
theorem dX9_doesMember_123 : decode cX9_doesMember 123 = .ok (.ireturn, 1) := by decide +kernel
theorem dX9_edit_0 : decode cX9_edit 0 = .ok (.aload_n 0, 1) := by decide +kernel
theorem dX9_edit_1 : decode cX9_edit 1 = .ok (.iload_n 1, 1) := by decide +kernel
theorem dX9_edit_2 : decode cX9_edit 2 = .ok (.iload_n 2, 1) := by decide +kernel
theorem dX9_edit_3 : decode cX9_edit 3 = .ok (.iload_n 3, 1) := by decide +kernel
theorem dX9_edit_4 : decode cX9_edit 4 = .ok (.iload 4, 2) := by decide +kernel
theorem dX9_edit_6 : decode cX9_edit 6 = .ok (.iload 5, 2) := by decide +kernel
theorem dX9_edit_8 : decode cX9_edit 8 = .ok (.iload 6, 2) := by decide +kernel
theorem dX9_edit_10 : decode cX9_edit 10 = .ok (.invokevirtual 228, 3) := by decide +kernel
theorem dX9_edit_13 : decode cX9_edit 13 = .ok (.istore 9, 2) := by decide +kernel
theorem dX9_edit_15 : decode cX9_edit 15 = .ok (.iload 9, 2) := by decide +kernel
theorem dX9_edit_17 : decode cX9_edit 17 = .ok (.ifCond .ge 6, 3) := by decide +kernel
theorem dX9_edit_20 : decode cX9_edit 20 = .ok (.iload 9, 2) := by decide +kernel
theorem dX9_edit_22 : decode cX9_edit 22 = .ok (.ireturn, 1) := by decide +kernel
theorem dX9_edit_23 : decode cX9_edit 23 = .ok (.aload_n 0, 1) := by decide +kernel
theorem dX9_edit_24 : decode cX9_edit 24 = .ok (.getfield 232, 3) := by decide +kernel
theorem dX9_edit_27 : decode cX9_edit 27 = .ok (.bipush 120, 2) := by decide +kernel
theorem dX9_edit_29 : decode cX9_edit 29 = .ok (.if_icmp .ne 6, 3) := by decide +kernel
theorem dX9_edit_32 : decode cX9_edit 32 = .ok (.bipush (-3), 2) := by decide +kernel
theorem dX9_edit_34 : decode cX9_edit 34 = .ok (.ireturn, 1) := by decide +kernel
theorem dX9_edit_35 : decode cX9_edit 35 = .ok (.aload_n 0, 1) := by decide +kernel
theorem dX9_edit_36 : decode cX9_edit 36 = .ok (.getfield 57, 3) := by decide +kernel
theorem dX9_edit_39 : decode cX9_edit 39 = .ok (.aload_n 0, 1) := by decide +kernel
theorem dX9_edit_40 : decode cX9_edit 40 = .ok (.getfield 232, 3) := by decide +kernel
theorem dX9_edit_43 : decode cX9_edit 43 = .ok (.iload_n 1, 1) := by decide +kernel
theorem dX9_edit_44 : decode cX9_edit 44 = .ok (.iastore, 1) := by decide +kernel
theorem dX9_edit_45 : decode cX9_edit 45 = .ok (.aload_n 0, 1) := by decide +kernel
theorem dX9_edit_46 : decode cX9_edit 46 = .ok (.getfield 60, 3) := by decide +kernel
theorem dX9_edit_49 : decode cX9_edit 49 = .ok (.aload_n 0, 1) := by decide +kernel
theorem dX9_edit_50 : decode cX9_edit 50 = .ok (.getfield 232, 3) := by decide +kernel
theorem dX9_edit_53 : decode cX9_edit 53 = .ok (.iload_n 2, 1) := by decide +kernel
theorem dX9_edit_54 : decode cX9_edit 54 = .ok (.iastore, 1) := by decide +kernel
theorem dX9_edit_55 : decode cX9_edit 55 = .ok (.aload_n 0, 1) := by decide +kernel
theorem dX9_edit_56 : decode cX9_edit 56 = .ok (.getfield 63, 3) := by decide +kernel
theorem dX9_edit_59 : decode cX9_edit 59 = .ok (.aload_n 0, 1) := by decide +kernel
theorem dX9_edit_60 : decode cX9_edit 60 = .ok (.getfield 232, 3) := by decide +kernel
theorem dX9_edit_63 : decode cX9_edit 63 = .ok (.iload_n 3, 1) := by decide +kernel
theorem dX9_edit_64 : decode cX9_edit 64 = .ok (.iastore, 1) := by decide +kernel
theorem dX9_edit_65 : decode cX9_edit 65 = .ok (.aload_n 0, 1) := by decide +kernel
theorem dX9_edit_66 : decode cX9_edit 66 = .ok (.getfield 66, 3) := by decide +kernel
theorem dX9_edit_69 : decode cX9_edit 69 = .ok (.aload_n 0, 1) := by decide +kernel
theorem dX9_edit_70 : decode cX9_edit 70 = .ok (.getfield 232, 3) := by decide +kernel
theorem dX9_edit_73 : decode cX9_edit 73 = .ok (.iload 4, 2) := by decide +kernel
theorem dX9_edit_75 : decode cX9_edit 75 = .ok (.iastore, 1) := by decide +kernel
theorem dX9_edit_76 : decode cX9_edit 76 = .ok (.aload_n 0, 1) := by decide +kernel
theorem dX9_edit_77 : decode cX9_edit 77 = .ok (.getfield 69, 3) := by decide +kernel
theorem dX9_edit_80 : decode cX9_edit 80 = .ok (.aload_n 0, 1) := by decide +kernel
theorem dX9_edit_81 : decode cX9_edit 81 = .ok (.getfield 232, 3) := by decide +kernel
theorem dX9_edit_84 : decode cX9_edit 84 = .ok (.iload 5, 2) := by decide +kernel
theorem dX9_edit_86 : decode cX9_edit 86 = .ok (.iastore, 1) := by decide +kernel
theorem dX9_edit_87 : decode cX9_edit 87 = .ok (.aload_n 0, 1) := by decide +kernel
theorem dX9_edit_88 : decode cX9_edit 88 = .ok (.getfield 72, 3) := by decide +kernel
theorem dX9_edit_91 : decode cX9_edit 91 = .ok (.aload_n 0, 1) := by decide +kernel
theorem dX9_edit_92 : decode cX9_edit 92 = .ok (.getfield 232, 3) := by decide +kernel
theorem dX9_edit_95 : decode cX9_edit 95 = .ok (.iload 6, 2) := by decide +kernel
theorem dX9_edit_97 : decode cX9_edit 97 = .ok (.iastore, 1) := by decide +kernel
theorem dX9_edit_98 : decode cX9_edit 98 = .ok (.aload_n 0, 1) := by decide +kernel
theorem dX9_edit_99 : decode cX9_edit 99 = .ok (.getfield 75, 3) := by decide +kernel
theorem dX9_edit_102 : decode cX9_edit 102 = .ok (.aload_n 0, 1) := by decide +kernel
theorem dX9_edit_103 : decode cX9_edit 103 = .ok (.getfield 232, 3) := by decide +kernel
theorem dX9_edit_106 : decode cX9_edit 106 = .ok (.lload 7, 2) := by decide +kernel
theorem dX9_edit_108 : decode cX9_edit 108 = .ok (.lastore, 1) := by decide +kernel
theorem dX9_edit_109 : decode cX9_edit 109 = .ok (.aload_n 0, 1) := by decide +kernel
theorem dX9_edit_110 : decode cX9_edit 110 = .ok (.dup, 1) := by decide +kernel
theorem dX9_edit_111 : decode cX9_edit 111 = .ok (.getfield 232, 3) := by decide +kernel
theorem dX9_edit_114 : decode cX9_edit 114 = .ok (.iconst 1, 1) := by decide +kernel
theorem dX9_edit_115 : decode cX9_edit 115 = .ok (.iadd, 1) := by decide +kernel
theorem dX9_edit_116 : decode cX9_edit 116 = .ok (.putfield 232, 3) := by decide +kernel
theorem dX9_edit_119 : decode cX9_edit 119 = .ok (.aload_n 0, 1) := by decide +kernel
theorem dX9_edit_120 : decode cX9_edit 120 = .ok (.iload_n 1, 1) := by decide +kernel
theorem dX9_edit_121 : decode cX9_edit 121 = .ok (.iload_n 2, 1) := by decide +kernel
theorem dX9_edit_122 : decode cX9_edit 122 = .ok (.iload_n 3, 1) := by decide +kernel
theorem dX9_edit_123 : decode cX9_edit 123 = .ok (.iload 4, 2) := by decide +kernel
theorem dX9_edit_125 : decode cX9_edit 125 = .ok (.iload 5, 2) := by decide +kernel
theorem dX9_edit_127 : decode cX9_edit 127 = .ok (.iload 6, 2) := by decide +kernel
theorem dX9_edit_129 : decode cX9_edit 129 = .ok (.lload 7, 2) := by decide +kernel
theorem dX9_edit_131 : decode cX9_edit 131 = .ok (.invokevirtual 235, 3) := by decide +kernel
theorem dX9_edit_134 : decode cX9_edit 134 = .ok (.ireturn, 1) := by decide +kernel
theorem dX9_nothing_0 : decode cX9_nothing 0 = .ok (.aload_n 0, 1) := by decide +kernel
theorem dX9_nothing_1 : decode cX9_nothing 1 = .ok (.iconst 0, 1) := by decide +kernel
theorem dX9_nothing_2 : decode cX9_nothing 2 = .ok (.putfield 129, 3) := by decide +kernel
theorem dX9_nothing_5 : decode cX9_nothing 5 = .ok (.iconst 0, 1) := by decide +kernel
theorem dX9_nothing_6 : decode cX9_nothing 6 = .ok (.istore_n 1, 1) := by decide +kernel
theorem dX9_nothing_7 : decode cX9_nothing 7 = .ok (.iload_n 1, 1) := by decide +kernel
theorem dX9_nothing_8 : decode cX9_nothing 8 = .ok (.bipush 60, 2) := by decide +kernel
theorem dX9_nothing_10 : decode cX9_nothing 10 = .ok (.if_icmp .ge 16, 3) := by decide +kernel
theorem dX9_nothing_13 : decode cX9_nothing 13 = .ok (.aload_n 0, 1) := by decide +kernel
theorem dX9_nothing_14 : decode cX9_nothing 14 = .ok (.getfield 26, 3) := by decide +kernel
theorem dX9_nothing_17 : decode cX9_nothing 17 = .ok (.iload_n 1, 1) := by decide +kernel
theorem dX9_nothing_18 : decode cX9_nothing 18 = .ok (.iconst 0, 1) := by decide +kernel
theorem dX9_nothing_19 : decode cX9_nothing 19 = .ok (.bastore, 1) := by decide +kernel
theorem dX9_nothing_20 : decode cX9_nothing 20 = .ok (.iinc 1 1, 3) := by decide +kernel
theorem dX9_nothing_23 : decode cX9_nothing 23 = .ok (.goto (-16), 3) := by decide +kernel
theorem dX9_nothing_26 : decode cX9_nothing 26 = .ok (.return_, 1) := by decide +kernel
theorem dX9_doAgain_0 : decode cX9_doAgain 0 = .ok (.iload_n 1, 1) := by decide +kernel
theorem dX9_doAgain_1 : decode cX9_doAgain 1 = .ok (.istore_n 3, 1) := by decide +kernel
theorem dX9_doAgain_2 : decode cX9_doAgain 2 = .ok (.iload_n 3, 1) := by decide +kernel
theorem dX9_doAgain_3 : decode cX9_doAgain 3 = .ok (.iload_n 2, 1) := by decide +kernel
theorem dX9_doAgain_4 : decode cX9_doAgain 4 = .ok (.if_icmp .ge 57, 3) := by decide +kernel
theorem dX9_doAgain_7 : decode cX9_doAgain 7 = .ok (.aload_n 0, 1) := by decide +kernel
theorem dX9_doAgain_8 : decode cX9_doAgain 8 = .ok (.aload_n 0, 1) := by decide +kernel
theorem dX9_doAgain_9 : decode cX9_doAgain 9 = .ok (.getfield 57, 3) := by decide +kernel
theorem dX9_doAgain_12 : decode cX9_doAgain 12 = .ok (.iload_n 3, 1) := by decide +kernel
theorem dX9_doAgain_13 : decode cX9_doAgain 13 = .ok (.iaload, 1) := by decide +kernel
theorem dX9_doAgain_14 : decode cX9_doAgain 14 = .ok (.aload_n 0, 1) := by decide +kernel
theorem dX9_doAgain_15 : decode cX9_doAgain 15 = .ok (.getfield 60, 3) := by decide +kernel
theorem dX9_doAgain_18 : decode cX9_doAgain 18 = .ok (.iload_n 3, 1) := by decide +kernel
theorem dX9_doAgain_19 : decode cX9_doAgain 19 = .ok (.iaload, 1) := by decide +kernel
theorem dX9_doAgain_20 : decode cX9_doAgain 20 = .ok (.aload_n 0, 1) := by decide +kernel
theorem dX9_doAgain_21 : decode cX9_doAgain 21 = .ok (.getfield 63, 3) := by decide +kernel
theorem dX9_doAgain_24 : decode cX9_doAgain 24 = .ok (.iload_n 3, 1) := by decide +kernel
theorem dX9_doAgain_25 : decode cX9_doAgain 25 = .ok (.iaload, 1) := by decide +kernel
theorem dX9_doAgain_26 : decode cX9_doAgain 26 = .ok (.aload_n 0, 1) := by decide +kernel
theorem dX9_doAgain_27 : decode cX9_doAgain 27 = .ok (.getfield 66, 3) := by decide +kernel
theorem dX9_doAgain_30 : decode cX9_doAgain 30 = .ok (.iload_n 3, 1) := by decide +kernel
theorem dX9_doAgain_31 : decode cX9_doAgain 31 = .ok (.iaload, 1) := by decide +kernel
theorem dX9_doAgain_32 : decode cX9_doAgain 32 = .ok (.aload_n 0, 1) := by decide +kernel
theorem dX9_doAgain_33 : decode cX9_doAgain 33 = .ok (.getfield 69, 3) := by decide +kernel
theorem dX9_doAgain_36 : decode cX9_doAgain 36 = .ok (.iload_n 3, 1) := by decide +kernel
theorem dX9_doAgain_37 : decode cX9_doAgain 37 = .ok (.iaload, 1) := by decide +kernel
theorem dX9_doAgain_38 : decode cX9_doAgain 38 = .ok (.aload_n 0, 1) := by decide +kernel
theorem dX9_doAgain_39 : decode cX9_doAgain 39 = .ok (.getfield 72, 3) := by decide +kernel
theorem dX9_doAgain_42 : decode cX9_doAgain 42 = .ok (.iload_n 3, 1) := by decide +kernel
theorem dX9_doAgain_43 : decode cX9_doAgain 43 = .ok (.iaload, 1) := by decide +kernel
theorem dX9_doAgain_44 : decode cX9_doAgain 44 = .ok (.aload_n 0, 1) := by decide +kernel
theorem dX9_doAgain_45 : decode cX9_doAgain 45 = .ok (.getfield 75, 3) := by decide +kernel
theorem dX9_doAgain_48 : decode cX9_doAgain 48 = .ok (.iload_n 3, 1) := by decide +kernel
theorem dX9_doAgain_49 : decode cX9_doAgain 49 = .ok (.laload, 1) := by decide +kernel
theorem dX9_doAgain_50 : decode cX9_doAgain 50 = .ok (.invokevirtual 235, 3) := by decide +kernel
theorem dX9_doAgain_53 : decode cX9_doAgain 53 = .ok (.istore 4, 2) := by decide +kernel
theorem dX9_doAgain_55 : decode cX9_doAgain 55 = .ok (.iinc 3 1, 3) := by decide +kernel
theorem dX9_doAgain_58 : decode cX9_doAgain 58 = .ok (.goto (-56), 3) := by decide +kernel
theorem dX9_doAgain_61 : decode cX9_doAgain 61 = .ok (.return_, 1) := by decide +kernel
theorem dX9_type_0 : decode cX9_type 0 = .ok (.aload_n 0, 1) := by decide +kernel
theorem dX9_type_1 : decode cX9_type 1 = .ok (.iconst 0, 1) := by decide +kernel
theorem dX9_type_2 : decode cX9_type 2 = .ok (.iload_n 1, 1) := by decide +kernel
theorem dX9_type_3 : decode cX9_type 3 = .ok (.ifCond .eq 7, 3) := by decide +kernel
theorem dX9_type_6 : decode cX9_type 6 = .ok (.iconst 1, 1) := by decide +kernel
theorem dX9_type_7 : decode cX9_type 7 = .ok (.goto 4, 3) := by decide +kernel
theorem dX9_type_10 : decode cX9_type 10 = .ok (.iconst 0, 1) := by decide +kernel
theorem dX9_type_11 : decode cX9_type 11 = .ok (.iload_n 2, 1) := by decide +kernel
theorem dX9_type_12 : decode cX9_type 12 = .ok (.iload_n 3, 1) := by decide +kernel
theorem dX9_type_13 : decode cX9_type 13 = .ok (.iconst 0, 1) := by decide +kernel
theorem dX9_type_14 : decode cX9_type 14 = .ok (.iconst 0, 1) := by decide +kernel
theorem dX9_type_15 : decode cX9_type 15 = .ok (.lconst 0, 1) := by decide +kernel
theorem dX9_type_16 : decode cX9_type 16 = .ok (.invokevirtual 239, 3) := by decide +kernel
theorem dX9_type_19 : decode cX9_type 19 = .ok (.ireturn, 1) := by decide +kernel
theorem dX9_above_0 : decode cX9_above 0 = .ok (.aload_n 0, 1) := by decide +kernel
theorem dX9_above_1 : decode cX9_above 1 = .ok (.iconst 1, 1) := by decide +kernel
theorem dX9_above_2 : decode cX9_above 2 = .ok (.iload_n 1, 1) := by decide +kernel
theorem dX9_above_3 : decode cX9_above 3 = .ok (.iload_n 2, 1) := by decide +kernel
theorem dX9_above_4 : decode cX9_above 4 = .ok (.iconst 0, 1) := by decide +kernel
theorem dX9_above_5 : decode cX9_above 5 = .ok (.iconst 0, 1) := by decide +kernel
theorem dX9_above_6 : decode cX9_above 6 = .ok (.iconst 0, 1) := by decide +kernel
theorem dX9_above_7 : decode cX9_above 7 = .ok (.lconst 0, 1) := by decide +kernel
theorem dX9_above_8 : decode cX9_above 8 = .ok (.invokevirtual 239, 3) := by decide +kernel
theorem dX9_above_11 : decode cX9_above 11 = .ok (.ireturn, 1) := by decide +kernel
theorem dX9_face_0 : decode cX9_face 0 = .ok (.aload_n 0, 1) := by decide +kernel
theorem dX9_face_1 : decode cX9_face 1 = .ok (.iconst 2, 1) := by decide +kernel
theorem dX9_face_2 : decode cX9_face 2 = .ok (.iload_n 1, 1) := by decide +kernel
theorem dX9_face_3 : decode cX9_face 3 = .ok (.iload_n 2, 1) := by decide +kernel
theorem dX9_face_4 : decode cX9_face 4 = .ok (.iconst 0, 1) := by decide +kernel
theorem dX9_face_5 : decode cX9_face 5 = .ok (.iconst 0, 1) := by decide +kernel
theorem dX9_face_6 : decode cX9_face 6 = .ok (.iconst 0, 1) := by decide +kernel
theorem dX9_face_7 : decode cX9_face 7 = .ok (.lconst 0, 1) := by decide +kernel
theorem dX9_face_8 : decode cX9_face 8 = .ok (.invokevirtual 239, 3) := by decide +kernel
theorem dX9_face_11 : decode cX9_face 11 = .ok (.ireturn, 1) := by decide +kernel
theorem dX9_unface_0 : decode cX9_unface 0 = .ok (.aload_n 0, 1) := by decide +kernel
theorem dX9_unface_1 : decode cX9_unface 1 = .ok (.iconst 3, 1) := by decide +kernel
theorem dX9_unface_2 : decode cX9_unface 2 = .ok (.iload_n 1, 1) := by decide +kernel
theorem dX9_unface_3 : decode cX9_unface 3 = .ok (.iload_n 2, 1) := by decide +kernel
theorem dX9_unface_4 : decode cX9_unface 4 = .ok (.iconst 0, 1) := by decide +kernel
theorem dX9_unface_5 : decode cX9_unface 5 = .ok (.iconst 0, 1) := by decide +kernel
theorem dX9_unface_6 : decode cX9_unface 6 = .ok (.iconst 0, 1) := by decide +kernel
theorem dX9_unface_7 : decode cX9_unface 7 = .ok (.lconst 0, 1) := by decide +kernel
theorem dX9_unface_8 : decode cX9_unface 8 = .ok (.invokevirtual 239, 3) := by decide +kernel
theorem dX9_unface_11 : decode cX9_unface 11 = .ok (.ireturn, 1) := by decide +kernel
theorem dX9_marks_0 : decode cX9_marks 0 = .ok (.aload_n 0, 1) := by decide +kernel
theorem dX9_marks_1 : decode cX9_marks 1 = .ok (.iconst 4, 1) := by decide +kernel
theorem dX9_marks_2 : decode cX9_marks 2 = .ok (.iload_n 1, 1) := by decide +kernel
theorem dX9_marks_3 : decode cX9_marks 3 = .ok (.iload_n 2, 1) := by decide +kernel
theorem dX9_marks_4 : decode cX9_marks 4 = .ok (.iconst 0, 1) := by decide +kernel
theorem dX9_marks_5 : decode cX9_marks 5 = .ok (.iconst 0, 1) := by decide +kernel
theorem dX9_marks_6 : decode cX9_marks 6 = .ok (.iconst 0, 1) := by decide +kernel
theorem dX9_marks_7 : decode cX9_marks 7 = .ok (.lconst 0, 1) := by decide +kernel
theorem dX9_marks_8 : decode cX9_marks 8 = .ok (.invokevirtual 239, 3) := by decide +kernel
theorem dX9_marks_11 : decode cX9_marks 11 = .ok (.ireturn, 1) := by decide +kernel
theorem dX9_field_0 : decode cX9_field 0 = .ok (.aload_n 0, 1) := by decide +kernel
theorem dX9_field_1 : decode cX9_field 1 = .ok (.iconst 5, 1) := by decide +kernel
theorem dX9_field_2 : decode cX9_field 2 = .ok (.iload_n 1, 1) := by decide +kernel
theorem dX9_field_3 : decode cX9_field 3 = .ok (.iload_n 2, 1) := by decide +kernel
theorem dX9_field_4 : decode cX9_field 4 = .ok (.iload_n 3, 1) := by decide +kernel
theorem dX9_field_5 : decode cX9_field 5 = .ok (.iload 4, 2) := by decide +kernel
theorem dX9_field_7 : decode cX9_field 7 = .ok (.iconst 0, 1) := by decide +kernel
theorem dX9_field_8 : decode cX9_field 8 = .ok (.lload 5, 2) := by decide +kernel
theorem dX9_field_10 : decode cX9_field 10 = .ok (.invokevirtual 239, 3) := by decide +kernel
theorem dX9_field_13 : decode cX9_field 13 = .ok (.ireturn, 1) := by decide +kernel
theorem dX9_method_0 : decode cX9_method 0 = .ok (.aload_n 0, 1) := by decide +kernel
theorem dX9_method_1 : decode cX9_method 1 = .ok (.bipush 6, 2) := by decide +kernel
theorem dX9_method_3 : decode cX9_method 3 = .ok (.iload_n 1, 1) := by decide +kernel
theorem dX9_method_4 : decode cX9_method 4 = .ok (.iload_n 2, 1) := by decide +kernel
theorem dX9_method_5 : decode cX9_method 5 = .ok (.iload_n 3, 1) := by decide +kernel
theorem dX9_method_6 : decode cX9_method 6 = .ok (.iload 4, 2) := by decide +kernel
theorem dX9_method_8 : decode cX9_method 8 = .ok (.iload 5, 2) := by decide +kernel
theorem dX9_method_10 : decode cX9_method 10 = .ok (.iload 6, 2) := by decide +kernel
theorem dX9_method_12 : decode cX9_method 12 = .ok (.i2l, 1) := by decide +kernel
theorem dX9_method_13 : decode cX9_method 13 = .ok (.invokevirtual 239, 3) := by decide +kernel
theorem dX9_method_16 : decode cX9_method 16 = .ok (.ireturn, 1) := by decide +kernel
theorem dX9_drop_0 : decode cX9_drop 0 = .ok (.aload_n 0, 1) := by decide +kernel
theorem dX9_drop_1 : decode cX9_drop 1 = .ok (.bipush 7, 2) := by decide +kernel
theorem dX9_drop_3 : decode cX9_drop 3 = .ok (.iload_n 1, 1) := by decide +kernel
theorem dX9_drop_4 : decode cX9_drop 4 = .ok (.iconst 0, 1) := by decide +kernel
theorem dX9_drop_5 : decode cX9_drop 5 = .ok (.iconst 0, 1) := by decide +kernel
theorem dX9_drop_6 : decode cX9_drop 6 = .ok (.iconst 0, 1) := by decide +kernel
theorem dX9_drop_7 : decode cX9_drop 7 = .ok (.iconst 0, 1) := by decide +kernel
theorem dX9_drop_8 : decode cX9_drop 8 = .ok (.lconst 0, 1) := by decide +kernel
theorem dX9_drop_9 : decode cX9_drop 9 = .ok (.invokevirtual 239, 3) := by decide +kernel
theorem dX9_drop_12 : decode cX9_drop 12 = .ok (.ireturn, 1) := by decide +kernel
theorem dX9_mark_0 : decode cX9_mark 0 = .ok (.aload_n 0, 1) := by decide +kernel
theorem dX9_mark_1 : decode cX9_mark 1 = .ok (.bipush 8, 2) := by decide +kernel
theorem dX9_mark_3 : decode cX9_mark 3 = .ok (.iload_n 1, 1) := by decide +kernel
theorem dX9_mark_4 : decode cX9_mark 4 = .ok (.iload_n 2, 1) := by decide +kernel
theorem dX9_mark_5 : decode cX9_mark 5 = .ok (.iconst 0, 1) := by decide +kernel
theorem dX9_mark_6 : decode cX9_mark 6 = .ok (.iconst 0, 1) := by decide +kernel
theorem dX9_mark_7 : decode cX9_mark 7 = .ok (.iconst 0, 1) := by decide +kernel
theorem dX9_mark_8 : decode cX9_mark 8 = .ok (.lconst 0, 1) := by decide +kernel
theorem dX9_mark_9 : decode cX9_mark 9 = .ok (.invokevirtual 239, 3) := by decide +kernel
theorem dX9_mark_12 : decode cX9_mark 12 = .ok (.ireturn, 1) := by decide +kernel
theorem dX9_set_0 : decode cX9_set 0 = .ok (.aload_n 0, 1) := by decide +kernel
theorem dX9_set_1 : decode cX9_set 1 = .ok (.bipush 9, 2) := by decide +kernel
theorem dX9_set_3 : decode cX9_set 3 = .ok (.iload_n 1, 1) := by decide +kernel
theorem dX9_set_4 : decode cX9_set 4 = .ok (.iconst 0, 1) := by decide +kernel
theorem dX9_set_5 : decode cX9_set 5 = .ok (.iconst 0, 1) := by decide +kernel
theorem dX9_set_6 : decode cX9_set 6 = .ok (.iconst 0, 1) := by decide +kernel
theorem dX9_set_7 : decode cX9_set 7 = .ok (.iconst 0, 1) := by decide +kernel
theorem dX9_set_8 : decode cX9_set 8 = .ok (.lload_n 2, 1) := by decide +kernel
theorem dX9_set_9 : decode cX9_set 9 = .ok (.invokevirtual 239, 3) := by decide +kernel
theorem dX9_set_12 : decode cX9_set 12 = .ok (.ireturn, 1) := by decide +kernel
theorem dX9_retype_0 : decode cX9_retype 0 = .ok (.aload_n 0, 1) := by decide +kernel
theorem dX9_retype_1 : decode cX9_retype 1 = .ok (.bipush 10, 2) := by decide +kernel
theorem dX9_retype_3 : decode cX9_retype 3 = .ok (.iload_n 1, 1) := by decide +kernel
theorem dX9_retype_4 : decode cX9_retype 4 = .ok (.iload_n 2, 1) := by decide +kernel
theorem dX9_retype_5 : decode cX9_retype 5 = .ok (.iconst 0, 1) := by decide +kernel
theorem dX9_retype_6 : decode cX9_retype 6 = .ok (.iconst 0, 1) := by decide +kernel
theorem dX9_retype_7 : decode cX9_retype 7 = .ok (.iconst 0, 1) := by decide +kernel
theorem dX9_retype_8 : decode cX9_retype 8 = .ok (.lload_n 3, 1) := by decide +kernel
theorem dX9_retype_9 : decode cX9_retype 9 = .ok (.invokevirtual 239, 3) := by decide +kernel
theorem dX9_retype_12 : decode cX9_retype 12 = .ok (.ireturn, 1) := by decide +kernel
theorem dX9_move_0 : decode cX9_move 0 = .ok (.aload_n 0, 1) := by decide +kernel
theorem dX9_move_1 : decode cX9_move 1 = .ok (.bipush 11, 2) := by decide +kernel
theorem dX9_move_3 : decode cX9_move 3 = .ok (.iload_n 1, 1) := by decide +kernel
theorem dX9_move_4 : decode cX9_move 4 = .ok (.iload_n 2, 1) := by decide +kernel
theorem dX9_move_5 : decode cX9_move 5 = .ok (.iconst 0, 1) := by decide +kernel
theorem dX9_move_6 : decode cX9_move 6 = .ok (.iconst 0, 1) := by decide +kernel
theorem dX9_move_7 : decode cX9_move 7 = .ok (.iconst 0, 1) := by decide +kernel
theorem dX9_move_8 : decode cX9_move 8 = .ok (.lconst 0, 1) := by decide +kernel
theorem dX9_move_9 : decode cX9_move 9 = .ok (.invokevirtual 239, 3) := by decide +kernel
theorem dX9_move_12 : decode cX9_move 12 = .ok (.ireturn, 1) := by decide +kernel
theorem dX9_undo_0 : decode cX9_undo 0 = .ok (.aload_n 0, 1) := by decide +kernel
theorem dX9_undo_1 : decode cX9_undo 1 = .ok (.getfield 232, 3) := by decide +kernel
theorem dX9_undo_4 : decode cX9_undo 4 = .ok (.ifCond .ne 6, 3) := by decide +kernel
theorem dX9_undo_7 : decode cX9_undo 7 = .ok (.bipush (-2), 2) := by decide +kernel
theorem dX9_undo_9 : decode cX9_undo 9 = .ok (.ireturn, 1) := by decide +kernel
theorem dX9_undo_10 : decode cX9_undo 10 = .ok (.aload_n 0, 1) := by decide +kernel
theorem dX9_undo_11 : decode cX9_undo 11 = .ok (.dup, 1) := by decide +kernel
theorem dX9_undo_12 : decode cX9_undo 12 = .ok (.getfield 232, 3) := by decide +kernel
theorem dX9_undo_15 : decode cX9_undo 15 = .ok (.iconst 1, 1) := by decide +kernel
theorem dX9_undo_16 : decode cX9_undo 16 = .ok (.isub, 1) := by decide +kernel
theorem dX9_undo_17 : decode cX9_undo 17 = .ok (.putfield 232, 3) := by decide +kernel
theorem dX9_undo_20 : decode cX9_undo 20 = .ok (.aload_n 0, 1) := by decide +kernel
theorem dX9_undo_21 : decode cX9_undo 21 = .ok (.invokevirtual 242, 3) := by decide +kernel
theorem dX9_undo_24 : decode cX9_undo 24 = .ok (.aload_n 0, 1) := by decide +kernel
theorem dX9_undo_25 : decode cX9_undo 25 = .ok (.iconst 0, 1) := by decide +kernel
theorem dX9_undo_26 : decode cX9_undo 26 = .ok (.aload_n 0, 1) := by decide +kernel
theorem dX9_undo_27 : decode cX9_undo 27 = .ok (.getfield 232, 3) := by decide +kernel
theorem dX9_undo_30 : decode cX9_undo 30 = .ok (.invokevirtual 245, 3) := by decide +kernel
theorem dX9_undo_33 : decode cX9_undo 33 = .ok (.aload_n 0, 1) := by decide +kernel
theorem dX9_undo_34 : decode cX9_undo 34 = .ok (.getfield 232, 3) := by decide +kernel
theorem dX9_undo_37 : decode cX9_undo 37 = .ok (.ireturn, 1) := by decide +kernel
theorem dX9_faceRow_0 : decode cX9_faceRow 0 = .ok (.iconst 1, 1) := by decide +kernel
theorem dX9_faceRow_1 : decode cX9_faceRow 1 = .ok (.istore_n 2, 1) := by decide +kernel
theorem dX9_faceRow_2 : decode cX9_faceRow 2 = .ok (.aload_n 0, 1) := by decide +kernel
theorem dX9_faceRow_3 : decode cX9_faceRow 3 = .ok (.getfield 81, 3) := by decide +kernel
theorem dX9_faceRow_6 : decode cX9_faceRow 6 = .ok (.iconst 0, 1) := by decide +kernel
theorem dX9_faceRow_7 : decode cX9_faceRow 7 = .ok (.iload_n 1, 1) := by decide +kernel
theorem dX9_faceRow_8 : decode cX9_faceRow 8 = .ok (.iastore, 1) := by decide +kernel
theorem dX9_faceRow_9 : decode cX9_faceRow 9 = .ok (.iload_n 2, 1) := by decide +kernel
theorem dX9_faceRow_10 : decode cX9_faceRow 10 = .ok (.ifCond .le 77, 3) := by decide +kernel
theorem dX9_faceRow_13 : decode cX9_faceRow 13 = .ok (.iinc 2 (-1), 3) := by decide +kernel
theorem dX9_faceRow_16 : decode cX9_faceRow 16 = .ok (.aload_n 0, 1) := by decide +kernel
theorem dX9_faceRow_17 : decode cX9_faceRow 17 = .ok (.getfield 81, 3) := by decide +kernel
theorem dX9_faceRow_20 : decode cX9_faceRow 20 = .ok (.iload_n 2, 1) := by decide +kernel
theorem dX9_faceRow_21 : decode cX9_faceRow 21 = .ok (.iaload, 1) := by decide +kernel
theorem dX9_faceRow_22 : decode cX9_faceRow 22 = .ok (.istore_n 3, 1) := by decide +kernel
theorem dX9_faceRow_23 : decode cX9_faceRow 23 = .ok (.aload_n 0, 1) := by decide +kernel
theorem dX9_faceRow_24 : decode cX9_faceRow 24 = .ok (.getfield 78, 3) := by decide +kernel
theorem dX9_faceRow_27 : decode cX9_faceRow 27 = .ok (.aload_n 0, 1) := by decide +kernel
theorem dX9_faceRow_28 : decode cX9_faceRow 28 = .ok (.getfield 249, 3) := by decide +kernel
theorem dX9_faceRow_31 : decode cX9_faceRow 31 = .ok (.iload_n 3, 1) := by decide +kernel
theorem dX9_faceRow_32 : decode cX9_faceRow 32 = .ok (.iastore, 1) := by decide +kernel
theorem dX9_faceRow_33 : decode cX9_faceRow 33 = .ok (.aload_n 0, 1) := by decide +kernel
theorem dX9_faceRow_34 : decode cX9_faceRow 34 = .ok (.dup, 1) := by decide +kernel
theorem dX9_faceRow_35 : decode cX9_faceRow 35 = .ok (.getfield 249, 3) := by decide +kernel
theorem dX9_faceRow_38 : decode cX9_faceRow 38 = .ok (.iconst 1, 1) := by decide +kernel
theorem dX9_faceRow_39 : decode cX9_faceRow 39 = .ok (.iadd, 1) := by decide +kernel
theorem dX9_faceRow_40 : decode cX9_faceRow 40 = .ok (.putfield 249, 3) := by decide +kernel
theorem dX9_faceRow_43 : decode cX9_faceRow 43 = .ok (.aload_n 0, 1) := by decide +kernel
theorem dX9_faceRow_44 : decode cX9_faceRow 44 = .ok (.getfield 20, 3) := by decide +kernel
theorem dX9_faceRow_47 : decode cX9_faceRow 47 = .ok (.iload_n 3, 1) := by decide +kernel
theorem dX9_faceRow_48 : decode cX9_faceRow 48 = .ok (.iaload, 1) := by decide +kernel
theorem dX9_faceRow_49 : decode cX9_faceRow 49 = .ok (.iconst 1, 1) := by decide +kernel
theorem dX9_faceRow_50 : decode cX9_faceRow 50 = .ok (.isub, 1) := by decide +kernel
theorem dX9_faceRow_51 : decode cX9_faceRow 51 = .ok (.istore 4, 2) := by decide +kernel
theorem dX9_faceRow_53 : decode cX9_faceRow 53 = .ok (.iload 4, 2) := by decide +kernel
theorem dX9_faceRow_55 : decode cX9_faceRow 55 = .ok (.ifCond .lt 29, 3) := by decide +kernel
theorem dX9_faceRow_58 : decode cX9_faceRow 58 = .ok (.aload_n 0, 1) := by decide +kernel
theorem dX9_faceRow_59 : decode cX9_faceRow 59 = .ok (.getfield 81, 3) := by decide +kernel
theorem dX9_faceRow_62 : decode cX9_faceRow 62 = .ok (.iload_n 2, 1) := by decide +kernel
theorem dX9_faceRow_63 : decode cX9_faceRow 63 = .ok (.aload_n 0, 1) := by decide +kernel
theorem dX9_faceRow_64 : decode cX9_faceRow 64 = .ok (.getfield 23, 3) := by decide +kernel
theorem dX9_faceRow_67 : decode cX9_faceRow 67 = .ok (.iconst 3, 1) := by decide +kernel
theorem dX9_faceRow_68 : decode cX9_faceRow 68 = .ok (.iload_n 3, 1) := by decide +kernel
theorem dX9_faceRow_69 : decode cX9_faceRow 69 = .ok (.imul, 1) := by decide +kernel
theorem dX9_faceRow_70 : decode cX9_faceRow 70 = .ok (.iload 4, 2) := by decide +kernel
theorem dX9_faceRow_72 : decode cX9_faceRow 72 = .ok (.iadd, 1) := by decide +kernel
theorem dX9_faceRow_73 : decode cX9_faceRow 73 = .ok (.iaload, 1) := by decide +kernel
theorem dX9_faceRow_74 : decode cX9_faceRow 74 = .ok (.iastore, 1) := by decide +kernel
theorem dX9_faceRow_75 : decode cX9_faceRow 75 = .ok (.iinc 2 1, 3) := by decide +kernel
theorem dX9_faceRow_78 : decode cX9_faceRow 78 = .ok (.iinc 4 (-1), 3) := by decide +kernel
theorem dX9_faceRow_81 : decode cX9_faceRow 81 = .ok (.goto (-28), 3) := by decide +kernel
theorem dX9_faceRow_84 : decode cX9_faceRow 84 = .ok (.goto (-75), 3) := by decide +kernel
theorem dX9_faceRow_87 : decode cX9_faceRow 87 = .ok (.return_, 1) := by decide +kernel
theorem dX9_facesOf_0 : decode cX9_facesOf 0 = .ok (.iconst 0, 1) := by decide +kernel
theorem dX9_facesOf_1 : decode cX9_facesOf 1 = .ok (.istore_n 2, 1) := by decide +kernel
theorem dX9_facesOf_2 : decode cX9_facesOf 2 = .ok (.iload_n 2, 1) := by decide +kernel
theorem dX9_facesOf_3 : decode cX9_facesOf 3 = .ok (.aload_n 0, 1) := by decide +kernel
theorem dX9_facesOf_4 : decode cX9_facesOf 4 = .ok (.getfield 20, 3) := by decide +kernel
theorem dX9_facesOf_7 : decode cX9_facesOf 7 = .ok (.iload_n 1, 1) := by decide +kernel
theorem dX9_facesOf_8 : decode cX9_facesOf 8 = .ok (.iaload, 1) := by decide +kernel
theorem dX9_facesOf_9 : decode cX9_facesOf 9 = .ok (.if_icmp .ge 23, 3) := by decide +kernel
theorem dX9_facesOf_12 : decode cX9_facesOf 12 = .ok (.aload_n 0, 1) := by decide +kernel
theorem dX9_facesOf_13 : decode cX9_facesOf 13 = .ok (.aload_n 0, 1) := by decide +kernel
theorem dX9_facesOf_14 : decode cX9_facesOf 14 = .ok (.getfield 23, 3) := by decide +kernel
theorem dX9_facesOf_17 : decode cX9_facesOf 17 = .ok (.iconst 3, 1) := by decide +kernel
theorem dX9_facesOf_18 : decode cX9_facesOf 18 = .ok (.iload_n 1, 1) := by decide +kernel
theorem dX9_facesOf_19 : decode cX9_facesOf 19 = .ok (.imul, 1) := by decide +kernel
theorem dX9_facesOf_20 : decode cX9_facesOf 20 = .ok (.iload_n 2, 1) := by decide +kernel
theorem dX9_facesOf_21 : decode cX9_facesOf 21 = .ok (.iadd, 1) := by decide +kernel
theorem dX9_facesOf_22 : decode cX9_facesOf 22 = .ok (.iaload, 1) := by decide +kernel
theorem dX9_facesOf_23 : decode cX9_facesOf 23 = .ok (.invokevirtual 252, 3) := by decide +kernel
theorem dX9_facesOf_26 : decode cX9_facesOf 26 = .ok (.iinc 2 1, 3) := by decide +kernel
theorem dX9_facesOf_29 : decode cX9_facesOf 29 = .ok (.goto (-27), 3) := by decide +kernel
theorem dX9_facesOf_32 : decode cX9_facesOf 32 = .ok (.return_, 1) := by decide +kernel
theorem dX9_chainOf_0 : decode cX9_chainOf 0 = .ok (.iconst 0, 1) := by decide +kernel
theorem dX9_chainOf_1 : decode cX9_chainOf 1 = .ok (.istore_n 2, 1) := by decide +kernel
theorem dX9_chainOf_2 : decode cX9_chainOf 2 = .ok (.iload_n 1, 1) := by decide +kernel
theorem dX9_chainOf_3 : decode cX9_chainOf 3 = .ok (.istore_n 3, 1) := by decide +kernel
theorem dX9_chainOf_4 : decode cX9_chainOf 4 = .ok (.iload_n 3, 1) := by decide +kernel
theorem dX9_chainOf_5 : decode cX9_chainOf 5 = .ok (.ifCond .lt 23, 3) := by decide +kernel
theorem dX9_chainOf_8 : decode cX9_chainOf 8 = .ok (.aload_n 0, 1) := by decide +kernel
theorem dX9_chainOf_9 : decode cX9_chainOf 9 = .ok (.getfield 84, 3) := by decide +kernel
theorem dX9_chainOf_12 : decode cX9_chainOf 12 = .ok (.iload_n 2, 1) := by decide +kernel
theorem dX9_chainOf_13 : decode cX9_chainOf 13 = .ok (.iload_n 3, 1) := by decide +kernel
theorem dX9_chainOf_14 : decode cX9_chainOf 14 = .ok (.iastore, 1) := by decide +kernel
theorem dX9_chainOf_15 : decode cX9_chainOf 15 = .ok (.iinc 2 1, 3) := by decide +kernel
theorem dX9_chainOf_18 : decode cX9_chainOf 18 = .ok (.aload_n 0, 1) := by decide +kernel
theorem dX9_chainOf_19 : decode cX9_chainOf 19 = .ok (.getfield 13, 3) := by decide +kernel
theorem dX9_chainOf_22 : decode cX9_chainOf 22 = .ok (.iload_n 3, 1) := by decide +kernel
theorem dX9_chainOf_23 : decode cX9_chainOf 23 = .ok (.iaload, 1) := by decide +kernel
theorem dX9_chainOf_24 : decode cX9_chainOf 24 = .ok (.istore_n 3, 1) := by decide +kernel
theorem dX9_chainOf_25 : decode cX9_chainOf 25 = .ok (.goto (-21), 3) := by decide +kernel
theorem dX9_chainOf_28 : decode cX9_chainOf 28 = .ok (.iload_n 2, 1) := by decide +kernel
theorem dX9_chainOf_29 : decode cX9_chainOf 29 = .ok (.ireturn, 1) := by decide +kernel
theorem dX9_lookForField_0 : decode cX9_lookForField 0 = .ok (.aload_n 0, 1) := by decide +kernel
theorem dX9_lookForField_1 : decode cX9_lookForField 1 = .ok (.iload_n 1, 1) := by decide +kernel
theorem dX9_lookForField_2 : decode cX9_lookForField 2 = .ok (.invokevirtual 256, 3) := by decide +kernel
theorem dX9_lookForField_5 : decode cX9_lookForField 5 = .ok (.istore 4, 2) := by decide +kernel
theorem dX9_lookForField_7 : decode cX9_lookForField 7 = .ok (.iconst 0, 1) := by decide +kernel
theorem dX9_lookForField_8 : decode cX9_lookForField 8 = .ok (.istore 5, 2) := by decide +kernel
theorem dX9_lookForField_10 : decode cX9_lookForField 10 = .ok (.iload 5, 2) := by decide +kernel
theorem dX9_lookForField_12 : decode cX9_lookForField 12 = .ok (.iload 4, 2) := by decide +kernel
theorem dX9_lookForField_14 : decode cX9_lookForField 14 = .ok (.if_icmp .ge 99, 3) := by decide +kernel
theorem dX9_lookForField_17 : decode cX9_lookForField 17 = .ok (.aload_n 0, 1) := by decide +kernel
theorem dX9_lookForField_18 : decode cX9_lookForField 18 = .ok (.iconst 1, 1) := by decide +kernel
theorem dX9_lookForField_19 : decode cX9_lookForField 19 = .ok (.putfield 249, 3) := by decide +kernel
theorem dX9_lookForField_22 : decode cX9_lookForField 22 = .ok (.aload_n 0, 1) := by decide +kernel
theorem dX9_lookForField_23 : decode cX9_lookForField 23 = .ok (.getfield 78, 3) := by decide +kernel
theorem dX9_lookForField_26 : decode cX9_lookForField 26 = .ok (.iconst 0, 1) := by decide +kernel
theorem dX9_lookForField_27 : decode cX9_lookForField 27 = .ok (.aload_n 0, 1) := by decide +kernel
theorem dX9_lookForField_28 : decode cX9_lookForField 28 = .ok (.getfield 84, 3) := by decide +kernel
theorem dX9_lookForField_31 : decode cX9_lookForField 31 = .ok (.iload 5, 2) := by decide +kernel
theorem dX9_lookForField_33 : decode cX9_lookForField 33 = .ok (.iaload, 1) := by decide +kernel
theorem dX9_lookForField_34 : decode cX9_lookForField 34 = .ok (.iastore, 1) := by decide +kernel
theorem dX9_lookForField_35 : decode cX9_lookForField 35 = .ok (.aload_n 0, 1) := by decide +kernel
theorem dX9_lookForField_36 : decode cX9_lookForField 36 = .ok (.aload_n 0, 1) := by decide +kernel
theorem dX9_lookForField_37 : decode cX9_lookForField 37 = .ok (.getfield 84, 3) := by decide +kernel
theorem dX9_lookForField_40 : decode cX9_lookForField 40 = .ok (.iload 5, 2) := by decide +kernel
theorem dX9_lookForField_42 : decode cX9_lookForField 42 = .ok (.iaload, 1) := by decide +kernel
theorem dX9_lookForField_43 : decode cX9_lookForField 43 = .ok (.invokevirtual 259, 3) := by decide +kernel
theorem dX9_lookForField_46 : decode cX9_lookForField 46 = .ok (.iconst 0, 1) := by decide +kernel
theorem dX9_lookForField_47 : decode cX9_lookForField 47 = .ok (.istore 6, 2) := by decide +kernel
theorem dX9_lookForField_49 : decode cX9_lookForField 49 = .ok (.iload 6, 2) := by decide +kernel
theorem dX9_lookForField_51 : decode cX9_lookForField 51 = .ok (.aload_n 0, 1) := by decide +kernel
theorem dX9_lookForField_52 : decode cX9_lookForField 52 = .ok (.getfield 249, 3) := by decide +kernel
theorem dX9_lookForField_55 : decode cX9_lookForField 55 = .ok (.if_icmp .ge 52, 3) := by decide +kernel
theorem dX9_lookForField_58 : decode cX9_lookForField 58 = .ok (.aload_n 0, 1) := by decide +kernel
theorem dX9_lookForField_59 : decode cX9_lookForField 59 = .ok (.aload_n 0, 1) := by decide +kernel
theorem dX9_lookForField_60 : decode cX9_lookForField 60 = .ok (.getfield 78, 3) := by decide +kernel
theorem dX9_lookForField_63 : decode cX9_lookForField 63 = .ok (.iload 6, 2) := by decide +kernel
theorem dX9_lookForField_65 : decode cX9_lookForField 65 = .ok (.iaload, 1) := by decide +kernel
theorem dX9_lookForField_66 : decode cX9_lookForField 66 = .ok (.iconst 0, 1) := by decide +kernel
theorem dX9_lookForField_67 : decode cX9_lookForField 67 = .ok (.iload_n 2, 1) := by decide +kernel
theorem dX9_lookForField_68 : decode cX9_lookForField 68 = .ok (.bipush (-2), 2) := by decide +kernel
theorem dX9_lookForField_70 : decode cX9_lookForField 70 = .ok (.bipush (-2), 2) := by decide +kernel
theorem dX9_lookForField_72 : decode cX9_lookForField 72 = .ok (.invokevirtual 147, 3) := by decide +kernel
theorem dX9_lookForField_75 : decode cX9_lookForField 75 = .ok (.istore 7, 2) := by decide +kernel
theorem dX9_lookForField_77 : decode cX9_lookForField 77 = .ok (.iload 7, 2) := by decide +kernel
theorem dX9_lookForField_79 : decode cX9_lookForField 79 = .ok (.ifCond .lt 22, 3) := by decide +kernel
theorem dX9_lookForField_82 : decode cX9_lookForField 82 = .ok (.iload_n 3, 1) := by decide +kernel
theorem dX9_lookForField_83 : decode cX9_lookForField 83 = .ok (.ifCond .eq 15, 3) := by decide +kernel
theorem dX9_lookForField_86 : decode cX9_lookForField 86 = .ok (.aload_n 0, 1) := by decide +kernel
theorem dX9_lookForField_87 : decode cX9_lookForField 87 = .ok (.getfield 38, 3) := by decide +kernel
theorem dX9_lookForField_90 : decode cX9_lookForField 90 = .ok (.iload 7, 2) := by decide +kernel
theorem dX9_lookForField_92 : decode cX9_lookForField 92 = .ok (.iaload, 1) := by decide +kernel
theorem dX9_lookForField_93 : decode cX9_lookForField 93 = .ok (.iconst 4, 1) := by decide +kernel
theorem dX9_lookForField_94 : decode cX9_lookForField 94 = .ok (.iand, 1) := by decide +kernel
theorem dX9_lookForField_95 : decode cX9_lookForField 95 = .ok (.ifCond .ne 6, 3) := by decide +kernel
theorem dX9_lookForField_98 : decode cX9_lookForField 98 = .ok (.iload 7, 2) := by decide +kernel
theorem dX9_lookForField_100 : decode cX9_lookForField 100 = .ok (.ireturn, 1) := by decide +kernel
theorem dX9_lookForField_101 : decode cX9_lookForField 101 = .ok (.iinc 6 1, 3) := by decide +kernel
theorem dX9_lookForField_104 : decode cX9_lookForField 104 = .ok (.goto (-55), 3) := by decide +kernel
theorem dX9_lookForField_107 : decode cX9_lookForField 107 = .ok (.iinc 5 1, 3) := by decide +kernel
theorem dX9_lookForField_110 : decode cX9_lookForField 110 = .ok (.goto (-100), 3) := by decide +kernel
theorem dX9_lookForField_113 : decode cX9_lookForField 113 = .ok (.bipush (-2), 2) := by decide +kernel
theorem dX9_lookForField_115 : decode cX9_lookForField 115 = .ok (.ireturn, 1) := by decide +kernel
theorem dX9_lookForMethod_0 : decode cX9_lookForMethod 0 = .ok (.aload_n 0, 1) := by decide +kernel
theorem dX9_lookForMethod_1 : decode cX9_lookForMethod 1 = .ok (.iload_n 1, 1) := by decide +kernel
theorem dX9_lookForMethod_2 : decode cX9_lookForMethod 2 = .ok (.invokevirtual 256, 3) := by decide +kernel
theorem dX9_lookForMethod_5 : decode cX9_lookForMethod 5 = .ok (.istore 5, 2) := by decide +kernel
theorem dX9_lookForMethod_7 : decode cX9_lookForMethod 7 = .ok (.iconst 0, 1) := by decide +kernel
theorem dX9_lookForMethod_8 : decode cX9_lookForMethod 8 = .ok (.istore 6, 2) := by decide +kernel
theorem dX9_lookForMethod_10 : decode cX9_lookForMethod 10 = .ok (.iload 6, 2) := by decide +kernel
theorem dX9_lookForMethod_12 : decode cX9_lookForMethod 12 = .ok (.iload 5, 2) := by decide +kernel
theorem dX9_lookForMethod_14 : decode cX9_lookForMethod 14 = .ok (.if_icmp .ge 35, 3) := by decide +kernel
theorem dX9_lookForMethod_17 : decode cX9_lookForMethod 17 = .ok (.aload_n 0, 1) := by decide +kernel
theorem dX9_lookForMethod_18 : decode cX9_lookForMethod 18 = .ok (.aload_n 0, 1) := by decide +kernel
theorem dX9_lookForMethod_19 : decode cX9_lookForMethod 19 = .ok (.getfield 84, 3) := by decide +kernel
theorem dX9_lookForMethod_22 : decode cX9_lookForMethod 22 = .ok (.iload 6, 2) := by decide +kernel
theorem dX9_lookForMethod_24 : decode cX9_lookForMethod 24 = .ok (.iaload, 1) := by decide +kernel
theorem dX9_lookForMethod_25 : decode cX9_lookForMethod 25 = .ok (.iconst 1, 1) := by decide +kernel
theorem dX9_lookForMethod_26 : decode cX9_lookForMethod 26 = .ok (.iload_n 2, 1) := by decide +kernel
theorem dX9_lookForMethod_27 : decode cX9_lookForMethod 27 = .ok (.iload_n 3, 1) := by decide +kernel
theorem dX9_lookForMethod_28 : decode cX9_lookForMethod 28 = .ok (.iload 4, 2) := by decide +kernel
theorem dX9_lookForMethod_30 : decode cX9_lookForMethod 30 = .ok (.invokevirtual 147, 3) := by decide +kernel
theorem dX9_lookForMethod_33 : decode cX9_lookForMethod 33 = .ok (.istore 7, 2) := by decide +kernel
theorem dX9_lookForMethod_35 : decode cX9_lookForMethod 35 = .ok (.iload 7, 2) := by decide +kernel
theorem dX9_lookForMethod_37 : decode cX9_lookForMethod 37 = .ok (.ifCond .lt 6, 3) := by decide +kernel
theorem dX9_lookForMethod_40 : decode cX9_lookForMethod 40 = .ok (.iload 7, 2) := by decide +kernel
theorem dX9_lookForMethod_42 : decode cX9_lookForMethod 42 = .ok (.ireturn, 1) := by decide +kernel
