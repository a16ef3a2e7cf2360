theorem dX5_failureOfNew_29 : decode cX5_failureOfNew 29 = .ok (.iconst 0, 1) := by decide +kernel
theorem dX5_failureOfNew_30 : decode cX5_failureOfNew 30 = .ok (.ireturn, 1) := by decide +kernel
theorem dX5_failureOfFound_0 : decode cX5_failureOfFound 0 = .ok (.aload_n 0, 1) := by decide +kernel
theorem dX5_failureOfFound_1 : decode cX5_failureOfFound 1 = .ok (.getfield 9, 3) := by decide +kernel
theorem dX5_failureOfFound_4 : decode cX5_failureOfFound 4 = .ok (.getfield 72, 3) := by decide +kernel
theorem dX5_failureOfFound_7 : decode cX5_failureOfFound 7 = .ok (.iload_n 2, 1) := by decide +kernel
theorem dX5_failureOfFound_8 : decode cX5_failureOfFound 8 = .ok (.invokevirtual 132, 3) := by decide +kernel
theorem dX5_failureOfFound_11 : decode cX5_failureOfFound 11 = .ok (.ifCond .ne 5, 3) := by decide +kernel
theorem dX5_failureOfFound_14 : decode cX5_failureOfFound 14 = .ok (.iconst 3, 1) := by decide +kernel
theorem dX5_failureOfFound_15 : decode cX5_failureOfFound 15 = .ok (.ireturn, 1) := by decide +kernel
theorem dX5_failureOfFound_16 : decode cX5_failureOfFound 16 = .ok (.aload_n 0, 1) := by decide +kernel
theorem dX5_failureOfFound_17 : decode cX5_failureOfFound 17 = .ok (.getfield 9, 3) := by decide +kernel
theorem dX5_failureOfFound_20 : decode cX5_failureOfFound 20 = .ok (.getfield 72, 3) := by decide +kernel
theorem dX5_failureOfFound_23 : decode cX5_failureOfFound 23 = .ok (.iload_n 2, 1) := by decide +kernel
theorem dX5_failureOfFound_24 : decode cX5_failureOfFound 24 = .ok (.iconst 4, 1) := by decide +kernel
theorem dX5_failureOfFound_25 : decode cX5_failureOfFound 25 = .ok (.invokevirtual 135, 3) := by decide +kernel
theorem dX5_failureOfFound_28 : decode cX5_failureOfFound 28 = .ok (.ifCond .eq 5, 3) := by decide +kernel
theorem dX5_failureOfFound_31 : decode cX5_failureOfFound 31 = .ok (.iconst 4, 1) := by decide +kernel
theorem dX5_failureOfFound_32 : decode cX5_failureOfFound 32 = .ok (.ireturn, 1) := by decide +kernel
theorem dX5_failureOfFound_33 : decode cX5_failureOfFound 33 = .ok (.aload_n 0, 1) := by decide +kernel
theorem dX5_failureOfFound_34 : decode cX5_failureOfFound 34 = .ok (.getfield 9, 3) := by decide +kernel
theorem dX5_failureOfFound_37 : decode cX5_failureOfFound 37 = .ok (.getfield 72, 3) := by decide +kernel
theorem dX5_failureOfFound_40 : decode cX5_failureOfFound 40 = .ok (.iload_n 2, 1) := by decide +kernel
theorem dX5_failureOfFound_41 : decode cX5_failureOfFound 41 = .ok (.iconst 1, 1) := by decide +kernel
theorem dX5_failureOfFound_42 : decode cX5_failureOfFound 42 = .ok (.invokevirtual 135, 3) := by decide +kernel
theorem dX5_failureOfFound_45 : decode cX5_failureOfFound 45 = .ok (.aload_n 1, 1) := by decide +kernel
theorem dX5_failureOfFound_46 : decode cX5_failureOfFound 46 = .ok (.getfield 86, 3) := by decide +kernel
theorem dX5_failureOfFound_49 : decode cX5_failureOfFound 49 = .ok (.if_icmp .eq 7, 3) := by decide +kernel
theorem dX5_failureOfFound_52 : decode cX5_failureOfFound 52 = .ok (.iconst 5, 1) := by decide +kernel
theorem dX5_failureOfFound_53 : decode cX5_failureOfFound 53 = .ok (.goto 4, 3) := by decide +kernel
theorem dX5_failureOfFound_56 : decode cX5_failureOfFound 56 = .ok (.iconst 0, 1) := by decide +kernel
theorem dX5_failureOfFound_57 : decode cX5_failureOfFound 57 = .ok (.ireturn, 1) := by decide +kernel
theorem dX5_failureOfObject_0 : decode cX5_failureOfObject 0 = .ok (.aload_n 0, 1) := by decide +kernel
theorem dX5_failureOfObject_1 : decode cX5_failureOfObject 1 = .ok (.getfield 9, 3) := by decide +kernel
theorem dX5_failureOfObject_4 : decode cX5_failureOfObject 4 = .ok (.iload_n 2, 1) := by decide +kernel
theorem dX5_failureOfObject_5 : decode cX5_failureOfObject 5 = .ok (.invokevirtual 54, 3) := by decide +kernel
theorem dX5_failureOfObject_8 : decode cX5_failureOfObject 8 = .ok (.istore_n 3, 1) := by decide +kernel
theorem dX5_failureOfObject_9 : decode cX5_failureOfObject 9 = .ok (.iload_n 3, 1) := by decide +kernel
theorem dX5_failureOfObject_10 : decode cX5_failureOfObject 10 = .ok (.ifCond .eq 5, 3) := by decide +kernel
theorem dX5_failureOfObject_13 : decode cX5_failureOfObject 13 = .ok (.iload_n 3, 1) := by decide +kernel
theorem dX5_failureOfObject_14 : decode cX5_failureOfObject 14 = .ok (.ireturn, 1) := by decide +kernel
theorem dX5_failureOfObject_15 : decode cX5_failureOfObject 15 = .ok (.aload_n 0, 1) := by decide +kernel
theorem dX5_failureOfObject_16 : decode cX5_failureOfObject 16 = .ok (.getfield 9, 3) := by decide +kernel
theorem dX5_failureOfObject_19 : decode cX5_failureOfObject 19 = .ok (.getfield 19, 3) := by decide +kernel
theorem dX5_failureOfObject_22 : decode cX5_failureOfObject 22 = .ok (.iload_n 2, 1) := by decide +kernel
theorem dX5_failureOfObject_23 : decode cX5_failureOfObject 23 = .ok (.aload_n 1, 1) := by decide +kernel
theorem dX5_failureOfObject_24 : decode cX5_failureOfObject 24 = .ok (.getfield 25, 3) := by decide +kernel
theorem dX5_failureOfObject_27 : decode cX5_failureOfObject 27 = .ok (.invokevirtual 138, 3) := by decide +kernel
theorem dX5_failureOfObject_30 : decode cX5_failureOfObject 30 = .ok (.ifCond .eq 7, 3) := by decide +kernel
theorem dX5_failureOfObject_33 : decode cX5_failureOfObject 33 = .ok (.iconst 0, 1) := by decide +kernel
theorem dX5_failureOfObject_34 : decode cX5_failureOfObject 34 = .ok (.goto 5, 3) := by decide +kernel
theorem dX5_failureOfObject_37 : decode cX5_failureOfObject 37 = .ok (.bipush 6, 2) := by decide +kernel
theorem dX5_failureOfObject_39 : decode cX5_failureOfObject 39 = .ok (.ireturn, 1) := by decide +kernel
theorem dX6_init_0 : decode cX6_init 0 = .ok (.aload_n 0, 1) := by decide +kernel
theorem dX6_init_1 : decode cX6_init 1 = .ok (.invokespecial 3, 3) := by decide +kernel
theorem dX6_init_4 : decode cX6_init 4 = .ok (.aload_n 0, 1) := by decide +kernel
theorem dX6_init_5 : decode cX6_init 5 = .ok (.bipush 60, 2) := by decide +kernel
theorem dX6_init_7 : decode cX6_init 7 = .ok (.newarray .int, 2) := by decide +kernel
theorem dX6_init_9 : decode cX6_init 9 = .ok (.putfield 11, 3) := by decide +kernel
theorem dX6_init_12 : decode cX6_init 12 = .ok (.aload_n 0, 1) := by decide +kernel
theorem dX6_init_13 : decode cX6_init 13 = .ok (.bipush 60, 2) := by decide +kernel
theorem dX6_init_15 : decode cX6_init 15 = .ok (.newarray .boolean, 2) := by decide +kernel
theorem dX6_init_17 : decode cX6_init 17 = .ok (.putfield 15, 3) := by decide +kernel
theorem dX6_init_20 : decode cX6_init 20 = .ok (.aload_n 0, 1) := by decide +kernel
theorem dX6_init_21 : decode cX6_init 21 = .ok (.bipush 60, 2) := by decide +kernel
theorem dX6_init_23 : decode cX6_init 23 = .ok (.newarray .int, 2) := by decide +kernel
theorem dX6_init_25 : decode cX6_init 25 = .ok (.putfield 19, 3) := by decide +kernel
theorem dX6_init_28 : decode cX6_init 28 = .ok (.aload_n 0, 1) := by decide +kernel
theorem dX6_init_29 : decode cX6_init 29 = .ok (.bipush 60, 2) := by decide +kernel
theorem dX6_init_31 : decode cX6_init 31 = .ok (.newarray .int, 2) := by decide +kernel
theorem dX6_init_33 : decode cX6_init 33 = .ok (.putfield 22, 3) := by decide +kernel
theorem dX6_init_36 : decode cX6_init 36 = .ok (.aload_n 0, 1) := by decide +kernel
theorem dX6_init_37 : decode cX6_init 37 = .ok (.bipush 60, 2) := by decide +kernel
theorem dX6_init_39 : decode cX6_init 39 = .ok (.newarray .int, 2) := by decide +kernel
theorem dX6_init_41 : decode cX6_init 41 = .ok (.putfield 25, 3) := by decide +kernel
theorem dX6_init_44 : decode cX6_init 44 = .ok (.aload_n 0, 1) := by decide +kernel
theorem dX6_init_45 : decode cX6_init 45 = .ok (.bipush 60, 2) := by decide +kernel
theorem dX6_init_47 : decode cX6_init 47 = .ok (.newarray .int, 2) := by decide +kernel
theorem dX6_init_49 : decode cX6_init 49 = .ok (.putfield 28, 3) := by decide +kernel
theorem dX6_init_52 : decode cX6_init 52 = .ok (.aload_n 0, 1) := by decide +kernel
theorem dX6_init_53 : decode cX6_init 53 = .ok (.bipush 60, 2) := by decide +kernel
theorem dX6_init_55 : decode cX6_init 55 = .ok (.newarray .long, 2) := by decide +kernel
theorem dX6_init_57 : decode cX6_init 57 = .ok (.putfield 31, 3) := by decide +kernel
theorem dX6_init_60 : decode cX6_init 60 = .ok (.iconst 0, 1) := by decide +kernel
theorem dX6_init_61 : decode cX6_init 61 = .ok (.istore_n 1, 1) := by decide +kernel
theorem dX6_init_62 : decode cX6_init 62 = .ok (.iload_n 1, 1) := by decide +kernel
theorem dX6_init_63 : decode cX6_init 63 = .ok (.bipush 60, 2) := by decide +kernel
theorem dX6_init_65 : decode cX6_init 65 = .ok (.if_icmp .ge 17, 3) := by decide +kernel
theorem dX6_init_68 : decode cX6_init 68 = .ok (.aload_n 0, 1) := by decide +kernel
theorem dX6_init_69 : decode cX6_init 69 = .ok (.getfield 11, 3) := by decide +kernel
theorem dX6_init_72 : decode cX6_init 72 = .ok (.iload_n 1, 1) := by decide +kernel
theorem dX6_init_73 : decode cX6_init 73 = .ok (.bipush (-2), 2) := by decide +kernel
theorem dX6_init_75 : decode cX6_init 75 = .ok (.iastore, 1) := by decide +kernel
theorem dX6_init_76 : decode cX6_init 76 = .ok (.iinc 1 1, 3) := by decide +kernel
theorem dX6_init_79 : decode cX6_init 79 = .ok (.goto (-17), 3) := by decide +kernel
theorem dX6_init_82 : decode cX6_init 82 = .ok (.return_, 1) := by decide +kernel
theorem dX6_clear_0 : decode cX6_clear 0 = .ok (.aload_n 0, 1) := by decide +kernel
theorem dX6_clear_1 : decode cX6_clear 1 = .ok (.iconst 0, 1) := by decide +kernel
theorem dX6_clear_2 : decode cX6_clear 2 = .ok (.putfield 35, 3) := by decide +kernel
theorem dX6_clear_5 : decode cX6_clear 5 = .ok (.iconst 0, 1) := by decide +kernel
theorem dX6_clear_6 : decode cX6_clear 6 = .ok (.istore_n 1, 1) := by decide +kernel
theorem dX6_clear_7 : decode cX6_clear 7 = .ok (.iload_n 1, 1) := by decide +kernel
theorem dX6_clear_8 : decode cX6_clear 8 = .ok (.bipush 60, 2) := by decide +kernel
theorem dX6_clear_10 : decode cX6_clear 10 = .ok (.if_icmp .ge 17, 3) := by decide +kernel
theorem dX6_clear_13 : decode cX6_clear 13 = .ok (.aload_n 0, 1) := by decide +kernel
theorem dX6_clear_14 : decode cX6_clear 14 = .ok (.getfield 11, 3) := by decide +kernel
theorem dX6_clear_17 : decode cX6_clear 17 = .ok (.iload_n 1, 1) := by decide +kernel
theorem dX6_clear_18 : decode cX6_clear 18 = .ok (.bipush (-2), 2) := by decide +kernel
theorem dX6_clear_20 : decode cX6_clear 20 = .ok (.iastore, 1) := by decide +kernel
theorem dX6_clear_21 : decode cX6_clear 21 = .ok (.iinc 1 1, 3) := by decide +kernel
theorem dX6_clear_24 : decode cX6_clear 24 = .ok (.goto (-17), 3) := by decide +kernel
theorem dX6_clear_27 : decode cX6_clear 27 = .ok (.return_, 1) := by decide +kernel
theorem dX6_isName_0 : decode cX6_isName 0 = .ok (.iload_n 0, 1) := by decide +kernel
theorem dX6_isName_1 : decode cX6_isName 1 = .ok (.ifCond .lt 13, 3) := by decide +kernel
theorem dX6_isName_4 : decode cX6_isName 4 = .ok (.iload_n 0, 1) := by decide +kernel
theorem dX6_isName_5 : decode cX6_isName 5 = .ok (.bipush 9, 2) := by decide +kernel
theorem dX6_isName_7 : decode cX6_isName 7 = .ok (.if_icmp .gt 7, 3) := by decide +kernel
theorem dX6_isName_10 : decode cX6_isName 10 = .ok (.iconst 1, 1) := by decide +kernel
theorem dX6_isName_11 : decode cX6_isName 11 = .ok (.goto 4, 3) := by decide +kernel
theorem dX6_isName_14 : decode cX6_isName 14 = .ok (.iconst 0, 1) := by decide +kernel
theorem dX6_isName_15 : decode cX6_isName 15 = .ok (.ireturn, 1) := by decide +kernel
theorem dX6_isFull_0 : decode cX6_isFull 0 = .ok (.aload_n 0, 1) := by decide +kernel
theorem dX6_isFull_1 : decode cX6_isFull 1 = .ok (.getfield 35, 3) := by decide +kernel
theorem dX6_isFull_4 : decode cX6_isFull 4 = .ok (.bipush 60, 2) := by decide +kernel
theorem dX6_isFull_6 : decode cX6_isFull 6 = .ok (.if_icmp .lt 7, 3) := by decide +kernel
theorem dX6_isFull_9 : decode cX6_isFull 9 = .ok (.iconst 1, 1) := by decide +kernel
theorem dX6_isFull_10 : decode cX6_isFull 10 = .ok (.goto 4, 3) := by decide +kernel
theorem dX6_isFull_13 : decode cX6_isFull 13 = .ok (.iconst 0, 1) := by decide +kernel
theorem dX6_isFull_14 : decode cX6_isFull 14 = .ok (.ireturn, 1) := by decide +kernel
theorem dX6_isMember_0 : decode cX6_isMember 0 = .ok (.iload_n 1, 1) := by decide +kernel
theorem dX6_isMember_1 : decode cX6_isMember 1 = .ok (.ifCond .lt 24, 3) := by decide +kernel
theorem dX6_isMember_4 : decode cX6_isMember 4 = .ok (.iload_n 1, 1) := by decide +kernel
theorem dX6_isMember_5 : decode cX6_isMember 5 = .ok (.bipush 60, 2) := by decide +kernel
theorem dX6_isMember_7 : decode cX6_isMember 7 = .ok (.if_icmp .ge 18, 3) := by decide +kernel
theorem dX6_isMember_10 : decode cX6_isMember 10 = .ok (.aload_n 0, 1) := by decide +kernel
theorem dX6_isMember_11 : decode cX6_isMember 11 = .ok (.getfield 11, 3) := by decide +kernel
theorem dX6_isMember_14 : decode cX6_isMember 14 = .ok (.iload_n 1, 1) := by decide +kernel
theorem dX6_isMember_15 : decode cX6_isMember 15 = .ok (.iaload, 1) := by decide +kernel
theorem dX6_isMember_16 : decode cX6_isMember 16 = .ok (.bipush (-2), 2) := by decide +kernel
theorem dX6_isMember_18 : decode cX6_isMember 18 = .ok (.if_icmp .eq 7, 3) := by decide +kernel
theorem dX6_isMember_21 : decode cX6_isMember 21 = .ok (.iconst 1, 1) := by decide +kernel
theorem dX6_isMember_22 : decode cX6_isMember 22 = .ok (.goto 4, 3) := by decide +kernel
theorem dX6_isMember_25 : decode cX6_isMember 25 = .ok (.iconst 0, 1) := by decide +kernel
theorem dX6_isMember_26 : decode cX6_isMember 26 = .ok (.ireturn, 1) := by decide +kernel
theorem dX6_isMethod_0 : decode cX6_isMethod 0 = .ok (.iload_n 1, 1) := by decide +kernel
theorem dX6_isMethod_1 : decode cX6_isMethod 1 = .ok (.ifCond .lt 33, 3) := by decide +kernel
theorem dX6_isMethod_4 : decode cX6_isMethod 4 = .ok (.iload_n 1, 1) := by decide +kernel
theorem dX6_isMethod_5 : decode cX6_isMethod 5 = .ok (.bipush 60, 2) := by decide +kernel
theorem dX6_isMethod_7 : decode cX6_isMethod 7 = .ok (.if_icmp .ge 27, 3) := by decide +kernel
theorem dX6_isMethod_10 : decode cX6_isMethod 10 = .ok (.aload_n 0, 1) := by decide +kernel
theorem dX6_isMethod_11 : decode cX6_isMethod 11 = .ok (.getfield 11, 3) := by decide +kernel
theorem dX6_isMethod_14 : decode cX6_isMethod 14 = .ok (.iload_n 1, 1) := by decide +kernel
theorem dX6_isMethod_15 : decode cX6_isMethod 15 = .ok (.iaload, 1) := by decide +kernel
theorem dX6_isMethod_16 : decode cX6_isMethod 16 = .ok (.bipush (-2), 2) := by decide +kernel
theorem dX6_isMethod_18 : decode cX6_isMethod 18 = .ok (.if_icmp .eq 16, 3) := by decide +kernel
theorem dX6_isMethod_21 : decode cX6_isMethod 21 = .ok (.aload_n 0, 1) := by decide +kernel
theorem dX6_isMethod_22 : decode cX6_isMethod 22 = .ok (.getfield 15, 3) := by decide +kernel
theorem dX6_isMethod_25 : decode cX6_isMethod 25 = .ok (.iload_n 1, 1) := by decide +kernel
theorem dX6_isMethod_26 : decode cX6_isMethod 26 = .ok (.baload, 1) := by decide +kernel
theorem dX6_isMethod_27 : decode cX6_isMethod 27 = .ok (.ifCond .eq 7, 3) := by decide +kernel
theorem dX6_isMethod_30 : decode cX6_isMethod 30 = .ok (.iconst 1, 1) := by decide +kernel
theorem dX6_isMethod_31 : decode cX6_isMethod 31 = .ok (.goto 4, 3) := by decide +kernel
theorem dX6_isMethod_34 : decode cX6_isMethod 34 = .ok (.iconst 0, 1) := by decide +kernel
theorem dX6_isMethod_35 : decode cX6_isMethod 35 = .ok (.ireturn, 1) := by decide +kernel
theorem dX6_isField_0 : decode cX6_isField 0 = .ok (.iload_n 1, 1) := by decide +kernel
theorem dX6_isField_1 : decode cX6_isField 1 = .ok (.ifCond .lt 33, 3) := by decide +kernel
theorem dX6_isField_4 : decode cX6_isField 4 = .ok (.iload_n 1, 1) := by decide +kernel
theorem dX6_isField_5 : decode cX6_isField 5 = .ok (.bipush 60, 2) := by decide +kernel
theorem dX6_isField_7 : decode cX6_isField 7 = .ok (.if_icmp .ge 27, 3) := by decide +kernel
theorem dX6_isField_10 : decode cX6_isField 10 = .ok (.aload_n 0, 1) := by decide +kernel
theorem dX6_isField_11 : decode cX6_isField 11 = .ok (.getfield 11, 3) := by decide +kernel
theorem dX6_isField_14 : decode cX6_isField 14 = .ok (.iload_n 1, 1) := by decide +kernel
theorem dX6_isField_15 : decode cX6_isField 15 = .ok (.iaload, 1) := by decide +kernel
theorem dX6_isField_16 : decode cX6_isField 16 = .ok (.bipush (-2), 2) := by decide +kernel
theorem dX6_isField_18 : decode cX6_isField 18 = .ok (.if_icmp .eq 16, 3) := by decide +kernel
theorem dX6_isField_21 : decode cX6_isField 21 = .ok (.aload_n 0, 1) := by decide +kernel
theorem dX6_isField_22 : decode cX6_isField 22 = .ok (.getfield 15, 3) := by decide +kernel
theorem dX6_isField_25 : decode cX6_isField 25 = .ok (.iload_n 1, 1) := by decide +kernel
theorem dX6_isField_26 : decode cX6_isField 26 = .ok (.baload, 1) := by decide +kernel
theorem dX6_isField_27 : decode cX6_isField 27 = .ok (.ifCond .ne 7, 3) := by decide +kernel
theorem dX6_isField_30 : decode cX6_isField 30 = .ok (.iconst 1, 1) := by decide +kernel
theorem dX6_isField_31 : decode cX6_isField 31 = .ok (.goto 4, 3) := by decide +kernel
theorem dX6_isField_34 : decode cX6_isField 34 = .ok (.iconst 0, 1) := by decide +kernel
theorem dX6_isField_35 : decode cX6_isField 35 = .ok (.ireturn, 1) := by decide +kernel
theorem dX6_has_0 : decode cX6_has 0 = .ok (.iload_n 1, 1) := by decide +kernel
theorem dX6_has_1 : decode cX6_has 1 = .ok (.ifCond .lt 35, 3) := by decide +kernel
theorem dX6_has_4 : decode cX6_has 4 = .ok (.iload_n 1, 1) := by decide +kernel
theorem dX6_has_5 : decode cX6_has 5 = .ok (.bipush 60, 2) := by decide +kernel
theorem dX6_has_7 : decode cX6_has 7 = .ok (.if_icmp .ge 29, 3) := by decide +kernel
theorem dX6_has_10 : decode cX6_has 10 = .ok (.aload_n 0, 1) := by decide +kernel
theorem dX6_has_11 : decode cX6_has 11 = .ok (.getfield 11, 3) := by decide +kernel
theorem dX6_has_14 : decode cX6_has 14 = .ok (.iload_n 1, 1) := by decide +kernel
theorem dX6_has_15 : decode cX6_has 15 = .ok (.iaload, 1) := by decide +kernel
theorem dX6_has_16 : decode cX6_has 16 = .ok (.bipush (-2), 2) := by decide +kernel
theorem dX6_has_18 : decode cX6_has 18 = .ok (.if_icmp .eq 18, 3) := by decide +kernel
theorem dX6_has_21 : decode cX6_has 21 = .ok (.aload_n 0, 1) := by decide +kernel
theorem dX6_has_22 : decode cX6_has 22 = .ok (.getfield 22, 3) := by decide +kernel
theorem dX6_has_25 : decode cX6_has 25 = .ok (.iload_n 1, 1) := by decide +kernel
theorem dX6_has_26 : decode cX6_has 26 = .ok (.iaload, 1) := by decide +kernel
theorem dX6_has_27 : decode cX6_has 27 = .ok (.iload_n 2, 1) := by decide +kernel
theorem dX6_has_28 : decode cX6_has 28 = .ok (.iand, 1) := by decide +kernel
theorem dX6_has_29 : decode cX6_has 29 = .ok (.ifCond .eq 7, 3) := by decide +kernel
theorem dX6_has_32 : decode cX6_has 32 = .ok (.iconst 1, 1) := by decide +kernel
theorem dX6_has_33 : decode cX6_has 33 = .ok (.goto 4, 3) := by decide +kernel
theorem dX6_has_36 : decode cX6_has 36 = .ok (.iconst 0, 1) := by decide +kernel
theorem dX6_has_37 : decode cX6_has 37 = .ok (.ireturn, 1) := by decide +kernel
theorem dX6_isOpen_0 : decode cX6_isOpen 0 = .ok (.iload_n 1, 1) := by decide +kernel
theorem dX6_isOpen_1 : decode cX6_isOpen 1 = .ok (.ifCond .lt 44, 3) := by decide +kernel
theorem dX6_isOpen_4 : decode cX6_isOpen 4 = .ok (.iload_n 1, 1) := by decide +kernel
theorem dX6_isOpen_5 : decode cX6_isOpen 5 = .ok (.bipush 60, 2) := by decide +kernel
theorem dX6_isOpen_7 : decode cX6_isOpen 7 = .ok (.if_icmp .ge 38, 3) := by decide +kernel
theorem dX6_isOpen_10 : decode cX6_isOpen 10 = .ok (.aload_n 0, 1) := by decide +kernel
theorem dX6_isOpen_11 : decode cX6_isOpen 11 = .ok (.getfield 11, 3) := by decide +kernel
theorem dX6_isOpen_14 : decode cX6_isOpen 14 = .ok (.iload_n 1, 1) := by decide +kernel
theorem dX6_isOpen_15 : decode cX6_isOpen 15 = .ok (.iaload, 1) := by decide +kernel
theorem dX6_isOpen_16 : decode cX6_isOpen 16 = .ok (.bipush (-2), 2) := by decide +kernel
theorem dX6_isOpen_18 : decode cX6_isOpen 18 = .ok (.if_icmp .eq 27, 3) := by decide +kernel
theorem dX6_isOpen_21 : decode cX6_isOpen 21 = .ok (.aload_n 0, 1) := by decide +kernel
theorem dX6_isOpen_22 : decode cX6_isOpen 22 = .ok (.getfield 15, 3) := by decide +kernel
theorem dX6_isOpen_25 : decode cX6_isOpen 25 = .ok (.iload_n 1, 1) := by decide +kernel
theorem dX6_isOpen_26 : decode cX6_isOpen 26 = .ok (.baload, 1) := by decide +kernel
theorem dX6_isOpen_27 : decode cX6_isOpen 27 = .ok (.ifCond .eq 18, 3) := by decide +kernel
theorem dX6_isOpen_30 : decode cX6_isOpen 30 = .ok (.aload_n 0, 1) := by decide +kernel
theorem dX6_isOpen_31 : decode cX6_isOpen 31 = .ok (.getfield 22, 3) := by decide +kernel
theorem dX6_isOpen_34 : decode cX6_isOpen 34 = .ok (.iload_n 1, 1) := by decide +kernel
theorem dX6_isOpen_35 : decode cX6_isOpen 35 = .ok (.iaload, 1) := by decide +kernel
theorem dX6_isOpen_36 : decode cX6_isOpen 36 = .ok (.iconst 5, 1) := by decide +kernel
theorem dX6_isOpen_37 : decode cX6_isOpen 37 = .ok (.iand, 1) := by decide +kernel
theorem dX6_isOpen_38 : decode cX6_isOpen 38 = .ok (.ifCond .ne 7, 3) := by decide +kernel
theorem dX6_isOpen_41 : decode cX6_isOpen 41 = .ok (.iconst 1, 1) := by decide +kernel
theorem dX6_isOpen_42 : decode cX6_isOpen 42 = .ok (.goto 4, 3) := by decide +kernel
theorem dX6_isOpen_45 : decode cX6_isOpen 45 = .ok (.iconst 0, 1) := by decide +kernel
theorem dX6_isOpen_46 : decode cX6_isOpen 46 = .ok (.ireturn, 1) := by decide +kernel
theorem dX6_fieldOf_0 : decode cX6_fieldOf 0 = .ok (.iconst 0, 1) := by decide +kernel
theorem dX6_fieldOf_1 : decode cX6_fieldOf 1 = .ok (.istore_n 3, 1) := by decide +kernel
theorem dX6_fieldOf_2 : decode cX6_fieldOf 2 = .ok (.iload_n 3, 1) := by decide +kernel
theorem dX6_fieldOf_3 : decode cX6_fieldOf 3 = .ok (.bipush 60, 2) := by decide +kernel
theorem dX6_fieldOf_5 : decode cX6_fieldOf 5 = .ok (.if_icmp .ge 40, 3) := by decide +kernel
theorem dX6_fieldOf_8 : decode cX6_fieldOf 8 = .ok (.aload_n 0, 1) := by decide +kernel
theorem dX6_fieldOf_9 : decode cX6_fieldOf 9 = .ok (.getfield 11, 3) := by decide +kernel
theorem dX6_fieldOf_12 : decode cX6_fieldOf 12 = .ok (.iload_n 3, 1) := by decide +kernel
theorem dX6_fieldOf_13 : decode cX6_fieldOf 13 = .ok (.iaload, 1) := by decide +kernel
theorem dX6_fieldOf_14 : decode cX6_fieldOf 14 = .ok (.iload_n 1, 1) := by decide +kernel
theorem dX6_fieldOf_15 : decode cX6_fieldOf 15 = .ok (.if_icmp .ne 24, 3) := by decide +kernel
theorem dX6_fieldOf_18 : decode cX6_fieldOf 18 = .ok (.aload_n 0, 1) := by decide +kernel
theorem dX6_fieldOf_19 : decode cX6_fieldOf 19 = .ok (.getfield 15, 3) := by decide +kernel
theorem dX6_fieldOf_22 : decode cX6_fieldOf 22 = .ok (.iload_n 3, 1) := by decide +kernel
theorem dX6_fieldOf_23 : decode cX6_fieldOf 23 = .ok (.baload, 1) := by decide +kernel
theorem dX6_fieldOf_24 : decode cX6_fieldOf 24 = .ok (.ifCond .ne 15, 3) := by decide +kernel
theorem dX6_fieldOf_27 : decode cX6_fieldOf 27 = .ok (.aload_n 0, 1) := by decide +kernel
theorem dX6_fieldOf_28 : decode cX6_fieldOf 28 = .ok (.getfield 19, 3) := by decide +kernel
theorem dX6_fieldOf_31 : decode cX6_fieldOf 31 = .ok (.iload_n 3, 1) := by decide +kernel
theorem dX6_fieldOf_32 : decode cX6_fieldOf 32 = .ok (.iaload, 1) := by decide +kernel
theorem dX6_fieldOf_33 : decode cX6_fieldOf 33 = .ok (.iload_n 2, 1) := by decide +kernel
theorem dX6_fieldOf_34 : decode cX6_fieldOf 34 = .ok (.if_icmp .ne 5, 3) := by decide +kernel
theorem dX6_fieldOf_37 : decode cX6_fieldOf 37 = .ok (.iload_n 3, 1) := by decide +kernel
theorem dX6_fieldOf_38 : decode cX6_fieldOf 38 = .ok (.ireturn, 1) := by decide +kernel
theorem dX6_fieldOf_39 : decode cX6_fieldOf 39 = .ok (.iinc 3 1, 3) := by decide +kernel
theorem dX6_fieldOf_42 : decode cX6_fieldOf 42 = .ok (.goto (-40), 3) := by decide +kernel
theorem dX6_fieldOf_45 : decode cX6_fieldOf 45 = .ok (.bipush (-2), 2) := by decide +kernel
theorem dX6_fieldOf_47 : decode cX6_fieldOf 47 = .ok (.ireturn, 1) := by decide +kernel
theorem dX6_methodOf_0 : decode cX6_methodOf 0 = .ok (.iconst 0, 1) := by decide +kernel
theorem dX6_methodOf_1 : decode cX6_methodOf 1 = .ok (.istore 5, 2) := by decide +kernel
theorem dX6_methodOf_3 : decode cX6_methodOf 3 = .ok (.iload 5, 2) := by decide +kernel
theorem dX6_methodOf_5 : decode cX6_methodOf 5 = .ok (.bipush 60, 2) := by decide +kernel
theorem dX6_methodOf_7 : decode cX6_methodOf 7 = .ok (.if_icmp .ge 67, 3) := by decide +kernel
theorem dX6_methodOf_10 : decode cX6_methodOf 10 = .ok (.aload_n 0, 1) := by decide +kernel
theorem dX6_methodOf_11 : decode cX6_methodOf 11 = .ok (.getfield 11, 3) := by decide +kernel
theorem dX6_methodOf_14 : decode cX6_methodOf 14 = .ok (.iload 5, 2) := by decide +kernel
theorem dX6_methodOf_16 : decode cX6_methodOf 16 = .ok (.iaload, 1) := by decide +kernel
theorem dX6_methodOf_17 : decode cX6_methodOf 17 = .ok (.iload_n 1, 1) := by decide +kernel
theorem dX6_methodOf_18 : decode cX6_methodOf 18 = .ok (.if_icmp .ne 50, 3) := by decide +kernel
theorem dX6_methodOf_21 : decode cX6_methodOf 21 = .ok (.aload_n 0, 1) := by decide +kernel
theorem dX6_methodOf_22 : decode cX6_methodOf 22 = .ok (.getfield 15, 3) := by decide +kernel
theorem dX6_methodOf_25 : decode cX6_methodOf 25 = .ok (.iload 5, 2) := by decide +kernel
theorem dX6_methodOf_27 : decode cX6_methodOf 27 = .ok (.baload, 1) := by decide +kernel
theorem dX6_methodOf_28 : decode cX6_methodOf 28 = .ok (.ifCond .eq 40, 3) := by decide +kernel
theorem dX6_methodOf_31 : decode cX6_methodOf 31 = .ok (.aload_n 0, 1) := by decide +kernel
theorem dX6_methodOf_32 : decode cX6_methodOf 32 = .ok (.getfield 19, 3) := by decide +kernel
theorem dX6_methodOf_35 : decode cX6_methodOf 35 = .ok (.iload 5, 2) := by decide +kernel
theorem dX6_methodOf_37 : decode cX6_methodOf 37 = .ok (.iaload, 1) := by decide +kernel
theorem dX6_methodOf_38 : decode cX6_methodOf 38 = .ok (.iload_n 2, 1) := by decide +kernel
theorem dX6_methodOf_39 : decode cX6_methodOf 39 = .ok (.if_icmp .ne 29, 3) := by decide +kernel
theorem dX6_methodOf_42 : decode cX6_methodOf 42 = .ok (.aload_n 0, 1) := by decide +kernel
theorem dX6_methodOf_43 : decode cX6_methodOf 43 = .ok (.getfield 25, 3) := by decide +kernel
theorem dX6_methodOf_46 : decode cX6_methodOf 46 = .ok (.iload 5, 2) := by decide +kernel
theorem dX6_methodOf_48 : decode cX6_methodOf 48 = .ok (.iaload, 1) := by decide +kernel
theorem dX6_methodOf_49 : decode cX6_methodOf 49 = .ok (.iload_n 3, 1) := by decide +kernel
theorem dX6_methodOf_50 : decode cX6_methodOf 50 = .ok (.if_icmp .ne 18, 3) := by decide +kernel
theorem dX6_methodOf_53 : decode cX6_methodOf 53 = .ok (.aload_n 0, 1) := by decide +kernel
theorem dX6_methodOf_54 : decode cX6_methodOf 54 = .ok (.getfield 28, 3) := by decide +kernel
theorem dX6_methodOf_57 : decode cX6_methodOf 57 = .ok (.iload 5, 2) := by decide +kernel
theorem dX6_methodOf_59 : decode cX6_methodOf 59 = .ok (.iaload, 1) := by decide +kernel
theorem dX6_methodOf_60 : decode cX6_methodOf 60 = .ok (.iload 4, 2) := by decide +kernel
theorem dX6_methodOf_62 : decode cX6_methodOf 62 = .ok (.if_icmp .ne 6, 3) := by decide +kernel
theorem dX6_methodOf_65 : decode cX6_methodOf 65 = .ok (.iload 5, 2) := by decide +kernel
theorem dX6_methodOf_67 : decode cX6_methodOf 67 = .ok (.ireturn, 1) := by decide +kernel
theorem dX6_methodOf_68 : decode cX6_methodOf 68 = .ok (.iinc 5 1, 3) := by decide +kernel
theorem dX6_methodOf_71 : decode cX6_methodOf 71 = .ok (.goto (-68), 3) := by decide +kernel
theorem dX6_methodOf_74 : decode cX6_methodOf 74 = .ok (.bipush (-2), 2) := by decide +kernel
theorem dX6_methodOf_76 : decode cX6_methodOf 76 = .ok (.ireturn, 1) := by decide +kernel
theorem dX6_likeIn_0 : decode cX6_likeIn 0 = .ok (.aload_n 0, 1) := by decide +kernel
theorem dX6_likeIn_1 : decode cX6_likeIn 1 = .ok (.iload_n 2, 1) := by decide +kernel
theorem dX6_likeIn_2 : decode cX6_likeIn 2 = .ok (.invokevirtual 39, 3) := by decide +kernel
theorem dX6_likeIn_5 : decode cX6_likeIn 5 = .ok (.ifCond .ne 6, 3) := by decide +kernel
theorem dX6_likeIn_8 : decode cX6_likeIn 8 = .ok (.bipush (-2), 2) := by decide +kernel
theorem dX6_likeIn_10 : decode cX6_likeIn 10 = .ok (.ireturn, 1) := by decide +kernel
theorem dX6_likeIn_11 : decode cX6_likeIn 11 = .ok (.aload_n 0, 1) := by decide +kernel
theorem dX6_likeIn_12 : decode cX6_likeIn 12 = .ok (.getfield 15, 3) := by decide +kernel
theorem dX6_likeIn_15 : decode cX6_likeIn 15 = .ok (.iload_n 2, 1) := by decide +kernel
theorem dX6_likeIn_16 : decode cX6_likeIn 16 = .ok (.baload, 1) := by decide +kernel
theorem dX6_likeIn_17 : decode cX6_likeIn 17 = .ok (.ifCond .eq 29, 3) := by decide +kernel
theorem dX6_likeIn_20 : decode cX6_likeIn 20 = .ok (.aload_n 0, 1) := by decide +kernel
theorem dX6_likeIn_21 : decode cX6_likeIn 21 = .ok (.iload_n 1, 1) := by decide +kernel
theorem dX6_likeIn_22 : decode cX6_likeIn 22 = .ok (.aload_n 0, 1) := by decide +kernel
theorem dX6_likeIn_23 : decode cX6_likeIn 23 = .ok (.getfield 19, 3) := by decide +kernel
theorem dX6_likeIn_26 : decode cX6_likeIn 26 = .ok (.iload_n 2, 1) := by decide +kernel
theorem dX6_likeIn_27 : decode cX6_likeIn 27 = .ok (.iaload, 1) := by decide +kernel
theorem dX6_likeIn_28 : decode cX6_likeIn 28 = .ok (.aload_n 0, 1) := by decide +kernel
theorem dX6_likeIn_29 : decode cX6_likeIn 29 = .ok (.getfield 25, 3) := by decide +kernel
theorem dX6_likeIn_32 : decode cX6_likeIn 32 = .ok (.iload_n 2, 1) := by decide +kernel
theorem dX6_likeIn_33 : decode cX6_likeIn 33 = .ok (.iaload, 1) := by decide +kernel
theorem dX6_likeIn_34 : decode cX6_likeIn 34 = .ok (.aload_n 0, 1) := by decide +kernel
theorem dX6_likeIn_35 : decode cX6_likeIn 35 = .ok (.getfield 28, 3) := by decide +kernel
theorem dX6_likeIn_38 : decode cX6_likeIn 38 = .ok (.iload_n 2, 1) := by decide +kernel
theorem dX6_likeIn_39 : decode cX6_likeIn 39 = .ok (.iaload, 1) := by decide +kernel
theorem dX6_likeIn_40 : decode cX6_likeIn 40 = .ok (.invokevirtual 43, 3) := by decide +kernel
theorem dX6_likeIn_43 : decode cX6_likeIn 43 = .ok (.goto 14, 3) := by decide +kernel
theorem dX6_likeIn_46 : decode cX6_likeIn 46 = .ok (.aload_n 0, 1) := by decide +kernel
theorem dX6_likeIn_47 : decode cX6_likeIn 47 = .ok (.iload_n 1, 1) := by decide +kernel
theorem dX6_likeIn_48 : decode cX6_likeIn 48 = .ok (.aload_n 0, 1) := by decide +kernel
theorem dX6_likeIn_49 : decode cX6_likeIn 49 = .ok (.getfield 19, 3) := by decide +kernel
theorem dX6_likeIn_52 : decode cX6_likeIn 52 = .ok (.iload_n 2, 1) := by decide +kernel
theorem dX6_likeIn_53 : decode cX6_likeIn 53 = .ok (.iaload, 1) := by decide +kernel
theorem dX6_likeIn_54 : decode cX6_likeIn 54 = .ok (.invokevirtual 47, 3) := by decide +kernel
theorem dX6_likeIn_57 : decode cX6_likeIn 57 = .ok (.ireturn, 1) := by decide +kernel
theorem dX6_add_0 : decode cX6_add 0 = .ok (.aload_n 0, 1) := by decide +kernel
theorem dX6_add_1 : decode cX6_add 1 = .ok (.invokevirtual 51, 3) := by decide +kernel
theorem dX6_add_4 : decode cX6_add 4 = .ok (.istore_n 3, 1) := by decide +kernel
theorem dX6_add_5 : decode cX6_add 5 = .ok (.iload_n 3, 1) := by decide +kernel
theorem dX6_add_6 : decode cX6_add 6 = .ok (.bipush (-2), 2) := by decide +kernel
theorem dX6_add_8 : decode cX6_add 8 = .ok (.if_icmp .ne 6, 3) := by decide +kernel
theorem dX6_add_11 : decode cX6_add 11 = .ok (.bipush (-3), 2) := by decide +kernel
theorem dX6_add_13 : decode cX6_add 13 = .ok (.ireturn, 1) := by decide +kernel
theorem dX6_add_14 : decode cX6_add 14 = .ok (.aload_n 0, 1) := by decide +kernel
theorem dX6_add_15 : decode cX6_add 15 = .ok (.dup, 1) := by decide +kernel
theorem dX6_add_16 : decode cX6_add 16 = .ok (.getfield 35, 3) := by decide +kernel
theorem dX6_add_19 : decode cX6_add 19 = .ok (.iconst 1, 1) := by decide +kernel
theorem dX6_add_20 : decode cX6_add 20 = .ok (.iadd, 1) := by decide +kernel
theorem dX6_add_21 : decode cX6_add 21 = .ok (.putfield 35, 3) := by decide +kernel
theorem dX6_add_24 : decode cX6_add 24 = .ok (.aload_n 0, 1) := by decide +kernel
theorem dX6_add_25 : decode cX6_add 25 = .ok (.getfield 11, 3) := by decide +kernel
theorem dX6_add_28 : decode cX6_add 28 = .ok (.iload_n 3, 1) := by decide +kernel
theorem dX6_add_29 : decode cX6_add 29 = .ok (.aload_n 2, 1) := by decide +kernel
theorem dX6_add_30 : decode cX6_add 30 = .ok (.getfield 55, 3) := by decide +kernel
theorem dX6_add_33 : decode cX6_add 33 = .ok (.iastore, 1) := by decide +kernel
theorem dX6_add_34 : decode cX6_add 34 = .ok (.aload_n 0, 1) := by decide +kernel
theorem dX6_add_35 : decode cX6_add 35 = .ok (.getfield 15, 3) := by decide +kernel
theorem dX6_add_38 : decode cX6_add 38 = .ok (.iload_n 3, 1) := by decide +kernel
theorem dX6_add_39 : decode cX6_add 39 = .ok (.iload_n 1, 1) := by decide +kernel
theorem dX6_add_40 : decode cX6_add 40 = .ok (.bastore, 1) := by decide +kernel
theorem dX6_add_41 : decode cX6_add 41 = .ok (.aload_n 0, 1) := by decide +kernel
theorem dX6_add_42 : decode cX6_add 42 = .ok (.getfield 19, 3) := by decide +kernel
theorem dX6_add_45 : decode cX6_add 45 = .ok (.iload_n 3, 1) := by decide +kernel
theorem dX6_add_46 : decode cX6_add 46 = .ok (.aload_n 2, 1) := by decide +kernel
theorem dX6_add_47 : decode cX6_add 47 = .ok (.getfield 60, 3) := by decide +kernel
theorem dX6_add_50 : decode cX6_add 50 = .ok (.iastore, 1) := by decide +kernel
theorem dX6_add_51 : decode cX6_add 51 = .ok (.aload_n 0, 1) := by decide +kernel
theorem dX6_add_52 : decode cX6_add 52 = .ok (.getfield 25, 3) := by decide +kernel
theorem dX6_add_55 : decode cX6_add 55 = .ok (.iload_n 3, 1) := by decide +kernel
theorem dX6_add_56 : decode cX6_add 56 = .ok (.aload_n 2, 1) := by decide +kernel
theorem dX6_add_57 : decode cX6_add 57 = .ok (.getfield 63, 3) := by decide +kernel
theorem dX6_add_60 : decode cX6_add 60 = .ok (.iastore, 1) := by decide +kernel
theorem dX6_add_61 : decode cX6_add 61 = .ok (.aload_n 0, 1) := by decide +kernel
theorem dX6_add_62 : decode cX6_add 62 = .ok (.getfield 28, 3) := by decide +kernel
theorem dX6_add_65 : decode cX6_add 65 = .ok (.iload_n 3, 1) := by decide +kernel
theorem dX6_add_66 : decode cX6_add 66 = .ok (.aload_n 2, 1) := by decide +kernel
theorem dX6_add_67 : decode cX6_add 67 = .ok (.getfield 66, 3) := by decide +kernel
theorem dX6_add_70 : decode cX6_add 70 = .ok (.iastore, 1) := by decide +kernel
theorem dX6_add_71 : decode cX6_add 71 = .ok (.aload_n 0, 1) := by decide +kernel
theorem dX6_add_72 : decode cX6_add 72 = .ok (.getfield 22, 3) := by decide +kernel
theorem dX6_add_75 : decode cX6_add 75 = .ok (.iload_n 3, 1) := by decide +kernel
theorem dX6_add_76 : decode cX6_add 76 = .ok (.aload_n 2, 1) := by decide +kernel
theorem dX6_add_77 : decode cX6_add 77 = .ok (.getfield 69, 3) := by decide +kernel
theorem dX6_add_80 : decode cX6_add 80 = .ok (.iastore, 1) := by decide +kernel
theorem dX6_add_81 : decode cX6_add 81 = .ok (.aload_n 0, 1) := by decide +kernel
theorem dX6_add_82 : decode cX6_add 82 = .ok (.iload_n 3, 1) := by decide +kernel
theorem dX6_add_83 : decode cX6_add 83 = .ok (.aload_n 2, 1) := by decide +kernel
theorem dX6_add_84 : decode cX6_add 84 = .ok (.getfield 72, 3) := by decide +kernel
theorem dX6_add_87 : decode cX6_add 87 = .ok (.invokevirtual 76, 3) := by decide +kernel
theorem dX6_add_90 : decode cX6_add 90 = .ok (.pop, 1) := by decide +kernel
theorem dX6_add_91 : decode cX6_add 91 = .ok (.iload_n 3, 1) := by decide +kernel
theorem dX6_add_92 : decode cX6_add 92 = .ok (.ireturn, 1) := by decide +kernel
theorem dX6_leastFree_0 : decode cX6_leastFree 0 = .ok (.iconst 0, 1) := by decide +kernel
theorem dX6_leastFree_1 : decode cX6_leastFree 1 = .ok (.istore_n 1, 1) := by decide +kernel
theorem dX6_leastFree_2 : decode cX6_leastFree 2 = .ok (.iload_n 1, 1) := by decide +kernel
theorem dX6_leastFree_3 : decode cX6_leastFree 3 = .ok (.bipush 60, 2) := by decide +kernel
theorem dX6_leastFree_5 : decode cX6_leastFree 5 = .ok (.if_icmp .ge 22, 3) := by decide +kernel
theorem dX6_leastFree_8 : decode cX6_leastFree 8 = .ok (.aload_n 0, 1) := by decide +kernel
theorem dX6_leastFree_9 : decode cX6_leastFree 9 = .ok (.getfield 11, 3) := by decide +kernel
theorem dX6_leastFree_12 : decode cX6_leastFree 12 = .ok (.iload_n 1, 1) := by decide +kernel
theorem dX6_leastFree_13 : decode cX6_leastFree 13 = .ok (.iaload, 1) := by decide +kernel
theorem dX6_leastFree_14 : decode cX6_leastFree 14 = .ok (.bipush (-2), 2) := by decide +kernel
theorem dX6_leastFree_16 : decode cX6_leastFree 16 = .ok (.if_icmp .ne 5, 3) := by decide +kernel
theorem dX6_leastFree_19 : decode cX6_leastFree 19 = .ok (.iload_n 1, 1) := by decide +kernel
theorem dX6_leastFree_20 : decode cX6_leastFree 20 = .ok (.ireturn, 1) := by decide +kernel
theorem dX6_leastFree_21 : decode cX6_leastFree 21 = .ok (.iinc 1 1, 3) := by decide +kernel
theorem dX6_leastFree_24 : decode cX6_leastFree 24 = .ok (.goto (-22), 3) := by decide +kernel
theorem dX6_leastFree_27 : decode cX6_leastFree 27 = .ok (.bipush (-2), 2) := by decide +kernel
theorem dX6_leastFree_29 : decode cX6_leastFree 29 = .ok (.ireturn, 1) := by decide +kernel
theorem dX6_remove_0 : decode cX6_remove 0 = .ok (.aload_n 0, 1) := by decide +kernel
theorem dX6_remove_1 : decode cX6_remove 1 = .ok (.iload_n 1, 1) := by decide +kernel
theorem dX6_remove_2 : decode cX6_remove 2 = .ok (.invokevirtual 39, 3) := by decide +kernel
theorem dX6_remove_5 : decode cX6_remove 5 = .ok (.ifCond .ne 5, 3) := by decide +kernel
theorem dX6_remove_8 : decode cX6_remove 8 = .ok (.iconst (-1), 1) := by decide +kernel
theorem dX6_remove_9 : decode cX6_remove 9 = .ok (.ireturn, 1) := by decide +kernel
theorem dX6_remove_10 : decode cX6_remove 10 = .ok (.aload_n 0, 1) := by decide +kernel
theorem dX6_remove_11 : decode cX6_remove 11 = .ok (.getfield 11, 3) := by decide +kernel
theorem dX6_remove_14 : decode cX6_remove 14 = .ok (.iload_n 1, 1) := by decide +kernel
theorem dX6_remove_15 : decode cX6_remove 15 = .ok (.bipush (-2), 2) := by decide +kernel
theorem dX6_remove_17 : decode cX6_remove 17 = .ok (.iastore, 1) := by decide +kernel
theorem dX6_remove_18 : decode cX6_remove 18 = .ok (.aload_n 0, 1) := by decide +kernel
theorem dX6_remove_19 : decode cX6_remove 19 = .ok (.dup, 1) := by decide +kernel
theorem dX6_remove_20 : decode cX6_remove 20 = .ok (.getfield 35, 3) := by decide +kernel
theorem dX6_remove_23 : decode cX6_remove 23 = .ok (.iconst 1, 1) := by decide +kernel
theorem dX6_remove_24 : decode cX6_remove 24 = .ok (.isub, 1) := by decide +kernel
theorem dX6_remove_25 : decode cX6_remove 25 = .ok (.putfield 35, 3) := by decide +kernel
theorem dX6_remove_28 : decode cX6_remove 28 = .ok (.iconst 1, 1) := by decide +kernel
theorem dX6_remove_29 : decode cX6_remove 29 = .ok (.ireturn, 1) := by decide +kernel
theorem dX6_changeMarks_0 : decode cX6_changeMarks 0 = .ok (.aload_n 0, 1) := by decide +kernel
theorem dX6_changeMarks_1 : decode cX6_changeMarks 1 = .ok (.iload_n 1, 1) := by decide +kernel
theorem dX6_changeMarks_2 : decode cX6_changeMarks 2 = .ok (.invokevirtual 39, 3) := by decide +kernel
theorem dX6_changeMarks_5 : decode cX6_changeMarks 5 = .ok (.ifCond .ne 5, 3) := by decide +kernel
theorem dX6_changeMarks_8 : decode cX6_changeMarks 8 = .ok (.iconst (-1), 1) := by decide +kernel
theorem dX6_changeMarks_9 : decode cX6_changeMarks 9 = .ok (.ireturn, 1) := by decide +kernel
theorem dX6_changeMarks_10 : decode cX6_changeMarks 10 = .ok (.aload_n 0, 1) := by decide +kernel
theorem dX6_changeMarks_11 : decode cX6_changeMarks 11 = .ok (.getfield 22, 3) := by decide +kernel
theorem dX6_changeMarks_14 : decode cX6_changeMarks 14 = .ok (.iload_n 1, 1) := by decide +kernel
theorem dX6_changeMarks_15 : decode cX6_changeMarks 15 = .ok (.iaload, 1) := by decide +kernel
theorem dX6_changeMarks_16 : decode cX6_changeMarks 16 = .ok (.istore_n 3, 1) := by decide +kernel
theorem dX6_changeMarks_17 : decode cX6_changeMarks 17 = .ok (.aload_n 0, 1) := by decide +kernel
theorem dX6_changeMarks_18 : decode cX6_changeMarks 18 = .ok (.getfield 22, 3) := by decide +kernel
theorem dX6_changeMarks_21 : decode cX6_changeMarks 21 = .ok (.iload_n 1, 1) := by decide +kernel
theorem dX6_changeMarks_22 : decode cX6_changeMarks 22 = .ok (.iload_n 2, 1) := by decide +kernel
theorem dX6_changeMarks_23 : decode cX6_changeMarks 23 = .ok (.iastore, 1) := by decide +kernel
theorem dX6_changeMarks_24 : decode cX6_changeMarks 24 = .ok (.iload_n 3, 1) := by decide +kernel
theorem dX6_changeMarks_25 : decode cX6_changeMarks 25 = .ok (.ireturn, 1) := by decide +kernel
theorem dX6_putValue_0 : decode cX6_putValue 0 = .ok (.aload_n 0, 1) := by decide +kernel
theorem dX6_putValue_1 : decode cX6_putValue 1 = .ok (.iload_n 1, 1) := by decide +kernel
theorem dX6_putValue_2 : decode cX6_putValue 2 = .ok (.invokevirtual 39, 3) := by decide +kernel
theorem dX6_putValue_5 : decode cX6_putValue 5 = .ok (.ifCond .ne 5, 3) := by decide +kernel
theorem dX6_putValue_8 : decode cX6_putValue 8 = .ok (.iconst (-1), 1) := by decide +kernel
theorem dX6_putValue_9 : decode cX6_putValue 9 = .ok (.ireturn, 1) := by decide +kernel
theorem dX6_putValue_10 : decode cX6_putValue 10 = .ok (.aload_n 0, 1) := by decide +kernel
theorem dX6_putValue_11 : decode cX6_putValue 11 = .ok (.getfield 31, 3) := by decide +kernel
theorem dX6_putValue_14 : decode cX6_putValue 14 = .ok (.iload_n 1, 1) := by decide +kernel
theorem dX6_putValue_15 : decode cX6_putValue 15 = .ok (.aload_n 0, 1) := by decide +kernel
theorem dX6_putValue_16 : decode cX6_putValue 16 = .ok (.getfield 15, 3) := by decide +kernel
theorem dX6_putValue_19 : decode cX6_putValue 19 = .ok (.iload_n 1, 1) := by decide +kernel
theorem dX6_putValue_20 : decode cX6_putValue 20 = .ok (.baload, 1) := by decide +kernel
theorem dX6_putValue_21 : decode cX6_putValue 21 = .ok (.ifCond .eq 9, 3) := by decide +kernel
theorem dX6_putValue_24 : decode cX6_putValue 24 = .ok (.lload_n 2, 1) := by decide +kernel
theorem dX6_putValue_25 : decode cX6_putValue 25 = .ok (.l2i, 1) := by decide +kernel
theorem dX6_putValue_26 : decode cX6_putValue 26 = .ok (.i2l, 1) := by decide +kernel
theorem dX6_putValue_27 : decode cX6_putValue 27 = .ok (.goto 13, 3) := by decide +kernel
theorem dX6_putValue_30 : decode cX6_putValue 30 = .ok (.aload_n 0, 1) := by decide +kernel
theorem dX6_putValue_31 : decode cX6_putValue 31 = .ok (.getfield 25, 3) := by decide +kernel
theorem dX6_putValue_34 : decode cX6_putValue 34 = .ok (.iload_n 1, 1) := by decide +kernel
theorem dX6_putValue_35 : decode cX6_putValue 35 = .ok (.iaload, 1) := by decide +kernel
theorem dX6_putValue_36 : decode cX6_putValue 36 = .ok (.lload_n 2, 1) := by decide +kernel
theorem dX6_putValue_37 : decode cX6_putValue 37 = .ok (.invokestatic 80, 3) := by decide +kernel
theorem dX6_putValue_40 : decode cX6_putValue 40 = .ok (.lastore, 1) := by decide +kernel
theorem dX6_putValue_41 : decode cX6_putValue 41 = .ok (.iconst 1, 1) := by decide +kernel
theorem dX6_putValue_42 : decode cX6_putValue 42 = .ok (.ireturn, 1) := by decide +kernel
theorem dX6_changeKind_0 : decode cX6_changeKind 0 = .ok (.aload_n 0, 1) := by decide +kernel
theorem dX6_changeKind_1 : decode cX6_changeKind 1 = .ok (.iload_n 1, 1) := by decide +kernel
theorem dX6_changeKind_2 : decode cX6_changeKind 2 = .ok (.invokevirtual 86, 3) := by decide +kernel
theorem dX6_changeKind_5 : decode cX6_changeKind 5 = .ok (.ifCond .ne 5, 3) := by decide +kernel
theorem dX6_changeKind_8 : decode cX6_changeKind 8 = .ok (.iconst (-1), 1) := by decide +kernel
theorem dX6_changeKind_9 : decode cX6_changeKind 9 = .ok (.ireturn, 1) := by decide +kernel
theorem dX6_changeKind_10 : decode cX6_changeKind 10 = .ok (.aload_n 0, 1) := by decide +kernel
theorem dX6_changeKind_11 : decode cX6_changeKind 11 = .ok (.getfield 25, 3) := by decide +kernel
theorem dX6_changeKind_14 : decode cX6_changeKind 14 = .ok (.iload_n 1, 1) := by decide +kernel
theorem dX6_changeKind_15 : decode cX6_changeKind 15 = .ok (.iload_n 2, 1) := by decide +kernel
theorem dX6_changeKind_16 : decode cX6_changeKind 16 = .ok (.iastore, 1) := by decide +kernel
theorem dX6_changeKind_17 : decode cX6_changeKind 17 = .ok (.aload_n 0, 1) := by decide +kernel
theorem dX6_changeKind_18 : decode cX6_changeKind 18 = .ok (.iload_n 1, 1) := by decide +kernel
theorem dX6_changeKind_19 : decode cX6_changeKind 19 = .ok (.lload_n 3, 1) := by decide +kernel
theorem dX6_changeKind_20 : decode cX6_changeKind 20 = .ok (.invokevirtual 76, 3) := by decide +kernel
theorem dX6_changeKind_23 : decode cX6_changeKind 23 = .ok (.ireturn, 1) := by decide +kernel
theorem dX6_changeOwner_0 : decode cX6_changeOwner 0 = .ok (.aload_n 0, 1) := by decide +kernel
theorem dX6_changeOwner_1 : decode cX6_changeOwner 1 = .ok (.iload_n 1, 1) := by decide +kernel
theorem dX6_changeOwner_2 : decode cX6_changeOwner 2 = .ok (.invokevirtual 39, 3) := by decide +kernel
theorem dX6_changeOwner_5 : decode cX6_changeOwner 5 = .ok (.ifCond .ne 5, 3) := by decide +kernel
theorem dX6_changeOwner_8 : decode cX6_changeOwner 8 = .ok (.iconst (-1), 1) := by decide +kernel
theorem dX6_changeOwner_9 : decode cX6_changeOwner 9 = .ok (.ireturn, 1) := by decide +kernel
theorem dX6_changeOwner_10 : decode cX6_changeOwner 10 = .ok (.aload_n 0, 1) := by decide +kernel
theorem dX6_changeOwner_11 : decode cX6_changeOwner 11 = .ok (.getfield 11, 3) := by decide +kernel
theorem dX6_changeOwner_14 : decode cX6_changeOwner 14 = .ok (.iload_n 1, 1) := by decide +kernel
theorem dX6_changeOwner_15 : decode cX6_changeOwner 15 = .ok (.iload_n 2, 1) := by decide +kernel
theorem dX6_changeOwner_16 : decode cX6_changeOwner 16 = .ok (.iastore, 1) := by decide +kernel
theorem dX6_changeOwner_17 : decode cX6_changeOwner 17 = .ok (.iconst 1, 1) := by decide +kernel
theorem dX6_changeOwner_18 : decode cX6_changeOwner 18 = .ok (.ireturn, 1) := by decide +kernel
theorem dX6_tell_0 : decode cX6_tell 0 = .ok (.aload_n 0, 1) := by decide +kernel
theorem dX6_tell_1 : decode cX6_tell 1 = .ok (.iload_n 1, 1) := by decide +kernel
theorem dX6_tell_2 : decode cX6_tell 2 = .ok (.invokevirtual 39, 3) := by decide +kernel
theorem dX6_tell_5 : decode cX6_tell 5 = .ok (.ifCond .ne 5, 3) := by decide +kernel
theorem dX6_tell_8 : decode cX6_tell 8 = .ok (.iconst (-1), 1) := by decide +kernel
theorem dX6_tell_9 : decode cX6_tell 9 = .ok (.ireturn, 1) := by decide +kernel
theorem dX6_tell_10 : decode cX6_tell 10 = .ok (.iload_n 2, 1) := by decide +kernel
theorem dX6_tell_11 : decode cX6_tell 11 = .ok (.tableswitch 87 0 5 #[37, 52, 59, 66, 73, 80], 37) := by decide +kernel
theorem dX6_tell_48 : decode cX6_tell 48 = .ok (.aload_n 0, 1) := by decide +kernel
theorem dX6_tell_49 : decode cX6_tell 49 = .ok (.getfield 15, 3) := by decide +kernel
theorem dX6_tell_52 : decode cX6_tell 52 = .ok (.iload_n 1, 1) := by decide +kernel
theorem dX6_tell_53 : decode cX6_tell 53 = .ok (.baload, 1) := by decide +kernel
theorem dX6_tell_54 : decode cX6_tell 54 = .ok (.ifCond .eq 7, 3) := by decide +kernel
theorem dX6_tell_57 : decode cX6_tell 57 = .ok (.iconst 1, 1) := by decide +kernel
theorem dX6_tell_58 : decode cX6_tell 58 = .ok (.goto 4, 3) := by decide +kernel
theorem dX6_tell_61 : decode cX6_tell 61 = .ok (.iconst 0, 1) := by decide +kernel
theorem dX6_tell_62 : decode cX6_tell 62 = .ok (.ireturn, 1) := by decide +kernel
theorem dX6_tell_63 : decode cX6_tell 63 = .ok (.aload_n 0, 1) := by decide +kernel
theorem dX6_tell_64 : decode cX6_tell 64 = .ok (.getfield 11, 3) := by decide +kernel
theorem dX6_tell_67 : decode cX6_tell 67 = .ok (.iload_n 1, 1) := by decide +kernel
theorem dX6_tell_68 : decode cX6_tell 68 = .ok (.iaload, 1) := by decide +kernel
theorem dX6_tell_69 : decode cX6_tell 69 = .ok (.ireturn, 1) := by decide +kernel
theorem dX6_tell_70 : decode cX6_tell 70 = .ok (.aload_n 0, 1) := by decide +kernel
theorem dX6_tell_71 : decode cX6_tell 71 = .ok (.getfield 19, 3) := by decide +kernel
theorem dX6_tell_74 : decode cX6_tell 74 = .ok (.iload_n 1, 1) := by decide +kernel
theorem dX6_tell_75 : decode cX6_tell 75 = .ok (.iaload, 1) := by decide +kernel
theorem dX6_tell_76 : decode cX6_tell 76 = .ok (.ireturn, 1) := by decide +kernel
theorem dX6_tell_77 : decode cX6_tell 77 = .ok (.aload_n 0, 1) := by decide +kernel
theorem dX6_tell_78 : decode cX6_tell 78 = .ok (.getfield 22, 3) := by decide +kernel
theorem dX6_tell_81 : decode cX6_tell 81 = .ok (.iload_n 1, 1) := by decide +kernel
theorem dX6_tell_82 : decode cX6_tell 82 = .ok (.iaload, 1) := by decide +kernel
theorem dX6_tell_83 : decode cX6_tell 83 = .ok (.ireturn, 1) := by decide +kernel
theorem dX6_tell_84 : decode cX6_tell 84 = .ok (.aload_n 0, 1) := by decide +kernel
theorem dX6_tell_85 : decode cX6_tell 85 = .ok (.getfield 25, 3) := by decide +kernel
theorem dX6_tell_88 : decode cX6_tell 88 = .ok (.iload_n 1, 1) := by decide +kernel
theorem dX6_tell_89 : decode cX6_tell 89 = .ok (.iaload, 1) := by decide +kernel
theorem dX6_tell_90 : decode cX6_tell 90 = .ok (.ireturn, 1) := by decide +kernel
theorem dX6_tell_91 : decode cX6_tell 91 = .ok (.aload_n 0, 1) := by decide +kernel
theorem dX6_tell_92 : decode cX6_tell 92 = .ok (.getfield 28, 3) := by decide +kernel
theorem dX6_tell_95 : decode cX6_tell 95 = .ok (.iload_n 1, 1) := by decide +kernel
theorem dX6_tell_96 : decode cX6_tell 96 = .ok (.iaload, 1) := by decide +kernel
theorem dX6_tell_97 : decode cX6_tell 97 = .ok (.ireturn, 1) := by decide +kernel
theorem dX6_tell_98 : decode cX6_tell 98 = .ok (.iconst (-1), 1) := by decide +kernel
theorem dX6_tell_99 : decode cX6_tell 99 = .ok (.ireturn, 1) := by decide +kernel
theorem dX6_digestOn_0 : decode cX6_digestOn 0 = .ok (.lload_n 1, 1) := by decide +kernel
theorem dX6_digestOn_1 : decode cX6_digestOn 1 = .ok (.lstore_n 3, 1) := by decide +kernel
theorem dX6_digestOn_2 : decode cX6_digestOn 2 = .ok (.iconst 0, 1) := by decide +kernel
theorem dX6_digestOn_3 : decode cX6_digestOn 3 = .ok (.istore 5, 2) := by decide +kernel
theorem dX6_digestOn_5 : decode cX6_digestOn 5 = .ok (.iload 5, 2) := by decide +kernel
theorem dX6_digestOn_7 : decode cX6_digestOn 7 = .ok (.bipush 60, 2) := by decide +kernel
theorem dX6_digestOn_9 : decode cX6_digestOn 9 = .ok (.if_icmp .ge 73, 3) := by decide +kernel
theorem dX6_digestOn_12 : decode cX6_digestOn 12 = .ok (.aload_n 0, 1) := by decide +kernel
theorem dX6_digestOn_13 : decode cX6_digestOn 13 = .ok (.iload 5, 2) := by decide +kernel
theorem dX6_digestOn_15 : decode cX6_digestOn 15 = .ok (.invokevirtual 39, 3) := by decide +kernel
theorem dX6_digestOn_18 : decode cX6_digestOn 18 = .ok (.ifCond .eq 58, 3) := by decide +kernel
theorem dX6_digestOn_21 : decode cX6_digestOn 21 = .ok (.ldc2_w 89, 3) := by decide +kernel
theorem dX6_digestOn_24 : decode cX6_digestOn 24 = .ok (.lload_n 3, 1) := by decide +kernel
theorem dX6_digestOn_25 : decode cX6_digestOn 25 = .ok (.lmul, 1) := by decide +kernel
theorem dX6_digestOn_26 : decode cX6_digestOn 26 = .ok (.iload 5, 2) := by decide +kernel
theorem dX6_digestOn_28 : decode cX6_digestOn 28 = .ok (.i2l, 1) := by decide +kernel
theorem dX6_digestOn_29 : decode cX6_digestOn 29 = .ok (.ladd, 1) := by decide +kernel
theorem dX6_digestOn_30 : decode cX6_digestOn 30 = .ok (.lstore_n 3, 1) := by decide +kernel
theorem dX6_digestOn_31 : decode cX6_digestOn 31 = .ok (.iconst 0, 1) := by decide +kernel
theorem dX6_digestOn_32 : decode cX6_digestOn 32 = .ok (.istore 6, 2) := by decide +kernel
theorem dX6_digestOn_34 : decode cX6_digestOn 34 = .ok (.iload 6, 2) := by decide +kernel
theorem dX6_digestOn_36 : decode cX6_digestOn 36 = .ok (.iconst 5, 1) := by decide +kernel
theorem dX6_digestOn_37 : decode cX6_digestOn 37 = .ok (.if_icmp .gt 25, 3) := by decide +kernel
theorem dX6_digestOn_40 : decode cX6_digestOn 40 = .ok (.ldc2_w 89, 3) := by decide +kernel
theorem dX6_digestOn_43 : decode cX6_digestOn 43 = .ok (.lload_n 3, 1) := by decide +kernel
theorem dX6_digestOn_44 : decode cX6_digestOn 44 = .ok (.lmul, 1) := by decide +kernel
theorem dX6_digestOn_45 : decode cX6_digestOn 45 = .ok (.aload_n 0, 1) := by decide +kernel
theorem dX6_digestOn_46 : decode cX6_digestOn 46 = .ok (.iload 5, 2) := by decide +kernel
theorem dX6_digestOn_48 : decode cX6_digestOn 48 = .ok (.iload 6, 2) := by decide +kernel
theorem dX6_digestOn_50 : decode cX6_digestOn 50 = .ok (.invokevirtual 91, 3) := by decide +kernel
theorem dX6_digestOn_53 : decode cX6_digestOn 53 = .ok (.i2l, 1) := by decide +kernel
theorem dX6_digestOn_54 : decode cX6_digestOn 54 = .ok (.ladd, 1) := by decide +kernel
theorem dX6_digestOn_55 : decode cX6_digestOn 55 = .ok (.lstore_n 3, 1) := by decide +kernel
theorem dX6_digestOn_56 : decode cX6_digestOn 56 = .ok (.iinc 6 1, 3) := by decide +kernel
theorem dX6_digestOn_59 : decode cX6_digestOn 59 = .ok (.goto (-25), 3) := by decide +kernel
theorem dX6_digestOn_62 : decode cX6_digestOn 62 = .ok (.ldc2_w 89, 3) := by decide +kernel
theorem dX6_digestOn_65 : decode cX6_digestOn 65 = .ok (.lload_n 3, 1) := by decide +kernel
theorem dX6_digestOn_66 : decode cX6_digestOn 66 = .ok (.lmul, 1) := by decide +kernel
theorem dX6_digestOn_67 : decode cX6_digestOn 67 = .ok (.aload_n 0, 1) := by decide +kernel
theorem dX6_digestOn_68 : decode cX6_digestOn 68 = .ok (.getfield 31, 3) := by decide +kernel
theorem dX6_digestOn_71 : decode cX6_digestOn 71 = .ok (.iload 5, 2) := by decide +kernel
theorem dX6_digestOn_73 : decode cX6_digestOn 73 = .ok (.laload, 1) := by decide +kernel
theorem dX6_digestOn_74 : decode cX6_digestOn 74 = .ok (.ladd, 1) := by decide +kernel
theorem dX6_digestOn_75 : decode cX6_digestOn 75 = .ok (.lstore_n 3, 1) := by decide +kernel
theorem dX6_digestOn_76 : decode cX6_digestOn 76 = .ok (.iinc 5 1, 3) := by decide +kernel
theorem dX6_digestOn_79 : decode cX6_digestOn 79 = .ok (.goto (-74), 3) := by decide +kernel
theorem dX6_digestOn_82 : decode cX6_digestOn 82 = .ok (.lload_n 3, 1) := by decide +kernel
theorem dX6_digestOn_83 : decode cX6_digestOn 83 = .ok (.lreturn, 1) := by decide +kernel
theorem dX7_init_0 : decode cX7_init 0 = .ok (.aload_n 0, 1) := by decide +kernel
theorem dX7_init_1 : decode cX7_init 1 = .ok (.invokespecial 3, 3) := by decide +kernel
theorem dX7_init_4 : decode cX7_init 4 = .ok (.aload_n 0, 1) := by decide +kernel
theorem dX7_init_5 : decode cX7_init 5 = .ok (.bipush 12, 2) := by decide +kernel
theorem dX7_init_7 : decode cX7_init 7 = .ok (.newarray .boolean, 2) := by decide +kernel
theorem dX7_init_9 : decode cX7_init 9 = .ok (.putfield 11, 3) := by decide +kernel
theorem dX7_init_12 : decode cX7_init 12 = .ok (.aload_n 0, 1) := by decide +kernel
theorem dX7_init_13 : decode cX7_init 13 = .ok (.bipush 12, 2) := by decide +kernel
theorem dX7_init_15 : decode cX7_init 15 = .ok (.newarray .int, 2) := by decide +kernel
theorem dX7_init_17 : decode cX7_init 17 = .ok (.putfield 15, 3) := by decide +kernel
theorem dX7_init_20 : decode cX7_init 20 = .ok (.aload_n 0, 1) := by decide +kernel
theorem dX7_init_21 : decode cX7_init 21 = .ok (.bipush 12, 2) := by decide +kernel
theorem dX7_init_23 : decode cX7_init 23 = .ok (.newarray .int, 2) := by decide +kernel
theorem dX7_init_25 : decode cX7_init 25 = .ok (.putfield 19, 3) := by decide +kernel
theorem dX7_init_28 : decode cX7_init 28 = .ok (.aload_n 0, 1) := by decide +kernel
theorem dX7_init_29 : decode cX7_init 29 = .ok (.bipush 12, 2) := by decide +kernel
theorem dX7_init_31 : decode cX7_init 31 = .ok (.newarray .int, 2) := by decide +kernel
theorem dX7_init_33 : decode cX7_init 33 = .ok (.putfield 22, 3) := by decide +kernel
theorem dX7_init_36 : decode cX7_init 36 = .ok (.aload_n 0, 1) := by decide +kernel
theorem dX7_init_37 : decode cX7_init 37 = .ok (.bipush 36, 2) := by decide +kernel
theorem dX7_init_39 : decode cX7_init 39 = .ok (.newarray .int, 2) := by decide +kernel
theorem dX7_init_41 : decode cX7_init 41 = .ok (.putfield 25, 3) := by decide +kernel
theorem dX7_init_44 : decode cX7_init 44 = .ok (.aload_n 0, 1) := by decide +kernel
theorem dX7_init_45 : decode cX7_init 45 = .ok (.bipush 12, 2) := by decide +kernel
theorem dX7_init_47 : decode cX7_init 47 = .ok (.newarray .int, 2) := by decide +kernel
theorem dX7_init_49 : decode cX7_init 49 = .ok (.putfield 28, 3) := by decide +kernel
theorem dX7_init_52 : decode cX7_init 52 = .ok (.aload_n 0, 1) := by decide +kernel
theorem dX7_init_53 : decode cX7_init 53 = .ok (.bipush 12, 2) := by decide +kernel
theorem dX7_init_55 : decode cX7_init 55 = .ok (.newarray .int, 2) := by decide +kernel
theorem dX7_init_57 : decode cX7_init 57 = .ok (.putfield 31, 3) := by decide +kernel
theorem dX7_init_60 : decode cX7_init 60 = .ok (.return_, 1) := by decide +kernel
theorem dX7_clear_0 : decode cX7_clear 0 = .ok (.aload_n 0, 1) := by decide +kernel
theorem dX7_clear_1 : decode cX7_clear 1 = .ok (.iconst 0, 1) := by decide +kernel
theorem dX7_clear_2 : decode cX7_clear 2 = .ok (.putfield 34, 3) := by decide +kernel
theorem dX7_clear_5 : decode cX7_clear 5 = .ok (.aload_n 0, 1) := by decide +kernel
theorem dX7_clear_6 : decode cX7_clear 6 = .ok (.iconst 0, 1) := by decide +kernel
theorem dX7_clear_7 : decode cX7_clear 7 = .ok (.putfield 38, 3) := by decide +kernel
theorem dX7_clear_10 : decode cX7_clear 10 = .ok (.return_, 1) := by decide +kernel
theorem dX7_isType_0 : decode cX7_isType 0 = .ok (.iload_n 1, 1) := by decide +kernel
theorem dX7_isType_1 : decode cX7_isType 1 = .ok (.ifCond .lt 15, 3) := by decide +kernel
theorem dX7_isType_4 : decode cX7_isType 4 = .ok (.iload_n 1, 1) := by decide +kernel
theorem dX7_isType_5 : decode cX7_isType 5 = .ok (.aload_n 0, 1) := by decide +kernel
theorem dX7_isType_6 : decode cX7_isType 6 = .ok (.getfield 34, 3) := by decide +kernel
theorem dX7_isType_9 : decode cX7_isType 9 = .ok (.if_icmp .ge 7, 3) := by decide +kernel
theorem dX7_isType_12 : decode cX7_isType 12 = .ok (.iconst 1, 1) := by decide +kernel
theorem dX7_isType_13 : decode cX7_isType 13 = .ok (.goto 4, 3) := by decide +kernel
theorem dX7_isType_16 : decode cX7_isType 16 = .ok (.iconst 0, 1) := by decide +kernel
theorem dX7_isType_17 : decode cX7_isType 17 = .ok (.ireturn, 1) := by decide +kernel
theorem dX7_isClass_0 : decode cX7_isClass 0 = .ok (.iload_n 1, 1) := by decide +kernel
theorem dX7_isClass_1 : decode cX7_isClass 1 = .ok (.ifCond .lt 24, 3) := by decide +kernel
theorem dX7_isClass_4 : decode cX7_isClass 4 = .ok (.iload_n 1, 1) := by decide +kernel
theorem dX7_isClass_5 : decode cX7_isClass 5 = .ok (.aload_n 0, 1) := by decide +kernel
theorem dX7_isClass_6 : decode cX7_isClass 6 = .ok (.getfield 34, 3) := by decide +kernel
theorem dX7_isClass_9 : decode cX7_isClass 9 = .ok (.if_icmp .ge 16, 3) := by decide +kernel
theorem dX7_isClass_12 : decode cX7_isClass 12 = .ok (.aload_n 0, 1) := by decide +kernel
theorem dX7_isClass_13 : decode cX7_isClass 13 = .ok (.getfield 11, 3) := by decide +kernel
theorem dX7_isClass_16 : decode cX7_isClass 16 = .ok (.iload_n 1, 1) := by decide +kernel
theorem dX7_isClass_17 : decode cX7_isClass 17 = .ok (.baload, 1) := by decide +kernel
theorem dX7_isClass_18 : decode cX7_isClass 18 = .ok (.ifCond .ne 7, 3) := by decide +kernel
theorem dX7_isClass_21 : decode cX7_isClass 21 = .ok (.iconst 1, 1) := by decide +kernel
theorem dX7_isClass_22 : decode cX7_isClass 22 = .ok (.goto 4, 3) := by decide +kernel
theorem dX7_isClass_25 : decode cX7_isClass 25 = .ok (.iconst 0, 1) := by decide +kernel
theorem dX7_isClass_26 : decode cX7_isClass 26 = .ok (.ireturn, 1) := by decide +kernel
theorem dX7_isFace_0 : decode cX7_isFace 0 = .ok (.iload_n 1, 1) := by decide +kernel
theorem dX7_isFace_1 : decode cX7_isFace 1 = .ok (.ifCond .lt 24, 3) := by decide +kernel
theorem dX7_isFace_4 : decode cX7_isFace 4 = .ok (.iload_n 1, 1) := by decide +kernel
theorem dX7_isFace_5 : decode cX7_isFace 5 = .ok (.aload_n 0, 1) := by decide +kernel
theorem dX7_isFace_6 : decode cX7_isFace 6 = .ok (.getfield 34, 3) := by decide +kernel
theorem dX7_isFace_9 : decode cX7_isFace 9 = .ok (.if_icmp .ge 16, 3) := by decide +kernel
theorem dX7_isFace_12 : decode cX7_isFace 12 = .ok (.aload_n 0, 1) := by decide +kernel
theorem dX7_isFace_13 : decode cX7_isFace 13 = .ok (.getfield 11, 3) := by decide +kernel
theorem dX7_isFace_16 : decode cX7_isFace 16 = .ok (.iload_n 1, 1) := by decide +kernel
theorem dX7_isFace_17 : decode cX7_isFace 17 = .ok (.baload, 1) := by decide +kernel
theorem dX7_isFace_18 : decode cX7_isFace 18 = .ok (.ifCond .eq 7, 3) := by decide +kernel
theorem dX7_isFace_21 : decode cX7_isFace 21 = .ok (.iconst 1, 1) := by decide +kernel
theorem dX7_isFace_22 : decode cX7_isFace 22 = .ok (.goto 4, 3) := by decide +kernel
theorem dX7_isFace_25 : decode cX7_isFace 25 = .ok (.iconst 0, 1) := by decide +kernel
theorem dX7_isFace_26 : decode cX7_isFace 26 = .ok (.ireturn, 1) := by decide +kernel
theorem dX7_isAbstract_0 : decode cX7_isAbstract 0 = .ok (.iload_n 1, 1) := by decide +kernel
theorem dX7_isAbstract_1 : decode cX7_isAbstract 1 = .ok (.ifCond .lt 35, 3) := by decide +kernel
theorem dX7_isAbstract_4 : decode cX7_isAbstract 4 = .ok (.iload_n 1, 1) := by decide +kernel
theorem dX7_isAbstract_5 : decode cX7_isAbstract 5 = .ok (.aload_n 0, 1) := by decide +kernel
theorem dX7_isAbstract_6 : decode cX7_isAbstract 6 = .ok (.getfield 34, 3) := by decide +kernel
theorem dX7_isAbstract_9 : decode cX7_isAbstract 9 = .ok (.if_icmp .ge 27, 3) := by decide +kernel
theorem dX7_isAbstract_12 : decode cX7_isAbstract 12 = .ok (.aload_n 0, 1) := by decide +kernel
theorem dX7_isAbstract_13 : decode cX7_isAbstract 13 = .ok (.getfield 11, 3) := by decide +kernel
theorem dX7_isAbstract_16 : decode cX7_isAbstract 16 = .ok (.iload_n 1, 1) := by decide +kernel
theorem dX7_isAbstract_17 : decode cX7_isAbstract 17 = .ok (.baload, 1) := by decide +kernel
theorem dX7_isAbstract_18 : decode cX7_isAbstract 18 = .ok (.ifCond .ne 18, 3) := by decide +kernel
theorem dX7_isAbstract_21 : decode cX7_isAbstract 21 = .ok (.aload_n 0, 1) := by decide +kernel
theorem dX7_isAbstract_22 : decode cX7_isAbstract 22 = .ok (.getfield 19, 3) := by decide +kernel
theorem dX7_isAbstract_25 : decode cX7_isAbstract 25 = .ok (.iload_n 1, 1) := by decide +kernel
theorem dX7_isAbstract_26 : decode cX7_isAbstract 26 = .ok (.iaload, 1) := by decide +kernel
theorem dX7_isAbstract_27 : decode cX7_isAbstract 27 = .ok (.iconst 1, 1) := by decide +kernel
theorem dX7_isAbstract_28 : decode cX7_isAbstract 28 = .ok (.iand, 1) := by decide +kernel
theorem dX7_isAbstract_29 : decode cX7_isAbstract 29 = .ok (.ifCond .eq 7, 3) := by decide +kernel
theorem dX7_isAbstract_32 : decode cX7_isAbstract 32 = .ok (.iconst 1, 1) := by decide +kernel
theorem dX7_isAbstract_33 : decode cX7_isAbstract 33 = .ok (.goto 4, 3) := by decide +kernel
theorem dX7_isAbstract_36 : decode cX7_isAbstract 36 = .ok (.iconst 0, 1) := by decide +kernel
theorem dX7_isAbstract_37 : decode cX7_isAbstract 37 = .ok (.ireturn, 1) := by decide +kernel
theorem dX7_isFinal_0 : decode cX7_isFinal 0 = .ok (.iload_n 1, 1) := by decide +kernel
theorem dX7_isFinal_1 : decode cX7_isFinal 1 = .ok (.ifCond .lt 26, 3) := by decide +kernel
theorem dX7_isFinal_4 : decode cX7_isFinal 4 = .ok (.iload_n 1, 1) := by decide +kernel
theorem dX7_isFinal_5 : decode cX7_isFinal 5 = .ok (.aload_n 0, 1) := by decide +kernel
theorem dX7_isFinal_6 : decode cX7_isFinal 6 = .ok (.getfield 34, 3) := by decide +kernel
theorem dX7_isFinal_9 : decode cX7_isFinal 9 = .ok (.if_icmp .ge 18, 3) := by decide +kernel
theorem dX7_isFinal_12 : decode cX7_isFinal 12 = .ok (.aload_n 0, 1) := by decide +kernel
theorem dX7_isFinal_13 : decode cX7_isFinal 13 = .ok (.getfield 19, 3) := by decide +kernel
theorem dX7_isFinal_16 : decode cX7_isFinal 16 = .ok (.iload_n 1, 1) := by decide +kernel
theorem dX7_isFinal_17 : decode cX7_isFinal 17 = .ok (.iaload, 1) := by decide +kernel
theorem dX7_isFinal_18 : decode cX7_isFinal 18 = .ok (.iconst 2, 1) := by decide +kernel
theorem dX7_isFinal_19 : decode cX7_isFinal 19 = .ok (.iand, 1) := by decide +kernel
theorem dX7_isFinal_20 : decode cX7_isFinal 20 = .ok (.ifCond .eq 7, 3) := by decide +kernel
theorem dX7_isFinal_23 : decode cX7_isFinal 23 = .ok (.iconst 1, 1) := by decide +kernel
theorem dX7_isFinal_24 : decode cX7_isFinal 24 = .ok (.goto 4, 3) := by decide +kernel
theorem dX7_isFinal_27 : decode cX7_isFinal 27 = .ok (.iconst 0, 1) := by decide +kernel
theorem dX7_isFinal_28 : decode cX7_isFinal 28 = .ok (.ireturn, 1) := by decide +kernel
theorem dX7_whatIsAbove_0 : decode cX7_whatIsAbove 0 = .ok (.iload_n 1, 1) := by decide +kernel
theorem dX7_whatIsAbove_1 : decode cX7_whatIsAbove 1 = .ok (.ifCond .lt 20, 3) := by decide +kernel
theorem dX7_whatIsAbove_4 : decode cX7_whatIsAbove 4 = .ok (.iload_n 1, 1) := by decide +kernel
theorem dX7_whatIsAbove_5 : decode cX7_whatIsAbove 5 = .ok (.aload_n 0, 1) := by decide +kernel
theorem dX7_whatIsAbove_6 : decode cX7_whatIsAbove 6 = .ok (.getfield 34, 3) := by decide +kernel
theorem dX7_whatIsAbove_9 : decode cX7_whatIsAbove 9 = .ok (.if_icmp .ge 12, 3) := by decide +kernel
theorem dX7_whatIsAbove_12 : decode cX7_whatIsAbove 12 = .ok (.aload_n 0, 1) := by decide +kernel
theorem dX7_whatIsAbove_13 : decode cX7_whatIsAbove 13 = .ok (.getfield 15, 3) := by decide +kernel
theorem dX7_whatIsAbove_16 : decode cX7_whatIsAbove 16 = .ok (.iload_n 1, 1) := by decide +kernel
theorem dX7_whatIsAbove_17 : decode cX7_whatIsAbove 17 = .ok (.iaload, 1) := by decide +kernel
theorem dX7_whatIsAbove_18 : decode cX7_whatIsAbove 18 = .ok (.goto 5, 3) := by decide +kernel
theorem dX7_whatIsAbove_21 : decode cX7_whatIsAbove 21 = .ok (.bipush (-2), 2) := by decide +kernel
theorem dX7_whatIsAbove_23 : decode cX7_whatIsAbove 23 = .ok (.ireturn, 1) := by decide +kernel
theorem dX7_faceAt_0 : decode cX7_faceAt 0 = .ok (.iload_n 1, 1) := by decide +kernel
theorem dX7_faceAt_1 : decode cX7_faceAt 1 = .ok (.ifCond .lt 38, 3) := by decide +kernel
theorem dX7_faceAt_4 : decode cX7_faceAt 4 = .ok (.iload_n 1, 1) := by decide +kernel
theorem dX7_faceAt_5 : decode cX7_faceAt 5 = .ok (.aload_n 0, 1) := by decide +kernel
theorem dX7_faceAt_6 : decode cX7_faceAt 6 = .ok (.getfield 34, 3) := by decide +kernel
theorem dX7_faceAt_9 : decode cX7_faceAt 9 = .ok (.if_icmp .ge 30, 3) := by decide +kernel
theorem dX7_faceAt_12 : decode cX7_faceAt 12 = .ok (.iload_n 2, 1) := by decide +kernel
theorem dX7_faceAt_13 : decode cX7_faceAt 13 = .ok (.ifCond .lt 26, 3) := by decide +kernel
theorem dX7_faceAt_16 : decode cX7_faceAt 16 = .ok (.iload_n 2, 1) := by decide +kernel
theorem dX7_faceAt_17 : decode cX7_faceAt 17 = .ok (.aload_n 0, 1) := by decide +kernel
theorem dX7_faceAt_18 : decode cX7_faceAt 18 = .ok (.getfield 22, 3) := by decide +kernel
theorem dX7_faceAt_21 : decode cX7_faceAt 21 = .ok (.iload_n 1, 1) := by decide +kernel
theorem dX7_faceAt_22 : decode cX7_faceAt 22 = .ok (.iaload, 1) := by decide +kernel
theorem dX7_faceAt_23 : decode cX7_faceAt 23 = .ok (.if_icmp .ge 16, 3) := by decide +kernel
theorem dX7_faceAt_26 : decode cX7_faceAt 26 = .ok (.aload_n 0, 1) := by decide +kernel
theorem dX7_faceAt_27 : decode cX7_faceAt 27 = .ok (.getfield 25, 3) := by decide +kernel
theorem dX7_faceAt_30 : decode cX7_faceAt 30 = .ok (.iload_n 1, 1) := by decide +kernel
theorem dX7_faceAt_31 : decode cX7_faceAt 31 = .ok (.iconst 3, 1) := by decide +kernel
theorem dX7_faceAt_32 : decode cX7_faceAt 32 = .ok (.imul, 1) := by decide +kernel
theorem dX7_faceAt_33 : decode cX7_faceAt 33 = .ok (.iload_n 2, 1) := by decide +kernel
theorem dX7_faceAt_34 : decode cX7_faceAt 34 = .ok (.iadd, 1) := by decide +kernel
theorem dX7_faceAt_35 : decode cX7_faceAt 35 = .ok (.iaload, 1) := by decide +kernel
theorem dX7_faceAt_36 : decode cX7_faceAt 36 = .ok (.goto 5, 3) := by decide +kernel
theorem dX7_faceAt_39 : decode cX7_faceAt 39 = .ok (.bipush (-2), 2) := by decide +kernel
theorem dX7_faceAt_41 : decode cX7_faceAt 41 = .ok (.ireturn, 1) := by decide +kernel
theorem dX7_isBelow_0 : decode cX7_isBelow 0 = .ok (.iload_n 1, 1) := by decide +kernel
theorem dX7_isBelow_1 : decode cX7_isBelow 1 = .ok (.ifCond .lt 40, 3) := by decide +kernel
theorem dX7_isBelow_4 : decode cX7_isBelow 4 = .ok (.iload_n 1, 1) := by decide +kernel
theorem dX7_isBelow_5 : decode cX7_isBelow 5 = .ok (.aload_n 0, 1) := by decide +kernel
theorem dX7_isBelow_6 : decode cX7_isBelow 6 = .ok (.getfield 34, 3) := by decide +kernel
theorem dX7_isBelow_9 : decode cX7_isBelow 9 = .ok (.if_icmp .ge 32, 3) := by decide +kernel
theorem dX7_isBelow_12 : decode cX7_isBelow 12 = .ok (.iload_n 2, 1) := by decide +kernel
theorem dX7_isBelow_13 : decode cX7_isBelow 13 = .ok (.ifCond .lt 28, 3) := by decide +kernel
theorem dX7_isBelow_16 : decode cX7_isBelow 16 = .ok (.iload_n 2, 1) := by decide +kernel
theorem dX7_isBelow_17 : decode cX7_isBelow 17 = .ok (.aload_n 0, 1) := by decide +kernel
theorem dX7_isBelow_18 : decode cX7_isBelow 18 = .ok (.getfield 34, 3) := by decide +kernel
theorem dX7_isBelow_21 : decode cX7_isBelow 21 = .ok (.if_icmp .ge 20, 3) := by decide +kernel
theorem dX7_isBelow_24 : decode cX7_isBelow 24 = .ok (.aload_n 0, 1) := by decide +kernel
theorem dX7_isBelow_25 : decode cX7_isBelow 25 = .ok (.getfield 28, 3) := by decide +kernel
theorem dX7_isBelow_28 : decode cX7_isBelow 28 = .ok (.iload_n 1, 1) := by decide +kernel
theorem dX7_isBelow_29 : decode cX7_isBelow 29 = .ok (.iaload, 1) := by decide +kernel
theorem dX7_isBelow_30 : decode cX7_isBelow 30 = .ok (.iload_n 2, 1) := by decide +kernel
theorem dX7_isBelow_31 : decode cX7_isBelow 31 = .ok (.ishr, 1) := by decide +kernel
theorem dX7_isBelow_32 : decode cX7_isBelow 32 = .ok (.iconst 1, 1) := by decide +kernel
theorem dX7_isBelow_33 : decode cX7_isBelow 33 = .ok (.iand, 1) := by decide +kernel
theorem dX7_isBelow_34 : decode cX7_isBelow 34 = .ok (.ifCond .eq 7, 3) := by decide +kernel
theorem dX7_isBelow_37 : decode cX7_isBelow 37 = .ok (.iconst 1, 1) := by decide +kernel
theorem dX7_isBelow_38 : decode cX7_isBelow 38 = .ok (.goto 4, 3) := by decide +kernel
theorem dX7_isBelow_41 : decode cX7_isBelow 41 = .ok (.iconst 0, 1) := by decide +kernel
theorem dX7_isBelow_42 : decode cX7_isBelow 42 = .ok (.ireturn, 1) := by decide +kernel
theorem dX7_classesAbove_0 : decode cX7_classesAbove 0 = .ok (.iload_n 1, 1) := by decide +kernel
theorem dX7_classesAbove_1 : decode cX7_classesAbove 1 = .ok (.ifCond .lt 31, 3) := by decide +kernel
theorem dX7_classesAbove_4 : decode cX7_classesAbove 4 = .ok (.iload_n 1, 1) := by decide +kernel
theorem dX7_classesAbove_5 : decode cX7_classesAbove 5 = .ok (.aload_n 0, 1) := by decide +kernel
theorem dX7_classesAbove_6 : decode cX7_classesAbove 6 = .ok (.getfield 34, 3) := by decide +kernel
theorem dX7_classesAbove_9 : decode cX7_classesAbove 9 = .ok (.if_icmp .ge 23, 3) := by decide +kernel
theorem dX7_classesAbove_12 : decode cX7_classesAbove 12 = .ok (.aload_n 0, 1) := by decide +kernel
theorem dX7_classesAbove_13 : decode cX7_classesAbove 13 = .ok (.getfield 28, 3) := by decide +kernel
theorem dX7_classesAbove_16 : decode cX7_classesAbove 16 = .ok (.iload_n 1, 1) := by decide +kernel
theorem dX7_classesAbove_17 : decode cX7_classesAbove 17 = .ok (.iaload, 1) := by decide +kernel
theorem dX7_classesAbove_18 : decode cX7_classesAbove 18 = .ok (.aload_n 0, 1) := by decide +kernel
theorem dX7_classesAbove_19 : decode cX7_classesAbove 19 = .ok (.getfield 38, 3) := by decide +kernel
theorem dX7_classesAbove_22 : decode cX7_classesAbove 22 = .ok (.iand, 1) := by decide +kernel
theorem dX7_classesAbove_23 : decode cX7_classesAbove 23 = .ok (.iconst 1, 1) := by decide +kernel
theorem dX7_classesAbove_24 : decode cX7_classesAbove 24 = .ok (.iload_n 1, 1) := by decide +kernel
theorem dX7_classesAbove_25 : decode cX7_classesAbove 25 = .ok (.ishl, 1) := by decide +kernel
theorem dX7_classesAbove_26 : decode cX7_classesAbove 26 = .ok (.iconst (-1), 1) := by decide +kernel
theorem dX7_classesAbove_27 : decode cX7_classesAbove 27 = .ok (.ixor, 1) := by decide +kernel
theorem dX7_classesAbove_28 : decode cX7_classesAbove 28 = .ok (.iand, 1) := by decide +kernel
theorem dX7_classesAbove_29 : decode cX7_classesAbove 29 = .ok (.goto 4, 3) := by decide +kernel
theorem dX7_classesAbove_32 : decode cX7_classesAbove 32 = .ok (.iconst 0, 1) := by decide +kernel
theorem dX7_classesAbove_33 : decode cX7_classesAbove 33 = .ok (.ireturn, 1) := by decide +kernel
theorem dX7_facesOver_0 : decode cX7_facesOver 0 = .ok (.iload_n 1, 1) := by decide +kernel
theorem dX7_facesOver_1 : decode cX7_facesOver 1 = .ok (.ifCond .lt 27, 3) := by decide +kernel
theorem dX7_facesOver_4 : decode cX7_facesOver 4 = .ok (.iload_n 1, 1) := by decide +kernel
theorem dX7_facesOver_5 : decode cX7_facesOver 5 = .ok (.aload_n 0, 1) := by decide +kernel
theorem dX7_facesOver_6 : decode cX7_facesOver 6 = .ok (.getfield 34, 3) := by decide +kernel
theorem dX7_facesOver_9 : decode cX7_facesOver 9 = .ok (.if_icmp .ge 19, 3) := by decide +kernel
theorem dX7_facesOver_12 : decode cX7_facesOver 12 = .ok (.aload_n 0, 1) := by decide +kernel
theorem dX7_facesOver_13 : decode cX7_facesOver 13 = .ok (.getfield 28, 3) := by decide +kernel
theorem dX7_facesOver_16 : decode cX7_facesOver 16 = .ok (.iload_n 1, 1) := by decide +kernel
theorem dX7_facesOver_17 : decode cX7_facesOver 17 = .ok (.iaload, 1) := by decide +kernel
theorem dX7_facesOver_18 : decode cX7_facesOver 18 = .ok (.aload_n 0, 1) := by decide +kernel
theorem dX7_facesOver_19 : decode cX7_facesOver 19 = .ok (.getfield 38, 3) := by decide +kernel
theorem dX7_facesOver_22 : decode cX7_facesOver 22 = .ok (.iconst (-1), 1) := by decide +kernel
theorem dX7_facesOver_23 : decode cX7_facesOver 23 = .ok (.ixor, 1) := by decide +kernel
theorem dX7_facesOver_24 : decode cX7_facesOver 24 = .ok (.iand, 1) := by decide +kernel
theorem dX7_facesOver_25 : decode cX7_facesOver 25 = .ok (.goto 4, 3) := by decide +kernel
theorem dX7_facesOver_28 : decode cX7_facesOver 28 = .ok (.iconst 0, 1) := by decide +kernel
theorem dX7_facesOver_29 : decode cX7_facesOver 29 = .ok (.ireturn, 1) := by decide +kernel
theorem dX7_goesInto_0 : decode cX7_goesInto 0 = .ok (.iload_n 1, 1) := by decide +kernel
theorem dX7_goesInto_1 : decode cX7_goesInto 1 = .ok (.bipush (-2), 2) := by decide +kernel
theorem dX7_goesInto_3 : decode cX7_goesInto 3 = .ok (.if_icmp .ne 17, 3) := by decide +kernel
theorem dX7_goesInto_6 : decode cX7_goesInto 6 = .ok (.iload_n 2, 1) := by decide +kernel
theorem dX7_goesInto_7 : decode cX7_goesInto 7 = .ok (.bipush (-2), 2) := by decide +kernel
theorem dX7_goesInto_9 : decode cX7_goesInto 9 = .ok (.if_icmp .ne 7, 3) := by decide +kernel
theorem dX7_goesInto_12 : decode cX7_goesInto 12 = .ok (.iconst 1, 1) := by decide +kernel
theorem dX7_goesInto_13 : decode cX7_goesInto 13 = .ok (.goto 13, 3) := by decide +kernel
theorem dX7_goesInto_16 : decode cX7_goesInto 16 = .ok (.iconst 0, 1) := by decide +kernel
theorem dX7_goesInto_17 : decode cX7_goesInto 17 = .ok (.goto 9, 3) := by decide +kernel
theorem dX7_goesInto_20 : decode cX7_goesInto 20 = .ok (.aload_n 0, 1) := by decide +kernel
theorem dX7_goesInto_21 : decode cX7_goesInto 21 = .ok (.iload_n 1, 1) := by decide +kernel
theorem dX7_goesInto_22 : decode cX7_goesInto 22 = .ok (.iload_n 2, 1) := by decide +kernel
theorem dX7_goesInto_23 : decode cX7_goesInto 23 = .ok (.invokevirtual 41, 3) := by decide +kernel
theorem dX7_goesInto_26 : decode cX7_goesInto 26 = .ok (.ireturn, 1) := by decide +kernel
theorem dX7_areParameters_0 : decode cX7_areParameters 0 = .ok (.iload_n 1, 1) := by decide +kernel
theorem dX7_areParameters_1 : decode cX7_areParameters 1 = .ok (.bipush (-2), 2) := by decide +kernel
theorem dX7_areParameters_3 : decode cX7_areParameters 3 = .ok (.if_icmp .ne 17, 3) := by decide +kernel
theorem dX7_areParameters_6 : decode cX7_areParameters 6 = .ok (.iload_n 2, 1) := by decide +kernel
theorem dX7_areParameters_7 : decode cX7_areParameters 7 = .ok (.bipush (-2), 2) := by decide +kernel
theorem dX7_areParameters_9 : decode cX7_areParameters 9 = .ok (.if_icmp .ne 7, 3) := by decide +kernel
theorem dX7_areParameters_12 : decode cX7_areParameters 12 = .ok (.iconst 1, 1) := by decide +kernel
theorem dX7_areParameters_13 : decode cX7_areParameters 13 = .ok (.goto 34, 3) := by decide +kernel
theorem dX7_areParameters_16 : decode cX7_areParameters 16 = .ok (.iconst 0, 1) := by decide +kernel
theorem dX7_areParameters_17 : decode cX7_areParameters 17 = .ok (.goto 30, 3) := by decide +kernel
theorem dX7_areParameters_20 : decode cX7_areParameters 20 = .ok (.aload_n 0, 1) := by decide +kernel
theorem dX7_areParameters_21 : decode cX7_areParameters 21 = .ok (.iload_n 1, 1) := by decide +kernel
theorem dX7_areParameters_22 : decode cX7_areParameters 22 = .ok (.invokevirtual 45, 3) := by decide +kernel
theorem dX7_areParameters_25 : decode cX7_areParameters 25 = .ok (.ifCond .eq 21, 3) := by decide +kernel
theorem dX7_areParameters_28 : decode cX7_areParameters 28 = .ok (.iload_n 2, 1) := by decide +kernel
theorem dX7_areParameters_29 : decode cX7_areParameters 29 = .ok (.bipush (-2), 2) := by decide +kernel
theorem dX7_areParameters_31 : decode cX7_areParameters 31 = .ok (.if_icmp .eq 11, 3) := by decide +kernel
theorem dX7_areParameters_34 : decode cX7_areParameters 34 = .ok (.aload_n 0, 1) := by decide +kernel
theorem dX7_areParameters_35 : decode cX7_areParameters 35 = .ok (.iload_n 2, 1) := by decide +kernel
theorem dX7_areParameters_36 : decode cX7_areParameters 36 = .ok (.invokevirtual 45, 3) := by decide +kernel
theorem dX7_areParameters_39 : decode cX7_areParameters 39 = .ok (.ifCond .eq 7, 3) := by decide +kernel
theorem dX7_areParameters_42 : decode cX7_areParameters 42 = .ok (.iconst 1, 1) := by decide +kernel
theorem dX7_areParameters_43 : decode cX7_areParameters 43 = .ok (.goto 4, 3) := by decide +kernel
theorem dX7_areParameters_46 : decode cX7_areParameters 46 = .ok (.iconst 0, 1) := by decide +kernel
theorem dX7_areParameters_47 : decode cX7_areParameters 47 = .ok (.ireturn, 1) := by decide +kernel
theorem dX7_areMarks_0 : decode cX7_areMarks 0 = .ok (.iload_n 0, 1) := by decide +kernel
theorem dX7_areMarks_1 : decode cX7_areMarks 1 = .ok (.ifCond .lt 12, 3) := by decide +kernel
theorem dX7_areMarks_4 : decode cX7_areMarks 4 = .ok (.iload_n 0, 1) := by decide +kernel
theorem dX7_areMarks_5 : decode cX7_areMarks 5 = .ok (.iconst 3, 1) := by decide +kernel
theorem dX7_areMarks_6 : decode cX7_areMarks 6 = .ok (.if_icmp .gt 7, 3) := by decide +kernel
theorem dX7_areMarks_9 : decode cX7_areMarks 9 = .ok (.iconst 1, 1) := by decide +kernel
theorem dX7_areMarks_10 : decode cX7_areMarks 10 = .ok (.goto 4, 3) := by decide +kernel
theorem dX7_areMarks_13 : decode cX7_areMarks 13 = .ok (.iconst 0, 1) := by decide +kernel
theorem dX7_areMarks_14 : decode cX7_areMarks 14 = .ok (.ireturn, 1) := by decide +kernel
theorem dX7_mayCome_0 : decode cX7_mayCome 0 = .ok (.iload_n 3, 1) := by decide +kernel
theorem dX7_mayCome_1 : decode cX7_mayCome 1 = .ok (.invokestatic 49, 3) := by decide +kernel
theorem dX7_mayCome_4 : decode cX7_mayCome 4 = .ok (.ifCond .eq 25, 3) := by decide +kernel
theorem dX7_mayCome_7 : decode cX7_mayCome 7 = .ok (.iload_n 2, 1) := by decide +kernel
theorem dX7_mayCome_8 : decode cX7_mayCome 8 = .ok (.bipush (-2), 2) := by decide +kernel
theorem dX7_mayCome_10 : decode cX7_mayCome 10 = .ok (.if_icmp .eq 15, 3) := by decide +kernel
theorem dX7_mayCome_13 : decode cX7_mayCome 13 = .ok (.iload_n 1, 1) := by decide +kernel
theorem dX7_mayCome_14 : decode cX7_mayCome 14 = .ok (.ifCond .ne 15, 3) := by decide +kernel
theorem dX7_mayCome_17 : decode cX7_mayCome 17 = .ok (.aload_n 0, 1) := by decide +kernel
theorem dX7_mayCome_18 : decode cX7_mayCome 18 = .ok (.iload_n 2, 1) := by decide +kernel
theorem dX7_mayCome_19 : decode cX7_mayCome 19 = .ok (.invokevirtual 52, 3) := by decide +kernel
theorem dX7_mayCome_22 : decode cX7_mayCome 22 = .ok (.ifCond .eq 7, 3) := by decide +kernel
theorem dX7_mayCome_25 : decode cX7_mayCome 25 = .ok (.iconst 1, 1) := by decide +kernel
theorem dX7_mayCome_26 : decode cX7_mayCome 26 = .ok (.goto 4, 3) := by decide +kernel
theorem dX7_mayCome_29 : decode cX7_mayCome 29 = .ok (.iconst 0, 1) := by decide +kernel
theorem dX7_mayCome_30 : decode cX7_mayCome 30 = .ok (.ireturn, 1) := by decide +kernel
theorem dX7_mayHaveFace_0 : decode cX7_mayHaveFace 0 = .ok (.aload_n 0, 1) := by decide +kernel
theorem dX7_mayHaveFace_1 : decode cX7_mayHaveFace 1 = .ok (.iload_n 1, 1) := by decide +kernel
theorem dX7_mayHaveFace_2 : decode cX7_mayHaveFace 2 = .ok (.invokevirtual 45, 3) := by decide +kernel
theorem dX7_mayHaveFace_5 : decode cX7_mayHaveFace 5 = .ok (.ifCond .eq 34, 3) := by decide +kernel
theorem dX7_mayHaveFace_8 : decode cX7_mayHaveFace 8 = .ok (.aload_n 0, 1) := by decide +kernel
theorem dX7_mayHaveFace_9 : decode cX7_mayHaveFace 9 = .ok (.iload_n 2, 1) := by decide +kernel
theorem dX7_mayHaveFace_10 : decode cX7_mayHaveFace 10 = .ok (.invokevirtual 55, 3) := by decide +kernel
theorem dX7_mayHaveFace_13 : decode cX7_mayHaveFace 13 = .ok (.ifCond .eq 26, 3) := by decide +kernel
theorem dX7_mayHaveFace_16 : decode cX7_mayHaveFace 16 = .ok (.aload_n 0, 1) := by decide +kernel
theorem dX7_mayHaveFace_17 : decode cX7_mayHaveFace 17 = .ok (.getfield 22, 3) := by decide +kernel
theorem dX7_mayHaveFace_20 : decode cX7_mayHaveFace 20 = .ok (.iload_n 1, 1) := by decide +kernel
theorem dX7_mayHaveFace_21 : decode cX7_mayHaveFace 21 = .ok (.iaload, 1) := by decide +kernel
theorem dX7_mayHaveFace_22 : decode cX7_mayHaveFace 22 = .ok (.iconst 3, 1) := by decide +kernel
theorem dX7_mayHaveFace_23 : decode cX7_mayHaveFace 23 = .ok (.if_icmp .ge 16, 3) := by decide +kernel
theorem dX7_mayHaveFace_26 : decode cX7_mayHaveFace 26 = .ok (.aload_n 0, 1) := by decide +kernel
theorem dX7_mayHaveFace_27 : decode cX7_mayHaveFace 27 = .ok (.iload_n 1, 1) := by decide +kernel
theorem dX7_mayHaveFace_28 : decode cX7_mayHaveFace 28 = .ok (.iload_n 2, 1) := by decide +kernel
theorem dX7_mayHaveFace_29 : decode cX7_mayHaveFace 29 = .ok (.invokevirtual 57, 3) := by decide +kernel
theorem dX7_mayHaveFace_32 : decode cX7_mayHaveFace 32 = .ok (.ifCond .ne 7, 3) := by decide +kernel
theorem dX7_mayHaveFace_35 : decode cX7_mayHaveFace 35 = .ok (.iconst 1, 1) := by decide +kernel
theorem dX7_mayHaveFace_36 : decode cX7_mayHaveFace 36 = .ok (.goto 4, 3) := by decide +kernel
theorem dX7_mayHaveFace_39 : decode cX7_mayHaveFace 39 = .ok (.iconst 0, 1) := by decide +kernel
theorem dX7_mayHaveFace_40 : decode cX7_mayHaveFace 40 = .ok (.ireturn, 1) := by decide +kernel
theorem dX7_hasFace_0 : decode cX7_hasFace 0 = .ok (.iconst 0, 1) := by decide +kernel
theorem dX7_hasFace_1 : decode cX7_hasFace 1 = .ok (.istore_n 3, 1) := by decide +kernel
theorem dX7_hasFace_2 : decode cX7_hasFace 2 = .ok (.iload_n 3, 1) := by decide +kernel
theorem dX7_hasFace_3 : decode cX7_hasFace 3 = .ok (.iconst 3, 1) := by decide +kernel
theorem dX7_hasFace_4 : decode cX7_hasFace 4 = .ok (.if_icmp .ge 21, 3) := by decide +kernel
theorem dX7_hasFace_7 : decode cX7_hasFace 7 = .ok (.aload_n 0, 1) := by decide +kernel
theorem dX7_hasFace_8 : decode cX7_hasFace 8 = .ok (.iload_n 1, 1) := by decide +kernel
theorem dX7_hasFace_9 : decode cX7_hasFace 9 = .ok (.iload_n 3, 1) := by decide +kernel
theorem dX7_hasFace_10 : decode cX7_hasFace 10 = .ok (.invokevirtual 60, 3) := by decide +kernel
theorem dX7_hasFace_13 : decode cX7_hasFace 13 = .ok (.iload_n 2, 1) := by decide +kernel
theorem dX7_hasFace_14 : decode cX7_hasFace 14 = .ok (.if_icmp .ne 5, 3) := by decide +kernel
theorem dX7_hasFace_17 : decode cX7_hasFace 17 = .ok (.iconst 1, 1) := by decide +kernel
theorem dX7_hasFace_18 : decode cX7_hasFace 18 = .ok (.ireturn, 1) := by decide +kernel
theorem dX7_hasFace_19 : decode cX7_hasFace 19 = .ok (.iinc 3 1, 3) := by decide +kernel
theorem dX7_hasFace_22 : decode cX7_hasFace 22 = .ok (.goto (-20), 3) := by decide +kernel
theorem dX7_hasFace_25 : decode cX7_hasFace 25 = .ok (.iconst 0, 1) := by decide +kernel
theorem dX7_hasFace_26 : decode cX7_hasFace 26 = .ok (.ireturn, 1) := by decide +kernel
theorem dX7_add_0 : decode cX7_add 0 = .ok (.aload_n 0, 1) := by decide +kernel
theorem dX7_add_1 : decode cX7_add 1 = .ok (.getfield 34, 3) := by decide +kernel
theorem dX7_add_4 : decode cX7_add 4 = .ok (.bipush 12, 2) := by decide +kernel
theorem dX7_add_6 : decode cX7_add 6 = .ok (.if_icmp .lt 6, 3) := by decide +kernel
theorem dX7_add_9 : decode cX7_add 9 = .ok (.bipush (-3), 2) := by decide +kernel
theorem dX7_add_11 : decode cX7_add 11 = .ok (.ireturn, 1) := by decide +kernel
theorem dX7_add_12 : decode cX7_add 12 = .ok (.aload_n 0, 1) := by decide +kernel
theorem dX7_add_13 : decode cX7_add 13 = .ok (.getfield 34, 3) := by decide +kernel
theorem dX7_add_16 : decode cX7_add 16 = .ok (.istore 4, 2) := by decide +kernel
theorem dX7_add_18 : decode cX7_add 18 = .ok (.aload_n 0, 1) := by decide +kernel
theorem dX7_add_19 : decode cX7_add 19 = .ok (.dup, 1) := by decide +kernel
theorem dX7_add_20 : decode cX7_add 20 = .ok (.getfield 34, 3) := by decide +kernel
theorem dX7_add_23 : decode cX7_add 23 = .ok (.iconst 1, 1) := by decide +kernel
theorem dX7_add_24 : decode cX7_add 24 = .ok (.iadd, 1) := by decide +kernel
theorem dX7_add_25 : decode cX7_add 25 = .ok (.putfield 34, 3) := by decide +kernel
theorem dX7_add_28 : decode cX7_add 28 = .ok (.aload_n 0, 1) := by decide +kernel
theorem dX7_add_29 : decode cX7_add 29 = .ok (.getfield 11, 3) := by decide +kernel
theorem dX7_add_32 : decode cX7_add 32 = .ok (.iload 4, 2) := by decide +kernel
theorem dX7_add_34 : decode cX7_add 34 = .ok (.iload_n 1, 1) := by decide +kernel
theorem dX7_add_35 : decode cX7_add 35 = .ok (.bastore, 1) := by decide +kernel
theorem dX7_add_36 : decode cX7_add 36 = .ok (.aload_n 0, 1) := by decide +kernel
theorem dX7_add_37 : decode cX7_add 37 = .ok (.dup, 1) := by decide +kernel
theorem dX7_add_38 : decode cX7_add 38 = .ok (.getfield 38, 3) := by decide +kernel
theorem dX7_add_41 : decode cX7_add 41 = .ok (.iload_n 1, 1) := by decide +kernel
theorem dX7_add_42 : decode cX7_add 42 = .ok (.ifCond .eq 7, 3) := by decide +kernel
theorem dX7_add_45 : decode cX7_add 45 = .ok (.iconst 0, 1) := by decide +kernel
theorem dX7_add_46 : decode cX7_add 46 = .ok (.goto 7, 3) := by decide +kernel
theorem dX7_add_49 : decode cX7_add 49 = .ok (.iconst 1, 1) := by decide +kernel
theorem dX7_add_50 : decode cX7_add 50 = .ok (.iload 4, 2) := by decide +kernel
theorem dX7_add_52 : decode cX7_add 52 = .ok (.ishl, 1) := by decide +kernel
theorem dX7_add_53 : decode cX7_add 53 = .ok (.ior, 1) := by decide +kernel
theorem dX7_add_54 : decode cX7_add 54 = .ok (.putfield 38, 3) := by decide +kernel
theorem dX7_add_57 : decode cX7_add 57 = .ok (.aload_n 0, 1) := by decide +kernel
theorem dX7_add_58 : decode cX7_add 58 = .ok (.getfield 15, 3) := by decide +kernel
theorem dX7_add_61 : decode cX7_add 61 = .ok (.iload 4, 2) := by decide +kernel
theorem dX7_add_63 : decode cX7_add 63 = .ok (.iload_n 2, 1) := by decide +kernel
theorem dX7_add_64 : decode cX7_add 64 = .ok (.iastore, 1) := by decide +kernel
theorem dX7_add_65 : decode cX7_add 65 = .ok (.aload_n 0, 1) := by decide +kernel
theorem dX7_add_66 : decode cX7_add 66 = .ok (.getfield 19, 3) := by decide +kernel
theorem dX7_add_69 : decode cX7_add 69 = .ok (.iload 4, 2) := by decide +kernel
theorem dX7_add_71 : decode cX7_add 71 = .ok (.iload_n 3, 1) := by decide +kernel
theorem dX7_add_72 : decode cX7_add 72 = .ok (.iastore, 1) := by decide +kernel
theorem dX7_add_73 : decode cX7_add 73 = .ok (.aload_n 0, 1) := by decide +kernel
theorem dX7_add_74 : decode cX7_add 74 = .ok (.getfield 22, 3) := by decide +kernel
theorem dX7_add_77 : decode cX7_add 77 = .ok (.iload 4, 2) := by decide +kernel
theorem dX7_add_79 : decode cX7_add 79 = .ok (.iconst 0, 1) := by decide +kernel
theorem dX7_add_80 : decode cX7_add 80 = .ok (.iastore, 1) := by decide +kernel
theorem dX7_add_81 : decode cX7_add 81 = .ok (.aload_n 0, 1) := by decide +kernel
theorem dX7_add_82 : decode cX7_add 82 = .ok (.invokevirtual 64, 3) := by decide +kernel
theorem dX7_add_85 : decode cX7_add 85 = .ok (.iload 4, 2) := by decide +kernel
theorem dX7_add_87 : decode cX7_add 87 = .ok (.ireturn, 1) := by decide +kernel
theorem dX7_putAbove_0 : decode cX7_putAbove 0 = .ok (.aload_n 0, 1) := by decide +kernel
theorem dX7_putAbove_1 : decode cX7_putAbove 1 = .ok (.iload_n 1, 1) := by decide +kernel
theorem dX7_putAbove_2 : decode cX7_putAbove 2 = .ok (.invokevirtual 45, 3) := by decide +kernel
theorem dX7_putAbove_5 : decode cX7_putAbove 5 = .ok (.ifCond .ne 5, 3) := by decide +kernel
theorem dX7_putAbove_8 : decode cX7_putAbove 8 = .ok (.iconst (-1), 1) := by decide +kernel
theorem dX7_putAbove_9 : decode cX7_putAbove 9 = .ok (.ireturn, 1) := by decide +kernel
theorem dX7_putAbove_10 : decode cX7_putAbove 10 = .ok (.aload_n 0, 1) := by decide +kernel
theorem dX7_putAbove_11 : decode cX7_putAbove 11 = .ok (.getfield 15, 3) := by decide +kernel
theorem dX7_putAbove_14 : decode cX7_putAbove 14 = .ok (.iload_n 1, 1) := by decide +kernel
theorem dX7_putAbove_15 : decode cX7_putAbove 15 = .ok (.iload_n 2, 1) := by decide +kernel
theorem dX7_putAbove_16 : decode cX7_putAbove 16 = .ok (.iastore, 1) := by decide +kernel
theorem dX7_putAbove_17 : decode cX7_putAbove 17 = .ok (.aload_n 0, 1) := by decide +kernel
theorem dX7_putAbove_18 : decode cX7_putAbove 18 = .ok (.invokevirtual 64, 3) := by decide +kernel
theorem dX7_putAbove_21 : decode cX7_putAbove 21 = .ok (.iconst 1, 1) := by decide +kernel
theorem dX7_putAbove_22 : decode cX7_putAbove 22 = .ok (.ireturn, 1) := by decide +kernel
theorem dX7_addFace_0 : decode cX7_addFace 0 = .ok (.aload_n 0, 1) := by decide +kernel
theorem dX7_addFace_1 : decode cX7_addFace 1 = .ok (.iload_n 1, 1) := by decide +kernel
theorem dX7_addFace_2 : decode cX7_addFace 2 = .ok (.invokevirtual 45, 3) := by decide +kernel
theorem dX7_addFace_5 : decode cX7_addFace 5 = .ok (.ifCond .eq 13, 3) := by decide +kernel
theorem dX7_addFace_8 : decode cX7_addFace 8 = .ok (.aload_n 0, 1) := by decide +kernel
theorem dX7_addFace_9 : decode cX7_addFace 9 = .ok (.getfield 22, 3) := by decide +kernel
theorem dX7_addFace_12 : decode cX7_addFace 12 = .ok (.iload_n 1, 1) := by decide +kernel
theorem dX7_addFace_13 : decode cX7_addFace 13 = .ok (.iaload, 1) := by decide +kernel
theorem dX7_addFace_14 : decode cX7_addFace 14 = .ok (.iconst 3, 1) := by decide +kernel
theorem dX7_addFace_15 : decode cX7_addFace 15 = .ok (.if_icmp .lt 5, 3) := by decide +kernel
theorem dX7_addFace_18 : decode cX7_addFace 18 = .ok (.iconst (-1), 1) := by decide +kernel
theorem dX7_addFace_19 : decode cX7_addFace 19 = .ok (.ireturn, 1) := by decide +kernel
theorem dX7_addFace_20 : decode cX7_addFace 20 = .ok (.aload_n 0, 1) := by decide +kernel
theorem dX7_addFace_21 : decode cX7_addFace 21 = .ok (.getfield 25, 3) := by decide +kernel
theorem dX7_addFace_24 : decode cX7_addFace 24 = .ok (.iload_n 1, 1) := by decide +kernel
theorem dX7_addFace_25 : decode cX7_addFace 25 = .ok (.iconst 3, 1) := by decide +kernel
theorem dX7_addFace_26 : decode cX7_addFace 26 = .ok (.imul, 1) := by decide +kernel
theorem dX7_addFace_27 : decode cX7_addFace 27 = .ok (.aload_n 0, 1) := by decide +kernel
theorem dX7_addFace_28 : decode cX7_addFace 28 = .ok (.getfield 22, 3) := by decide +kernel
theorem dX7_addFace_31 : decode cX7_addFace 31 = .ok (.iload_n 1, 1) := by decide +kernel
theorem dX7_addFace_32 : decode cX7_addFace 32 = .ok (.iaload, 1) := by decide +kernel
theorem dX7_addFace_33 : decode cX7_addFace 33 = .ok (.iadd, 1) := by decide +kernel
theorem dX7_addFace_34 : decode cX7_addFace 34 = .ok (.iload_n 2, 1) := by decide +kernel
theorem dX7_addFace_35 : decode cX7_addFace 35 = .ok (.iastore, 1) := by decide +kernel
theorem dX7_addFace_36 : decode cX7_addFace 36 = .ok (.aload_n 0, 1) := by decide +kernel
theorem dX7_addFace_37 : decode cX7_addFace 37 = .ok (.getfield 22, 3) := by decide +kernel
theorem dX7_addFace_40 : decode cX7_addFace 40 = .ok (.iload_n 1, 1) := by decide +kernel
theorem dX7_addFace_41 : decode cX7_addFace 41 = .ok (.dup2, 1) := by decide +kernel
theorem dX7_addFace_42 : decode cX7_addFace 42 = .ok (.iaload, 1) := by decide +kernel
theorem dX7_addFace_43 : decode cX7_addFace 43 = .ok (.iconst 1, 1) := by decide +kernel
theorem dX7_addFace_44 : decode cX7_addFace 44 = .ok (.iadd, 1) := by decide +kernel
theorem dX7_addFace_45 : decode cX7_addFace 45 = .ok (.iastore, 1) := by decide +kernel
theorem dX7_addFace_46 : decode cX7_addFace 46 = .ok (.aload_n 0, 1) := by decide +kernel
theorem dX7_addFace_47 : decode cX7_addFace 47 = .ok (.invokevirtual 64, 3) := by decide +kernel
theorem dX7_addFace_50 : decode cX7_addFace 50 = .ok (.aload_n 0, 1) := by decide +kernel
theorem dX7_addFace_51 : decode cX7_addFace 51 = .ok (.getfield 22, 3) := by decide +kernel
theorem dX7_addFace_54 : decode cX7_addFace 54 = .ok (.iload_n 1, 1) := by decide +kernel
theorem dX7_addFace_55 : decode cX7_addFace 55 = .ok (.iaload, 1) := by decide +kernel
theorem dX7_addFace_56 : decode cX7_addFace 56 = .ok (.ireturn, 1) := by decide +kernel
theorem dX7_removeFace_0 : decode cX7_removeFace 0 = .ok (.aload_n 0, 1) := by decide +kernel
theorem dX7_removeFace_1 : decode cX7_removeFace 1 = .ok (.iload_n 1, 1) := by decide +kernel
theorem dX7_removeFace_2 : decode cX7_removeFace 2 = .ok (.invokevirtual 45, 3) := by decide +kernel
theorem dX7_removeFace_5 : decode cX7_removeFace 5 = .ok (.ifCond .eq 17, 3) := by decide +kernel
theorem dX7_removeFace_8 : decode cX7_removeFace 8 = .ok (.iload_n 2, 1) := by decide +kernel
theorem dX7_removeFace_9 : decode cX7_removeFace 9 = .ok (.ifCond .lt 13, 3) := by decide +kernel
theorem dX7_removeFace_12 : decode cX7_removeFace 12 = .ok (.iload_n 2, 1) := by decide +kernel
theorem dX7_removeFace_13 : decode cX7_removeFace 13 = .ok (.aload_n 0, 1) := by decide +kernel
theorem dX7_removeFace_14 : decode cX7_removeFace 14 = .ok (.getfield 22, 3) := by decide +kernel
theorem dX7_removeFace_17 : decode cX7_removeFace 17 = .ok (.iload_n 1, 1) := by decide +kernel
theorem dX7_removeFace_18 : decode cX7_removeFace 18 = .ok (.iaload, 1) := by decide +kernel
theorem dX7_removeFace_19 : decode cX7_removeFace 19 = .ok (.if_icmp .lt 5, 3) := by decide +kernel
theorem dX7_removeFace_22 : decode cX7_removeFace 22 = .ok (.iconst (-1), 1) := by decide +kernel
theorem dX7_removeFace_23 : decode cX7_removeFace 23 = .ok (.ireturn, 1) := by decide +kernel
theorem dX7_removeFace_24 : decode cX7_removeFace 24 = .ok (.iload_n 2, 1) := by decide +kernel
theorem dX7_removeFace_25 : decode cX7_removeFace 25 = .ok (.istore_n 3, 1) := by decide +kernel
theorem dX7_removeFace_26 : decode cX7_removeFace 26 = .ok (.iload_n 3, 1) := by decide +kernel
theorem dX7_removeFace_27 : decode cX7_removeFace 27 = .ok (.iconst 1, 1) := by decide +kernel
theorem dX7_removeFace_28 : decode cX7_removeFace 28 = .ok (.iadd, 1) := by decide +kernel
theorem dX7_removeFace_29 : decode cX7_removeFace 29 = .ok (.aload_n 0, 1) := by decide +kernel
theorem dX7_removeFace_30 : decode cX7_removeFace 30 = .ok (.getfield 22, 3) := by decide +kernel
theorem dX7_removeFace_33 : decode cX7_removeFace 33 = .ok (.iload_n 1, 1) := by decide +kernel
theorem dX7_removeFace_34 : decode cX7_removeFace 34 = .ok (.iaload, 1) := by decide +kernel
theorem dX7_removeFace_35 : decode cX7_removeFace 35 = .ok (.if_icmp .ge 31, 3) := by decide +kernel
theorem dX7_removeFace_38 : decode cX7_removeFace 38 = .ok (.aload_n 0, 1) := by decide +kernel
theorem dX7_removeFace_39 : decode cX7_removeFace 39 = .ok (.getfield 25, 3) := by decide +kernel
theorem dX7_removeFace_42 : decode cX7_removeFace 42 = .ok (.iload_n 1, 1) := by decide +kernel
theorem dX7_removeFace_43 : decode cX7_removeFace 43 = .ok (.iconst 3, 1) := by decide +kernel
theorem dX7_removeFace_44 : decode cX7_removeFace 44 = .ok (.imul, 1) := by decide +kernel
theorem dX7_removeFace_45 : decode cX7_removeFace 45 = .ok (.iload_n 3, 1) := by decide +kernel
theorem dX7_removeFace_46 : decode cX7_removeFace 46 = .ok (.iadd, 1) := by decide +kernel
theorem dX7_removeFace_47 : decode cX7_removeFace 47 = .ok (.aload_n 0, 1) := by decide +kernel
theorem dX7_removeFace_48 : decode cX7_removeFace 48 = .ok (.getfield 25, 3) := by decide +kernel
theorem dX7_removeFace_51 : decode cX7_removeFace 51 = .ok (.iload_n 1, 1) := by decide +kernel
theorem dX7_removeFace_52 : decode cX7_removeFace 52 = .ok (.iconst 3, 1) := by decide +kernel
theorem dX7_removeFace_53 : decode cX7_removeFace 53 = .ok (.imul, 1) := by decide +kernel
theorem dX7_removeFace_54 : decode cX7_removeFace 54 = .ok (.iload_n 3, 1) := by decide +kernel
theorem dX7_removeFace_55 : decode cX7_removeFace 55 = .ok (.iadd, 1) := by decide +kernel
theorem dX7_removeFace_56 : decode cX7_removeFace 56 = .ok (.iconst 1, 1) := by decide +kernel
theorem dX7_removeFace_57 : decode cX7_removeFace 57 = .ok (.iadd, 1) := by decide +kernel
theorem dX7_removeFace_58 : decode cX7_removeFace 58 = .ok (.iaload, 1) := by decide +kernel
theorem dX7_removeFace_59 : decode cX7_removeFace 59 = .ok (.iastore, 1) := by decide +kernel
theorem dX7_removeFace_60 : decode cX7_removeFace 60 = .ok (.iinc 3 1, 3) := by decide +kernel
theorem dX7_removeFace_63 : decode cX7_removeFace 63 = .ok (.goto (-37), 3) := by decide +kernel
theorem dX7_removeFace_66 : decode cX7_removeFace 66 = .ok (.aload_n 0, 1) := by decide +kernel
theorem dX7_removeFace_67 : decode cX7_removeFace 67 = .ok (.getfield 22, 3) := by decide +kernel
theorem dX7_removeFace_70 : decode cX7_removeFace 70 = .ok (.iload_n 1, 1) := by decide +kernel
theorem dX7_removeFace_71 : decode cX7_removeFace 71 = .ok (.dup2, 1) := by decide +kernel
theorem dX7_removeFace_72 : decode cX7_removeFace 72 = .ok (.iaload, 1) := by decide +kernel
theorem dX7_removeFace_73 : decode cX7_removeFace 73 = .ok (.iconst 1, 1) := by decide +kernel
theorem dX7_removeFace_74 : decode cX7_removeFace 74 = .ok (.isub, 1) := by decide +kernel
theorem dX7_removeFace_75 : decode cX7_removeFace 75 = .ok (.iastore, 1) := by decide +kernel
theorem dX7_removeFace_76 : decode cX7_removeFace 76 = .ok (.aload_n 0, 1) := by decide +kernel
theorem dX7_removeFace_77 : decode cX7_removeFace 77 = .ok (.invokevirtual 64, 3) := by decide +kernel
theorem dX7_removeFace_80 : decode cX7_removeFace 80 = .ok (.aload_n 0, 1) := by decide +kernel
theorem dX7_removeFace_81 : decode cX7_removeFace 81 = .ok (.getfield 22, 3) := by decide +kernel
theorem dX7_removeFace_84 : decode cX7_removeFace 84 = .ok (.iload_n 1, 1) := by decide +kernel
theorem dX7_removeFace_85 : decode cX7_removeFace 85 = .ok (.iaload, 1) := by decide +kernel
theorem dX7_removeFace_86 : decode cX7_removeFace 86 = .ok (.ireturn, 1) := by decide +kernel
theorem dX7_changeMarks_0 : decode cX7_changeMarks 0 = .ok (.aload_n 0, 1) := by decide +kernel
theorem dX7_changeMarks_1 : decode cX7_changeMarks 1 = .ok (.iload_n 1, 1) := by decide +kernel
theorem dX7_changeMarks_2 : decode cX7_changeMarks 2 = .ok (.invokevirtual 45, 3) := by decide +kernel
theorem dX7_changeMarks_5 : decode cX7_changeMarks 5 = .ok (.ifCond .ne 5, 3) := by decide +kernel
theorem dX7_changeMarks_8 : decode cX7_changeMarks 8 = .ok (.iconst (-1), 1) := by decide +kernel
theorem dX7_changeMarks_9 : decode cX7_changeMarks 9 = .ok (.ireturn, 1) := by decide +kernel
theorem dX7_changeMarks_10 : decode cX7_changeMarks 10 = .ok (.aload_n 0, 1) := by decide +kernel
theorem dX7_changeMarks_11 : decode cX7_changeMarks 11 = .ok (.getfield 19, 3) := by decide +kernel
theorem dX7_changeMarks_14 : decode cX7_changeMarks 14 = .ok (.iload_n 1, 1) := by decide +kernel
theorem dX7_changeMarks_15 : decode cX7_changeMarks 15 = .ok (.iaload, 1) := by decide +kernel
theorem dX7_changeMarks_16 : decode cX7_changeMarks 16 = .ok (.istore_n 3, 1) := by decide +kernel
theorem dX7_changeMarks_17 : decode cX7_changeMarks 17 = .ok (.aload_n 0, 1) := by decide +kernel
theorem dX7_changeMarks_18 : decode cX7_changeMarks 18 = .ok (.getfield 19, 3) := by decide +kernel
theorem dX7_changeMarks_21 : decode cX7_changeMarks 21 = .ok (.iload_n 1, 1) := by decide +kernel
theorem dX7_changeMarks_22 : decode cX7_changeMarks 22 = .ok (.iload_n 2, 1) := by decide +kernel
theorem dX7_changeMarks_23 : decode cX7_changeMarks 23 = .ok (.iastore, 1) := by decide +kernel
theorem dX7_changeMarks_24 : decode cX7_changeMarks 24 = .ok (.iload_n 3, 1) := by decide +kernel
theorem dX7_changeMarks_25 : decode cX7_changeMarks 25 = .ok (.ireturn, 1) := by decide +kernel
theorem dX7_findOver_0 : decode cX7_findOver 0 = .ok (.iconst 0, 1) := by decide +kernel
theorem dX7_findOver_1 : decode cX7_findOver 1 = .ok (.istore_n 1, 1) := by decide +kernel
theorem dX7_findOver_2 : decode cX7_findOver 2 = .ok (.iload_n 1, 1) := by decide +kernel
theorem dX7_findOver_3 : decode cX7_findOver 3 = .ok (.aload_n 0, 1) := by decide +kernel
theorem dX7_findOver_4 : decode cX7_findOver 4 = .ok (.getfield 34, 3) := by decide +kernel
theorem dX7_findOver_7 : decode cX7_findOver 7 = .ok (.if_icmp .ge 18, 3) := by decide +kernel
theorem dX7_findOver_10 : decode cX7_findOver 10 = .ok (.aload_n 0, 1) := by decide +kernel
theorem dX7_findOver_11 : decode cX7_findOver 11 = .ok (.getfield 28, 3) := by decide +kernel
theorem dX7_findOver_14 : decode cX7_findOver 14 = .ok (.iload_n 1, 1) := by decide +kernel
theorem dX7_findOver_15 : decode cX7_findOver 15 = .ok (.iconst 1, 1) := by decide +kernel
theorem dX7_findOver_16 : decode cX7_findOver 16 = .ok (.iload_n 1, 1) := by decide +kernel
theorem dX7_findOver_17 : decode cX7_findOver 17 = .ok (.ishl, 1) := by decide +kernel
theorem dX7_findOver_18 : decode cX7_findOver 18 = .ok (.iastore, 1) := by decide +kernel
theorem dX7_findOver_19 : decode cX7_findOver 19 = .ok (.iinc 1 1, 3) := by decide +kernel
theorem dX7_findOver_22 : decode cX7_findOver 22 = .ok (.goto (-20), 3) := by decide +kernel
theorem dX7_findOver_25 : decode cX7_findOver 25 = .ok (.iconst 1, 1) := by decide +kernel
theorem dX7_findOver_26 : decode cX7_findOver 26 = .ok (.istore_n 1, 1) := by decide +kernel
theorem dX7_findOver_27 : decode cX7_findOver 27 = .ok (.iconst 0, 1) := by decide +kernel
theorem dX7_findOver_28 : decode cX7_findOver 28 = .ok (.istore_n 2, 1) := by decide +kernel
theorem dX7_findOver_29 : decode cX7_findOver 29 = .ok (.iload_n 1, 1) := by decide +kernel
theorem dX7_findOver_30 : decode cX7_findOver 30 = .ok (.ifCond .eq 76, 3) := by decide +kernel
theorem dX7_findOver_33 : decode cX7_findOver 33 = .ok (.iload_n 2, 1) := by decide +kernel
theorem dX7_findOver_34 : decode cX7_findOver 34 = .ok (.bipush 12, 2) := by decide +kernel
theorem dX7_findOver_36 : decode cX7_findOver 36 = .ok (.if_icmp .ge 70, 3) := by decide +kernel
theorem dX7_findOver_39 : decode cX7_findOver 39 = .ok (.iconst 0, 1) := by decide +kernel
theorem dX7_findOver_40 : decode cX7_findOver 40 = .ok (.istore_n 1, 1) := by decide +kernel
theorem dX7_findOver_41 : decode cX7_findOver 41 = .ok (.iconst 0, 1) := by decide +kernel
theorem dX7_findOver_42 : decode cX7_findOver 42 = .ok (.istore_n 3, 1) := by decide +kernel
theorem dX7_findOver_43 : decode cX7_findOver 43 = .ok (.iload_n 3, 1) := by decide +kernel
theorem dX7_findOver_44 : decode cX7_findOver 44 = .ok (.aload_n 0, 1) := by decide +kernel
theorem dX7_findOver_45 : decode cX7_findOver 45 = .ok (.getfield 34, 3) := by decide +kernel
theorem dX7_findOver_48 : decode cX7_findOver 48 = .ok (.if_icmp .ge 52, 3) := by decide +kernel
theorem dX7_findOver_51 : decode cX7_findOver 51 = .ok (.aload_n 0, 1) := by decide +kernel
theorem dX7_findOver_52 : decode cX7_findOver 52 = .ok (.getfield 28, 3) := by decide +kernel
theorem dX7_findOver_55 : decode cX7_findOver 55 = .ok (.iload_n 3, 1) := by decide +kernel
theorem dX7_findOver_56 : decode cX7_findOver 56 = .ok (.iaload, 1) := by decide +kernel
theorem dX7_findOver_57 : decode cX7_findOver 57 = .ok (.aload_n 0, 1) := by decide +kernel
theorem dX7_findOver_58 : decode cX7_findOver 58 = .ok (.iload_n 3, 1) := by decide +kernel
theorem dX7_findOver_59 : decode cX7_findOver 59 = .ok (.invokevirtual 67, 3) := by decide +kernel
theorem dX7_findOver_62 : decode cX7_findOver 62 = .ok (.ior, 1) := by decide +kernel
theorem dX7_findOver_63 : decode cX7_findOver 63 = .ok (.istore 4, 2) := by decide +kernel
theorem dX7_findOver_65 : decode cX7_findOver 65 = .ok (.iload_n 1, 1) := by decide +kernel
theorem dX7_findOver_66 : decode cX7_findOver 66 = .ok (.ifCond .ne 14, 3) := by decide +kernel
theorem dX7_findOver_69 : decode cX7_findOver 69 = .ok (.iload 4, 2) := by decide +kernel
theorem dX7_findOver_71 : decode cX7_findOver 71 = .ok (.aload_n 0, 1) := by decide +kernel
theorem dX7_findOver_72 : decode cX7_findOver 72 = .ok (.getfield 28, 3) := by decide +kernel
theorem dX7_findOver_75 : decode cX7_findOver 75 = .ok (.iload_n 3, 1) := by decide +kernel
theorem dX7_findOver_76 : decode cX7_findOver 76 = .ok (.iaload, 1) := by decide +kernel
theorem dX7_findOver_77 : decode cX7_findOver 77 = .ok (.if_icmp .eq 7, 3) := by decide +kernel
theorem dX7_findOver_80 : decode cX7_findOver 80 = .ok (.iconst 1, 1) := by decide +kernel
theorem dX7_findOver_81 : decode cX7_findOver 81 = .ok (.goto 4, 3) := by decide +kernel
theorem dX7_findOver_84 : decode cX7_findOver 84 = .ok (.iconst 0, 1) := by decide +kernel
theorem dX7_findOver_85 : decode cX7_findOver 85 = .ok (.istore_n 1, 1) := by decide +kernel
theorem dX7_findOver_86 : decode cX7_findOver 86 = .ok (.aload_n 0, 1) := by decide +kernel
theorem dX7_findOver_87 : decode cX7_findOver 87 = .ok (.getfield 28, 3) := by decide +kernel
theorem dX7_findOver_90 : decode cX7_findOver 90 = .ok (.iload_n 3, 1) := by decide +kernel
theorem dX7_findOver_91 : decode cX7_findOver 91 = .ok (.iload 4, 2) := by decide +kernel
theorem dX7_findOver_93 : decode cX7_findOver 93 = .ok (.iastore, 1) := by decide +kernel
theorem dX7_findOver_94 : decode cX7_findOver 94 = .ok (.iinc 3 1, 3) := by decide +kernel
theorem dX7_findOver_97 : decode cX7_findOver 97 = .ok (.goto (-54), 3) := by decide +kernel
theorem dX7_findOver_100 : decode cX7_findOver 100 = .ok (.iinc 2 1, 3) := by decide +kernel
theorem dX7_findOver_103 : decode cX7_findOver 103 = .ok (.goto (-74), 3) := by decide +kernel
theorem dX7_findOver_106 : decode cX7_findOver 106 = .ok (.return_, 1) := by decide +kernel
theorem dX7_overDirectly_0 : decode cX7_overDirectly 0 = .ok (.aload_n 0, 1) := by decide +kernel
theorem dX7_overDirectly_1 : decode cX7_overDirectly 1 = .ok (.iload_n 1, 1) := by decide +kernel
theorem dX7_overDirectly_2 : decode cX7_overDirectly 2 = .ok (.invokevirtual 71, 3) := by decide +kernel
theorem dX7_overDirectly_5 : decode cX7_overDirectly 5 = .ok (.istore_n 2, 1) := by decide +kernel
theorem dX7_overDirectly_6 : decode cX7_overDirectly 6 = .ok (.aload_n 0, 1) := by decide +kernel
theorem dX7_overDirectly_7 : decode cX7_overDirectly 7 = .ok (.iload_n 2, 1) := by decide +kernel
theorem dX7_overDirectly_8 : decode cX7_overDirectly 8 = .ok (.invokevirtual 45, 3) := by decide +kernel
theorem dX7_overDirectly_11 : decode cX7_overDirectly 11 = .ok (.ifCond .eq 12, 3) := by decide +kernel
theorem dX7_overDirectly_14 : decode cX7_overDirectly 14 = .ok (.aload_n 0, 1) := by decide +kernel
theorem dX7_overDirectly_15 : decode cX7_overDirectly 15 = .ok (.getfield 28, 3) := by decide +kernel
theorem dX7_overDirectly_18 : decode cX7_overDirectly 18 = .ok (.iload_n 2, 1) := by decide +kernel
theorem dX7_overDirectly_19 : decode cX7_overDirectly 19 = .ok (.iaload, 1) := by decide +kernel
theorem dX7_overDirectly_20 : decode cX7_overDirectly 20 = .ok (.goto 4, 3) := by decide +kernel
theorem dX7_overDirectly_23 : decode cX7_overDirectly 23 = .ok (.iconst 0, 1) := by decide +kernel
theorem dX7_overDirectly_24 : decode cX7_overDirectly 24 = .ok (.istore_n 3, 1) := by decide +kernel
theorem dX7_overDirectly_25 : decode cX7_overDirectly 25 = .ok (.iconst 0, 1) := by decide +kernel
theorem dX7_overDirectly_26 : decode cX7_overDirectly 26 = .ok (.istore 4, 2) := by decide +kernel
theorem dX7_overDirectly_28 : decode cX7_overDirectly 28 = .ok (.iload 4, 2) := by decide +kernel
theorem dX7_overDirectly_30 : decode cX7_overDirectly 30 = .ok (.iconst 3, 1) := by decide +kernel
theorem dX7_overDirectly_31 : decode cX7_overDirectly 31 = .ok (.if_icmp .ge 41, 3) := by decide +kernel
theorem dX7_overDirectly_34 : decode cX7_overDirectly 34 = .ok (.aload_n 0, 1) := by decide +kernel
theorem dX7_overDirectly_35 : decode cX7_overDirectly 35 = .ok (.iload_n 1, 1) := by decide +kernel
theorem dX7_overDirectly_36 : decode cX7_overDirectly 36 = .ok (.iload 4, 2) := by decide +kernel
theorem dX7_overDirectly_38 : decode cX7_overDirectly 38 = .ok (.invokevirtual 60, 3) := by decide +kernel
theorem dX7_overDirectly_41 : decode cX7_overDirectly 41 = .ok (.istore 5, 2) := by decide +kernel
theorem dX7_overDirectly_43 : decode cX7_overDirectly 43 = .ok (.iload_n 3, 1) := by decide +kernel
theorem dX7_overDirectly_44 : decode cX7_overDirectly 44 = .ok (.aload_n 0, 1) := by decide +kernel
theorem dX7_overDirectly_45 : decode cX7_overDirectly 45 = .ok (.iload 5, 2) := by decide +kernel
theorem dX7_overDirectly_47 : decode cX7_overDirectly 47 = .ok (.invokevirtual 45, 3) := by decide +kernel
theorem dX7_overDirectly_50 : decode cX7_overDirectly 50 = .ok (.ifCond .eq 13, 3) := by decide +kernel
theorem dX7_overDirectly_53 : decode cX7_overDirectly 53 = .ok (.aload_n 0, 1) := by decide +kernel
theorem dX7_overDirectly_54 : decode cX7_overDirectly 54 = .ok (.getfield 28, 3) := by decide +kernel
theorem dX7_overDirectly_57 : decode cX7_overDirectly 57 = .ok (.iload 5, 2) := by decide +kernel
theorem dX7_overDirectly_59 : decode cX7_overDirectly 59 = .ok (.iaload, 1) := by decide +kernel
theorem dX7_overDirectly_60 : decode cX7_overDirectly 60 = .ok (.goto 4, 3) := by decide +kernel
theorem dX7_overDirectly_63 : decode cX7_overDirectly 63 = .ok (.iconst 0, 1) := by decide +kernel
theorem dX7_overDirectly_64 : decode cX7_overDirectly 64 = .ok (.ior, 1) := by decide +kernel
theorem dX7_overDirectly_65 : decode cX7_overDirectly 65 = .ok (.istore_n 3, 1) := by decide +kernel
theorem dX7_overDirectly_66 : decode cX7_overDirectly 66 = .ok (.iinc 4 1, 3) := by decide +kernel
theorem dX7_overDirectly_69 : decode cX7_overDirectly 69 = .ok (.goto (-41), 3) := by decide +kernel
theorem dX7_overDirectly_72 : decode cX7_overDirectly 72 = .ok (.iload_n 3, 1) := by decide +kernel
theorem dX7_overDirectly_73 : decode cX7_overDirectly 73 = .ok (.ireturn, 1) := by decide +kernel
theorem dX7_orderFrom_0 : decode cX7_orderFrom 0 = .ok (.aload_n 0, 1) := by decide +kernel
theorem dX7_orderFrom_1 : decode cX7_orderFrom 1 = .ok (.iconst 0, 1) := by decide +kernel
theorem dX7_orderFrom_2 : decode cX7_orderFrom 2 = .ok (.putfield 74, 3) := by decide +kernel
theorem dX7_orderFrom_5 : decode cX7_orderFrom 5 = .ok (.aload_n 0, 1) := by decide +kernel
theorem dX7_orderFrom_6 : decode cX7_orderFrom 6 = .ok (.iconst 0, 1) := by decide +kernel
theorem dX7_orderFrom_7 : decode cX7_orderFrom 7 = .ok (.putfield 77, 3) := by decide +kernel
theorem dX7_orderFrom_10 : decode cX7_orderFrom 10 = .ok (.aload_n 0, 1) := by decide +kernel
theorem dX7_orderFrom_11 : decode cX7_orderFrom 11 = .ok (.iload_n 1, 1) := by decide +kernel
theorem dX7_orderFrom_12 : decode cX7_orderFrom 12 = .ok (.iload_n 2, 1) := by decide +kernel
theorem dX7_orderFrom_13 : decode cX7_orderFrom 13 = .ok (.iconst 0, 1) := by decide +kernel
theorem dX7_orderFrom_14 : decode cX7_orderFrom 14 = .ok (.invokevirtual 80, 3) := by decide +kernel
theorem dX7_orderFrom_17 : decode cX7_orderFrom 17 = .ok (.return_, 1) := by decide +kernel
theorem dX7_orderedAt_0 : decode cX7_orderedAt 0 = .ok (.iload_n 1, 1) := by decide +kernel
theorem dX7_orderedAt_1 : decode cX7_orderedAt 1 = .ok (.ifCond .lt 20, 3) := by decide +kernel
theorem dX7_orderedAt_4 : decode cX7_orderedAt 4 = .ok (.iload_n 1, 1) := by decide +kernel
theorem dX7_orderedAt_5 : decode cX7_orderedAt 5 = .ok (.aload_n 0, 1) := by decide +kernel
theorem dX7_orderedAt_6 : decode cX7_orderedAt 6 = .ok (.getfield 74, 3) := by decide +kernel
theorem dX7_orderedAt_9 : decode cX7_orderedAt 9 = .ok (.if_icmp .ge 12, 3) := by decide +kernel
theorem dX7_orderedAt_12 : decode cX7_orderedAt 12 = .ok (.aload_n 0, 1) := by decide +kernel
theorem dX7_orderedAt_13 : decode cX7_orderedAt 13 = .ok (.getfield 31, 3) := by decide +kernel
theorem dX7_orderedAt_16 : decode cX7_orderedAt 16 = .ok (.iload_n 1, 1) := by decide +kernel
theorem dX7_orderedAt_17 : decode cX7_orderedAt 17 = .ok (.iaload, 1) := by decide +kernel
theorem dX7_orderedAt_18 : decode cX7_orderedAt 18 = .ok (.goto 5, 3) := by decide +kernel
theorem dX7_orderedAt_21 : decode cX7_orderedAt 21 = .ok (.bipush (-2), 2) := by decide +kernel
theorem dX7_orderedAt_23 : decode cX7_orderedAt 23 = .ok (.ireturn, 1) := by decide +kernel
theorem dX7_walk_0 : decode cX7_walk 0 = .ok (.iload_n 1, 1) := by decide +kernel
theorem dX7_walk_1 : decode cX7_walk 1 = .ok (.ifCond .lt 37, 3) := by decide +kernel
theorem dX7_walk_4 : decode cX7_walk 4 = .ok (.iload_n 1, 1) := by decide +kernel
theorem dX7_walk_5 : decode cX7_walk 5 = .ok (.aload_n 0, 1) := by decide +kernel
theorem dX7_walk_6 : decode cX7_walk 6 = .ok (.getfield 34, 3) := by decide +kernel
theorem dX7_walk_9 : decode cX7_walk 9 = .ok (.if_icmp .ge 29, 3) := by decide +kernel
theorem dX7_walk_12 : decode cX7_walk 12 = .ok (.iload_n 3, 1) := by decide +kernel
theorem dX7_walk_13 : decode cX7_walk 13 = .ok (.bipush 12, 2) := by decide +kernel
theorem dX7_walk_15 : decode cX7_walk 15 = .ok (.if_icmp .ge 23, 3) := by decide +kernel
theorem dX7_walk_18 : decode cX7_walk 18 = .ok (.aload_n 0, 1) := by decide +kernel
theorem dX7_walk_19 : decode cX7_walk 19 = .ok (.getfield 74, 3) := by decide +kernel
theorem dX7_walk_22 : decode cX7_walk 22 = .ok (.bipush 12, 2) := by decide +kernel
theorem dX7_walk_24 : decode cX7_walk 24 = .ok (.if_icmp .ge 14, 3) := by decide +kernel
theorem dX7_walk_27 : decode cX7_walk 27 = .ok (.aload_n 0, 1) := by decide +kernel
theorem dX7_walk_28 : decode cX7_walk 28 = .ok (.getfield 77, 3) := by decide +kernel
theorem dX7_walk_31 : decode cX7_walk 31 = .ok (.iload_n 1, 1) := by decide +kernel
theorem dX7_walk_32 : decode cX7_walk 32 = .ok (.ishr, 1) := by decide +kernel
theorem dX7_walk_33 : decode cX7_walk 33 = .ok (.iconst 1, 1) := by decide +kernel
theorem dX7_walk_34 : decode cX7_walk 34 = .ok (.iand, 1) := by decide +kernel
theorem dX7_walk_35 : decode cX7_walk 35 = .ok (.ifCond .eq 4, 3) := by decide +kernel
theorem dX7_walk_38 : decode cX7_walk 38 = .ok (.return_, 1) := by decide +kernel
theorem dX7_walk_39 : decode cX7_walk 39 = .ok (.aload_n 0, 1) := by decide +kernel
theorem dX7_walk_40 : decode cX7_walk 40 = .ok (.dup, 1) := by decide +kernel
theorem dX7_walk_41 : decode cX7_walk 41 = .ok (.getfield 77, 3) := by decide +kernel
theorem dX7_walk_44 : decode cX7_walk 44 = .ok (.iconst 1, 1) := by decide +kernel
theorem dX7_walk_45 : decode cX7_walk 45 = .ok (.iload_n 1, 1) := by decide +kernel
theorem dX7_walk_46 : decode cX7_walk 46 = .ok (.ishl, 1) := by decide +kernel
theorem dX7_walk_47 : decode cX7_walk 47 = .ok (.ior, 1) := by decide +kernel
theorem dX7_walk_48 : decode cX7_walk 48 = .ok (.putfield 77, 3) := by decide +kernel
theorem dX7_walk_51 : decode cX7_walk 51 = .ok (.aload_n 0, 1) := by decide +kernel
theorem dX7_walk_52 : decode cX7_walk 52 = .ok (.getfield 31, 3) := by decide +kernel
theorem dX7_walk_55 : decode cX7_walk 55 = .ok (.aload_n 0, 1) := by decide +kernel
theorem dX7_walk_56 : decode cX7_walk 56 = .ok (.getfield 74, 3) := by decide +kernel
theorem dX7_walk_59 : decode cX7_walk 59 = .ok (.iload_n 1, 1) := by decide +kernel
theorem dX7_walk_60 : decode cX7_walk 60 = .ok (.iastore, 1) := by decide +kernel
theorem dX7_walk_61 : decode cX7_walk 61 = .ok (.aload_n 0, 1) := by decide +kernel
theorem dX7_walk_62 : decode cX7_walk 62 = .ok (.dup, 1) := by decide +kernel
theorem dX7_walk_63 : decode cX7_walk 63 = .ok (.getfield 74, 3) := by decide +kernel
theorem dX7_walk_66 : decode cX7_walk 66 = .ok (.iconst 1, 1) := by decide +kernel
theorem dX7_walk_67 : decode cX7_walk 67 = .ok (.iadd, 1) := by decide +kernel
theorem dX7_walk_68 : decode cX7_walk 68 = .ok (.putfield 74, 3) := by decide +kernel
theorem dX7_walk_71 : decode cX7_walk 71 = .ok (.iload_n 2, 1) := by decide +kernel
theorem dX7_walk_72 : decode cX7_walk 72 = .ok (.ifCond .ne 17, 3) := by decide +kernel
theorem dX7_walk_75 : decode cX7_walk 75 = .ok (.aload_n 0, 1) := by decide +kernel
theorem dX7_walk_76 : decode cX7_walk 76 = .ok (.aload_n 0, 1) := by decide +kernel
theorem dX7_walk_77 : decode cX7_walk 77 = .ok (.getfield 15, 3) := by decide +kernel
theorem dX7_walk_80 : decode cX7_walk 80 = .ok (.iload_n 1, 1) := by decide +kernel
theorem dX7_walk_81 : decode cX7_walk 81 = .ok (.iaload, 1) := by decide +kernel
theorem dX7_walk_82 : decode cX7_walk 82 = .ok (.iconst 0, 1) := by decide +kernel
theorem dX7_walk_83 : decode cX7_walk 83 = .ok (.iload_n 3, 1) := by decide +kernel
theorem dX7_walk_84 : decode cX7_walk 84 = .ok (.iconst 1, 1) := by decide +kernel
theorem dX7_walk_85 : decode cX7_walk 85 = .ok (.iadd, 1) := by decide +kernel
theorem dX7_walk_86 : decode cX7_walk 86 = .ok (.invokevirtual 80, 3) := by decide +kernel
theorem dX7_walk_89 : decode cX7_walk 89 = .ok (.iconst 0, 1) := by decide +kernel
theorem dX7_walk_90 : decode cX7_walk 90 = .ok (.istore 4, 2) := by decide +kernel
theorem dX7_walk_92 : decode cX7_walk 92 = .ok (.iload 4, 2) := by decide +kernel
theorem dX7_walk_94 : decode cX7_walk 94 = .ok (.aload_n 0, 1) := by decide +kernel
theorem dX7_walk_95 : decode cX7_walk 95 = .ok (.getfield 22, 3) := by decide +kernel
theorem dX7_walk_98 : decode cX7_walk 98 = .ok (.iload_n 1, 1) := by decide +kernel
theorem dX7_walk_99 : decode cX7_walk 99 = .ok (.iaload, 1) := by decide +kernel
theorem dX7_walk_100 : decode cX7_walk 100 = .ok (.if_icmp .ge 28, 3) := by decide +kernel
theorem dX7_walk_103 : decode cX7_walk 103 = .ok (.aload_n 0, 1) := by decide +kernel
theorem dX7_walk_104 : decode cX7_walk 104 = .ok (.aload_n 0, 1) := by decide +kernel
theorem dX7_walk_105 : decode cX7_walk 105 = .ok (.getfield 25, 3) := by decide +kernel
theorem dX7_walk_108 : decode cX7_walk 108 = .ok (.iload_n 1, 1) := by decide +kernel
theorem dX7_walk_109 : decode cX7_walk 109 = .ok (.iconst 3, 1) := by decide +kernel
theorem dX7_walk_110 : decode cX7_walk 110 = .ok (.imul, 1) := by decide +kernel
theorem dX7_walk_111 : decode cX7_walk 111 = .ok (.iload 4, 2) := by decide +kernel
