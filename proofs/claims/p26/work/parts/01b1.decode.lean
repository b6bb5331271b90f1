theorem dX2_doPlain_219 : decode cX2_doPlain 219 = .ok (.ireturn, 1) := by decide +kernel
theorem dX2_doPlain_220 : decode cX2_doPlain 220 = .ok (.aload_n 0, 1) := by decide +kernel
theorem dX2_doPlain_221 : decode cX2_doPlain 221 = .ok (.iload 4, 2) := by decide +kernel
theorem dX2_doPlain_223 : decode cX2_doPlain 223 = .ok (.putfield 38, 3) := by decide +kernel
theorem dX2_doPlain_226 : decode cX2_doPlain 226 = .ok (.iconst 0, 1) := by decide +kernel
theorem dX2_doPlain_227 : decode cX2_doPlain 227 = .ok (.ireturn, 1) := by decide +kernel
theorem dX2_doDone_0 : decode cX2_doDone 0 = .ok (.aload_n 0, 1) := by decide +kernel
theorem dX2_doDone_1 : decode cX2_doDone 1 = .ok (.getfield 18, 3) := by decide +kernel
theorem dX2_doDone_4 : decode cX2_doDone 4 = .ok (.invokevirtual 82, 3) := by decide +kernel
theorem dX2_doDone_7 : decode cX2_doDone 7 = .ok (.istore_n 2, 1) := by decide +kernel
theorem dX2_doDone_8 : decode cX2_doDone 8 = .ok (.iload_n 2, 1) := by decide +kernel
theorem dX2_doDone_9 : decode cX2_doDone 9 = .ok (.iconst (-1), 1) := by decide +kernel
theorem dX2_doDone_10 : decode cX2_doDone 10 = .ok (.if_icmp .eq 11, 3) := by decide +kernel
theorem dX2_doDone_13 : decode cX2_doDone 13 = .ok (.iload_n 2, 1) := by decide +kernel
theorem dX2_doDone_14 : decode cX2_doDone 14 = .ok (.bipush (-2), 2) := by decide +kernel
theorem dX2_doDone_16 : decode cX2_doDone 16 = .ok (.if_icmp .eq 5, 3) := by decide +kernel
theorem dX2_doDone_19 : decode cX2_doDone 19 = .ok (.iload_n 1, 1) := by decide +kernel
theorem dX2_doDone_20 : decode cX2_doDone 20 = .ok (.ireturn, 1) := by decide +kernel
theorem dX2_doDone_21 : decode cX2_doDone 21 = .ok (.aload_n 0, 1) := by decide +kernel
theorem dX2_doDone_22 : decode cX2_doDone 22 = .ok (.getfield 18, 3) := by decide +kernel
theorem dX2_doDone_25 : decode cX2_doDone 25 = .ok (.invokevirtual 86, 3) := by decide +kernel
theorem dX2_doDone_28 : decode cX2_doDone 28 = .ok (.istore_n 3, 1) := by decide +kernel
theorem dX2_doDone_29 : decode cX2_doDone 29 = .ok (.aload_n 0, 1) := by decide +kernel
theorem dX2_doDone_30 : decode cX2_doDone 30 = .ok (.getfield 18, 3) := by decide +kernel
theorem dX2_doDone_33 : decode cX2_doDone 33 = .ok (.invokevirtual 89, 3) := by decide +kernel
theorem dX2_doDone_36 : decode cX2_doDone 36 = .ok (.iload_n 2, 1) := by decide +kernel
theorem dX2_doDone_37 : decode cX2_doDone 37 = .ok (.iconst (-1), 1) := by decide +kernel
theorem dX2_doDone_38 : decode cX2_doDone 38 = .ok (.if_icmp .ne 5, 3) := by decide +kernel
theorem dX2_doDone_41 : decode cX2_doDone 41 = .ok (.iload_n 1, 1) := by decide +kernel
theorem dX2_doDone_42 : decode cX2_doDone 42 = .ok (.ireturn, 1) := by decide +kernel
theorem dX2_doDone_43 : decode cX2_doDone 43 = .ok (.aload_n 0, 1) := by decide +kernel
theorem dX2_doDone_44 : decode cX2_doDone 44 = .ok (.getfield 18, 3) := by decide +kernel
theorem dX2_doDone_47 : decode cX2_doDone 47 = .ok (.bipush (-3), 2) := by decide +kernel
theorem dX2_doDone_49 : decode cX2_doDone 49 = .ok (.iload_n 1, 1) := by decide +kernel
theorem dX2_doDone_50 : decode cX2_doDone 50 = .ok (.invokevirtual 92, 3) := by decide +kernel
theorem dX2_doDone_53 : decode cX2_doDone 53 = .ok (.iload_n 3, 1) := by decide +kernel
theorem dX2_doDone_54 : decode cX2_doDone 54 = .ok (.ireturn, 1) := by decide +kernel
theorem dX2_doLast_0 : decode cX2_doLast 0 = .ok (.aload_n 0, 1) := by decide +kernel
theorem dX2_doLast_1 : decode cX2_doLast 1 = .ok (.getfield 18, 3) := by decide +kernel
theorem dX2_doLast_4 : decode cX2_doLast 4 = .ok (.invokevirtual 82, 3) := by decide +kernel
theorem dX2_doLast_7 : decode cX2_doLast 7 = .ok (.istore_n 1, 1) := by decide +kernel
theorem dX2_doLast_8 : decode cX2_doLast 8 = .ok (.iload_n 1, 1) := by decide +kernel
theorem dX2_doLast_9 : decode cX2_doLast 9 = .ok (.ifCond .eq 14, 3) := by decide +kernel
theorem dX2_doLast_12 : decode cX2_doLast 12 = .ok (.iload_n 1, 1) := by decide +kernel
theorem dX2_doLast_13 : decode cX2_doLast 13 = .ok (.iconst (-1), 1) := by decide +kernel
theorem dX2_doLast_14 : decode cX2_doLast 14 = .ok (.if_icmp .eq 9, 3) := by decide +kernel
theorem dX2_doLast_17 : decode cX2_doLast 17 = .ok (.iload_n 1, 1) := by decide +kernel
theorem dX2_doLast_18 : decode cX2_doLast 18 = .ok (.bipush (-2), 2) := by decide +kernel
theorem dX2_doLast_20 : decode cX2_doLast 20 = .ok (.if_icmp .ne 15, 3) := by decide +kernel
theorem dX2_doLast_23 : decode cX2_doLast 23 = .ok (.aload_n 0, 1) := by decide +kernel
theorem dX2_doLast_24 : decode cX2_doLast 24 = .ok (.dup, 1) := by decide +kernel
theorem dX2_doLast_25 : decode cX2_doLast 25 = .ok (.getfield 38, 3) := by decide +kernel
theorem dX2_doLast_28 : decode cX2_doLast 28 = .ok (.iconst 1, 1) := by decide +kernel
theorem dX2_doLast_29 : decode cX2_doLast 29 = .ok (.iadd, 1) := by decide +kernel
theorem dX2_doLast_30 : decode cX2_doLast 30 = .ok (.putfield 38, 3) := by decide +kernel
theorem dX2_doLast_33 : decode cX2_doLast 33 = .ok (.iconst 0, 1) := by decide +kernel
theorem dX2_doLast_34 : decode cX2_doLast 34 = .ok (.ireturn, 1) := by decide +kernel
theorem dX2_doLast_35 : decode cX2_doLast 35 = .ok (.aload_n 0, 1) := by decide +kernel
theorem dX2_doLast_36 : decode cX2_doLast 36 = .ok (.getfield 18, 3) := by decide +kernel
theorem dX2_doLast_39 : decode cX2_doLast 39 = .ok (.invokevirtual 86, 3) := by decide +kernel
theorem dX2_doLast_42 : decode cX2_doLast 42 = .ok (.istore_n 2, 1) := by decide +kernel
theorem dX2_doLast_43 : decode cX2_doLast 43 = .ok (.aload_n 0, 1) := by decide +kernel
theorem dX2_doLast_44 : decode cX2_doLast 44 = .ok (.getfield 18, 3) := by decide +kernel
theorem dX2_doLast_47 : decode cX2_doLast 47 = .ok (.invokevirtual 89, 3) := by decide +kernel
theorem dX2_doLast_50 : decode cX2_doLast 50 = .ok (.iload_n 1, 1) := by decide +kernel
theorem dX2_doLast_51 : decode cX2_doLast 51 = .ok (.bipush (-3), 2) := by decide +kernel
theorem dX2_doLast_53 : decode cX2_doLast 53 = .ok (.if_icmp .ne 10, 3) := by decide +kernel
theorem dX2_doLast_56 : decode cX2_doLast 56 = .ok (.aload_n 0, 1) := by decide +kernel
theorem dX2_doLast_57 : decode cX2_doLast 57 = .ok (.iload_n 2, 1) := by decide +kernel
theorem dX2_doLast_58 : decode cX2_doLast 58 = .ok (.putfield 38, 3) := by decide +kernel
theorem dX2_doLast_61 : decode cX2_doLast 61 = .ok (.iconst 0, 1) := by decide +kernel
theorem dX2_doLast_62 : decode cX2_doLast 62 = .ok (.ireturn, 1) := by decide +kernel
theorem dX2_doLast_63 : decode cX2_doLast 63 = .ok (.aload_n 0, 1) := by decide +kernel
theorem dX2_doLast_64 : decode cX2_doLast 64 = .ok (.iload_n 2, 1) := by decide +kernel
theorem dX2_doLast_65 : decode cX2_doLast 65 = .ok (.putfield 79, 3) := by decide +kernel
theorem dX2_doLast_68 : decode cX2_doLast 68 = .ok (.iload_n 1, 1) := by decide +kernel
theorem dX2_doLast_69 : decode cX2_doLast 69 = .ok (.ireturn, 1) := by decide +kernel
theorem dX3_init_0 : decode cX3_init 0 = .ok (.aload_n 0, 1) := by decide +kernel
theorem dX3_init_1 : decode cX3_init 1 = .ok (.invokespecial 3, 3) := by decide +kernel
theorem dX3_init_4 : decode cX3_init 4 = .ok (.aload_n 0, 1) := by decide +kernel
theorem dX3_init_5 : decode cX3_init 5 = .ok (.bipush 24, 2) := by decide +kernel
theorem dX3_init_7 : decode cX3_init 7 = .ok (.anewarray 9, 3) := by decide +kernel
theorem dX3_init_10 : decode cX3_init 10 = .ok (.putfield 11, 3) := by decide +kernel
theorem dX3_init_13 : decode cX3_init 13 = .ok (.aload_n 0, 1) := by decide +kernel
theorem dX3_init_14 : decode cX3_init 14 = .ok (.new 9, 3) := by decide +kernel
theorem dX3_init_17 : decode cX3_init 17 = .ok (.dup, 1) := by decide +kernel
theorem dX3_init_18 : decode cX3_init 18 = .ok (.iconst (-1), 1) := by decide +kernel
theorem dX3_init_19 : decode cX3_init 19 = .ok (.invokespecial 17, 3) := by decide +kernel
theorem dX3_init_22 : decode cX3_init 22 = .ok (.putfield 20, 3) := by decide +kernel
theorem dX3_init_25 : decode cX3_init 25 = .ok (.aload_n 0, 1) := by decide +kernel
theorem dX3_init_26 : decode cX3_init 26 = .ok (.new 24, 3) := by decide +kernel
theorem dX3_init_29 : decode cX3_init 29 = .ok (.dup, 1) := by decide +kernel
theorem dX3_init_30 : decode cX3_init 30 = .ok (.invokespecial 26, 3) := by decide +kernel
theorem dX3_init_33 : decode cX3_init 33 = .ok (.putfield 27, 3) := by decide +kernel
theorem dX3_init_36 : decode cX3_init 36 = .ok (.aload_n 0, 1) := by decide +kernel
theorem dX3_init_37 : decode cX3_init 37 = .ok (.new 24, 3) := by decide +kernel
theorem dX3_init_40 : decode cX3_init 40 = .ok (.dup, 1) := by decide +kernel
theorem dX3_init_41 : decode cX3_init 41 = .ok (.invokespecial 26, 3) := by decide +kernel
theorem dX3_init_44 : decode cX3_init 44 = .ok (.putfield 31, 3) := by decide +kernel
theorem dX3_init_47 : decode cX3_init 47 = .ok (.aload_n 0, 1) := by decide +kernel
theorem dX3_init_48 : decode cX3_init 48 = .ok (.aload_n 1, 1) := by decide +kernel
theorem dX3_init_49 : decode cX3_init 49 = .ok (.putfield 34, 3) := by decide +kernel
theorem dX3_init_52 : decode cX3_init 52 = .ok (.iconst 0, 1) := by decide +kernel
theorem dX3_init_53 : decode cX3_init 53 = .ok (.istore_n 2, 1) := by decide +kernel
theorem dX3_init_54 : decode cX3_init 54 = .ok (.iload_n 2, 1) := by decide +kernel
theorem dX3_init_55 : decode cX3_init 55 = .ok (.bipush 24, 2) := by decide +kernel
theorem dX3_init_57 : decode cX3_init 57 = .ok (.if_icmp .ge 23, 3) := by decide +kernel
theorem dX3_init_60 : decode cX3_init 60 = .ok (.aload_n 0, 1) := by decide +kernel
theorem dX3_init_61 : decode cX3_init 61 = .ok (.getfield 11, 3) := by decide +kernel
theorem dX3_init_64 : decode cX3_init 64 = .ok (.iload_n 2, 1) := by decide +kernel
theorem dX3_init_65 : decode cX3_init 65 = .ok (.new 9, 3) := by decide +kernel
theorem dX3_init_68 : decode cX3_init 68 = .ok (.dup, 1) := by decide +kernel
theorem dX3_init_69 : decode cX3_init 69 = .ok (.iload_n 2, 1) := by decide +kernel
theorem dX3_init_70 : decode cX3_init 70 = .ok (.invokespecial 17, 3) := by decide +kernel
theorem dX3_init_73 : decode cX3_init 73 = .ok (.aastore, 1) := by decide +kernel
theorem dX3_init_74 : decode cX3_init 74 = .ok (.iinc 2 1, 3) := by decide +kernel
theorem dX3_init_77 : decode cX3_init 77 = .ok (.goto (-23), 3) := by decide +kernel
theorem dX3_init_80 : decode cX3_init 80 = .ok (.aload_n 0, 1) := by decide +kernel
theorem dX3_init_81 : decode cX3_init 81 = .ok (.aload_n 0, 1) := by decide +kernel
theorem dX3_init_82 : decode cX3_init 82 = .ok (.getfield 20, 3) := by decide +kernel
theorem dX3_init_85 : decode cX3_init 85 = .ok (.putfield 38, 3) := by decide +kernel
theorem dX3_init_88 : decode cX3_init 88 = .ok (.return_, 1) := by decide +kernel
theorem dX3_copyFrom_0 : decode cX3_copyFrom 0 = .ok (.aload_n 0, 1) := by decide +kernel
theorem dX3_copyFrom_1 : decode cX3_copyFrom 1 = .ok (.aload_n 1, 1) := by decide +kernel
theorem dX3_copyFrom_2 : decode cX3_copyFrom 2 = .ok (.getfield 41, 3) := by decide +kernel
theorem dX3_copyFrom_5 : decode cX3_copyFrom 5 = .ok (.putfield 41, 3) := by decide +kernel
theorem dX3_copyFrom_8 : decode cX3_copyFrom 8 = .ok (.aload_n 0, 1) := by decide +kernel
theorem dX3_copyFrom_9 : decode cX3_copyFrom 9 = .ok (.aload_n 1, 1) := by decide +kernel
theorem dX3_copyFrom_10 : decode cX3_copyFrom 10 = .ok (.getfield 45, 3) := by decide +kernel
theorem dX3_copyFrom_13 : decode cX3_copyFrom 13 = .ok (.putfield 45, 3) := by decide +kernel
theorem dX3_copyFrom_16 : decode cX3_copyFrom 16 = .ok (.aload_n 0, 1) := by decide +kernel
theorem dX3_copyFrom_17 : decode cX3_copyFrom 17 = .ok (.aload_n 1, 1) := by decide +kernel
theorem dX3_copyFrom_18 : decode cX3_copyFrom 18 = .ok (.getfield 48, 3) := by decide +kernel
theorem dX3_copyFrom_21 : decode cX3_copyFrom 21 = .ok (.putfield 48, 3) := by decide +kernel
theorem dX3_copyFrom_24 : decode cX3_copyFrom 24 = .ok (.aload_n 0, 1) := by decide +kernel
theorem dX3_copyFrom_25 : decode cX3_copyFrom 25 = .ok (.getfield 27, 3) := by decide +kernel
theorem dX3_copyFrom_28 : decode cX3_copyFrom 28 = .ok (.aload_n 1, 1) := by decide +kernel
theorem dX3_copyFrom_29 : decode cX3_copyFrom 29 = .ok (.getfield 27, 3) := by decide +kernel
theorem dX3_copyFrom_32 : decode cX3_copyFrom 32 = .ok (.invokevirtual 51, 3) := by decide +kernel
theorem dX3_copyFrom_35 : decode cX3_copyFrom 35 = .ok (.aload_n 0, 1) := by decide +kernel
theorem dX3_copyFrom_36 : decode cX3_copyFrom 36 = .ok (.getfield 31, 3) := by decide +kernel
theorem dX3_copyFrom_39 : decode cX3_copyFrom 39 = .ok (.aload_n 1, 1) := by decide +kernel
theorem dX3_copyFrom_40 : decode cX3_copyFrom 40 = .ok (.getfield 31, 3) := by decide +kernel
theorem dX3_copyFrom_43 : decode cX3_copyFrom 43 = .ok (.invokevirtual 51, 3) := by decide +kernel
theorem dX3_copyFrom_46 : decode cX3_copyFrom 46 = .ok (.iconst 0, 1) := by decide +kernel
theorem dX3_copyFrom_47 : decode cX3_copyFrom 47 = .ok (.istore_n 2, 1) := by decide +kernel
theorem dX3_copyFrom_48 : decode cX3_copyFrom 48 = .ok (.iload_n 2, 1) := by decide +kernel
theorem dX3_copyFrom_49 : decode cX3_copyFrom 49 = .ok (.aload_n 0, 1) := by decide +kernel
theorem dX3_copyFrom_50 : decode cX3_copyFrom 50 = .ok (.getfield 41, 3) := by decide +kernel
theorem dX3_copyFrom_53 : decode cX3_copyFrom 53 = .ok (.if_icmp .ge 22, 3) := by decide +kernel
theorem dX3_copyFrom_56 : decode cX3_copyFrom 56 = .ok (.aload_n 0, 1) := by decide +kernel
theorem dX3_copyFrom_57 : decode cX3_copyFrom 57 = .ok (.iload_n 2, 1) := by decide +kernel
theorem dX3_copyFrom_58 : decode cX3_copyFrom 58 = .ok (.invokevirtual 55, 3) := by decide +kernel
theorem dX3_copyFrom_61 : decode cX3_copyFrom 61 = .ok (.aload_n 1, 1) := by decide +kernel
theorem dX3_copyFrom_62 : decode cX3_copyFrom 62 = .ok (.iload_n 2, 1) := by decide +kernel
theorem dX3_copyFrom_63 : decode cX3_copyFrom 63 = .ok (.invokevirtual 55, 3) := by decide +kernel
theorem dX3_copyFrom_66 : decode cX3_copyFrom 66 = .ok (.invokevirtual 59, 3) := by decide +kernel
theorem dX3_copyFrom_69 : decode cX3_copyFrom 69 = .ok (.iinc 2 1, 3) := by decide +kernel
theorem dX3_copyFrom_72 : decode cX3_copyFrom 72 = .ok (.goto (-24), 3) := by decide +kernel
theorem dX3_copyFrom_75 : decode cX3_copyFrom 75 = .ok (.return_, 1) := by decide +kernel
theorem dX3_isMade_0 : decode cX3_isMade 0 = .ok (.iload_n 1, 1) := by decide +kernel
theorem dX3_isMade_1 : decode cX3_isMade 1 = .ok (.ifCond .lt 15, 3) := by decide +kernel
theorem dX3_isMade_4 : decode cX3_isMade 4 = .ok (.iload_n 1, 1) := by decide +kernel
theorem dX3_isMade_5 : decode cX3_isMade 5 = .ok (.aload_n 0, 1) := by decide +kernel
theorem dX3_isMade_6 : decode cX3_isMade 6 = .ok (.getfield 41, 3) := by decide +kernel
theorem dX3_isMade_9 : decode cX3_isMade 9 = .ok (.if_icmp .ge 7, 3) := by decide +kernel
theorem dX3_isMade_12 : decode cX3_isMade 12 = .ok (.iconst 1, 1) := by decide +kernel
theorem dX3_isMade_13 : decode cX3_isMade 13 = .ok (.goto 4, 3) := by decide +kernel
theorem dX3_isMade_16 : decode cX3_isMade 16 = .ok (.iconst 0, 1) := by decide +kernel
theorem dX3_isMade_17 : decode cX3_isMade 17 = .ok (.ireturn, 1) := by decide +kernel
theorem dX3_has_0 : decode cX3_has 0 = .ok (.iload_n 1, 1) := by decide +kernel
theorem dX3_has_1 : decode cX3_has 1 = .ok (.ifCond .lt 27, 3) := by decide +kernel
theorem dX3_has_4 : decode cX3_has 4 = .ok (.iload_n 1, 1) := by decide +kernel
theorem dX3_has_5 : decode cX3_has 5 = .ok (.aload_n 0, 1) := by decide +kernel
theorem dX3_has_6 : decode cX3_has 6 = .ok (.getfield 41, 3) := by decide +kernel
theorem dX3_has_9 : decode cX3_has 9 = .ok (.if_icmp .ge 19, 3) := by decide +kernel
theorem dX3_has_12 : decode cX3_has 12 = .ok (.aload_n 0, 1) := by decide +kernel
theorem dX3_has_13 : decode cX3_has 13 = .ok (.iload_n 1, 1) := by decide +kernel
theorem dX3_has_14 : decode cX3_has 14 = .ok (.invokevirtual 55, 3) := by decide +kernel
theorem dX3_has_17 : decode cX3_has 17 = .ok (.getfield 62, 3) := by decide +kernel
theorem dX3_has_20 : decode cX3_has 20 = .ok (.iload_n 2, 1) := by decide +kernel
theorem dX3_has_21 : decode cX3_has 21 = .ok (.if_icmp .ne 7, 3) := by decide +kernel
theorem dX3_has_24 : decode cX3_has 24 = .ok (.iconst 1, 1) := by decide +kernel
theorem dX3_has_25 : decode cX3_has 25 = .ok (.goto 4, 3) := by decide +kernel
theorem dX3_has_28 : decode cX3_has 28 = .ok (.iconst 0, 1) := by decide +kernel
theorem dX3_has_29 : decode cX3_has 29 = .ok (.ireturn, 1) := by decide +kernel
theorem dX3_at_0 : decode cX3_at 0 = .ok (.iload_n 1, 1) := by decide +kernel
theorem dX3_at_1 : decode cX3_at 1 = .ok (.ifCond .lt 18, 3) := by decide +kernel
theorem dX3_at_4 : decode cX3_at 4 = .ok (.iload_n 1, 1) := by decide +kernel
theorem dX3_at_5 : decode cX3_at 5 = .ok (.bipush 24, 2) := by decide +kernel
theorem dX3_at_7 : decode cX3_at 7 = .ok (.if_icmp .ge 12, 3) := by decide +kernel
theorem dX3_at_10 : decode cX3_at 10 = .ok (.aload_n 0, 1) := by decide +kernel
theorem dX3_at_11 : decode cX3_at 11 = .ok (.getfield 11, 3) := by decide +kernel
theorem dX3_at_14 : decode cX3_at 14 = .ok (.iload_n 1, 1) := by decide +kernel
theorem dX3_at_15 : decode cX3_at 15 = .ok (.aaload, 1) := by decide +kernel
theorem dX3_at_16 : decode cX3_at 16 = .ok (.goto 7, 3) := by decide +kernel
theorem dX3_at_19 : decode cX3_at 19 = .ok (.aload_n 0, 1) := by decide +kernel
theorem dX3_at_20 : decode cX3_at 20 = .ok (.getfield 20, 3) := by decide +kernel
theorem dX3_at_23 : decode cX3_at 23 = .ok (.areturn, 1) := by decide +kernel
theorem dX3_isFull_0 : decode cX3_isFull 0 = .ok (.aload_n 0, 1) := by decide +kernel
theorem dX3_isFull_1 : decode cX3_isFull 1 = .ok (.getfield 41, 3) := by decide +kernel
theorem dX3_isFull_4 : decode cX3_isFull 4 = .ok (.bipush 24, 2) := by decide +kernel
theorem dX3_isFull_6 : decode cX3_isFull 6 = .ok (.if_icmp .lt 7, 3) := by decide +kernel
theorem dX3_isFull_9 : decode cX3_isFull 9 = .ok (.iconst 1, 1) := by decide +kernel
theorem dX3_isFull_10 : decode cX3_isFull 10 = .ok (.goto 4, 3) := by decide +kernel
theorem dX3_isFull_13 : decode cX3_isFull 13 = .ok (.iconst 0, 1) := by decide +kernel
theorem dX3_isFull_14 : decode cX3_isFull 14 = .ok (.ireturn, 1) := by decide +kernel
theorem dX3_howManyMadeOf_0 : decode cX3_howManyMadeOf 0 = .ok (.iconst 0, 1) := by decide +kernel
theorem dX3_howManyMadeOf_1 : decode cX3_howManyMadeOf 1 = .ok (.istore_n 2, 1) := by decide +kernel
theorem dX3_howManyMadeOf_2 : decode cX3_howManyMadeOf 2 = .ok (.iconst 0, 1) := by decide +kernel
theorem dX3_howManyMadeOf_3 : decode cX3_howManyMadeOf 3 = .ok (.istore_n 3, 1) := by decide +kernel
theorem dX3_howManyMadeOf_4 : decode cX3_howManyMadeOf 4 = .ok (.iload_n 3, 1) := by decide +kernel
theorem dX3_howManyMadeOf_5 : decode cX3_howManyMadeOf 5 = .ok (.aload_n 0, 1) := by decide +kernel
theorem dX3_howManyMadeOf_6 : decode cX3_howManyMadeOf 6 = .ok (.getfield 41, 3) := by decide +kernel
theorem dX3_howManyMadeOf_9 : decode cX3_howManyMadeOf 9 = .ok (.if_icmp .ge 29, 3) := by decide +kernel
theorem dX3_howManyMadeOf_12 : decode cX3_howManyMadeOf 12 = .ok (.iload_n 2, 1) := by decide +kernel
theorem dX3_howManyMadeOf_13 : decode cX3_howManyMadeOf 13 = .ok (.aload_n 0, 1) := by decide +kernel
theorem dX3_howManyMadeOf_14 : decode cX3_howManyMadeOf 14 = .ok (.iload_n 3, 1) := by decide +kernel
theorem dX3_howManyMadeOf_15 : decode cX3_howManyMadeOf 15 = .ok (.invokevirtual 55, 3) := by decide +kernel
theorem dX3_howManyMadeOf_18 : decode cX3_howManyMadeOf 18 = .ok (.getfield 65, 3) := by decide +kernel
theorem dX3_howManyMadeOf_21 : decode cX3_howManyMadeOf 21 = .ok (.iload_n 1, 1) := by decide +kernel
theorem dX3_howManyMadeOf_22 : decode cX3_howManyMadeOf 22 = .ok (.if_icmp .ne 7, 3) := by decide +kernel
theorem dX3_howManyMadeOf_25 : decode cX3_howManyMadeOf 25 = .ok (.iconst 1, 1) := by decide +kernel
theorem dX3_howManyMadeOf_26 : decode cX3_howManyMadeOf 26 = .ok (.goto 4, 3) := by decide +kernel
theorem dX3_howManyMadeOf_29 : decode cX3_howManyMadeOf 29 = .ok (.iconst 0, 1) := by decide +kernel
theorem dX3_howManyMadeOf_30 : decode cX3_howManyMadeOf 30 = .ok (.iadd, 1) := by decide +kernel
theorem dX3_howManyMadeOf_31 : decode cX3_howManyMadeOf 31 = .ok (.istore_n 2, 1) := by decide +kernel
theorem dX3_howManyMadeOf_32 : decode cX3_howManyMadeOf 32 = .ok (.iinc 3 1, 3) := by decide +kernel
theorem dX3_howManyMadeOf_35 : decode cX3_howManyMadeOf 35 = .ok (.goto (-31), 3) := by decide +kernel
theorem dX3_howManyMadeOf_38 : decode cX3_howManyMadeOf 38 = .ok (.iload_n 2, 1) := by decide +kernel
theorem dX3_howManyMadeOf_39 : decode cX3_howManyMadeOf 39 = .ok (.ireturn, 1) := by decide +kernel
theorem dX3_howManyOfSort_0 : decode cX3_howManyOfSort 0 = .ok (.iconst 0, 1) := by decide +kernel
theorem dX3_howManyOfSort_1 : decode cX3_howManyOfSort 1 = .ok (.istore_n 2, 1) := by decide +kernel
theorem dX3_howManyOfSort_2 : decode cX3_howManyOfSort 2 = .ok (.iconst 0, 1) := by decide +kernel
theorem dX3_howManyOfSort_3 : decode cX3_howManyOfSort 3 = .ok (.istore_n 3, 1) := by decide +kernel
theorem dX3_howManyOfSort_4 : decode cX3_howManyOfSort 4 = .ok (.iload_n 3, 1) := by decide +kernel
theorem dX3_howManyOfSort_5 : decode cX3_howManyOfSort 5 = .ok (.aload_n 0, 1) := by decide +kernel
theorem dX3_howManyOfSort_6 : decode cX3_howManyOfSort 6 = .ok (.getfield 41, 3) := by decide +kernel
theorem dX3_howManyOfSort_9 : decode cX3_howManyOfSort 9 = .ok (.if_icmp .ge 29, 3) := by decide +kernel
theorem dX3_howManyOfSort_12 : decode cX3_howManyOfSort 12 = .ok (.iload_n 2, 1) := by decide +kernel
theorem dX3_howManyOfSort_13 : decode cX3_howManyOfSort 13 = .ok (.aload_n 0, 1) := by decide +kernel
theorem dX3_howManyOfSort_14 : decode cX3_howManyOfSort 14 = .ok (.iload_n 3, 1) := by decide +kernel
theorem dX3_howManyOfSort_15 : decode cX3_howManyOfSort 15 = .ok (.invokevirtual 55, 3) := by decide +kernel
theorem dX3_howManyOfSort_18 : decode cX3_howManyOfSort 18 = .ok (.getfield 62, 3) := by decide +kernel
theorem dX3_howManyOfSort_21 : decode cX3_howManyOfSort 21 = .ok (.iload_n 1, 1) := by decide +kernel
theorem dX3_howManyOfSort_22 : decode cX3_howManyOfSort 22 = .ok (.if_icmp .ne 7, 3) := by decide +kernel
theorem dX3_howManyOfSort_25 : decode cX3_howManyOfSort 25 = .ok (.iconst 1, 1) := by decide +kernel
theorem dX3_howManyOfSort_26 : decode cX3_howManyOfSort 26 = .ok (.goto 4, 3) := by decide +kernel
theorem dX3_howManyOfSort_29 : decode cX3_howManyOfSort 29 = .ok (.iconst 0, 1) := by decide +kernel
theorem dX3_howManyOfSort_30 : decode cX3_howManyOfSort 30 = .ok (.iadd, 1) := by decide +kernel
theorem dX3_howManyOfSort_31 : decode cX3_howManyOfSort 31 = .ok (.istore_n 2, 1) := by decide +kernel
theorem dX3_howManyOfSort_32 : decode cX3_howManyOfSort 32 = .ok (.iinc 3 1, 3) := by decide +kernel
theorem dX3_howManyOfSort_35 : decode cX3_howManyOfSort 35 = .ok (.goto (-31), 3) := by decide +kernel
theorem dX3_howManyOfSort_38 : decode cX3_howManyOfSort 38 = .ok (.iload_n 2, 1) := by decide +kernel
theorem dX3_howManyOfSort_39 : decode cX3_howManyOfSort 39 = .ok (.ireturn, 1) := by decide +kernel
theorem dX3_howManyInState_0 : decode cX3_howManyInState 0 = .ok (.iconst 0, 1) := by decide +kernel
theorem dX3_howManyInState_1 : decode cX3_howManyInState 1 = .ok (.istore_n 2, 1) := by decide +kernel
theorem dX3_howManyInState_2 : decode cX3_howManyInState 2 = .ok (.iconst 0, 1) := by decide +kernel
theorem dX3_howManyInState_3 : decode cX3_howManyInState 3 = .ok (.istore_n 3, 1) := by decide +kernel
theorem dX3_howManyInState_4 : decode cX3_howManyInState 4 = .ok (.iload_n 3, 1) := by decide +kernel
theorem dX3_howManyInState_5 : decode cX3_howManyInState 5 = .ok (.aload_n 0, 1) := by decide +kernel
theorem dX3_howManyInState_6 : decode cX3_howManyInState 6 = .ok (.getfield 41, 3) := by decide +kernel
theorem dX3_howManyInState_9 : decode cX3_howManyInState 9 = .ok (.if_icmp .ge 29, 3) := by decide +kernel
theorem dX3_howManyInState_12 : decode cX3_howManyInState 12 = .ok (.iload_n 2, 1) := by decide +kernel
theorem dX3_howManyInState_13 : decode cX3_howManyInState 13 = .ok (.aload_n 0, 1) := by decide +kernel
theorem dX3_howManyInState_14 : decode cX3_howManyInState 14 = .ok (.iload_n 3, 1) := by decide +kernel
theorem dX3_howManyInState_15 : decode cX3_howManyInState 15 = .ok (.invokevirtual 55, 3) := by decide +kernel
theorem dX3_howManyInState_18 : decode cX3_howManyInState 18 = .ok (.getfield 68, 3) := by decide +kernel
theorem dX3_howManyInState_21 : decode cX3_howManyInState 21 = .ok (.iload_n 1, 1) := by decide +kernel
theorem dX3_howManyInState_22 : decode cX3_howManyInState 22 = .ok (.if_icmp .ne 7, 3) := by decide +kernel
theorem dX3_howManyInState_25 : decode cX3_howManyInState 25 = .ok (.iconst 1, 1) := by decide +kernel
theorem dX3_howManyInState_26 : decode cX3_howManyInState 26 = .ok (.goto 4, 3) := by decide +kernel
theorem dX3_howManyInState_29 : decode cX3_howManyInState 29 = .ok (.iconst 0, 1) := by decide +kernel
theorem dX3_howManyInState_30 : decode cX3_howManyInState 30 = .ok (.iadd, 1) := by decide +kernel
theorem dX3_howManyInState_31 : decode cX3_howManyInState 31 = .ok (.istore_n 2, 1) := by decide +kernel
theorem dX3_howManyInState_32 : decode cX3_howManyInState 32 = .ok (.iinc 3 1, 3) := by decide +kernel
theorem dX3_howManyInState_35 : decode cX3_howManyInState 35 = .ok (.goto (-31), 3) := by decide +kernel
theorem dX3_howManyInState_38 : decode cX3_howManyInState 38 = .ok (.iload_n 2, 1) := by decide +kernel
theorem dX3_howManyInState_39 : decode cX3_howManyInState 39 = .ok (.ireturn, 1) := by decide +kernel
theorem dX3_howManyTasksOver_0 : decode cX3_howManyTasksOver 0 = .ok (.iconst 0, 1) := by decide +kernel
theorem dX3_howManyTasksOver_1 : decode cX3_howManyTasksOver 1 = .ok (.istore_n 1, 1) := by decide +kernel
theorem dX3_howManyTasksOver_2 : decode cX3_howManyTasksOver 2 = .ok (.iconst 0, 1) := by decide +kernel
theorem dX3_howManyTasksOver_3 : decode cX3_howManyTasksOver 3 = .ok (.istore_n 2, 1) := by decide +kernel
theorem dX3_howManyTasksOver_4 : decode cX3_howManyTasksOver 4 = .ok (.iload_n 2, 1) := by decide +kernel
theorem dX3_howManyTasksOver_5 : decode cX3_howManyTasksOver 5 = .ok (.aload_n 0, 1) := by decide +kernel
theorem dX3_howManyTasksOver_6 : decode cX3_howManyTasksOver 6 = .ok (.getfield 41, 3) := by decide +kernel
theorem dX3_howManyTasksOver_9 : decode cX3_howManyTasksOver 9 = .ok (.if_icmp .ge 40, 3) := by decide +kernel
theorem dX3_howManyTasksOver_12 : decode cX3_howManyTasksOver 12 = .ok (.iload_n 1, 1) := by decide +kernel
theorem dX3_howManyTasksOver_13 : decode cX3_howManyTasksOver 13 = .ok (.aload_n 0, 1) := by decide +kernel
theorem dX3_howManyTasksOver_14 : decode cX3_howManyTasksOver 14 = .ok (.iload_n 2, 1) := by decide +kernel
theorem dX3_howManyTasksOver_15 : decode cX3_howManyTasksOver 15 = .ok (.invokevirtual 55, 3) := by decide +kernel
theorem dX3_howManyTasksOver_18 : decode cX3_howManyTasksOver 18 = .ok (.getfield 62, 3) := by decide +kernel
theorem dX3_howManyTasksOver_21 : decode cX3_howManyTasksOver 21 = .ok (.iconst 1, 1) := by decide +kernel
theorem dX3_howManyTasksOver_22 : decode cX3_howManyTasksOver 22 = .ok (.if_icmp .ne 18, 3) := by decide +kernel
theorem dX3_howManyTasksOver_25 : decode cX3_howManyTasksOver 25 = .ok (.aload_n 0, 1) := by decide +kernel
theorem dX3_howManyTasksOver_26 : decode cX3_howManyTasksOver 26 = .ok (.iload_n 2, 1) := by decide +kernel
theorem dX3_howManyTasksOver_27 : decode cX3_howManyTasksOver 27 = .ok (.invokevirtual 55, 3) := by decide +kernel
theorem dX3_howManyTasksOver_30 : decode cX3_howManyTasksOver 30 = .ok (.invokevirtual 71, 3) := by decide +kernel
theorem dX3_howManyTasksOver_33 : decode cX3_howManyTasksOver 33 = .ok (.ifCond .eq 7, 3) := by decide +kernel
theorem dX3_howManyTasksOver_36 : decode cX3_howManyTasksOver 36 = .ok (.iconst 1, 1) := by decide +kernel
theorem dX3_howManyTasksOver_37 : decode cX3_howManyTasksOver 37 = .ok (.goto 4, 3) := by decide +kernel
theorem dX3_howManyTasksOver_40 : decode cX3_howManyTasksOver 40 = .ok (.iconst 0, 1) := by decide +kernel
theorem dX3_howManyTasksOver_41 : decode cX3_howManyTasksOver 41 = .ok (.iadd, 1) := by decide +kernel
theorem dX3_howManyTasksOver_42 : decode cX3_howManyTasksOver 42 = .ok (.istore_n 1, 1) := by decide +kernel
theorem dX3_howManyTasksOver_43 : decode cX3_howManyTasksOver 43 = .ok (.iinc 2 1, 3) := by decide +kernel
theorem dX3_howManyTasksOver_46 : decode cX3_howManyTasksOver 46 = .ok (.goto (-42), 3) := by decide +kernel
theorem dX3_howManyTasksOver_49 : decode cX3_howManyTasksOver 49 = .ok (.iload_n 1, 1) := by decide +kernel
theorem dX3_howManyTasksOver_50 : decode cX3_howManyTasksOver 50 = .ok (.ireturn, 1) := by decide +kernel
theorem dX3_howManyAwait_0 : decode cX3_howManyAwait 0 = .ok (.iconst 0, 1) := by decide +kernel
theorem dX3_howManyAwait_1 : decode cX3_howManyAwait 1 = .ok (.istore_n 2, 1) := by decide +kernel
theorem dX3_howManyAwait_2 : decode cX3_howManyAwait 2 = .ok (.iconst 0, 1) := by decide +kernel
theorem dX3_howManyAwait_3 : decode cX3_howManyAwait 3 = .ok (.istore_n 3, 1) := by decide +kernel
theorem dX3_howManyAwait_4 : decode cX3_howManyAwait 4 = .ok (.iload_n 3, 1) := by decide +kernel
theorem dX3_howManyAwait_5 : decode cX3_howManyAwait 5 = .ok (.aload_n 0, 1) := by decide +kernel
theorem dX3_howManyAwait_6 : decode cX3_howManyAwait 6 = .ok (.getfield 31, 3) := by decide +kernel
theorem dX3_howManyAwait_9 : decode cX3_howManyAwait 9 = .ok (.getfield 75, 3) := by decide +kernel
theorem dX3_howManyAwait_12 : decode cX3_howManyAwait 12 = .ok (.if_icmp .ge 36, 3) := by decide +kernel
theorem dX3_howManyAwait_15 : decode cX3_howManyAwait 15 = .ok (.iload_n 2, 1) := by decide +kernel
theorem dX3_howManyAwait_16 : decode cX3_howManyAwait 16 = .ok (.aload_n 0, 1) := by decide +kernel
theorem dX3_howManyAwait_17 : decode cX3_howManyAwait 17 = .ok (.aload_n 0, 1) := by decide +kernel
theorem dX3_howManyAwait_18 : decode cX3_howManyAwait 18 = .ok (.getfield 31, 3) := by decide +kernel
theorem dX3_howManyAwait_21 : decode cX3_howManyAwait 21 = .ok (.iload_n 3, 1) := by decide +kernel
theorem dX3_howManyAwait_22 : decode cX3_howManyAwait 22 = .ok (.invokevirtual 78, 3) := by decide +kernel
theorem dX3_howManyAwait_25 : decode cX3_howManyAwait 25 = .ok (.invokevirtual 55, 3) := by decide +kernel
theorem dX3_howManyAwait_28 : decode cX3_howManyAwait 28 = .ok (.getfield 82, 3) := by decide +kernel
theorem dX3_howManyAwait_31 : decode cX3_howManyAwait 31 = .ok (.iload_n 1, 1) := by decide +kernel
theorem dX3_howManyAwait_32 : decode cX3_howManyAwait 32 = .ok (.if_icmp .ne 7, 3) := by decide +kernel
theorem dX3_howManyAwait_35 : decode cX3_howManyAwait 35 = .ok (.iconst 1, 1) := by decide +kernel
theorem dX3_howManyAwait_36 : decode cX3_howManyAwait 36 = .ok (.goto 4, 3) := by decide +kernel
theorem dX3_howManyAwait_39 : decode cX3_howManyAwait 39 = .ok (.iconst 0, 1) := by decide +kernel
theorem dX3_howManyAwait_40 : decode cX3_howManyAwait 40 = .ok (.iadd, 1) := by decide +kernel
theorem dX3_howManyAwait_41 : decode cX3_howManyAwait 41 = .ok (.istore_n 2, 1) := by decide +kernel
theorem dX3_howManyAwait_42 : decode cX3_howManyAwait 42 = .ok (.iinc 3 1, 3) := by decide +kernel
theorem dX3_howManyAwait_45 : decode cX3_howManyAwait 45 = .ok (.goto (-41), 3) := by decide +kernel
theorem dX3_howManyAwait_48 : decode cX3_howManyAwait 48 = .ok (.iload_n 2, 1) := by decide +kernel
theorem dX3_howManyAwait_49 : decode cX3_howManyAwait 49 = .ok (.ireturn, 1) := by decide +kernel
theorem dX3_linesDoneInAll_0 : decode cX3_linesDoneInAll 0 = .ok (.iconst 0, 1) := by decide +kernel
theorem dX3_linesDoneInAll_1 : decode cX3_linesDoneInAll 1 = .ok (.istore_n 1, 1) := by decide +kernel
theorem dX3_linesDoneInAll_2 : decode cX3_linesDoneInAll 2 = .ok (.iconst 0, 1) := by decide +kernel
theorem dX3_linesDoneInAll_3 : decode cX3_linesDoneInAll 3 = .ok (.istore_n 2, 1) := by decide +kernel
theorem dX3_linesDoneInAll_4 : decode cX3_linesDoneInAll 4 = .ok (.iload_n 2, 1) := by decide +kernel
theorem dX3_linesDoneInAll_5 : decode cX3_linesDoneInAll 5 = .ok (.aload_n 0, 1) := by decide +kernel
theorem dX3_linesDoneInAll_6 : decode cX3_linesDoneInAll 6 = .ok (.getfield 41, 3) := by decide +kernel
theorem dX3_linesDoneInAll_9 : decode cX3_linesDoneInAll 9 = .ok (.if_icmp .ge 20, 3) := by decide +kernel
theorem dX3_linesDoneInAll_12 : decode cX3_linesDoneInAll 12 = .ok (.iload_n 1, 1) := by decide +kernel
theorem dX3_linesDoneInAll_13 : decode cX3_linesDoneInAll 13 = .ok (.aload_n 0, 1) := by decide +kernel
theorem dX3_linesDoneInAll_14 : decode cX3_linesDoneInAll 14 = .ok (.iload_n 2, 1) := by decide +kernel
theorem dX3_linesDoneInAll_15 : decode cX3_linesDoneInAll 15 = .ok (.invokevirtual 55, 3) := by decide +kernel
theorem dX3_linesDoneInAll_18 : decode cX3_linesDoneInAll 18 = .ok (.getfield 85, 3) := by decide +kernel
theorem dX3_linesDoneInAll_21 : decode cX3_linesDoneInAll 21 = .ok (.iadd, 1) := by decide +kernel
theorem dX3_linesDoneInAll_22 : decode cX3_linesDoneInAll 22 = .ok (.istore_n 1, 1) := by decide +kernel
theorem dX3_linesDoneInAll_23 : decode cX3_linesDoneInAll 23 = .ok (.iinc 2 1, 3) := by decide +kernel
theorem dX3_linesDoneInAll_26 : decode cX3_linesDoneInAll 26 = .ok (.goto (-22), 3) := by decide +kernel
theorem dX3_linesDoneInAll_29 : decode cX3_linesDoneInAll 29 = .ok (.iload_n 1, 1) := by decide +kernel
theorem dX3_linesDoneInAll_30 : decode cX3_linesDoneInAll 30 = .ok (.ireturn, 1) := by decide +kernel
theorem dX3_canMake_0 : decode cX3_canMake 0 = .ok (.aload_n 0, 1) := by decide +kernel
theorem dX3_canMake_1 : decode cX3_canMake 1 = .ok (.getfield 34, 3) := by decide +kernel
theorem dX3_canMake_4 : decode cX3_canMake 4 = .ok (.iload_n 1, 1) := by decide +kernel
theorem dX3_canMake_5 : decode cX3_canMake 5 = .ok (.invokevirtual 88, 3) := by decide +kernel
theorem dX3_canMake_8 : decode cX3_canMake 8 = .ok (.ifCond .eq 14, 3) := by decide +kernel
theorem dX3_canMake_11 : decode cX3_canMake 11 = .ok (.aload_n 0, 1) := by decide +kernel
theorem dX3_canMake_12 : decode cX3_canMake 12 = .ok (.invokevirtual 94, 3) := by decide +kernel
theorem dX3_canMake_15 : decode cX3_canMake 15 = .ok (.ifCond .ne 7, 3) := by decide +kernel
theorem dX3_canMake_18 : decode cX3_canMake 18 = .ok (.iconst 1, 1) := by decide +kernel
theorem dX3_canMake_19 : decode cX3_canMake 19 = .ok (.goto 4, 3) := by decide +kernel
theorem dX3_canMake_22 : decode cX3_canMake 22 = .ok (.iconst 0, 1) := by decide +kernel
theorem dX3_canMake_23 : decode cX3_canMake 23 = .ok (.ireturn, 1) := by decide +kernel
theorem dX3_make_0 : decode cX3_make 0 = .ok (.aload_n 0, 1) := by decide +kernel
theorem dX3_make_1 : decode cX3_make 1 = .ok (.aload_n 0, 1) := by decide +kernel
theorem dX3_make_2 : decode cX3_make 2 = .ok (.getfield 41, 3) := by decide +kernel
theorem dX3_make_5 : decode cX3_make 5 = .ok (.invokevirtual 55, 3) := by decide +kernel
theorem dX3_make_8 : decode cX3_make 8 = .ok (.astore 4, 2) := by decide +kernel
theorem dX3_make_10 : decode cX3_make 10 = .ok (.aload 4, 2) := by decide +kernel
theorem dX3_make_12 : decode cX3_make 12 = .ok (.iload_n 1, 1) := by decide +kernel
theorem dX3_make_13 : decode cX3_make 13 = .ok (.iload_n 2, 1) := by decide +kernel
theorem dX3_make_14 : decode cX3_make 14 = .ok (.iload_n 3, 1) := by decide +kernel
theorem dX3_make_15 : decode cX3_make 15 = .ok (.invokevirtual 97, 3) := by decide +kernel
theorem dX3_make_18 : decode cX3_make 18 = .ok (.aload_n 0, 1) := by decide +kernel
theorem dX3_make_19 : decode cX3_make 19 = .ok (.dup, 1) := by decide +kernel
theorem dX3_make_20 : decode cX3_make 20 = .ok (.getfield 41, 3) := by decide +kernel
theorem dX3_make_23 : decode cX3_make 23 = .ok (.iconst 1, 1) := by decide +kernel
theorem dX3_make_24 : decode cX3_make 24 = .ok (.iadd, 1) := by decide +kernel
theorem dX3_make_25 : decode cX3_make 25 = .ok (.putfield 41, 3) := by decide +kernel
theorem dX3_make_28 : decode cX3_make 28 = .ok (.iload_n 2, 1) := by decide +kernel
theorem dX3_make_29 : decode cX3_make 29 = .ok (.iconst 1, 1) := by decide +kernel
theorem dX3_make_30 : decode cX3_make 30 = .ok (.if_icmp .ne 15, 3) := by decide +kernel
theorem dX3_make_33 : decode cX3_make 33 = .ok (.aload_n 0, 1) := by decide +kernel
theorem dX3_make_34 : decode cX3_make 34 = .ok (.getfield 27, 3) := by decide +kernel
theorem dX3_make_37 : decode cX3_make 37 = .ok (.aload 4, 2) := by decide +kernel
theorem dX3_make_39 : decode cX3_make 39 = .ok (.getfield 101, 3) := by decide +kernel
theorem dX3_make_42 : decode cX3_make 42 = .ok (.invokevirtual 104, 3) := by decide +kernel
theorem dX3_make_45 : decode cX3_make 45 = .ok (.aload 4, 2) := by decide +kernel
theorem dX3_make_47 : decode cX3_make 47 = .ok (.areturn, 1) := by decide +kernel
theorem dX3_resumeWith_0 : decode cX3_resumeWith 0 = .ok (.aload_n 0, 1) := by decide +kernel
theorem dX3_resumeWith_1 : decode cX3_resumeWith 1 = .ok (.iload_n 1, 1) := by decide +kernel
theorem dX3_resumeWith_2 : decode cX3_resumeWith 2 = .ok (.invokevirtual 55, 3) := by decide +kernel
theorem dX3_resumeWith_5 : decode cX3_resumeWith 5 = .ok (.astore_n 3, 1) := by decide +kernel
theorem dX3_resumeWith_6 : decode cX3_resumeWith 6 = .ok (.aload_n 0, 1) := by decide +kernel
theorem dX3_resumeWith_7 : decode cX3_resumeWith 7 = .ok (.aload_n 3, 1) := by decide +kernel
theorem dX3_resumeWith_8 : decode cX3_resumeWith 8 = .ok (.invokevirtual 107, 3) := by decide +kernel
theorem dX3_resumeWith_11 : decode cX3_resumeWith 11 = .ok (.astore 4, 2) := by decide +kernel
theorem dX3_resumeWith_13 : decode cX3_resumeWith 13 = .ok (.aload_n 0, 1) := by decide +kernel
theorem dX3_resumeWith_14 : decode cX3_resumeWith 14 = .ok (.iconst (-1), 1) := by decide +kernel
theorem dX3_resumeWith_15 : decode cX3_resumeWith 15 = .ok (.invokevirtual 111, 3) := by decide +kernel
theorem dX3_resumeWith_18 : decode cX3_resumeWith 18 = .ok (.aload 4, 2) := by decide +kernel
theorem dX3_resumeWith_20 : decode cX3_resumeWith 20 = .ok (.getfield 68, 3) := by decide +kernel
theorem dX3_resumeWith_23 : decode cX3_resumeWith 23 = .ok (.ifCond .ne 12, 3) := by decide +kernel
theorem dX3_resumeWith_26 : decode cX3_resumeWith 26 = .ok (.aload 4, 2) := by decide +kernel
theorem dX3_resumeWith_28 : decode cX3_resumeWith 28 = .ok (.iconst 0, 1) := by decide +kernel
theorem dX3_resumeWith_29 : decode cX3_resumeWith 29 = .ok (.invokevirtual 114, 3) := by decide +kernel
theorem dX3_resumeWith_32 : decode cX3_resumeWith 32 = .ok (.goto 21, 3) := by decide +kernel
theorem dX3_resumeWith_35 : decode cX3_resumeWith 35 = .ok (.aload 4, 2) := by decide +kernel
theorem dX3_resumeWith_37 : decode cX3_resumeWith 37 = .ok (.iload_n 2, 1) := by decide +kernel
theorem dX3_resumeWith_38 : decode cX3_resumeWith 38 = .ok (.putfield 117, 3) := by decide +kernel
theorem dX3_resumeWith_41 : decode cX3_resumeWith 41 = .ok (.aload 4, 2) := by decide +kernel
theorem dX3_resumeWith_43 : decode cX3_resumeWith 43 = .ok (.aload 4, 2) := by decide +kernel
theorem dX3_resumeWith_45 : decode cX3_resumeWith 45 = .ok (.getfield 120, 3) := by decide +kernel
theorem dX3_resumeWith_48 : decode cX3_resumeWith 48 = .ok (.iconst 1, 1) := by decide +kernel
theorem dX3_resumeWith_49 : decode cX3_resumeWith 49 = .ok (.iadd, 1) := by decide +kernel
theorem dX3_resumeWith_50 : decode cX3_resumeWith 50 = .ok (.invokevirtual 114, 3) := by decide +kernel
theorem dX3_resumeWith_53 : decode cX3_resumeWith 53 = .ok (.aload_n 0, 1) := by decide +kernel
theorem dX3_resumeWith_54 : decode cX3_resumeWith 54 = .ok (.aload_n 3, 1) := by decide +kernel
theorem dX3_resumeWith_55 : decode cX3_resumeWith 55 = .ok (.aload 4, 2) := by decide +kernel
theorem dX3_resumeWith_57 : decode cX3_resumeWith 57 = .ok (.invokevirtual 123, 3) := by decide +kernel
theorem dX3_resumeWith_60 : decode cX3_resumeWith 60 = .ok (.aload_n 0, 1) := by decide +kernel
theorem dX3_resumeWith_61 : decode cX3_resumeWith 61 = .ok (.aload_n 3, 1) := by decide +kernel
theorem dX3_resumeWith_62 : decode cX3_resumeWith 62 = .ok (.invokevirtual 127, 3) := by decide +kernel
theorem dX3_resumeWith_65 : decode cX3_resumeWith 65 = .ok (.ireturn, 1) := by decide +kernel
theorem dX3_throwInto_0 : decode cX3_throwInto 0 = .ok (.aload_n 0, 1) := by decide +kernel
theorem dX3_throwInto_1 : decode cX3_throwInto 1 = .ok (.iload_n 1, 1) := by decide +kernel
theorem dX3_throwInto_2 : decode cX3_throwInto 2 = .ok (.invokevirtual 55, 3) := by decide +kernel
theorem dX3_throwInto_5 : decode cX3_throwInto 5 = .ok (.astore_n 3, 1) := by decide +kernel
theorem dX3_throwInto_6 : decode cX3_throwInto 6 = .ok (.aload_n 0, 1) := by decide +kernel
theorem dX3_throwInto_7 : decode cX3_throwInto 7 = .ok (.aload_n 3, 1) := by decide +kernel
theorem dX3_throwInto_8 : decode cX3_throwInto 8 = .ok (.invokevirtual 107, 3) := by decide +kernel
theorem dX3_throwInto_11 : decode cX3_throwInto 11 = .ok (.astore 4, 2) := by decide +kernel
theorem dX3_throwInto_13 : decode cX3_throwInto 13 = .ok (.aload_n 0, 1) := by decide +kernel
theorem dX3_throwInto_14 : decode cX3_throwInto 14 = .ok (.iconst (-1), 1) := by decide +kernel
theorem dX3_throwInto_15 : decode cX3_throwInto 15 = .ok (.invokevirtual 111, 3) := by decide +kernel
theorem dX3_throwInto_18 : decode cX3_throwInto 18 = .ok (.aload 4, 2) := by decide +kernel
theorem dX3_throwInto_20 : decode cX3_throwInto 20 = .ok (.iload_n 2, 1) := by decide +kernel
theorem dX3_throwInto_21 : decode cX3_throwInto 21 = .ok (.invokevirtual 131, 3) := by decide +kernel
theorem dX3_throwInto_24 : decode cX3_throwInto 24 = .ok (.aload_n 0, 1) := by decide +kernel
theorem dX3_throwInto_25 : decode cX3_throwInto 25 = .ok (.aload_n 3, 1) := by decide +kernel
theorem dX3_throwInto_26 : decode cX3_throwInto 26 = .ok (.aload 4, 2) := by decide +kernel
theorem dX3_throwInto_28 : decode cX3_throwInto 28 = .ok (.invokevirtual 123, 3) := by decide +kernel
theorem dX3_throwInto_31 : decode cX3_throwInto 31 = .ok (.aload_n 0, 1) := by decide +kernel
theorem dX3_throwInto_32 : decode cX3_throwInto 32 = .ok (.aload_n 3, 1) := by decide +kernel
theorem dX3_throwInto_33 : decode cX3_throwInto 33 = .ok (.invokevirtual 127, 3) := by decide +kernel
theorem dX3_throwInto_36 : decode cX3_throwInto 36 = .ok (.ireturn, 1) := by decide +kernel
theorem dX3_toldOf_0 : decode cX3_toldOf 0 = .ok (.aload_n 1, 1) := by decide +kernel
theorem dX3_toldOf_1 : decode cX3_toldOf 1 = .ok (.getfield 68, 3) := by decide +kernel
theorem dX3_toldOf_4 : decode cX3_toldOf 4 = .ok (.iconst 3, 1) := by decide +kernel
theorem dX3_toldOf_5 : decode cX3_toldOf 5 = .ok (.if_icmp .ne 7, 3) := by decide +kernel
theorem dX3_toldOf_8 : decode cX3_toldOf 8 = .ok (.sipush (-20000), 3) := by decide +kernel
theorem dX3_toldOf_11 : decode cX3_toldOf 11 = .ok (.ireturn, 1) := by decide +kernel
theorem dX3_toldOf_12 : decode cX3_toldOf 12 = .ok (.aload_n 1, 1) := by decide +kernel
theorem dX3_toldOf_13 : decode cX3_toldOf 13 = .ok (.getfield 68, 3) := by decide +kernel
theorem dX3_toldOf_16 : decode cX3_toldOf 16 = .ok (.iconst 4, 1) := by decide +kernel
theorem dX3_toldOf_17 : decode cX3_toldOf 17 = .ok (.if_icmp .ne 14, 3) := by decide +kernel
theorem dX3_toldOf_20 : decode cX3_toldOf 20 = .ok (.sipush (-20000), 3) := by decide +kernel
theorem dX3_toldOf_23 : decode cX3_toldOf 23 = .ok (.aload_n 1, 1) := by decide +kernel
theorem dX3_toldOf_24 : decode cX3_toldOf 24 = .ok (.getfield 117, 3) := by decide +kernel
theorem dX3_toldOf_27 : decode cX3_toldOf 27 = .ok (.isub, 1) := by decide +kernel
theorem dX3_toldOf_28 : decode cX3_toldOf 28 = .ok (.goto 11, 3) := by decide +kernel
theorem dX3_toldOf_31 : decode cX3_toldOf 31 = .ok (.aload_n 0, 1) := by decide +kernel
theorem dX3_toldOf_32 : decode cX3_toldOf 32 = .ok (.aload_n 1, 1) := by decide +kernel
theorem dX3_toldOf_33 : decode cX3_toldOf 33 = .ok (.invokevirtual 107, 3) := by decide +kernel
theorem dX3_toldOf_36 : decode cX3_toldOf 36 = .ok (.getfield 117, 3) := by decide +kernel
theorem dX3_toldOf_39 : decode cX3_toldOf 39 = .ok (.ireturn, 1) := by decide +kernel
theorem dX3_closeAll_0 : decode cX3_closeAll 0 = .ok (.aload_n 0, 1) := by decide +kernel
theorem dX3_closeAll_1 : decode cX3_closeAll 1 = .ok (.iload_n 1, 1) := by decide +kernel
theorem dX3_closeAll_2 : decode cX3_closeAll 2 = .ok (.invokevirtual 55, 3) := by decide +kernel
theorem dX3_closeAll_5 : decode cX3_closeAll 5 = .ok (.astore_n 2, 1) := by decide +kernel
theorem dX3_closeAll_6 : decode cX3_closeAll 6 = .ok (.aload_n 2, 1) := by decide +kernel
theorem dX3_closeAll_7 : decode cX3_closeAll 7 = .ok (.invokevirtual 71, 3) := by decide +kernel
theorem dX3_closeAll_10 : decode cX3_closeAll 10 = .ok (.ifCond .eq 5, 3) := by decide +kernel
theorem dX3_closeAll_13 : decode cX3_closeAll 13 = .ok (.iconst 0, 1) := by decide +kernel
theorem dX3_closeAll_14 : decode cX3_closeAll 14 = .ok (.ireturn, 1) := by decide +kernel
theorem dX3_closeAll_15 : decode cX3_closeAll 15 = .ok (.aload_n 2, 1) := by decide +kernel
theorem dX3_closeAll_16 : decode cX3_closeAll 16 = .ok (.getfield 68, 3) := by decide +kernel
theorem dX3_closeAll_19 : decode cX3_closeAll 19 = .ok (.ifCond .ne 11, 3) := by decide +kernel
theorem dX3_closeAll_22 : decode cX3_closeAll 22 = .ok (.aload_n 2, 1) := by decide +kernel
theorem dX3_closeAll_23 : decode cX3_closeAll 23 = .ok (.iconst 3, 1) := by decide +kernel
theorem dX3_closeAll_24 : decode cX3_closeAll 24 = .ok (.iconst 0, 1) := by decide +kernel
theorem dX3_closeAll_25 : decode cX3_closeAll 25 = .ok (.invokevirtual 134, 3) := by decide +kernel
theorem dX3_closeAll_28 : decode cX3_closeAll 28 = .ok (.iconst 0, 1) := by decide +kernel
theorem dX3_closeAll_29 : decode cX3_closeAll 29 = .ok (.ireturn, 1) := by decide +kernel
theorem dX3_closeAll_30 : decode cX3_closeAll 30 = .ok (.aload_n 0, 1) := by decide +kernel
theorem dX3_closeAll_31 : decode cX3_closeAll 31 = .ok (.iconst (-1), 1) := by decide +kernel
theorem dX3_closeAll_32 : decode cX3_closeAll 32 = .ok (.invokevirtual 111, 3) := by decide +kernel
theorem dX3_closeAll_35 : decode cX3_closeAll 35 = .ok (.aload_n 0, 1) := by decide +kernel
theorem dX3_closeAll_36 : decode cX3_closeAll 36 = .ok (.aload_n 2, 1) := by decide +kernel
theorem dX3_closeAll_37 : decode cX3_closeAll 37 = .ok (.invokevirtual 107, 3) := by decide +kernel
theorem dX3_closeAll_40 : decode cX3_closeAll 40 = .ok (.astore_n 3, 1) := by decide +kernel
theorem dX3_closeAll_41 : decode cX3_closeAll 41 = .ok (.aload_n 3, 1) := by decide +kernel
theorem dX3_closeAll_42 : decode cX3_closeAll 42 = .ok (.bipush 10, 2) := by decide +kernel
theorem dX3_closeAll_44 : decode cX3_closeAll 44 = .ok (.invokevirtual 131, 3) := by decide +kernel
theorem dX3_closeAll_47 : decode cX3_closeAll 47 = .ok (.aload_n 0, 1) := by decide +kernel
theorem dX3_closeAll_48 : decode cX3_closeAll 48 = .ok (.aload_n 3, 1) := by decide +kernel
theorem dX3_closeAll_49 : decode cX3_closeAll 49 = .ok (.aload_n 3, 1) := by decide +kernel
theorem dX3_closeAll_50 : decode cX3_closeAll 50 = .ok (.invokevirtual 123, 3) := by decide +kernel
theorem dX3_closeAll_53 : decode cX3_closeAll 53 = .ok (.aload_n 0, 1) := by decide +kernel
theorem dX3_closeAll_54 : decode cX3_closeAll 54 = .ok (.aload_n 3, 1) := by decide +kernel
theorem dX3_closeAll_55 : decode cX3_closeAll 55 = .ok (.invokevirtual 138, 3) := by decide +kernel
theorem dX3_closeAll_58 : decode cX3_closeAll 58 = .ok (.istore 4, 2) := by decide +kernel
theorem dX3_closeAll_60 : decode cX3_closeAll 60 = .ok (.iconst 0, 1) := by decide +kernel
theorem dX3_closeAll_61 : decode cX3_closeAll 61 = .ok (.istore 5, 2) := by decide +kernel
theorem dX3_closeAll_63 : decode cX3_closeAll 63 = .ok (.iload 5, 2) := by decide +kernel
theorem dX3_closeAll_65 : decode cX3_closeAll 65 = .ok (.bipush 24, 2) := by decide +kernel
theorem dX3_closeAll_67 : decode cX3_closeAll 67 = .ok (.if_icmp .ge 67, 3) := by decide +kernel
theorem dX3_closeAll_70 : decode cX3_closeAll 70 = .ok (.aload_n 3, 1) := by decide +kernel
theorem dX3_closeAll_71 : decode cX3_closeAll 71 = .ok (.aload_n 2, 1) := by decide +kernel
theorem dX3_closeAll_72 : decode cX3_closeAll 72 = .ok (.if_acmp .eq 62, 3) := by decide +kernel
theorem dX3_closeAll_75 : decode cX3_closeAll 75 = .ok (.aload_n 0, 1) := by decide +kernel
theorem dX3_closeAll_76 : decode cX3_closeAll 76 = .ok (.aload_n 3, 1) := by decide +kernel
theorem dX3_closeAll_77 : decode cX3_closeAll 77 = .ok (.getfield 141, 3) := by decide +kernel
theorem dX3_closeAll_80 : decode cX3_closeAll 80 = .ok (.invokevirtual 55, 3) := by decide +kernel
theorem dX3_closeAll_83 : decode cX3_closeAll 83 = .ok (.astore 6, 2) := by decide +kernel
theorem dX3_closeAll_85 : decode cX3_closeAll 85 = .ok (.aload_n 0, 1) := by decide +kernel
theorem dX3_closeAll_86 : decode cX3_closeAll 86 = .ok (.aload 6, 2) := by decide +kernel
theorem dX3_closeAll_88 : decode cX3_closeAll 88 = .ok (.aload_n 3, 1) := by decide +kernel
theorem dX3_closeAll_89 : decode cX3_closeAll 89 = .ok (.invokevirtual 144, 3) := by decide +kernel
theorem dX3_closeAll_92 : decode cX3_closeAll 92 = .ok (.aload 6, 2) := by decide +kernel
theorem dX3_closeAll_94 : decode cX3_closeAll 94 = .ok (.iload 4, 2) := by decide +kernel
theorem dX3_closeAll_96 : decode cX3_closeAll 96 = .ok (.ifCond .ne 8, 3) := by decide +kernel
theorem dX3_closeAll_99 : decode cX3_closeAll 99 = .ok (.bipush 10, 2) := by decide +kernel
theorem dX3_closeAll_101 : decode cX3_closeAll 101 = .ok (.goto 5, 3) := by decide +kernel
theorem dX3_closeAll_104 : decode cX3_closeAll 104 = .ok (.iload 4, 2) := by decide +kernel
theorem dX3_closeAll_106 : decode cX3_closeAll 106 = .ok (.invokevirtual 131, 3) := by decide +kernel
theorem dX3_closeAll_109 : decode cX3_closeAll 109 = .ok (.aload_n 0, 1) := by decide +kernel
theorem dX3_closeAll_110 : decode cX3_closeAll 110 = .ok (.aload 6, 2) := by decide +kernel
theorem dX3_closeAll_112 : decode cX3_closeAll 112 = .ok (.aload 6, 2) := by decide +kernel
theorem dX3_closeAll_114 : decode cX3_closeAll 114 = .ok (.invokevirtual 123, 3) := by decide +kernel
theorem dX3_closeAll_117 : decode cX3_closeAll 117 = .ok (.aload_n 0, 1) := by decide +kernel
theorem dX3_closeAll_118 : decode cX3_closeAll 118 = .ok (.aload 6, 2) := by decide +kernel
theorem dX3_closeAll_120 : decode cX3_closeAll 120 = .ok (.invokevirtual 138, 3) := by decide +kernel
theorem dX3_closeAll_123 : decode cX3_closeAll 123 = .ok (.istore 4, 2) := by decide +kernel
theorem dX3_closeAll_125 : decode cX3_closeAll 125 = .ok (.aload 6, 2) := by decide +kernel
theorem dX3_closeAll_127 : decode cX3_closeAll 127 = .ok (.astore_n 3, 1) := by decide +kernel
theorem dX3_closeAll_128 : decode cX3_closeAll 128 = .ok (.iinc 5 1, 3) := by decide +kernel
theorem dX3_closeAll_131 : decode cX3_closeAll 131 = .ok (.goto (-68), 3) := by decide +kernel
theorem dX3_closeAll_134 : decode cX3_closeAll 134 = .ok (.iload 4, 2) := by decide +kernel
theorem dX3_closeAll_136 : decode cX3_closeAll 136 = .ok (.ireturn, 1) := by decide +kernel
theorem dX3_endClose_0 : decode cX3_endClose 0 = .ok (.aload_n 1, 1) := by decide +kernel
theorem dX3_endClose_1 : decode cX3_endClose 1 = .ok (.getfield 68, 3) := by decide +kernel
theorem dX3_endClose_4 : decode cX3_endClose 4 = .ok (.iconst 4, 1) := by decide +kernel
theorem dX3_endClose_5 : decode cX3_endClose 5 = .ok (.if_icmp .ne 18, 3) := by decide +kernel
theorem dX3_endClose_8 : decode cX3_endClose 8 = .ok (.aload_n 1, 1) := by decide +kernel
theorem dX3_endClose_9 : decode cX3_endClose 9 = .ok (.getfield 117, 3) := by decide +kernel
theorem dX3_endClose_12 : decode cX3_endClose 12 = .ok (.bipush 10, 2) := by decide +kernel
theorem dX3_endClose_14 : decode cX3_endClose 14 = .ok (.if_icmp .ne 9, 3) := by decide +kernel
theorem dX3_endClose_17 : decode cX3_endClose 17 = .ok (.aload_n 1, 1) := by decide +kernel
theorem dX3_endClose_18 : decode cX3_endClose 18 = .ok (.iconst 3, 1) := by decide +kernel
theorem dX3_endClose_19 : decode cX3_endClose 19 = .ok (.iconst 0, 1) := by decide +kernel
theorem dX3_endClose_20 : decode cX3_endClose 20 = .ok (.invokevirtual 134, 3) := by decide +kernel
theorem dX3_endClose_23 : decode cX3_endClose 23 = .ok (.aload_n 1, 1) := by decide +kernel
theorem dX3_endClose_24 : decode cX3_endClose 24 = .ok (.getfield 68, 3) := by decide +kernel
theorem dX3_endClose_27 : decode cX3_endClose 27 = .ok (.iconst 3, 1) := by decide +kernel
theorem dX3_endClose_28 : decode cX3_endClose 28 = .ok (.if_icmp .ne 5, 3) := by decide +kernel
theorem dX3_endClose_31 : decode cX3_endClose 31 = .ok (.iconst 0, 1) := by decide +kernel
theorem dX3_endClose_32 : decode cX3_endClose 32 = .ok (.ireturn, 1) := by decide +kernel
theorem dX3_endClose_33 : decode cX3_endClose 33 = .ok (.aload_n 1, 1) := by decide +kernel
theorem dX3_endClose_34 : decode cX3_endClose 34 = .ok (.getfield 68, 3) := by decide +kernel
theorem dX3_endClose_37 : decode cX3_endClose 37 = .ok (.iconst 4, 1) := by decide +kernel
theorem dX3_endClose_38 : decode cX3_endClose 38 = .ok (.if_icmp .ne 10, 3) := by decide +kernel
theorem dX3_endClose_41 : decode cX3_endClose 41 = .ok (.aload_n 1, 1) := by decide +kernel
theorem dX3_endClose_42 : decode cX3_endClose 42 = .ok (.getfield 117, 3) := by decide +kernel
theorem dX3_endClose_45 : decode cX3_endClose 45 = .ok (.goto 5, 3) := by decide +kernel
theorem dX3_endClose_48 : decode cX3_endClose 48 = .ok (.bipush 8, 2) := by decide +kernel
theorem dX3_endClose_50 : decode cX3_endClose 50 = .ok (.ireturn, 1) := by decide +kernel
theorem dX3_doTurns_0 : decode cX3_doTurns 0 = .ok (.iconst 0, 1) := by decide +kernel
theorem dX3_doTurns_1 : decode cX3_doTurns 1 = .ok (.istore_n 2, 1) := by decide +kernel
theorem dX3_doTurns_2 : decode cX3_doTurns 2 = .ok (.iload_n 2, 1) := by decide +kernel
theorem dX3_doTurns_3 : decode cX3_doTurns 3 = .ok (.iload_n 1, 1) := by decide +kernel
theorem dX3_doTurns_4 : decode cX3_doTurns 4 = .ok (.if_icmp .ge 90, 3) := by decide +kernel
theorem dX3_doTurns_7 : decode cX3_doTurns 7 = .ok (.aload_n 0, 1) := by decide +kernel
theorem dX3_doTurns_8 : decode cX3_doTurns 8 = .ok (.getfield 27, 3) := by decide +kernel
theorem dX3_doTurns_11 : decode cX3_doTurns 11 = .ok (.getfield 75, 3) := by decide +kernel
theorem dX3_doTurns_14 : decode cX3_doTurns 14 = .ok (.ifCond .le 80, 3) := by decide +kernel
theorem dX3_doTurns_17 : decode cX3_doTurns 17 = .ok (.aload_n 0, 1) := by decide +kernel
theorem dX3_doTurns_18 : decode cX3_doTurns 18 = .ok (.aload_n 0, 1) := by decide +kernel
theorem dX3_doTurns_19 : decode cX3_doTurns 19 = .ok (.getfield 27, 3) := by decide +kernel
theorem dX3_doTurns_22 : decode cX3_doTurns 22 = .ok (.iconst 0, 1) := by decide +kernel
theorem dX3_doTurns_23 : decode cX3_doTurns 23 = .ok (.invokevirtual 78, 3) := by decide +kernel
theorem dX3_doTurns_26 : decode cX3_doTurns 26 = .ok (.invokevirtual 55, 3) := by decide +kernel
theorem dX3_doTurns_29 : decode cX3_doTurns 29 = .ok (.astore_n 3, 1) := by decide +kernel
theorem dX3_doTurns_30 : decode cX3_doTurns 30 = .ok (.aload_n 0, 1) := by decide +kernel
theorem dX3_doTurns_31 : decode cX3_doTurns 31 = .ok (.getfield 27, 3) := by decide +kernel
theorem dX3_doTurns_34 : decode cX3_doTurns 34 = .ok (.iconst 0, 1) := by decide +kernel
theorem dX3_doTurns_35 : decode cX3_doTurns 35 = .ok (.invokevirtual 147, 3) := by decide +kernel
theorem dX3_doTurns_38 : decode cX3_doTurns 38 = .ok (.aload_n 0, 1) := by decide +kernel
theorem dX3_doTurns_39 : decode cX3_doTurns 39 = .ok (.dup, 1) := by decide +kernel
theorem dX3_doTurns_40 : decode cX3_doTurns 40 = .ok (.getfield 48, 3) := by decide +kernel
theorem dX3_doTurns_43 : decode cX3_doTurns 43 = .ok (.iconst 1, 1) := by decide +kernel
theorem dX3_doTurns_44 : decode cX3_doTurns 44 = .ok (.iadd, 1) := by decide +kernel
theorem dX3_doTurns_45 : decode cX3_doTurns 45 = .ok (.putfield 48, 3) := by decide +kernel
theorem dX3_doTurns_48 : decode cX3_doTurns 48 = .ok (.aload_n 0, 1) := by decide +kernel
theorem dX3_doTurns_49 : decode cX3_doTurns 49 = .ok (.aload_n 3, 1) := by decide +kernel
theorem dX3_doTurns_50 : decode cX3_doTurns 50 = .ok (.getfield 101, 3) := by decide +kernel
theorem dX3_doTurns_53 : decode cX3_doTurns 53 = .ok (.invokevirtual 111, 3) := by decide +kernel
theorem dX3_doTurns_56 : decode cX3_doTurns 56 = .ok (.aload_n 0, 1) := by decide +kernel
theorem dX3_doTurns_57 : decode cX3_doTurns 57 = .ok (.aload_n 3, 1) := by decide +kernel
theorem dX3_doTurns_58 : decode cX3_doTurns 58 = .ok (.invokevirtual 107, 3) := by decide +kernel
theorem dX3_doTurns_61 : decode cX3_doTurns 61 = .ok (.astore 4, 2) := by decide +kernel
theorem dX3_doTurns_63 : decode cX3_doTurns 63 = .ok (.aload_n 0, 1) := by decide +kernel
theorem dX3_doTurns_64 : decode cX3_doTurns 64 = .ok (.aload 4, 2) := by decide +kernel
theorem dX3_doTurns_66 : decode cX3_doTurns 66 = .ok (.invokevirtual 150, 3) := by decide +kernel
theorem dX3_doTurns_69 : decode cX3_doTurns 69 = .ok (.aload_n 0, 1) := by decide +kernel
theorem dX3_doTurns_70 : decode cX3_doTurns 70 = .ok (.aload_n 3, 1) := by decide +kernel
theorem dX3_doTurns_71 : decode cX3_doTurns 71 = .ok (.aload 4, 2) := by decide +kernel
theorem dX3_doTurns_73 : decode cX3_doTurns 73 = .ok (.invokevirtual 123, 3) := by decide +kernel
theorem dX3_doTurns_76 : decode cX3_doTurns 76 = .ok (.aload_n 3, 1) := by decide +kernel
theorem dX3_doTurns_77 : decode cX3_doTurns 77 = .ok (.invokevirtual 71, 3) := by decide +kernel
theorem dX3_doTurns_80 : decode cX3_doTurns 80 = .ok (.ifCond .eq 8, 3) := by decide +kernel
theorem dX3_doTurns_83 : decode cX3_doTurns 83 = .ok (.aload_n 0, 1) := by decide +kernel
theorem dX3_doTurns_84 : decode cX3_doTurns 84 = .ok (.aload_n 3, 1) := by decide +kernel
theorem dX3_doTurns_85 : decode cX3_doTurns 85 = .ok (.invokevirtual 153, 3) := by decide +kernel
theorem dX3_doTurns_88 : decode cX3_doTurns 88 = .ok (.iinc 2 1, 3) := by decide +kernel
theorem dX3_doTurns_91 : decode cX3_doTurns 91 = .ok (.goto (-89), 3) := by decide +kernel
theorem dX3_doTurns_94 : decode cX3_doTurns 94 = .ok (.iload_n 2, 1) := by decide +kernel
theorem dX3_doTurns_95 : decode cX3_doTurns 95 = .ok (.ireturn, 1) := by decide +kernel
theorem dX3_beginTurn_0 : decode cX3_beginTurn 0 = .ok (.aload_n 1, 1) := by decide +kernel
theorem dX3_beginTurn_1 : decode cX3_beginTurn 1 = .ok (.getfield 68, 3) := by decide +kernel
theorem dX3_beginTurn_4 : decode cX3_beginTurn 4 = .ok (.ifCond .ne 9, 3) := by decide +kernel
theorem dX3_beginTurn_7 : decode cX3_beginTurn 7 = .ok (.aload_n 1, 1) := by decide +kernel
theorem dX3_beginTurn_8 : decode cX3_beginTurn 8 = .ok (.iconst 0, 1) := by decide +kernel
theorem dX3_beginTurn_9 : decode cX3_beginTurn 9 = .ok (.invokevirtual 114, 3) := by decide +kernel
theorem dX3_beginTurn_12 : decode cX3_beginTurn 12 = .ok (.return_, 1) := by decide +kernel
theorem dX3_beginTurn_13 : decode cX3_beginTurn 13 = .ok (.aload_n 0, 1) := by decide +kernel
theorem dX3_beginTurn_14 : decode cX3_beginTurn 14 = .ok (.invokevirtual 156, 3) := by decide +kernel
theorem dX3_beginTurn_17 : decode cX3_beginTurn 17 = .ok (.ifCond .eq 8, 3) := by decide +kernel
theorem dX3_beginTurn_20 : decode cX3_beginTurn 20 = .ok (.bipush 9, 2) := by decide +kernel
theorem dX3_beginTurn_22 : decode cX3_beginTurn 22 = .ok (.goto 8, 3) := by decide +kernel
theorem dX3_beginTurn_25 : decode cX3_beginTurn 25 = .ok (.aload_n 0, 1) := by decide +kernel
theorem dX3_beginTurn_26 : decode cX3_beginTurn 26 = .ok (.aload_n 1, 1) := by decide +kernel
theorem dX3_beginTurn_27 : decode cX3_beginTurn 27 = .ok (.invokevirtual 159, 3) := by decide +kernel
theorem dX3_beginTurn_30 : decode cX3_beginTurn 30 = .ok (.istore_n 2, 1) := by decide +kernel
theorem dX3_beginTurn_31 : decode cX3_beginTurn 31 = .ok (.iload_n 2, 1) := by decide +kernel
theorem dX3_beginTurn_32 : decode cX3_beginTurn 32 = .ok (.ifCond .eq 8, 3) := by decide +kernel
theorem dX3_beginTurn_35 : decode cX3_beginTurn 35 = .ok (.aload_n 1, 1) := by decide +kernel
theorem dX3_beginTurn_36 : decode cX3_beginTurn 36 = .ok (.iload_n 2, 1) := by decide +kernel
theorem dX3_beginTurn_37 : decode cX3_beginTurn 37 = .ok (.invokevirtual 131, 3) := by decide +kernel
theorem dX3_beginTurn_40 : decode cX3_beginTurn 40 = .ok (.return_, 1) := by decide +kernel
theorem dX3_wake_0 : decode cX3_wake 0 = .ok (.aload_n 0, 1) := by decide +kernel
theorem dX3_wake_1 : decode cX3_wake 1 = .ok (.getfield 34, 3) := by decide +kernel
theorem dX3_wake_4 : decode cX3_wake 4 = .ok (.aload_n 1, 1) := by decide +kernel
theorem dX3_wake_5 : decode cX3_wake 5 = .ok (.getfield 65, 3) := by decide +kernel
theorem dX3_wake_8 : decode cX3_wake 8 = .ok (.invokevirtual 162, 3) := by decide +kernel
theorem dX3_wake_11 : decode cX3_wake 11 = .ok (.aload_n 1, 1) := by decide +kernel
theorem dX3_wake_12 : decode cX3_wake 12 = .ok (.getfield 120, 3) := by decide +kernel
theorem dX3_wake_15 : decode cX3_wake 15 = .ok (.invokevirtual 165, 3) := by decide +kernel
theorem dX3_wake_18 : decode cX3_wake 18 = .ok (.bipush 13, 2) := by decide +kernel
theorem dX3_wake_20 : decode cX3_wake 20 = .ok (.if_icmp .ne 17, 3) := by decide +kernel
theorem dX3_wake_23 : decode cX3_wake 23 = .ok (.aload_n 0, 1) := by decide +kernel
theorem dX3_wake_24 : decode cX3_wake 24 = .ok (.aload_n 1, 1) := by decide +kernel
theorem dX3_wake_25 : decode cX3_wake 25 = .ok (.aload_n 0, 1) := by decide +kernel
theorem dX3_wake_26 : decode cX3_wake 26 = .ok (.aload_n 1, 1) := by decide +kernel
theorem dX3_wake_27 : decode cX3_wake 27 = .ok (.getfield 117, 3) := by decide +kernel
theorem dX3_wake_30 : decode cX3_wake 30 = .ok (.invokevirtual 55, 3) := by decide +kernel
theorem dX3_wake_33 : decode cX3_wake 33 = .ok (.invokevirtual 170, 3) := by decide +kernel
theorem dX3_wake_36 : decode cX3_wake 36 = .ok (.ireturn, 1) := by decide +kernel
theorem dX3_wake_37 : decode cX3_wake 37 = .ok (.aload_n 1, 1) := by decide +kernel
theorem dX3_wake_38 : decode cX3_wake 38 = .ok (.iconst 0, 1) := by decide +kernel
theorem dX3_wake_39 : decode cX3_wake 39 = .ok (.putfield 117, 3) := by decide +kernel
theorem dX3_wake_42 : decode cX3_wake 42 = .ok (.aload_n 1, 1) := by decide +kernel
theorem dX3_wake_43 : decode cX3_wake 43 = .ok (.aload_n 1, 1) := by decide +kernel
theorem dX3_wake_44 : decode cX3_wake 44 = .ok (.getfield 120, 3) := by decide +kernel
theorem dX3_wake_47 : decode cX3_wake 47 = .ok (.iconst 1, 1) := by decide +kernel
theorem dX3_wake_48 : decode cX3_wake 48 = .ok (.iadd, 1) := by decide +kernel
theorem dX3_wake_49 : decode cX3_wake 49 = .ok (.invokevirtual 114, 3) := by decide +kernel
theorem dX3_wake_52 : decode cX3_wake 52 = .ok (.iconst 0, 1) := by decide +kernel
theorem dX3_wake_53 : decode cX3_wake 53 = .ok (.ireturn, 1) := by decide +kernel
theorem dX3_takeOutcome_0 : decode cX3_takeOutcome 0 = .ok (.aload_n 2, 1) := by decide +kernel
theorem dX3_takeOutcome_1 : decode cX3_takeOutcome 1 = .ok (.getfield 68, 3) := by decide +kernel
theorem dX3_takeOutcome_4 : decode cX3_takeOutcome 4 = .ok (.iconst 4, 1) := by decide +kernel
theorem dX3_takeOutcome_5 : decode cX3_takeOutcome 5 = .ok (.if_icmp .ne 13, 3) := by decide +kernel
theorem dX3_takeOutcome_8 : decode cX3_takeOutcome 8 = .ok (.aload_n 2, 1) := by decide +kernel
theorem dX3_takeOutcome_9 : decode cX3_takeOutcome 9 = .ok (.getfield 117, 3) := by decide +kernel
theorem dX3_takeOutcome_12 : decode cX3_takeOutcome 12 = .ok (.bipush 9, 2) := by decide +kernel
theorem dX3_takeOutcome_14 : decode cX3_takeOutcome 14 = .ok (.invokestatic 174, 3) := by decide +kernel
theorem dX3_takeOutcome_17 : decode cX3_takeOutcome 17 = .ok (.ireturn, 1) := by decide +kernel
theorem dX3_takeOutcome_18 : decode cX3_takeOutcome 18 = .ok (.aload_n 1, 1) := by decide +kernel
theorem dX3_takeOutcome_19 : decode cX3_takeOutcome 19 = .ok (.aload_n 2, 1) := by decide +kernel
theorem dX3_takeOutcome_20 : decode cX3_takeOutcome 20 = .ok (.getfield 117, 3) := by decide +kernel
theorem dX3_takeOutcome_23 : decode cX3_takeOutcome 23 = .ok (.putfield 117, 3) := by decide +kernel
theorem dX3_takeOutcome_26 : decode cX3_takeOutcome 26 = .ok (.aload_n 1, 1) := by decide +kernel
theorem dX3_takeOutcome_27 : decode cX3_takeOutcome 27 = .ok (.aload_n 1, 1) := by decide +kernel
theorem dX3_takeOutcome_28 : decode cX3_takeOutcome 28 = .ok (.getfield 120, 3) := by decide +kernel
theorem dX3_takeOutcome_31 : decode cX3_takeOutcome 31 = .ok (.iconst 1, 1) := by decide +kernel
theorem dX3_takeOutcome_32 : decode cX3_takeOutcome 32 = .ok (.iadd, 1) := by decide +kernel
theorem dX3_takeOutcome_33 : decode cX3_takeOutcome 33 = .ok (.invokevirtual 114, 3) := by decide +kernel
theorem dX3_takeOutcome_36 : decode cX3_takeOutcome 36 = .ok (.iconst 0, 1) := by decide +kernel
theorem dX3_takeOutcome_37 : decode cX3_takeOutcome 37 = .ok (.ireturn, 1) := by decide +kernel
theorem dX3_tellOthers_0 : decode cX3_tellOthers 0 = .ok (.iconst 0, 1) := by decide +kernel
theorem dX3_tellOthers_1 : decode cX3_tellOthers 1 = .ok (.istore_n 2, 1) := by decide +kernel
theorem dX3_tellOthers_2 : decode cX3_tellOthers 2 = .ok (.aload_n 0, 1) := by decide +kernel
theorem dX3_tellOthers_3 : decode cX3_tellOthers 3 = .ok (.getfield 31, 3) := by decide +kernel
theorem dX3_tellOthers_6 : decode cX3_tellOthers 6 = .ok (.getfield 75, 3) := by decide +kernel
theorem dX3_tellOthers_9 : decode cX3_tellOthers 9 = .ok (.istore_n 3, 1) := by decide +kernel
