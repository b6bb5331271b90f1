theorem dX3_tellOthers_10 : decode cX3_tellOthers 10 = .ok (.iload_n 3, 1) := by decide +kernel
theorem dX3_tellOthers_11 : decode cX3_tellOthers 11 = .ok (.ifCond .le 67, 3) := by decide +kernel
theorem dX3_tellOthers_14 : decode cX3_tellOthers 14 = .ok (.aload_n 0, 1) := by decide +kernel
theorem dX3_tellOthers_15 : decode cX3_tellOthers 15 = .ok (.aload_n 0, 1) := by decide +kernel
theorem dX3_tellOthers_16 : decode cX3_tellOthers 16 = .ok (.getfield 31, 3) := by decide +kernel
theorem dX3_tellOthers_19 : decode cX3_tellOthers 19 = .ok (.iload_n 2, 1) := by decide +kernel
theorem dX3_tellOthers_20 : decode cX3_tellOthers 20 = .ok (.invokevirtual 78, 3) := by decide +kernel
theorem dX3_tellOthers_23 : decode cX3_tellOthers 23 = .ok (.invokevirtual 55, 3) := by decide +kernel
theorem dX3_tellOthers_26 : decode cX3_tellOthers 26 = .ok (.astore 4, 2) := by decide +kernel
theorem dX3_tellOthers_28 : decode cX3_tellOthers 28 = .ok (.aload 4, 2) := by decide +kernel
theorem dX3_tellOthers_30 : decode cX3_tellOthers 30 = .ok (.getfield 82, 3) := by decide +kernel
theorem dX3_tellOthers_33 : decode cX3_tellOthers 33 = .ok (.aload_n 1, 1) := by decide +kernel
theorem dX3_tellOthers_34 : decode cX3_tellOthers 34 = .ok (.getfield 101, 3) := by decide +kernel
theorem dX3_tellOthers_37 : decode cX3_tellOthers 37 = .ok (.if_icmp .ne 32, 3) := by decide +kernel
theorem dX3_tellOthers_40 : decode cX3_tellOthers 40 = .ok (.aload_n 0, 1) := by decide +kernel
theorem dX3_tellOthers_41 : decode cX3_tellOthers 41 = .ok (.getfield 31, 3) := by decide +kernel
theorem dX3_tellOthers_44 : decode cX3_tellOthers 44 = .ok (.iload_n 2, 1) := by decide +kernel
theorem dX3_tellOthers_45 : decode cX3_tellOthers 45 = .ok (.invokevirtual 147, 3) := by decide +kernel
theorem dX3_tellOthers_48 : decode cX3_tellOthers 48 = .ok (.aload 4, 2) := by decide +kernel
theorem dX3_tellOthers_50 : decode cX3_tellOthers 50 = .ok (.iconst (-1), 1) := by decide +kernel
theorem dX3_tellOthers_51 : decode cX3_tellOthers 51 = .ok (.putfield 82, 3) := by decide +kernel
theorem dX3_tellOthers_54 : decode cX3_tellOthers 54 = .ok (.aload_n 0, 1) := by decide +kernel
theorem dX3_tellOthers_55 : decode cX3_tellOthers 55 = .ok (.getfield 27, 3) := by decide +kernel
theorem dX3_tellOthers_58 : decode cX3_tellOthers 58 = .ok (.aload 4, 2) := by decide +kernel
theorem dX3_tellOthers_60 : decode cX3_tellOthers 60 = .ok (.getfield 101, 3) := by decide +kernel
theorem dX3_tellOthers_63 : decode cX3_tellOthers 63 = .ok (.invokevirtual 104, 3) := by decide +kernel
theorem dX3_tellOthers_66 : decode cX3_tellOthers 66 = .ok (.goto 6, 3) := by decide +kernel
theorem dX3_tellOthers_69 : decode cX3_tellOthers 69 = .ok (.iinc 2 1, 3) := by decide +kernel
theorem dX3_tellOthers_72 : decode cX3_tellOthers 72 = .ok (.iinc 3 (-1), 3) := by decide +kernel
theorem dX3_tellOthers_75 : decode cX3_tellOthers 75 = .ok (.goto (-65), 3) := by decide +kernel
theorem dX3_tellOthers_78 : decode cX3_tellOthers 78 = .ok (.iconst 0, 1) := by decide +kernel
theorem dX3_tellOthers_79 : decode cX3_tellOthers 79 = .ok (.istore_n 3, 1) := by decide +kernel
theorem dX3_tellOthers_80 : decode cX3_tellOthers 80 = .ok (.iload_n 3, 1) := by decide +kernel
theorem dX3_tellOthers_81 : decode cX3_tellOthers 81 = .ok (.aload_n 0, 1) := by decide +kernel
theorem dX3_tellOthers_82 : decode cX3_tellOthers 82 = .ok (.getfield 41, 3) := by decide +kernel
theorem dX3_tellOthers_85 : decode cX3_tellOthers 85 = .ok (.if_icmp .ge 47, 3) := by decide +kernel
theorem dX3_tellOthers_88 : decode cX3_tellOthers 88 = .ok (.aload_n 1, 1) := by decide +kernel
theorem dX3_tellOthers_89 : decode cX3_tellOthers 89 = .ok (.getfield 68, 3) := by decide +kernel
theorem dX3_tellOthers_92 : decode cX3_tellOthers 92 = .ok (.iconst 4, 1) := by decide +kernel
theorem dX3_tellOthers_93 : decode cX3_tellOthers 93 = .ok (.if_icmp .ne 39, 3) := by decide +kernel
theorem dX3_tellOthers_96 : decode cX3_tellOthers 96 = .ok (.aload_n 0, 1) := by decide +kernel
theorem dX3_tellOthers_97 : decode cX3_tellOthers 97 = .ok (.iload_n 3, 1) := by decide +kernel
theorem dX3_tellOthers_98 : decode cX3_tellOthers 98 = .ok (.iconst 1, 1) := by decide +kernel
theorem dX3_tellOthers_99 : decode cX3_tellOthers 99 = .ok (.invokevirtual 180, 3) := by decide +kernel
theorem dX3_tellOthers_102 : decode cX3_tellOthers 102 = .ok (.ifCond .eq 24, 3) := by decide +kernel
theorem dX3_tellOthers_105 : decode cX3_tellOthers 105 = .ok (.aload_n 0, 1) := by decide +kernel
theorem dX3_tellOthers_106 : decode cX3_tellOthers 106 = .ok (.iload_n 3, 1) := by decide +kernel
theorem dX3_tellOthers_107 : decode cX3_tellOthers 107 = .ok (.invokevirtual 55, 3) := by decide +kernel
theorem dX3_tellOthers_110 : decode cX3_tellOthers 110 = .ok (.getfield 183, 3) := by decide +kernel
theorem dX3_tellOthers_113 : decode cX3_tellOthers 113 = .ok (.aload_n 1, 1) := by decide +kernel
theorem dX3_tellOthers_114 : decode cX3_tellOthers 114 = .ok (.getfield 101, 3) := by decide +kernel
theorem dX3_tellOthers_117 : decode cX3_tellOthers 117 = .ok (.if_icmp .ne 9, 3) := by decide +kernel
theorem dX3_tellOthers_120 : decode cX3_tellOthers 120 = .ok (.aload_n 0, 1) := by decide +kernel
theorem dX3_tellOthers_121 : decode cX3_tellOthers 121 = .ok (.iload_n 3, 1) := by decide +kernel
theorem dX3_tellOthers_122 : decode cX3_tellOthers 122 = .ok (.invokevirtual 186, 3) := by decide +kernel
theorem dX3_tellOthers_125 : decode cX3_tellOthers 125 = .ok (.pop, 1) := by decide +kernel
theorem dX3_tellOthers_126 : decode cX3_tellOthers 126 = .ok (.iinc 3 1, 3) := by decide +kernel
theorem dX3_tellOthers_129 : decode cX3_tellOthers 129 = .ok (.goto (-49), 3) := by decide +kernel
theorem dX3_tellOthers_132 : decode cX3_tellOthers 132 = .ok (.return_, 1) := by decide +kernel
theorem dX3_askToCancel_0 : decode cX3_askToCancel 0 = .ok (.aload_n 0, 1) := by decide +kernel
theorem dX3_askToCancel_1 : decode cX3_askToCancel 1 = .ok (.iload_n 1, 1) := by decide +kernel
theorem dX3_askToCancel_2 : decode cX3_askToCancel 2 = .ok (.invokevirtual 55, 3) := by decide +kernel
theorem dX3_askToCancel_5 : decode cX3_askToCancel 5 = .ok (.astore_n 2, 1) := by decide +kernel
theorem dX3_askToCancel_6 : decode cX3_askToCancel 6 = .ok (.aload_n 2, 1) := by decide +kernel
theorem dX3_askToCancel_7 : decode cX3_askToCancel 7 = .ok (.invokevirtual 71, 3) := by decide +kernel
theorem dX3_askToCancel_10 : decode cX3_askToCancel 10 = .ok (.ifCond .eq 5, 3) := by decide +kernel
theorem dX3_askToCancel_13 : decode cX3_askToCancel 13 = .ok (.iconst 0, 1) := by decide +kernel
theorem dX3_askToCancel_14 : decode cX3_askToCancel 14 = .ok (.ireturn, 1) := by decide +kernel
theorem dX3_askToCancel_15 : decode cX3_askToCancel 15 = .ok (.aload_n 2, 1) := by decide +kernel
theorem dX3_askToCancel_16 : decode cX3_askToCancel 16 = .ok (.getfield 189, 3) := by decide +kernel
theorem dX3_askToCancel_19 : decode cX3_askToCancel 19 = .ok (.ifCond .ne 7, 3) := by decide +kernel
theorem dX3_askToCancel_22 : decode cX3_askToCancel 22 = .ok (.iconst 1, 1) := by decide +kernel
theorem dX3_askToCancel_23 : decode cX3_askToCancel 23 = .ok (.goto 4, 3) := by decide +kernel
theorem dX3_askToCancel_26 : decode cX3_askToCancel 26 = .ok (.iconst 0, 1) := by decide +kernel
theorem dX3_askToCancel_27 : decode cX3_askToCancel 27 = .ok (.istore_n 3, 1) := by decide +kernel
theorem dX3_askToCancel_28 : decode cX3_askToCancel 28 = .ok (.aload_n 2, 1) := by decide +kernel
theorem dX3_askToCancel_29 : decode cX3_askToCancel 29 = .ok (.iconst 1, 1) := by decide +kernel
theorem dX3_askToCancel_30 : decode cX3_askToCancel 30 = .ok (.putfield 189, 3) := by decide +kernel
theorem dX3_askToCancel_33 : decode cX3_askToCancel 33 = .ok (.aload_n 2, 1) := by decide +kernel
theorem dX3_askToCancel_34 : decode cX3_askToCancel 34 = .ok (.getfield 193, 3) := by decide +kernel
theorem dX3_askToCancel_37 : decode cX3_askToCancel 37 = .ok (.ifCond .ne 52, 3) := by decide +kernel
theorem dX3_askToCancel_40 : decode cX3_askToCancel 40 = .ok (.aload_n 2, 1) := by decide +kernel
theorem dX3_askToCancel_41 : decode cX3_askToCancel 41 = .ok (.getfield 196, 3) := by decide +kernel
theorem dX3_askToCancel_44 : decode cX3_askToCancel 44 = .ok (.iconst (-1), 1) := by decide +kernel
theorem dX3_askToCancel_45 : decode cX3_askToCancel 45 = .ok (.if_icmp .ne 11, 3) := by decide +kernel
theorem dX3_askToCancel_48 : decode cX3_askToCancel 48 = .ok (.aload_n 2, 1) := by decide +kernel
theorem dX3_askToCancel_49 : decode cX3_askToCancel 49 = .ok (.getfield 82, 3) := by decide +kernel
theorem dX3_askToCancel_52 : decode cX3_askToCancel 52 = .ok (.iconst (-1), 1) := by decide +kernel
theorem dX3_askToCancel_53 : decode cX3_askToCancel 53 = .ok (.if_icmp .eq 36, 3) := by decide +kernel
theorem dX3_askToCancel_56 : decode cX3_askToCancel 56 = .ok (.aload_n 0, 1) := by decide +kernel
theorem dX3_askToCancel_57 : decode cX3_askToCancel 57 = .ok (.getfield 31, 3) := by decide +kernel
theorem dX3_askToCancel_60 : decode cX3_askToCancel 60 = .ok (.aload_n 0, 1) := by decide +kernel
theorem dX3_askToCancel_61 : decode cX3_askToCancel 61 = .ok (.getfield 31, 3) := by decide +kernel
theorem dX3_askToCancel_64 : decode cX3_askToCancel 64 = .ok (.iload_n 1, 1) := by decide +kernel
theorem dX3_askToCancel_65 : decode cX3_askToCancel 65 = .ok (.invokevirtual 199, 3) := by decide +kernel
theorem dX3_askToCancel_68 : decode cX3_askToCancel 68 = .ok (.invokevirtual 147, 3) := by decide +kernel
theorem dX3_askToCancel_71 : decode cX3_askToCancel 71 = .ok (.aload_n 2, 1) := by decide +kernel
theorem dX3_askToCancel_72 : decode cX3_askToCancel 72 = .ok (.iconst (-1), 1) := by decide +kernel
theorem dX3_askToCancel_73 : decode cX3_askToCancel 73 = .ok (.putfield 196, 3) := by decide +kernel
theorem dX3_askToCancel_76 : decode cX3_askToCancel 76 = .ok (.aload_n 2, 1) := by decide +kernel
theorem dX3_askToCancel_77 : decode cX3_askToCancel 77 = .ok (.iconst (-1), 1) := by decide +kernel
theorem dX3_askToCancel_78 : decode cX3_askToCancel 78 = .ok (.putfield 82, 3) := by decide +kernel
theorem dX3_askToCancel_81 : decode cX3_askToCancel 81 = .ok (.aload_n 0, 1) := by decide +kernel
theorem dX3_askToCancel_82 : decode cX3_askToCancel 82 = .ok (.getfield 27, 3) := by decide +kernel
theorem dX3_askToCancel_85 : decode cX3_askToCancel 85 = .ok (.iload_n 1, 1) := by decide +kernel
theorem dX3_askToCancel_86 : decode cX3_askToCancel 86 = .ok (.invokevirtual 104, 3) := by decide +kernel
theorem dX3_askToCancel_89 : decode cX3_askToCancel 89 = .ok (.iload_n 3, 1) := by decide +kernel
theorem dX3_askToCancel_90 : decode cX3_askToCancel 90 = .ok (.ireturn, 1) := by decide +kernel
theorem dX3_oneTick_0 : decode cX3_oneTick 0 = .ok (.aload_n 0, 1) := by decide +kernel
theorem dX3_oneTick_1 : decode cX3_oneTick 1 = .ok (.dup, 1) := by decide +kernel
theorem dX3_oneTick_2 : decode cX3_oneTick 2 = .ok (.getfield 45, 3) := by decide +kernel
theorem dX3_oneTick_5 : decode cX3_oneTick 5 = .ok (.iconst 1, 1) := by decide +kernel
theorem dX3_oneTick_6 : decode cX3_oneTick 6 = .ok (.iadd, 1) := by decide +kernel
theorem dX3_oneTick_7 : decode cX3_oneTick 7 = .ok (.putfield 45, 3) := by decide +kernel
theorem dX3_oneTick_10 : decode cX3_oneTick 10 = .ok (.iconst 0, 1) := by decide +kernel
theorem dX3_oneTick_11 : decode cX3_oneTick 11 = .ok (.istore_n 1, 1) := by decide +kernel
theorem dX3_oneTick_12 : decode cX3_oneTick 12 = .ok (.iconst 0, 1) := by decide +kernel
theorem dX3_oneTick_13 : decode cX3_oneTick 13 = .ok (.istore_n 2, 1) := by decide +kernel
theorem dX3_oneTick_14 : decode cX3_oneTick 14 = .ok (.iload_n 2, 1) := by decide +kernel
theorem dX3_oneTick_15 : decode cX3_oneTick 15 = .ok (.aload_n 0, 1) := by decide +kernel
theorem dX3_oneTick_16 : decode cX3_oneTick 16 = .ok (.getfield 41, 3) := by decide +kernel
theorem dX3_oneTick_19 : decode cX3_oneTick 19 = .ok (.if_icmp .ge 50, 3) := by decide +kernel
theorem dX3_oneTick_22 : decode cX3_oneTick 22 = .ok (.aload_n 0, 1) := by decide +kernel
theorem dX3_oneTick_23 : decode cX3_oneTick 23 = .ok (.iload_n 2, 1) := by decide +kernel
theorem dX3_oneTick_24 : decode cX3_oneTick 24 = .ok (.invokevirtual 55, 3) := by decide +kernel
theorem dX3_oneTick_27 : decode cX3_oneTick 27 = .ok (.astore_n 3, 1) := by decide +kernel
theorem dX3_oneTick_28 : decode cX3_oneTick 28 = .ok (.aload_n 3, 1) := by decide +kernel
theorem dX3_oneTick_29 : decode cX3_oneTick 29 = .ok (.getfield 62, 3) := by decide +kernel
theorem dX3_oneTick_32 : decode cX3_oneTick 32 = .ok (.iconst 1, 1) := by decide +kernel
theorem dX3_oneTick_33 : decode cX3_oneTick 33 = .ok (.if_icmp .ne 30, 3) := by decide +kernel
theorem dX3_oneTick_36 : decode cX3_oneTick 36 = .ok (.aload_n 3, 1) := by decide +kernel
theorem dX3_oneTick_37 : decode cX3_oneTick 37 = .ok (.getfield 196, 3) := by decide +kernel
theorem dX3_oneTick_40 : decode cX3_oneTick 40 = .ok (.aload_n 0, 1) := by decide +kernel
theorem dX3_oneTick_41 : decode cX3_oneTick 41 = .ok (.getfield 45, 3) := by decide +kernel
theorem dX3_oneTick_44 : decode cX3_oneTick 44 = .ok (.if_icmp .ne 19, 3) := by decide +kernel
theorem dX3_oneTick_47 : decode cX3_oneTick 47 = .ok (.aload_n 3, 1) := by decide +kernel
theorem dX3_oneTick_48 : decode cX3_oneTick 48 = .ok (.iconst (-1), 1) := by decide +kernel
theorem dX3_oneTick_49 : decode cX3_oneTick 49 = .ok (.putfield 196, 3) := by decide +kernel
theorem dX3_oneTick_52 : decode cX3_oneTick 52 = .ok (.aload_n 0, 1) := by decide +kernel
theorem dX3_oneTick_53 : decode cX3_oneTick 53 = .ok (.getfield 27, 3) := by decide +kernel
theorem dX3_oneTick_56 : decode cX3_oneTick 56 = .ok (.iload_n 2, 1) := by decide +kernel
theorem dX3_oneTick_57 : decode cX3_oneTick 57 = .ok (.invokevirtual 104, 3) := by decide +kernel
theorem dX3_oneTick_60 : decode cX3_oneTick 60 = .ok (.iinc 1 1, 3) := by decide +kernel
theorem dX3_oneTick_63 : decode cX3_oneTick 63 = .ok (.iinc 2 1, 3) := by decide +kernel
theorem dX3_oneTick_66 : decode cX3_oneTick 66 = .ok (.goto (-52), 3) := by decide +kernel
theorem dX3_oneTick_69 : decode cX3_oneTick 69 = .ok (.iload_n 1, 1) := by decide +kernel
theorem dX3_oneTick_70 : decode cX3_oneTick 70 = .ok (.ireturn, 1) := by decide +kernel
theorem dX3_beginCall_0 : decode cX3_beginCall 0 = .ok (.aload_n 0, 1) := by decide +kernel
theorem dX3_beginCall_1 : decode cX3_beginCall 1 = .ok (.iload_n 1, 1) := by decide +kernel
theorem dX3_beginCall_2 : decode cX3_beginCall 2 = .ok (.putfield 202, 3) := by decide +kernel
theorem dX3_beginCall_5 : decode cX3_beginCall 5 = .ok (.aload_n 0, 1) := by decide +kernel
theorem dX3_beginCall_6 : decode cX3_beginCall 6 = .ok (.iconst 0, 1) := by decide +kernel
theorem dX3_beginCall_7 : decode cX3_beginCall 7 = .ok (.putfield 205, 3) := by decide +kernel
theorem dX3_beginCall_10 : decode cX3_beginCall 10 = .ok (.aload_n 0, 1) := by decide +kernel
theorem dX3_beginCall_11 : decode cX3_beginCall 11 = .ok (.iconst 0, 1) := by decide +kernel
theorem dX3_beginCall_12 : decode cX3_beginCall 12 = .ok (.putfield 208, 3) := by decide +kernel
theorem dX3_beginCall_15 : decode cX3_beginCall 15 = .ok (.return_, 1) := by decide +kernel
theorem dX3_inmostOf_0 : decode cX3_inmostOf 0 = .ok (.aload_n 1, 1) := by decide +kernel
theorem dX3_inmostOf_1 : decode cX3_inmostOf 1 = .ok (.astore_n 2, 1) := by decide +kernel
theorem dX3_inmostOf_2 : decode cX3_inmostOf 2 = .ok (.iconst 0, 1) := by decide +kernel
theorem dX3_inmostOf_3 : decode cX3_inmostOf 3 = .ok (.istore_n 3, 1) := by decide +kernel
theorem dX3_inmostOf_4 : decode cX3_inmostOf 4 = .ok (.iload_n 3, 1) := by decide +kernel
theorem dX3_inmostOf_5 : decode cX3_inmostOf 5 = .ok (.bipush 24, 2) := by decide +kernel
theorem dX3_inmostOf_7 : decode cX3_inmostOf 7 = .ok (.if_icmp .ge 29, 3) := by decide +kernel
theorem dX3_inmostOf_10 : decode cX3_inmostOf 10 = .ok (.aload_n 0, 1) := by decide +kernel
theorem dX3_inmostOf_11 : decode cX3_inmostOf 11 = .ok (.aload_n 2, 1) := by decide +kernel
theorem dX3_inmostOf_12 : decode cX3_inmostOf 12 = .ok (.getfield 211, 3) := by decide +kernel
theorem dX3_inmostOf_15 : decode cX3_inmostOf 15 = .ok (.invokevirtual 214, 3) := by decide +kernel
theorem dX3_inmostOf_18 : decode cX3_inmostOf 18 = .ok (.ifCond .eq 18, 3) := by decide +kernel
theorem dX3_inmostOf_21 : decode cX3_inmostOf 21 = .ok (.aload_n 0, 1) := by decide +kernel
theorem dX3_inmostOf_22 : decode cX3_inmostOf 22 = .ok (.aload_n 2, 1) := by decide +kernel
theorem dX3_inmostOf_23 : decode cX3_inmostOf 23 = .ok (.getfield 211, 3) := by decide +kernel
theorem dX3_inmostOf_26 : decode cX3_inmostOf 26 = .ok (.invokevirtual 55, 3) := by decide +kernel
theorem dX3_inmostOf_29 : decode cX3_inmostOf 29 = .ok (.astore_n 2, 1) := by decide +kernel
theorem dX3_inmostOf_30 : decode cX3_inmostOf 30 = .ok (.iinc 3 1, 3) := by decide +kernel
theorem dX3_inmostOf_33 : decode cX3_inmostOf 33 = .ok (.goto (-29), 3) := by decide +kernel
theorem dX3_inmostOf_36 : decode cX3_inmostOf 36 = .ok (.aload_n 2, 1) := by decide +kernel
theorem dX3_inmostOf_37 : decode cX3_inmostOf 37 = .ok (.areturn, 1) := by decide +kernel
theorem dX3_goOn_0 : decode cX3_goOn 0 = .ok (.aload_n 0, 1) := by decide +kernel
theorem dX3_goOn_1 : decode cX3_goOn 1 = .ok (.aload_n 2, 1) := by decide +kernel
theorem dX3_goOn_2 : decode cX3_goOn 2 = .ok (.putfield 38, 3) := by decide +kernel
theorem dX3_goOn_5 : decode cX3_goOn 5 = .ok (.aload_n 0, 1) := by decide +kernel
theorem dX3_goOn_6 : decode cX3_goOn 6 = .ok (.iconst 0, 1) := by decide +kernel
theorem dX3_goOn_7 : decode cX3_goOn 7 = .ok (.putfield 217, 3) := by decide +kernel
theorem dX3_goOn_10 : decode cX3_goOn 10 = .ok (.iconst 0, 1) := by decide +kernel
theorem dX3_goOn_11 : decode cX3_goOn 11 = .ok (.istore_n 3, 1) := by decide +kernel
theorem dX3_goOn_12 : decode cX3_goOn 12 = .ok (.iload_n 3, 1) := by decide +kernel
theorem dX3_goOn_13 : decode cX3_goOn 13 = .ok (.ldc 220, 2) := by decide +kernel
theorem dX3_goOn_15 : decode cX3_goOn 15 = .ok (.if_icmp .ge 89, 3) := by decide +kernel
theorem dX3_goOn_18 : decode cX3_goOn 18 = .ok (.aload_n 0, 1) := by decide +kernel
theorem dX3_goOn_19 : decode cX3_goOn 19 = .ok (.getfield 217, 3) := by decide +kernel
theorem dX3_goOn_22 : decode cX3_goOn 22 = .ok (.ifCond .ne 82, 3) := by decide +kernel
theorem dX3_goOn_25 : decode cX3_goOn 25 = .ok (.aload_n 1, 1) := by decide +kernel
theorem dX3_goOn_26 : decode cX3_goOn 26 = .ok (.invokevirtual 71, 3) := by decide +kernel
theorem dX3_goOn_29 : decode cX3_goOn 29 = .ok (.ifCond .ne 75, 3) := by decide +kernel
theorem dX3_goOn_32 : decode cX3_goOn 32 = .ok (.aload_n 0, 1) := by decide +kernel
theorem dX3_goOn_33 : decode cX3_goOn 33 = .ok (.getfield 38, 3) := by decide +kernel
theorem dX3_goOn_36 : decode cX3_goOn 36 = .ok (.astore 4, 2) := by decide +kernel
theorem dX3_goOn_38 : decode cX3_goOn 38 = .ok (.aload 4, 2) := by decide +kernel
theorem dX3_goOn_40 : decode cX3_goOn 40 = .ok (.invokevirtual 71, 3) := by decide +kernel
theorem dX3_goOn_43 : decode cX3_goOn 43 = .ok (.ifCond .eq 10, 3) := by decide +kernel
theorem dX3_goOn_46 : decode cX3_goOn 46 = .ok (.aload_n 0, 1) := by decide +kernel
theorem dX3_goOn_47 : decode cX3_goOn 47 = .ok (.invokevirtual 221, 3) := by decide +kernel
theorem dX3_goOn_50 : decode cX3_goOn 50 = .ok (.goto 48, 3) := by decide +kernel
theorem dX3_goOn_53 : decode cX3_goOn 53 = .ok (.aload_n 0, 1) := by decide +kernel
theorem dX3_goOn_54 : decode cX3_goOn 54 = .ok (.aload 4, 2) := by decide +kernel
theorem dX3_goOn_56 : decode cX3_goOn 56 = .ok (.invokevirtual 224, 3) := by decide +kernel
theorem dX3_goOn_59 : decode cX3_goOn 59 = .ok (.istore 5, 2) := by decide +kernel
theorem dX3_goOn_61 : decode cX3_goOn 61 = .ok (.iload 5, 2) := by decide +kernel
theorem dX3_goOn_63 : decode cX3_goOn 63 = .ok (.ifCond .ne 23, 3) := by decide +kernel
theorem dX3_goOn_66 : decode cX3_goOn 66 = .ok (.aload_n 0, 1) := by decide +kernel
theorem dX3_goOn_67 : decode cX3_goOn 67 = .ok (.aload 4, 2) := by decide +kernel
theorem dX3_goOn_69 : decode cX3_goOn 69 = .ok (.aload_n 0, 1) := by decide +kernel
theorem dX3_goOn_70 : decode cX3_goOn 70 = .ok (.getfield 34, 3) := by decide +kernel
theorem dX3_goOn_73 : decode cX3_goOn 73 = .ok (.aload 4, 2) := by decide +kernel
theorem dX3_goOn_75 : decode cX3_goOn 75 = .ok (.getfield 65, 3) := by decide +kernel
theorem dX3_goOn_78 : decode cX3_goOn 78 = .ok (.invokevirtual 162, 3) := by decide +kernel
theorem dX3_goOn_81 : decode cX3_goOn 81 = .ok (.invokevirtual 227, 3) := by decide +kernel
theorem dX3_goOn_84 : decode cX3_goOn 84 = .ok (.istore 5, 2) := by decide +kernel
theorem dX3_goOn_86 : decode cX3_goOn 86 = .ok (.iload 5, 2) := by decide +kernel
theorem dX3_goOn_88 : decode cX3_goOn 88 = .ok (.ifCond .eq 10, 3) := by decide +kernel
theorem dX3_goOn_91 : decode cX3_goOn 91 = .ok (.aload 4, 2) := by decide +kernel
theorem dX3_goOn_93 : decode cX3_goOn 93 = .ok (.iload 5, 2) := by decide +kernel
theorem dX3_goOn_95 : decode cX3_goOn 95 = .ok (.invokevirtual 131, 3) := by decide +kernel
theorem dX3_goOn_98 : decode cX3_goOn 98 = .ok (.iinc 3 1, 3) := by decide +kernel
theorem dX3_goOn_101 : decode cX3_goOn 101 = .ok (.goto (-89), 3) := by decide +kernel
theorem dX3_goOn_104 : decode cX3_goOn 104 = .ok (.return_, 1) := by decide +kernel
theorem dX3_wayInstead_0 : decode cX3_wayInstead 0 = .ok (.aload_n 0, 1) := by decide +kernel
theorem dX3_wayInstead_1 : decode cX3_wayInstead 1 = .ok (.getfield 34, 3) := by decide +kernel
theorem dX3_wayInstead_4 : decode cX3_wayInstead 4 = .ok (.aload_n 1, 1) := by decide +kernel
theorem dX3_wayInstead_5 : decode cX3_wayInstead 5 = .ok (.getfield 65, 3) := by decide +kernel
theorem dX3_wayInstead_8 : decode cX3_wayInstead 8 = .ok (.invokevirtual 162, 3) := by decide +kernel
theorem dX3_wayInstead_11 : decode cX3_wayInstead 11 = .ok (.aload_n 1, 1) := by decide +kernel
theorem dX3_wayInstead_12 : decode cX3_wayInstead 12 = .ok (.getfield 120, 3) := by decide +kernel
theorem dX3_wayInstead_15 : decode cX3_wayInstead 15 = .ok (.invokevirtual 231, 3) := by decide +kernel
theorem dX3_wayInstead_18 : decode cX3_wayInstead 18 = .ok (.ifCond .ne 8, 3) := by decide +kernel
theorem dX3_wayInstead_21 : decode cX3_wayInstead 21 = .ok (.aload_n 1, 1) := by decide +kernel
theorem dX3_wayInstead_22 : decode cX3_wayInstead 22 = .ok (.invokevirtual 234, 3) := by decide +kernel
theorem dX3_wayInstead_25 : decode cX3_wayInstead 25 = .ok (.ireturn, 1) := by decide +kernel
theorem dX3_wayInstead_26 : decode cX3_wayInstead 26 = .ok (.aload_n 0, 1) := by decide +kernel
theorem dX3_wayInstead_27 : decode cX3_wayInstead 27 = .ok (.getfield 205, 3) := by decide +kernel
theorem dX3_wayInstead_30 : decode cX3_wayInstead 30 = .ok (.sipush 200, 3) := by decide +kernel
theorem dX3_wayInstead_33 : decode cX3_wayInstead 33 = .ok (.if_icmp .lt 18, 3) := by decide +kernel
theorem dX3_wayInstead_36 : decode cX3_wayInstead 36 = .ok (.aload_n 0, 1) := by decide +kernel
theorem dX3_wayInstead_37 : decode cX3_wayInstead 37 = .ok (.getfield 208, 3) := by decide +kernel
theorem dX3_wayInstead_40 : decode cX3_wayInstead 40 = .ok (.ifCond .ne 11, 3) := by decide +kernel
theorem dX3_wayInstead_43 : decode cX3_wayInstead 43 = .ok (.aload_n 0, 1) := by decide +kernel
theorem dX3_wayInstead_44 : decode cX3_wayInstead 44 = .ok (.iconst 1, 1) := by decide +kernel
theorem dX3_wayInstead_45 : decode cX3_wayInstead 45 = .ok (.putfield 208, 3) := by decide +kernel
theorem dX3_wayInstead_48 : decode cX3_wayInstead 48 = .ok (.bipush 11, 2) := by decide +kernel
theorem dX3_wayInstead_50 : decode cX3_wayInstead 50 = .ok (.ireturn, 1) := by decide +kernel
theorem dX3_wayInstead_51 : decode cX3_wayInstead 51 = .ok (.aload_n 0, 1) := by decide +kernel
theorem dX3_wayInstead_52 : decode cX3_wayInstead 52 = .ok (.getfield 205, 3) := by decide +kernel
theorem dX3_wayInstead_55 : decode cX3_wayInstead 55 = .ok (.sipush 300, 3) := by decide +kernel
theorem dX3_wayInstead_58 : decode cX3_wayInstead 58 = .ok (.if_icmp .lt 14, 3) := by decide +kernel
theorem dX3_wayInstead_61 : decode cX3_wayInstead 61 = .ok (.aload_n 1, 1) := by decide +kernel
theorem dX3_wayInstead_62 : decode cX3_wayInstead 62 = .ok (.getfield 238, 3) := by decide +kernel
theorem dX3_wayInstead_65 : decode cX3_wayInstead 65 = .ok (.iconst 0, 1) := by decide +kernel
theorem dX3_wayInstead_66 : decode cX3_wayInstead 66 = .ok (.putfield 242, 3) := by decide +kernel
theorem dX3_wayInstead_69 : decode cX3_wayInstead 69 = .ok (.bipush 11, 2) := by decide +kernel
theorem dX3_wayInstead_71 : decode cX3_wayInstead 71 = .ok (.ireturn, 1) := by decide +kernel
theorem dX3_wayInstead_72 : decode cX3_wayInstead 72 = .ok (.aload_n 0, 1) := by decide +kernel
theorem dX3_wayInstead_73 : decode cX3_wayInstead 73 = .ok (.dup, 1) := by decide +kernel
theorem dX3_wayInstead_74 : decode cX3_wayInstead 74 = .ok (.getfield 205, 3) := by decide +kernel
theorem dX3_wayInstead_77 : decode cX3_wayInstead 77 = .ok (.iconst 1, 1) := by decide +kernel
theorem dX3_wayInstead_78 : decode cX3_wayInstead 78 = .ok (.iadd, 1) := by decide +kernel
theorem dX3_wayInstead_79 : decode cX3_wayInstead 79 = .ok (.putfield 205, 3) := by decide +kernel
theorem dX3_wayInstead_82 : decode cX3_wayInstead 82 = .ok (.aload_n 1, 1) := by decide +kernel
theorem dX3_wayInstead_83 : decode cX3_wayInstead 83 = .ok (.dup, 1) := by decide +kernel
theorem dX3_wayInstead_84 : decode cX3_wayInstead 84 = .ok (.getfield 85, 3) := by decide +kernel
theorem dX3_wayInstead_87 : decode cX3_wayInstead 87 = .ok (.iconst 1, 1) := by decide +kernel
theorem dX3_wayInstead_88 : decode cX3_wayInstead 88 = .ok (.iadd, 1) := by decide +kernel
theorem dX3_wayInstead_89 : decode cX3_wayInstead 89 = .ok (.putfield 85, 3) := by decide +kernel
theorem dX3_wayInstead_92 : decode cX3_wayInstead 92 = .ok (.iconst 0, 1) := by decide +kernel
theorem dX3_wayInstead_93 : decode cX3_wayInstead 93 = .ok (.ireturn, 1) := by decide +kernel
theorem dX3_backToOuter_0 : decode cX3_backToOuter 0 = .ok (.aload_n 0, 1) := by decide +kernel
theorem dX3_backToOuter_1 : decode cX3_backToOuter 1 = .ok (.getfield 38, 3) := by decide +kernel
theorem dX3_backToOuter_4 : decode cX3_backToOuter 4 = .ok (.astore_n 1, 1) := by decide +kernel
theorem dX3_backToOuter_5 : decode cX3_backToOuter 5 = .ok (.aload_n 0, 1) := by decide +kernel
theorem dX3_backToOuter_6 : decode cX3_backToOuter 6 = .ok (.aload_n 1, 1) := by decide +kernel
theorem dX3_backToOuter_7 : decode cX3_backToOuter 7 = .ok (.getfield 141, 3) := by decide +kernel
theorem dX3_backToOuter_10 : decode cX3_backToOuter 10 = .ok (.invokevirtual 55, 3) := by decide +kernel
theorem dX3_backToOuter_13 : decode cX3_backToOuter 13 = .ok (.astore_n 2, 1) := by decide +kernel
theorem dX3_backToOuter_14 : decode cX3_backToOuter 14 = .ok (.aload_n 0, 1) := by decide +kernel
theorem dX3_backToOuter_15 : decode cX3_backToOuter 15 = .ok (.aload_n 2, 1) := by decide +kernel
theorem dX3_backToOuter_16 : decode cX3_backToOuter 16 = .ok (.aload_n 1, 1) := by decide +kernel
theorem dX3_backToOuter_17 : decode cX3_backToOuter 17 = .ok (.invokevirtual 144, 3) := by decide +kernel
theorem dX3_backToOuter_20 : decode cX3_backToOuter 20 = .ok (.aload_n 1, 1) := by decide +kernel
theorem dX3_backToOuter_21 : decode cX3_backToOuter 21 = .ok (.getfield 68, 3) := by decide +kernel
theorem dX3_backToOuter_24 : decode cX3_backToOuter 24 = .ok (.iconst 3, 1) := by decide +kernel
theorem dX3_backToOuter_25 : decode cX3_backToOuter 25 = .ok (.if_icmp .ne 24, 3) := by decide +kernel
theorem dX3_backToOuter_28 : decode cX3_backToOuter 28 = .ok (.aload_n 2, 1) := by decide +kernel
theorem dX3_backToOuter_29 : decode cX3_backToOuter 29 = .ok (.aload_n 1, 1) := by decide +kernel
theorem dX3_backToOuter_30 : decode cX3_backToOuter 30 = .ok (.getfield 117, 3) := by decide +kernel
theorem dX3_backToOuter_33 : decode cX3_backToOuter 33 = .ok (.putfield 117, 3) := by decide +kernel
theorem dX3_backToOuter_36 : decode cX3_backToOuter 36 = .ok (.aload_n 2, 1) := by decide +kernel
theorem dX3_backToOuter_37 : decode cX3_backToOuter 37 = .ok (.aload_n 2, 1) := by decide +kernel
theorem dX3_backToOuter_38 : decode cX3_backToOuter 38 = .ok (.getfield 120, 3) := by decide +kernel
theorem dX3_backToOuter_41 : decode cX3_backToOuter 41 = .ok (.iconst 1, 1) := by decide +kernel
theorem dX3_backToOuter_42 : decode cX3_backToOuter 42 = .ok (.iadd, 1) := by decide +kernel
theorem dX3_backToOuter_43 : decode cX3_backToOuter 43 = .ok (.invokevirtual 114, 3) := by decide +kernel
theorem dX3_backToOuter_46 : decode cX3_backToOuter 46 = .ok (.goto 11, 3) := by decide +kernel
theorem dX3_backToOuter_49 : decode cX3_backToOuter 49 = .ok (.aload_n 2, 1) := by decide +kernel
theorem dX3_backToOuter_50 : decode cX3_backToOuter 50 = .ok (.aload_n 1, 1) := by decide +kernel
theorem dX3_backToOuter_51 : decode cX3_backToOuter 51 = .ok (.getfield 117, 3) := by decide +kernel
theorem dX3_backToOuter_54 : decode cX3_backToOuter 54 = .ok (.invokevirtual 131, 3) := by decide +kernel
theorem dX3_backToOuter_57 : decode cX3_backToOuter 57 = .ok (.aload_n 0, 1) := by decide +kernel
theorem dX3_backToOuter_58 : decode cX3_backToOuter 58 = .ok (.aload_n 2, 1) := by decide +kernel
theorem dX3_backToOuter_59 : decode cX3_backToOuter 59 = .ok (.putfield 38, 3) := by decide +kernel
theorem dX3_backToOuter_62 : decode cX3_backToOuter 62 = .ok (.return_, 1) := by decide +kernel
theorem dX3_part_0 : decode cX3_part 0 = .ok (.aload_n 1, 1) := by decide +kernel
theorem dX3_part_1 : decode cX3_part 1 = .ok (.iconst (-1), 1) := by decide +kernel
theorem dX3_part_2 : decode cX3_part 2 = .ok (.putfield 211, 3) := by decide +kernel
theorem dX3_part_5 : decode cX3_part 5 = .ok (.aload_n 2, 1) := by decide +kernel
theorem dX3_part_6 : decode cX3_part 6 = .ok (.iconst (-1), 1) := by decide +kernel
theorem dX3_part_7 : decode cX3_part 7 = .ok (.putfield 141, 3) := by decide +kernel
theorem dX3_part_10 : decode cX3_part 10 = .ok (.return_, 1) := by decide +kernel
theorem dX3_doLine_0 : decode cX3_doLine 0 = .ok (.aload_n 2, 1) := by decide +kernel
theorem dX3_doLine_1 : decode cX3_doLine 1 = .ok (.aload_n 1, 1) := by decide +kernel
theorem dX3_doLine_2 : decode cX3_doLine 2 = .ok (.getfield 120, 3) := by decide +kernel
theorem dX3_doLine_5 : decode cX3_doLine 5 = .ok (.invokevirtual 165, 3) := by decide +kernel
theorem dX3_doLine_8 : decode cX3_doLine 8 = .ok (.istore_n 3, 1) := by decide +kernel
theorem dX3_doLine_9 : decode cX3_doLine 9 = .ok (.aload_n 2, 1) := by decide +kernel
theorem dX3_doLine_10 : decode cX3_doLine 10 = .ok (.aload_n 1, 1) := by decide +kernel
theorem dX3_doLine_11 : decode cX3_doLine 11 = .ok (.getfield 120, 3) := by decide +kernel
theorem dX3_doLine_14 : decode cX3_doLine 14 = .ok (.invokevirtual 245, 3) := by decide +kernel
theorem dX3_doLine_17 : decode cX3_doLine 17 = .ok (.istore 4, 2) := by decide +kernel
theorem dX3_doLine_19 : decode cX3_doLine 19 = .ok (.iload_n 3, 1) := by decide +kernel
theorem dX3_doLine_20 : decode cX3_doLine 20 = .ok (.tableswitch 112 3 15 #[68, 112, 112, 112, 112, 112, 112, 74, 112, 82, 90, 96, 104], 68) := by decide +kernel
theorem dX3_doLine_88 : decode cX3_doLine 88 = .ok (.aload_n 0, 1) := by decide +kernel
theorem dX3_doLine_89 : decode cX3_doLine 89 = .ok (.aload_n 1, 1) := by decide +kernel
theorem dX3_doLine_90 : decode cX3_doLine 90 = .ok (.invokevirtual 248, 3) := by decide +kernel
theorem dX3_doLine_93 : decode cX3_doLine 93 = .ok (.ireturn, 1) := by decide +kernel
theorem dX3_doLine_94 : decode cX3_doLine 94 = .ok (.aload_n 0, 1) := by decide +kernel
theorem dX3_doLine_95 : decode cX3_doLine 95 = .ok (.aload_n 1, 1) := by decide +kernel
theorem dX3_doLine_96 : decode cX3_doLine 96 = .ok (.iload 4, 2) := by decide +kernel
theorem dX3_doLine_98 : decode cX3_doLine 98 = .ok (.invokevirtual 251, 3) := by decide +kernel
theorem dX3_doLine_101 : decode cX3_doLine 101 = .ok (.ireturn, 1) := by decide +kernel
theorem dX3_doLine_102 : decode cX3_doLine 102 = .ok (.aload_n 0, 1) := by decide +kernel
theorem dX3_doLine_103 : decode cX3_doLine 103 = .ok (.aload_n 1, 1) := by decide +kernel
theorem dX3_doLine_104 : decode cX3_doLine 104 = .ok (.iload 4, 2) := by decide +kernel
theorem dX3_doLine_106 : decode cX3_doLine 106 = .ok (.invokevirtual 255, 3) := by decide +kernel
theorem dX3_doLine_109 : decode cX3_doLine 109 = .ok (.ireturn, 1) := by decide +kernel
theorem dX3_doLine_110 : decode cX3_doLine 110 = .ok (.aload_n 0, 1) := by decide +kernel
theorem dX3_doLine_111 : decode cX3_doLine 111 = .ok (.aload_n 1, 1) := by decide +kernel
theorem dX3_doLine_112 : decode cX3_doLine 112 = .ok (.invokevirtual 258, 3) := by decide +kernel
theorem dX3_doLine_115 : decode cX3_doLine 115 = .ok (.ireturn, 1) := by decide +kernel
theorem dX3_doLine_116 : decode cX3_doLine 116 = .ok (.aload_n 0, 1) := by decide +kernel
theorem dX3_doLine_117 : decode cX3_doLine 117 = .ok (.aload_n 1, 1) := by decide +kernel
theorem dX3_doLine_118 : decode cX3_doLine 118 = .ok (.iload 4, 2) := by decide +kernel
theorem dX3_doLine_120 : decode cX3_doLine 120 = .ok (.invokevirtual 261, 3) := by decide +kernel
theorem dX3_doLine_123 : decode cX3_doLine 123 = .ok (.ireturn, 1) := by decide +kernel
theorem dX3_doLine_124 : decode cX3_doLine 124 = .ok (.aload_n 0, 1) := by decide +kernel
theorem dX3_doLine_125 : decode cX3_doLine 125 = .ok (.aload_n 1, 1) := by decide +kernel
theorem dX3_doLine_126 : decode cX3_doLine 126 = .ok (.iload 4, 2) := by decide +kernel
theorem dX3_doLine_128 : decode cX3_doLine 128 = .ok (.invokevirtual 264, 3) := by decide +kernel
theorem dX3_doLine_131 : decode cX3_doLine 131 = .ok (.ireturn, 1) := by decide +kernel
theorem dX3_doLine_132 : decode cX3_doLine 132 = .ok (.aload_n 1, 1) := by decide +kernel
theorem dX3_doLine_133 : decode cX3_doLine 133 = .ok (.iload_n 3, 1) := by decide +kernel
theorem dX3_doLine_134 : decode cX3_doLine 134 = .ok (.iload 4, 2) := by decide +kernel
theorem dX3_doLine_136 : decode cX3_doLine 136 = .ok (.aload_n 2, 1) := by decide +kernel
theorem dX3_doLine_137 : decode cX3_doLine 137 = .ok (.aload_n 1, 1) := by decide +kernel
theorem dX3_doLine_138 : decode cX3_doLine 138 = .ok (.getfield 120, 3) := by decide +kernel
theorem dX3_doLine_141 : decode cX3_doLine 141 = .ok (.invokevirtual 267, 3) := by decide +kernel
theorem dX3_doLine_144 : decode cX3_doLine 144 = .ok (.invokevirtual 270, 3) := by decide +kernel
theorem dX3_doLine_147 : decode cX3_doLine 147 = .ok (.ireturn, 1) := by decide +kernel
theorem dX3_doYield_0 : decode cX3_doYield 0 = .ok (.aload_n 0, 1) := by decide +kernel
theorem dX3_doYield_1 : decode cX3_doYield 1 = .ok (.getfield 202, 3) := by decide +kernel
theorem dX3_doYield_4 : decode cX3_doYield 4 = .ok (.iconst (-1), 1) := by decide +kernel
theorem dX3_doYield_5 : decode cX3_doYield 5 = .ok (.if_icmp .eq 24, 3) := by decide +kernel
theorem dX3_doYield_8 : decode cX3_doYield 8 = .ok (.aload_n 0, 1) := by decide +kernel
theorem dX3_doYield_9 : decode cX3_doYield 9 = .ok (.invokevirtual 156, 3) := by decide +kernel
theorem dX3_doYield_12 : decode cX3_doYield 12 = .ok (.ifCond .eq 6, 3) := by decide +kernel
theorem dX3_doYield_15 : decode cX3_doYield 15 = .ok (.bipush 9, 2) := by decide +kernel
theorem dX3_doYield_17 : decode cX3_doYield 17 = .ok (.ireturn, 1) := by decide +kernel
theorem dX3_doYield_18 : decode cX3_doYield 18 = .ok (.aload_n 0, 1) := by decide +kernel
theorem dX3_doYield_19 : decode cX3_doYield 19 = .ok (.getfield 27, 3) := by decide +kernel
theorem dX3_doYield_22 : decode cX3_doYield 22 = .ok (.aload_n 0, 1) := by decide +kernel
theorem dX3_doYield_23 : decode cX3_doYield 23 = .ok (.getfield 202, 3) := by decide +kernel
theorem dX3_doYield_26 : decode cX3_doYield 26 = .ok (.invokevirtual 104, 3) := by decide +kernel
theorem dX3_doYield_29 : decode cX3_doYield 29 = .ok (.aload_n 0, 1) := by decide +kernel
theorem dX3_doYield_30 : decode cX3_doYield 30 = .ok (.aload_n 1, 1) := by decide +kernel
theorem dX3_doYield_31 : decode cX3_doYield 31 = .ok (.invokevirtual 274, 3) := by decide +kernel
theorem dX3_doYield_34 : decode cX3_doYield 34 = .ok (.iconst 0, 1) := by decide +kernel
theorem dX3_doYield_35 : decode cX3_doYield 35 = .ok (.ireturn, 1) := by decide +kernel
theorem dX3_doFrom_0 : decode cX3_doFrom 0 = .ok (.aload_n 0, 1) := by decide +kernel
theorem dX3_doFrom_1 : decode cX3_doFrom 1 = .ok (.iload_n 2, 1) := by decide +kernel
theorem dX3_doFrom_2 : decode cX3_doFrom 2 = .ok (.invokevirtual 277, 3) := by decide +kernel
theorem dX3_doFrom_5 : decode cX3_doFrom 5 = .ok (.ifCond .ne 5, 3) := by decide +kernel
theorem dX3_doFrom_8 : decode cX3_doFrom 8 = .ok (.iconst 4, 1) := by decide +kernel
theorem dX3_doFrom_9 : decode cX3_doFrom 9 = .ok (.ireturn, 1) := by decide +kernel
theorem dX3_doFrom_10 : decode cX3_doFrom 10 = .ok (.aload_n 0, 1) := by decide +kernel
theorem dX3_doFrom_11 : decode cX3_doFrom 11 = .ok (.iload_n 2, 1) := by decide +kernel
theorem dX3_doFrom_12 : decode cX3_doFrom 12 = .ok (.iconst 2, 1) := by decide +kernel
theorem dX3_doFrom_13 : decode cX3_doFrom 13 = .ok (.iconst (-1), 1) := by decide +kernel
theorem dX3_doFrom_14 : decode cX3_doFrom 14 = .ok (.invokevirtual 280, 3) := by decide +kernel
theorem dX3_doFrom_17 : decode cX3_doFrom 17 = .ok (.astore_n 3, 1) := by decide +kernel
theorem dX3_doFrom_18 : decode cX3_doFrom 18 = .ok (.aload_n 3, 1) := by decide +kernel
theorem dX3_doFrom_19 : decode cX3_doFrom 19 = .ok (.aload_n 1, 1) := by decide +kernel
theorem dX3_doFrom_20 : decode cX3_doFrom 20 = .ok (.getfield 101, 3) := by decide +kernel
theorem dX3_doFrom_23 : decode cX3_doFrom 23 = .ok (.putfield 141, 3) := by decide +kernel
theorem dX3_doFrom_26 : decode cX3_doFrom 26 = .ok (.aload_n 1, 1) := by decide +kernel
theorem dX3_doFrom_27 : decode cX3_doFrom 27 = .ok (.aload_n 3, 1) := by decide +kernel
theorem dX3_doFrom_28 : decode cX3_doFrom 28 = .ok (.getfield 101, 3) := by decide +kernel
theorem dX3_doFrom_31 : decode cX3_doFrom 31 = .ok (.putfield 211, 3) := by decide +kernel
theorem dX3_doFrom_34 : decode cX3_doFrom 34 = .ok (.aload_n 1, 1) := by decide +kernel
theorem dX3_doFrom_35 : decode cX3_doFrom 35 = .ok (.iconst 1, 1) := by decide +kernel
theorem dX3_doFrom_36 : decode cX3_doFrom 36 = .ok (.putfield 68, 3) := by decide +kernel
theorem dX3_doFrom_39 : decode cX3_doFrom 39 = .ok (.aload_n 3, 1) := by decide +kernel
theorem dX3_doFrom_40 : decode cX3_doFrom 40 = .ok (.iconst 0, 1) := by decide +kernel
theorem dX3_doFrom_41 : decode cX3_doFrom 41 = .ok (.invokevirtual 114, 3) := by decide +kernel
theorem dX3_doFrom_44 : decode cX3_doFrom 44 = .ok (.aload_n 0, 1) := by decide +kernel
theorem dX3_doFrom_45 : decode cX3_doFrom 45 = .ok (.aload_n 3, 1) := by decide +kernel
theorem dX3_doFrom_46 : decode cX3_doFrom 46 = .ok (.putfield 38, 3) := by decide +kernel
theorem dX3_doFrom_49 : decode cX3_doFrom 49 = .ok (.iconst 0, 1) := by decide +kernel
theorem dX3_doFrom_50 : decode cX3_doFrom 50 = .ok (.ireturn, 1) := by decide +kernel
theorem dX3_doSleep_0 : decode cX3_doSleep 0 = .ok (.aload_n 0, 1) := by decide +kernel
theorem dX3_doSleep_1 : decode cX3_doSleep 1 = .ok (.getfield 202, 3) := by decide +kernel
theorem dX3_doSleep_4 : decode cX3_doSleep 4 = .ok (.iconst (-1), 1) := by decide +kernel
theorem dX3_doSleep_5 : decode cX3_doSleep 5 = .ok (.if_icmp .ne 5, 3) := by decide +kernel
theorem dX3_doSleep_8 : decode cX3_doSleep 8 = .ok (.iconst 3, 1) := by decide +kernel
theorem dX3_doSleep_9 : decode cX3_doSleep 9 = .ok (.ireturn, 1) := by decide +kernel
theorem dX3_doSleep_10 : decode cX3_doSleep 10 = .ok (.aload_n 0, 1) := by decide +kernel
theorem dX3_doSleep_11 : decode cX3_doSleep 11 = .ok (.invokevirtual 156, 3) := by decide +kernel
theorem dX3_doSleep_14 : decode cX3_doSleep 14 = .ok (.ifCond .eq 6, 3) := by decide +kernel
theorem dX3_doSleep_17 : decode cX3_doSleep 17 = .ok (.bipush 9, 2) := by decide +kernel
theorem dX3_doSleep_19 : decode cX3_doSleep 19 = .ok (.ireturn, 1) := by decide +kernel
theorem dX3_doSleep_20 : decode cX3_doSleep 20 = .ok (.aload_n 0, 1) := by decide +kernel
theorem dX3_doSleep_21 : decode cX3_doSleep 21 = .ok (.aload_n 0, 1) := by decide +kernel
theorem dX3_doSleep_22 : decode cX3_doSleep 22 = .ok (.getfield 202, 3) := by decide +kernel
theorem dX3_doSleep_25 : decode cX3_doSleep 25 = .ok (.invokevirtual 55, 3) := by decide +kernel
theorem dX3_doSleep_28 : decode cX3_doSleep 28 = .ok (.aload_n 0, 1) := by decide +kernel
theorem dX3_doSleep_29 : decode cX3_doSleep 29 = .ok (.getfield 45, 3) := by decide +kernel
theorem dX3_doSleep_32 : decode cX3_doSleep 32 = .ok (.iload_n 2, 1) := by decide +kernel
theorem dX3_doSleep_33 : decode cX3_doSleep 33 = .ok (.iadd, 1) := by decide +kernel
theorem dX3_doSleep_34 : decode cX3_doSleep 34 = .ok (.putfield 196, 3) := by decide +kernel
theorem dX3_doSleep_37 : decode cX3_doSleep 37 = .ok (.aload_n 0, 1) := by decide +kernel
theorem dX3_doSleep_38 : decode cX3_doSleep 38 = .ok (.aload_n 1, 1) := by decide +kernel
theorem dX3_doSleep_39 : decode cX3_doSleep 39 = .ok (.invokevirtual 274, 3) := by decide +kernel
theorem dX3_doSleep_42 : decode cX3_doSleep 42 = .ok (.iconst 0, 1) := by decide +kernel
theorem dX3_doSleep_43 : decode cX3_doSleep 43 = .ok (.ireturn, 1) := by decide +kernel
theorem dX3_doAwait_0 : decode cX3_doAwait 0 = .ok (.aload_n 0, 1) := by decide +kernel
theorem dX3_doAwait_1 : decode cX3_doAwait 1 = .ok (.getfield 202, 3) := by decide +kernel
theorem dX3_doAwait_4 : decode cX3_doAwait 4 = .ok (.iconst (-1), 1) := by decide +kernel
theorem dX3_doAwait_5 : decode cX3_doAwait 5 = .ok (.if_icmp .ne 5, 3) := by decide +kernel
theorem dX3_doAwait_8 : decode cX3_doAwait 8 = .ok (.iconst 3, 1) := by decide +kernel
theorem dX3_doAwait_9 : decode cX3_doAwait 9 = .ok (.ireturn, 1) := by decide +kernel
theorem dX3_doAwait_10 : decode cX3_doAwait 10 = .ok (.aload_n 1, 1) := by decide +kernel
theorem dX3_doAwait_11 : decode cX3_doAwait 11 = .ok (.getfield 117, 3) := by decide +kernel
theorem dX3_doAwait_14 : decode cX3_doAwait 14 = .ok (.istore_n 2, 1) := by decide +kernel
theorem dX3_doAwait_15 : decode cX3_doAwait 15 = .ok (.aload_n 0, 1) := by decide +kernel
theorem dX3_doAwait_16 : decode cX3_doAwait 16 = .ok (.iload_n 2, 1) := by decide +kernel
theorem dX3_doAwait_17 : decode cX3_doAwait 17 = .ok (.iconst 1, 1) := by decide +kernel
theorem dX3_doAwait_18 : decode cX3_doAwait 18 = .ok (.invokevirtual 180, 3) := by decide +kernel
theorem dX3_doAwait_21 : decode cX3_doAwait 21 = .ok (.ifCond .eq 11, 3) := by decide +kernel
theorem dX3_doAwait_24 : decode cX3_doAwait 24 = .ok (.iload_n 2, 1) := by decide +kernel
theorem dX3_doAwait_25 : decode cX3_doAwait 25 = .ok (.aload_n 0, 1) := by decide +kernel
theorem dX3_doAwait_26 : decode cX3_doAwait 26 = .ok (.getfield 202, 3) := by decide +kernel
theorem dX3_doAwait_29 : decode cX3_doAwait 29 = .ok (.if_icmp .ne 6, 3) := by decide +kernel
theorem dX3_doAwait_32 : decode cX3_doAwait 32 = .ok (.bipush 6, 2) := by decide +kernel
theorem dX3_doAwait_34 : decode cX3_doAwait 34 = .ok (.ireturn, 1) := by decide +kernel
theorem dX3_doAwait_35 : decode cX3_doAwait 35 = .ok (.aload_n 0, 1) := by decide +kernel
theorem dX3_doAwait_36 : decode cX3_doAwait 36 = .ok (.iload_n 2, 1) := by decide +kernel
theorem dX3_doAwait_37 : decode cX3_doAwait 37 = .ok (.invokevirtual 55, 3) := by decide +kernel
theorem dX3_doAwait_40 : decode cX3_doAwait 40 = .ok (.invokevirtual 71, 3) := by decide +kernel
theorem dX3_doAwait_43 : decode cX3_doAwait 43 = .ok (.ifCond .eq 14, 3) := by decide +kernel
theorem dX3_doAwait_46 : decode cX3_doAwait 46 = .ok (.aload_n 0, 1) := by decide +kernel
theorem dX3_doAwait_47 : decode cX3_doAwait 47 = .ok (.aload_n 1, 1) := by decide +kernel
theorem dX3_doAwait_48 : decode cX3_doAwait 48 = .ok (.aload_n 0, 1) := by decide +kernel
theorem dX3_doAwait_49 : decode cX3_doAwait 49 = .ok (.iload_n 2, 1) := by decide +kernel
theorem dX3_doAwait_50 : decode cX3_doAwait 50 = .ok (.invokevirtual 55, 3) := by decide +kernel
theorem dX3_doAwait_53 : decode cX3_doAwait 53 = .ok (.invokevirtual 170, 3) := by decide +kernel
theorem dX3_doAwait_56 : decode cX3_doAwait 56 = .ok (.ireturn, 1) := by decide +kernel
theorem dX3_doAwait_57 : decode cX3_doAwait 57 = .ok (.aload_n 0, 1) := by decide +kernel
theorem dX3_doAwait_58 : decode cX3_doAwait 58 = .ok (.iload_n 2, 1) := by decide +kernel
theorem dX3_doAwait_59 : decode cX3_doAwait 59 = .ok (.invokevirtual 284, 3) := by decide +kernel
theorem dX3_doAwait_62 : decode cX3_doAwait 62 = .ok (.ifCond .eq 5, 3) := by decide +kernel
theorem dX3_doAwait_65 : decode cX3_doAwait 65 = .ok (.iconst 2, 1) := by decide +kernel
theorem dX3_doAwait_66 : decode cX3_doAwait 66 = .ok (.ireturn, 1) := by decide +kernel
theorem dX3_doAwait_67 : decode cX3_doAwait 67 = .ok (.aload_n 0, 1) := by decide +kernel
theorem dX3_doAwait_68 : decode cX3_doAwait 68 = .ok (.invokevirtual 156, 3) := by decide +kernel
theorem dX3_doAwait_71 : decode cX3_doAwait 71 = .ok (.ifCond .eq 6, 3) := by decide +kernel
theorem dX3_doAwait_74 : decode cX3_doAwait 74 = .ok (.bipush 9, 2) := by decide +kernel
theorem dX3_doAwait_76 : decode cX3_doAwait 76 = .ok (.ireturn, 1) := by decide +kernel
theorem dX3_doAwait_77 : decode cX3_doAwait 77 = .ok (.aload_n 0, 1) := by decide +kernel
theorem dX3_doAwait_78 : decode cX3_doAwait 78 = .ok (.aload_n 0, 1) := by decide +kernel
theorem dX3_doAwait_79 : decode cX3_doAwait 79 = .ok (.getfield 202, 3) := by decide +kernel
theorem dX3_doAwait_82 : decode cX3_doAwait 82 = .ok (.invokevirtual 55, 3) := by decide +kernel
theorem dX3_doAwait_85 : decode cX3_doAwait 85 = .ok (.iload_n 2, 1) := by decide +kernel
theorem dX3_doAwait_86 : decode cX3_doAwait 86 = .ok (.putfield 82, 3) := by decide +kernel
theorem dX3_doAwait_89 : decode cX3_doAwait 89 = .ok (.aload_n 0, 1) := by decide +kernel
theorem dX3_doAwait_90 : decode cX3_doAwait 90 = .ok (.getfield 31, 3) := by decide +kernel
theorem dX3_doAwait_93 : decode cX3_doAwait 93 = .ok (.aload_n 0, 1) := by decide +kernel
theorem dX3_doAwait_94 : decode cX3_doAwait 94 = .ok (.getfield 202, 3) := by decide +kernel
theorem dX3_doAwait_97 : decode cX3_doAwait 97 = .ok (.invokevirtual 104, 3) := by decide +kernel
theorem dX3_doAwait_100 : decode cX3_doAwait 100 = .ok (.aload_n 0, 1) := by decide +kernel
theorem dX3_doAwait_101 : decode cX3_doAwait 101 = .ok (.aload_n 1, 1) := by decide +kernel
theorem dX3_doAwait_102 : decode cX3_doAwait 102 = .ok (.invokevirtual 274, 3) := by decide +kernel
theorem dX3_doAwait_105 : decode cX3_doAwait 105 = .ok (.iconst 0, 1) := by decide +kernel
theorem dX3_doAwait_106 : decode cX3_doAwait 106 = .ok (.ireturn, 1) := by decide +kernel
theorem dX3_awaitsTheOwnOne_0 : decode cX3_awaitsTheOwnOne 0 = .ok (.iload_n 1, 1) := by decide +kernel
theorem dX3_awaitsTheOwnOne_1 : decode cX3_awaitsTheOwnOne 1 = .ok (.istore_n 2, 1) := by decide +kernel
theorem dX3_awaitsTheOwnOne_2 : decode cX3_awaitsTheOwnOne 2 = .ok (.iconst 0, 1) := by decide +kernel
theorem dX3_awaitsTheOwnOne_3 : decode cX3_awaitsTheOwnOne 3 = .ok (.istore_n 3, 1) := by decide +kernel
theorem dX3_awaitsTheOwnOne_4 : decode cX3_awaitsTheOwnOne 4 = .ok (.iload_n 3, 1) := by decide +kernel
theorem dX3_awaitsTheOwnOne_5 : decode cX3_awaitsTheOwnOne 5 = .ok (.bipush 24, 2) := by decide +kernel
theorem dX3_awaitsTheOwnOne_7 : decode cX3_awaitsTheOwnOne 7 = .ok (.if_icmp .ge 33, 3) := by decide +kernel
theorem dX3_awaitsTheOwnOne_10 : decode cX3_awaitsTheOwnOne 10 = .ok (.iload_n 2, 1) := by decide +kernel
theorem dX3_awaitsTheOwnOne_11 : decode cX3_awaitsTheOwnOne 11 = .ok (.iconst (-1), 1) := by decide +kernel
theorem dX3_awaitsTheOwnOne_12 : decode cX3_awaitsTheOwnOne 12 = .ok (.if_icmp .eq 28, 3) := by decide +kernel
theorem dX3_awaitsTheOwnOne_15 : decode cX3_awaitsTheOwnOne 15 = .ok (.aload_n 0, 1) := by decide +kernel
theorem dX3_awaitsTheOwnOne_16 : decode cX3_awaitsTheOwnOne 16 = .ok (.iload_n 2, 1) := by decide +kernel
theorem dX3_awaitsTheOwnOne_17 : decode cX3_awaitsTheOwnOne 17 = .ok (.invokevirtual 55, 3) := by decide +kernel
theorem dX3_awaitsTheOwnOne_20 : decode cX3_awaitsTheOwnOne 20 = .ok (.getfield 82, 3) := by decide +kernel
theorem dX3_awaitsTheOwnOne_23 : decode cX3_awaitsTheOwnOne 23 = .ok (.istore_n 2, 1) := by decide +kernel
theorem dX3_awaitsTheOwnOne_24 : decode cX3_awaitsTheOwnOne 24 = .ok (.iload_n 2, 1) := by decide +kernel
theorem dX3_awaitsTheOwnOne_25 : decode cX3_awaitsTheOwnOne 25 = .ok (.aload_n 0, 1) := by decide +kernel
theorem dX3_awaitsTheOwnOne_26 : decode cX3_awaitsTheOwnOne 26 = .ok (.getfield 202, 3) := by decide +kernel
theorem dX3_awaitsTheOwnOne_29 : decode cX3_awaitsTheOwnOne 29 = .ok (.if_icmp .ne 5, 3) := by decide +kernel
theorem dX3_awaitsTheOwnOne_32 : decode cX3_awaitsTheOwnOne 32 = .ok (.iconst 1, 1) := by decide +kernel
theorem dX3_awaitsTheOwnOne_33 : decode cX3_awaitsTheOwnOne 33 = .ok (.ireturn, 1) := by decide +kernel
theorem dX3_awaitsTheOwnOne_34 : decode cX3_awaitsTheOwnOne 34 = .ok (.iinc 3 1, 3) := by decide +kernel
theorem dX3_awaitsTheOwnOne_37 : decode cX3_awaitsTheOwnOne 37 = .ok (.goto (-33), 3) := by decide +kernel
theorem dX3_awaitsTheOwnOne_40 : decode cX3_awaitsTheOwnOne 40 = .ok (.iconst 0, 1) := by decide +kernel
theorem dX3_awaitsTheOwnOne_41 : decode cX3_awaitsTheOwnOne 41 = .ok (.ireturn, 1) := by decide +kernel
theorem dX3_doSpawn_0 : decode cX3_doSpawn 0 = .ok (.aload_n 0, 1) := by decide +kernel
theorem dX3_doSpawn_1 : decode cX3_doSpawn 1 = .ok (.getfield 202, 3) := by decide +kernel
theorem dX3_doSpawn_4 : decode cX3_doSpawn 4 = .ok (.iconst (-1), 1) := by decide +kernel
theorem dX3_doSpawn_5 : decode cX3_doSpawn 5 = .ok (.if_icmp .ne 5, 3) := by decide +kernel
theorem dX3_doSpawn_8 : decode cX3_doSpawn 8 = .ok (.iconst 3, 1) := by decide +kernel
theorem dX3_doSpawn_9 : decode cX3_doSpawn 9 = .ok (.ireturn, 1) := by decide +kernel
theorem dX3_doSpawn_10 : decode cX3_doSpawn 10 = .ok (.aload_n 0, 1) := by decide +kernel
theorem dX3_doSpawn_11 : decode cX3_doSpawn 11 = .ok (.iload_n 2, 1) := by decide +kernel
theorem dX3_doSpawn_12 : decode cX3_doSpawn 12 = .ok (.invokevirtual 277, 3) := by decide +kernel
theorem dX3_doSpawn_15 : decode cX3_doSpawn 15 = .ok (.ifCond .ne 5, 3) := by decide +kernel
theorem dX3_doSpawn_18 : decode cX3_doSpawn 18 = .ok (.iconst 4, 1) := by decide +kernel
theorem dX3_doSpawn_19 : decode cX3_doSpawn 19 = .ok (.ireturn, 1) := by decide +kernel
theorem dX3_doSpawn_20 : decode cX3_doSpawn 20 = .ok (.aload_n 1, 1) := by decide +kernel
theorem dX3_doSpawn_21 : decode cX3_doSpawn 21 = .ok (.aload_n 0, 1) := by decide +kernel
theorem dX3_doSpawn_22 : decode cX3_doSpawn 22 = .ok (.iload_n 2, 1) := by decide +kernel
theorem dX3_doSpawn_23 : decode cX3_doSpawn 23 = .ok (.iconst 1, 1) := by decide +kernel
theorem dX3_doSpawn_24 : decode cX3_doSpawn 24 = .ok (.aload_n 0, 1) := by decide +kernel
theorem dX3_doSpawn_25 : decode cX3_doSpawn 25 = .ok (.getfield 202, 3) := by decide +kernel
theorem dX3_doSpawn_28 : decode cX3_doSpawn 28 = .ok (.invokevirtual 280, 3) := by decide +kernel
theorem dX3_doSpawn_31 : decode cX3_doSpawn 31 = .ok (.getfield 101, 3) := by decide +kernel
theorem dX3_doSpawn_34 : decode cX3_doSpawn 34 = .ok (.putfield 117, 3) := by decide +kernel
theorem dX3_doSpawn_37 : decode cX3_doSpawn 37 = .ok (.aload_n 1, 1) := by decide +kernel
theorem dX3_doSpawn_38 : decode cX3_doSpawn 38 = .ok (.dup, 1) := by decide +kernel
theorem dX3_doSpawn_39 : decode cX3_doSpawn 39 = .ok (.getfield 120, 3) := by decide +kernel
theorem dX3_doSpawn_42 : decode cX3_doSpawn 42 = .ok (.iconst 1, 1) := by decide +kernel
theorem dX3_doSpawn_43 : decode cX3_doSpawn 43 = .ok (.iadd, 1) := by decide +kernel
theorem dX3_doSpawn_44 : decode cX3_doSpawn 44 = .ok (.putfield 120, 3) := by decide +kernel
theorem dX3_doSpawn_47 : decode cX3_doSpawn 47 = .ok (.iconst 0, 1) := by decide +kernel
theorem dX3_doSpawn_48 : decode cX3_doSpawn 48 = .ok (.ireturn, 1) := by decide +kernel
theorem dX3_doShield_0 : decode cX3_doShield 0 = .ok (.aload_n 0, 1) := by decide +kernel
theorem dX3_doShield_1 : decode cX3_doShield 1 = .ok (.getfield 202, 3) := by decide +kernel
theorem dX3_doShield_4 : decode cX3_doShield 4 = .ok (.iconst (-1), 1) := by decide +kernel
theorem dX3_doShield_5 : decode cX3_doShield 5 = .ok (.if_icmp .eq 35, 3) := by decide +kernel
theorem dX3_doShield_8 : decode cX3_doShield 8 = .ok (.aload_n 0, 1) := by decide +kernel
theorem dX3_doShield_9 : decode cX3_doShield 9 = .ok (.aload_n 0, 1) := by decide +kernel
theorem dX3_doShield_10 : decode cX3_doShield 10 = .ok (.getfield 202, 3) := by decide +kernel
theorem dX3_doShield_13 : decode cX3_doShield 13 = .ok (.invokevirtual 55, 3) := by decide +kernel
theorem dX3_doShield_16 : decode cX3_doShield 16 = .ok (.astore_n 3, 1) := by decide +kernel
theorem dX3_doShield_17 : decode cX3_doShield 17 = .ok (.aload_n 3, 1) := by decide +kernel
theorem dX3_doShield_18 : decode cX3_doShield 18 = .ok (.iconst 0, 1) := by decide +kernel
theorem dX3_doShield_19 : decode cX3_doShield 19 = .ok (.aload_n 3, 1) := by decide +kernel
theorem dX3_doShield_20 : decode cX3_doShield 20 = .ok (.getfield 193, 3) := by decide +kernel
theorem dX3_doShield_23 : decode cX3_doShield 23 = .ok (.iload_n 2, 1) := by decide +kernel
theorem dX3_doShield_24 : decode cX3_doShield 24 = .ok (.iconst 1, 1) := by decide +kernel
theorem dX3_doShield_25 : decode cX3_doShield 25 = .ok (.if_icmp .ne 7, 3) := by decide +kernel
theorem dX3_doShield_28 : decode cX3_doShield 28 = .ok (.iconst 1, 1) := by decide +kernel
theorem dX3_doShield_29 : decode cX3_doShield 29 = .ok (.goto 4, 3) := by decide +kernel
theorem dX3_doShield_32 : decode cX3_doShield 32 = .ok (.iconst (-1), 1) := by decide +kernel
theorem dX3_doShield_33 : decode cX3_doShield 33 = .ok (.iadd, 1) := by decide +kernel
theorem dX3_doShield_34 : decode cX3_doShield 34 = .ok (.invokestatic 287, 3) := by decide +kernel
theorem dX3_doShield_37 : decode cX3_doShield 37 = .ok (.putfield 193, 3) := by decide +kernel
theorem dX3_doShield_40 : decode cX3_doShield 40 = .ok (.aload_n 1, 1) := by decide +kernel
theorem dX3_doShield_41 : decode cX3_doShield 41 = .ok (.dup, 1) := by decide +kernel
theorem dX3_doShield_42 : decode cX3_doShield 42 = .ok (.getfield 120, 3) := by decide +kernel
theorem dX3_doShield_45 : decode cX3_doShield 45 = .ok (.iconst 1, 1) := by decide +kernel
theorem dX3_doShield_46 : decode cX3_doShield 46 = .ok (.iadd, 1) := by decide +kernel
theorem dX3_doShield_47 : decode cX3_doShield 47 = .ok (.putfield 120, 3) := by decide +kernel
theorem dX3_doShield_50 : decode cX3_doShield 50 = .ok (.iconst 0, 1) := by decide +kernel
theorem dX3_doShield_51 : decode cX3_doShield 51 = .ok (.ireturn, 1) := by decide +kernel
theorem dX3_waitAt_0 : decode cX3_waitAt 0 = .ok (.aload_n 1, 1) := by decide +kernel
theorem dX3_waitAt_1 : decode cX3_waitAt 1 = .ok (.iconst 1, 1) := by decide +kernel
theorem dX3_waitAt_2 : decode cX3_waitAt 2 = .ok (.putfield 68, 3) := by decide +kernel
theorem dX3_waitAt_5 : decode cX3_waitAt 5 = .ok (.aload_n 0, 1) := by decide +kernel
theorem dX3_waitAt_6 : decode cX3_waitAt 6 = .ok (.iconst 1, 1) := by decide +kernel
theorem dX3_waitAt_7 : decode cX3_waitAt 7 = .ok (.putfield 217, 3) := by decide +kernel
theorem dX3_waitAt_10 : decode cX3_waitAt 10 = .ok (.return_, 1) := by decide +kernel
theorem dX3_takesCancel_0 : decode cX3_takesCancel 0 = .ok (.aload_n 0, 1) := by decide +kernel
theorem dX3_takesCancel_1 : decode cX3_takesCancel 1 = .ok (.aload_n 0, 1) := by decide +kernel
theorem dX3_takesCancel_2 : decode cX3_takesCancel 2 = .ok (.getfield 202, 3) := by decide +kernel
theorem dX3_takesCancel_5 : decode cX3_takesCancel 5 = .ok (.invokevirtual 55, 3) := by decide +kernel
theorem dX3_takesCancel_8 : decode cX3_takesCancel 8 = .ok (.astore_n 1, 1) := by decide +kernel
theorem dX3_takesCancel_9 : decode cX3_takesCancel 9 = .ok (.aload_n 1, 1) := by decide +kernel
theorem dX3_takesCancel_10 : decode cX3_takesCancel 10 = .ok (.getfield 189, 3) := by decide +kernel
theorem dX3_takesCancel_13 : decode cX3_takesCancel 13 = .ok (.ifCond .eq 10, 3) := by decide +kernel
theorem dX3_takesCancel_16 : decode cX3_takesCancel 16 = .ok (.aload_n 1, 1) := by decide +kernel
theorem dX3_takesCancel_17 : decode cX3_takesCancel 17 = .ok (.getfield 193, 3) := by decide +kernel
theorem dX3_takesCancel_20 : decode cX3_takesCancel 20 = .ok (.ifCond .le 5, 3) := by decide +kernel
theorem dX3_takesCancel_23 : decode cX3_takesCancel 23 = .ok (.iconst 0, 1) := by decide +kernel
theorem dX3_takesCancel_24 : decode cX3_takesCancel 24 = .ok (.ireturn, 1) := by decide +kernel
theorem dX3_takesCancel_25 : decode cX3_takesCancel 25 = .ok (.aload_n 1, 1) := by decide +kernel
theorem dX3_takesCancel_26 : decode cX3_takesCancel 26 = .ok (.iconst 0, 1) := by decide +kernel
theorem dX3_takesCancel_27 : decode cX3_takesCancel 27 = .ok (.putfield 189, 3) := by decide +kernel
theorem dX3_takesCancel_30 : decode cX3_takesCancel 30 = .ok (.iconst 1, 1) := by decide +kernel
theorem dX3_takesCancel_31 : decode cX3_takesCancel 31 = .ok (.ireturn, 1) := by decide +kernel
theorem dX4_init_0 : decode cX4_init 0 = .ok (.aload_n 0, 1) := by decide +kernel
theorem dX4_init_1 : decode cX4_init 1 = .ok (.invokespecial 3, 3) := by decide +kernel
theorem dX4_init_4 : decode cX4_init 4 = .ok (.aload_n 0, 1) := by decide +kernel
theorem dX4_init_5 : decode cX4_init 5 = .ok (.bipush 24, 2) := by decide +kernel
theorem dX4_init_7 : decode cX4_init 7 = .ok (.newarray .int, 2) := by decide +kernel
theorem dX4_init_9 : decode cX4_init 9 = .ok (.putfield 9, 3) := by decide +kernel
theorem dX4_init_12 : decode cX4_init 12 = .ok (.return_, 1) := by decide +kernel
theorem dX4_numberAt_0 : decode cX4_numberAt 0 = .ok (.iload_n 1, 1) := by decide +kernel
theorem dX4_numberAt_1 : decode cX4_numberAt 1 = .ok (.ifCond .lt 20, 3) := by decide +kernel
theorem dX4_numberAt_4 : decode cX4_numberAt 4 = .ok (.iload_n 1, 1) := by decide +kernel
theorem dX4_numberAt_5 : decode cX4_numberAt 5 = .ok (.aload_n 0, 1) := by decide +kernel
theorem dX4_numberAt_6 : decode cX4_numberAt 6 = .ok (.getfield 15, 3) := by decide +kernel
theorem dX4_numberAt_9 : decode cX4_numberAt 9 = .ok (.if_icmp .ge 12, 3) := by decide +kernel
theorem dX4_numberAt_12 : decode cX4_numberAt 12 = .ok (.aload_n 0, 1) := by decide +kernel
theorem dX4_numberAt_13 : decode cX4_numberAt 13 = .ok (.getfield 9, 3) := by decide +kernel
theorem dX4_numberAt_16 : decode cX4_numberAt 16 = .ok (.iload_n 1, 1) := by decide +kernel
theorem dX4_numberAt_17 : decode cX4_numberAt 17 = .ok (.iaload, 1) := by decide +kernel
theorem dX4_numberAt_18 : decode cX4_numberAt 18 = .ok (.goto 4, 3) := by decide +kernel
theorem dX4_numberAt_21 : decode cX4_numberAt 21 = .ok (.iconst (-1), 1) := by decide +kernel
theorem dX4_numberAt_22 : decode cX4_numberAt 22 = .ok (.ireturn, 1) := by decide +kernel
theorem dX4_placeOf_0 : decode cX4_placeOf 0 = .ok (.iconst 0, 1) := by decide +kernel
theorem dX4_placeOf_1 : decode cX4_placeOf 1 = .ok (.istore_n 2, 1) := by decide +kernel
theorem dX4_placeOf_2 : decode cX4_placeOf 2 = .ok (.iload_n 2, 1) := by decide +kernel
theorem dX4_placeOf_3 : decode cX4_placeOf 3 = .ok (.aload_n 0, 1) := by decide +kernel
theorem dX4_placeOf_4 : decode cX4_placeOf 4 = .ok (.getfield 15, 3) := by decide +kernel
theorem dX4_placeOf_7 : decode cX4_placeOf 7 = .ok (.if_icmp .ge 20, 3) := by decide +kernel
theorem dX4_placeOf_10 : decode cX4_placeOf 10 = .ok (.aload_n 0, 1) := by decide +kernel
theorem dX4_placeOf_11 : decode cX4_placeOf 11 = .ok (.iload_n 2, 1) := by decide +kernel
theorem dX4_placeOf_12 : decode cX4_placeOf 12 = .ok (.invokevirtual 19, 3) := by decide +kernel
theorem dX4_placeOf_15 : decode cX4_placeOf 15 = .ok (.iload_n 1, 1) := by decide +kernel
theorem dX4_placeOf_16 : decode cX4_placeOf 16 = .ok (.if_icmp .ne 5, 3) := by decide +kernel
theorem dX4_placeOf_19 : decode cX4_placeOf 19 = .ok (.iload_n 2, 1) := by decide +kernel
theorem dX4_placeOf_20 : decode cX4_placeOf 20 = .ok (.ireturn, 1) := by decide +kernel
theorem dX4_placeOf_21 : decode cX4_placeOf 21 = .ok (.iinc 2 1, 3) := by decide +kernel
theorem dX4_placeOf_24 : decode cX4_placeOf 24 = .ok (.goto (-22), 3) := by decide +kernel
theorem dX4_placeOf_27 : decode cX4_placeOf 27 = .ok (.iconst (-1), 1) := by decide +kernel
theorem dX4_placeOf_28 : decode cX4_placeOf 28 = .ok (.ireturn, 1) := by decide +kernel
theorem dX4_add_0 : decode cX4_add 0 = .ok (.aload_n 0, 1) := by decide +kernel
theorem dX4_add_1 : decode cX4_add 1 = .ok (.getfield 15, 3) := by decide +kernel
theorem dX4_add_4 : decode cX4_add 4 = .ok (.ifCond .lt 32, 3) := by decide +kernel
theorem dX4_add_7 : decode cX4_add 7 = .ok (.aload_n 0, 1) := by decide +kernel
theorem dX4_add_8 : decode cX4_add 8 = .ok (.getfield 15, 3) := by decide +kernel
theorem dX4_add_11 : decode cX4_add 11 = .ok (.bipush 24, 2) := by decide +kernel
theorem dX4_add_13 : decode cX4_add 13 = .ok (.if_icmp .ge 23, 3) := by decide +kernel
theorem dX4_add_16 : decode cX4_add 16 = .ok (.aload_n 0, 1) := by decide +kernel
theorem dX4_add_17 : decode cX4_add 17 = .ok (.getfield 9, 3) := by decide +kernel
theorem dX4_add_20 : decode cX4_add 20 = .ok (.aload_n 0, 1) := by decide +kernel
theorem dX4_add_21 : decode cX4_add 21 = .ok (.getfield 15, 3) := by decide +kernel
theorem dX4_add_24 : decode cX4_add 24 = .ok (.iload_n 1, 1) := by decide +kernel
theorem dX4_add_25 : decode cX4_add 25 = .ok (.iastore, 1) := by decide +kernel
theorem dX4_add_26 : decode cX4_add 26 = .ok (.aload_n 0, 1) := by decide +kernel
theorem dX4_add_27 : decode cX4_add 27 = .ok (.dup, 1) := by decide +kernel
theorem dX4_add_28 : decode cX4_add 28 = .ok (.getfield 15, 3) := by decide +kernel
theorem dX4_add_31 : decode cX4_add 31 = .ok (.iconst 1, 1) := by decide +kernel
theorem dX4_add_32 : decode cX4_add 32 = .ok (.iadd, 1) := by decide +kernel
theorem dX4_add_33 : decode cX4_add 33 = .ok (.putfield 15, 3) := by decide +kernel
theorem dX4_add_36 : decode cX4_add 36 = .ok (.return_, 1) := by decide +kernel
theorem dX4_removeAt_0 : decode cX4_removeAt 0 = .ok (.iload_n 1, 1) := by decide +kernel
theorem dX4_removeAt_1 : decode cX4_removeAt 1 = .ok (.ifCond .lt 11, 3) := by decide +kernel
theorem dX4_removeAt_4 : decode cX4_removeAt 4 = .ok (.iload_n 1, 1) := by decide +kernel
theorem dX4_removeAt_5 : decode cX4_removeAt 5 = .ok (.aload_n 0, 1) := by decide +kernel
theorem dX4_removeAt_6 : decode cX4_removeAt 6 = .ok (.getfield 15, 3) := by decide +kernel
theorem dX4_removeAt_9 : decode cX4_removeAt 9 = .ok (.if_icmp .lt 4, 3) := by decide +kernel
theorem dX4_removeAt_12 : decode cX4_removeAt 12 = .ok (.return_, 1) := by decide +kernel
theorem dX4_removeAt_13 : decode cX4_removeAt 13 = .ok (.iload_n 1, 1) := by decide +kernel
theorem dX4_removeAt_14 : decode cX4_removeAt 14 = .ok (.iconst 1, 1) := by decide +kernel
theorem dX4_removeAt_15 : decode cX4_removeAt 15 = .ok (.iadd, 1) := by decide +kernel
theorem dX4_removeAt_16 : decode cX4_removeAt 16 = .ok (.istore_n 2, 1) := by decide +kernel
theorem dX4_removeAt_17 : decode cX4_removeAt 17 = .ok (.iload_n 2, 1) := by decide +kernel
theorem dX4_removeAt_18 : decode cX4_removeAt 18 = .ok (.aload_n 0, 1) := by decide +kernel
theorem dX4_removeAt_19 : decode cX4_removeAt 19 = .ok (.getfield 15, 3) := by decide +kernel
theorem dX4_removeAt_22 : decode cX4_removeAt 22 = .ok (.if_icmp .ge 23, 3) := by decide +kernel
theorem dX4_removeAt_25 : decode cX4_removeAt 25 = .ok (.aload_n 0, 1) := by decide +kernel
theorem dX4_removeAt_26 : decode cX4_removeAt 26 = .ok (.getfield 9, 3) := by decide +kernel
theorem dX4_removeAt_29 : decode cX4_removeAt 29 = .ok (.iload_n 2, 1) := by decide +kernel
theorem dX4_removeAt_30 : decode cX4_removeAt 30 = .ok (.iconst 1, 1) := by decide +kernel
theorem dX4_removeAt_31 : decode cX4_removeAt 31 = .ok (.isub, 1) := by decide +kernel
theorem dX4_removeAt_32 : decode cX4_removeAt 32 = .ok (.aload_n 0, 1) := by decide +kernel
theorem dX4_removeAt_33 : decode cX4_removeAt 33 = .ok (.getfield 9, 3) := by decide +kernel
theorem dX4_removeAt_36 : decode cX4_removeAt 36 = .ok (.iload_n 2, 1) := by decide +kernel
theorem dX4_removeAt_37 : decode cX4_removeAt 37 = .ok (.iaload, 1) := by decide +kernel
theorem dX4_removeAt_38 : decode cX4_removeAt 38 = .ok (.iastore, 1) := by decide +kernel
theorem dX4_removeAt_39 : decode cX4_removeAt 39 = .ok (.iinc 2 1, 3) := by decide +kernel
theorem dX4_removeAt_42 : decode cX4_removeAt 42 = .ok (.goto (-25), 3) := by decide +kernel
theorem dX4_removeAt_45 : decode cX4_removeAt 45 = .ok (.aload_n 0, 1) := by decide +kernel
theorem dX4_removeAt_46 : decode cX4_removeAt 46 = .ok (.dup, 1) := by decide +kernel
theorem dX4_removeAt_47 : decode cX4_removeAt 47 = .ok (.getfield 15, 3) := by decide +kernel
theorem dX4_removeAt_50 : decode cX4_removeAt 50 = .ok (.iconst 1, 1) := by decide +kernel
theorem dX4_removeAt_51 : decode cX4_removeAt 51 = .ok (.isub, 1) := by decide +kernel
theorem dX4_removeAt_52 : decode cX4_removeAt 52 = .ok (.putfield 15, 3) := by decide +kernel
theorem dX4_removeAt_55 : decode cX4_removeAt 55 = .ok (.return_, 1) := by decide +kernel
