theorem dX6_wouldGive_6 : decode cX6_wouldGive 6 = .ok (.invokevirtual 100, 3) := by decide +kernel
theorem dX6_wouldGive_9 : decode cX6_wouldGive 9 = .ok (.ifCond .eq 17, 3) := by decide +kernel
theorem dX6_wouldGive_12 : decode cX6_wouldGive 12 = .ok (.aload_n 0, 1) := by decide +kernel
theorem dX6_wouldGive_13 : decode cX6_wouldGive 13 = .ok (.getfield 21, 3) := by decide +kernel
theorem dX6_wouldGive_16 : decode cX6_wouldGive 16 = .ok (.iload_n 1, 1) := by decide +kernel
theorem dX6_wouldGive_17 : decode cX6_wouldGive 17 = .ok (.invokevirtual 110, 3) := by decide +kernel
theorem dX6_wouldGive_20 : decode cX6_wouldGive 20 = .ok (.invokevirtual 113, 3) := by decide +kernel
theorem dX6_wouldGive_23 : decode cX6_wouldGive 23 = .ok (.ifCond .eq 13, 3) := by decide +kernel
theorem dX6_wouldGive_26 : decode cX6_wouldGive 26 = .ok (.new 47, 3) := by decide +kernel
theorem dX6_wouldGive_29 : decode cX6_wouldGive 29 = .ok (.dup, 1) := by decide +kernel
theorem dX6_wouldGive_30 : decode cX6_wouldGive 30 = .ok (.ldc 240, 2) := by decide +kernel
theorem dX6_wouldGive_32 : decode cX6_wouldGive 32 = .ok (.invokespecial 51, 3) := by decide +kernel
theorem dX6_wouldGive_35 : decode cX6_wouldGive 35 = .ok (.athrow, 1) := by decide +kernel
theorem dX6_wouldGive_36 : decode cX6_wouldGive 36 = .ok (.iload_n 2, 1) := by decide +kernel
theorem dX6_wouldGive_37 : decode cX6_wouldGive 37 = .ok (.sipush (-999), 3) := by decide +kernel
theorem dX6_wouldGive_40 : decode cX6_wouldGive 40 = .ok (.sipush 999, 3) := by decide +kernel
theorem dX6_wouldGive_43 : decode cX6_wouldGive 43 = .ok (.invokestatic 105, 3) := by decide +kernel
theorem dX6_wouldGive_46 : decode cX6_wouldGive 46 = .ok (.ifCond .ne 13, 3) := by decide +kernel
theorem dX6_wouldGive_49 : decode cX6_wouldGive 49 = .ok (.new 62, 3) := by decide +kernel
theorem dX6_wouldGive_52 : decode cX6_wouldGive 52 = .ok (.dup, 1) := by decide +kernel
theorem dX6_wouldGive_53 : decode cX6_wouldGive 53 = .ok (.ldc 108, 2) := by decide +kernel
theorem dX6_wouldGive_55 : decode cX6_wouldGive 55 = .ok (.invokespecial 66, 3) := by decide +kernel
theorem dX6_wouldGive_58 : decode cX6_wouldGive 58 = .ok (.athrow, 1) := by decide +kernel
theorem dX6_wouldGive_59 : decode cX6_wouldGive 59 = .ok (.aload_n 0, 1) := by decide +kernel
theorem dX6_wouldGive_60 : decode cX6_wouldGive 60 = .ok (.getfield 25, 3) := by decide +kernel
theorem dX6_wouldGive_63 : decode cX6_wouldGive 63 = .ok (.aload_n 0, 1) := by decide +kernel
theorem dX6_wouldGive_64 : decode cX6_wouldGive 64 = .ok (.getfield 21, 3) := by decide +kernel
theorem dX6_wouldGive_67 : decode cX6_wouldGive 67 = .ok (.invokevirtual 242, 3) := by decide +kernel
theorem dX6_wouldGive_70 : decode cX6_wouldGive 70 = .ok (.aload_n 0, 1) := by decide +kernel
theorem dX6_wouldGive_71 : decode cX6_wouldGive 71 = .ok (.getfield 25, 3) := by decide +kernel
theorem dX6_wouldGive_74 : decode cX6_wouldGive 74 = .ok (.iload_n 1, 1) := by decide +kernel
theorem dX6_wouldGive_75 : decode cX6_wouldGive 75 = .ok (.iload_n 2, 1) := by decide +kernel
theorem dX6_wouldGive_76 : decode cX6_wouldGive 76 = .ok (.invokevirtual 118, 3) := by decide +kernel
theorem dX6_wouldGive_79 : decode cX6_wouldGive 79 = .ok (.ireturn, 1) := by decide +kernel
theorem dX6_wouldClose_0 : decode cX6_wouldClose 0 = .ok (.aload_n 0, 1) := by decide +kernel
theorem dX6_wouldClose_1 : decode cX6_wouldClose 1 = .ok (.getfield 21, 3) := by decide +kernel
theorem dX6_wouldClose_4 : decode cX6_wouldClose 4 = .ok (.iload_n 1, 1) := by decide +kernel
theorem dX6_wouldClose_5 : decode cX6_wouldClose 5 = .ok (.iconst 0, 1) := by decide +kernel
theorem dX6_wouldClose_6 : decode cX6_wouldClose 6 = .ok (.invokevirtual 100, 3) := by decide +kernel
theorem dX6_wouldClose_9 : decode cX6_wouldClose 9 = .ok (.ifCond .ne 13, 3) := by decide +kernel
theorem dX6_wouldClose_12 : decode cX6_wouldClose 12 = .ok (.new 47, 3) := by decide +kernel
theorem dX6_wouldClose_15 : decode cX6_wouldClose 15 = .ok (.dup, 1) := by decide +kernel
theorem dX6_wouldClose_16 : decode cX6_wouldClose 16 = .ok (.ldc 103, 2) := by decide +kernel
theorem dX6_wouldClose_18 : decode cX6_wouldClose 18 = .ok (.invokespecial 51, 3) := by decide +kernel
theorem dX6_wouldClose_21 : decode cX6_wouldClose 21 = .ok (.athrow, 1) := by decide +kernel
theorem dX6_wouldClose_22 : decode cX6_wouldClose 22 = .ok (.aload_n 0, 1) := by decide +kernel
theorem dX6_wouldClose_23 : decode cX6_wouldClose 23 = .ok (.getfield 21, 3) := by decide +kernel
theorem dX6_wouldClose_26 : decode cX6_wouldClose 26 = .ok (.iload_n 1, 1) := by decide +kernel
theorem dX6_wouldClose_27 : decode cX6_wouldClose 27 = .ok (.invokevirtual 110, 3) := by decide +kernel
theorem dX6_wouldClose_30 : decode cX6_wouldClose 30 = .ok (.getfield 153, 3) := by decide +kernel
theorem dX6_wouldClose_33 : decode cX6_wouldClose 33 = .ok (.iconst 1, 1) := by decide +kernel
theorem dX6_wouldClose_34 : decode cX6_wouldClose 34 = .ok (.if_icmp .eq 5, 3) := by decide +kernel
theorem dX6_wouldClose_37 : decode cX6_wouldClose 37 = .ok (.iconst 0, 1) := by decide +kernel
theorem dX6_wouldClose_38 : decode cX6_wouldClose 38 = .ok (.ireturn, 1) := by decide +kernel
theorem dX6_wouldClose_39 : decode cX6_wouldClose 39 = .ok (.aload_n 0, 1) := by decide +kernel
theorem dX6_wouldClose_40 : decode cX6_wouldClose 40 = .ok (.getfield 25, 3) := by decide +kernel
theorem dX6_wouldClose_43 : decode cX6_wouldClose 43 = .ok (.aload_n 0, 1) := by decide +kernel
theorem dX6_wouldClose_44 : decode cX6_wouldClose 44 = .ok (.getfield 21, 3) := by decide +kernel
theorem dX6_wouldClose_47 : decode cX6_wouldClose 47 = .ok (.invokevirtual 242, 3) := by decide +kernel
theorem dX6_wouldClose_50 : decode cX6_wouldClose 50 = .ok (.aload_n 0, 1) := by decide +kernel
theorem dX6_wouldClose_51 : decode cX6_wouldClose 51 = .ok (.getfield 25, 3) := by decide +kernel
theorem dX6_wouldClose_54 : decode cX6_wouldClose 54 = .ok (.iload_n 1, 1) := by decide +kernel
theorem dX6_wouldClose_55 : decode cX6_wouldClose 55 = .ok (.invokevirtual 127, 3) := by decide +kernel
theorem dX6_wouldClose_58 : decode cX6_wouldClose 58 = .ok (.ireturn, 1) := by decide +kernel
theorem dX6_overIn_0 : decode cX6_overIn 0 = .ok (.iload_n 1, 1) := by decide +kernel
theorem dX6_overIn_1 : decode cX6_overIn 1 = .ok (.iconst 1, 1) := by decide +kernel
theorem dX6_overIn_2 : decode cX6_overIn 2 = .ok (.bipush 50, 2) := by decide +kernel
theorem dX6_overIn_4 : decode cX6_overIn 4 = .ok (.invokestatic 105, 3) := by decide +kernel
theorem dX6_overIn_7 : decode cX6_overIn 7 = .ok (.ifCond .ne 13, 3) := by decide +kernel
theorem dX6_overIn_10 : decode cX6_overIn 10 = .ok (.new 62, 3) := by decide +kernel
theorem dX6_overIn_13 : decode cX6_overIn 13 = .ok (.dup, 1) := by decide +kernel
theorem dX6_overIn_14 : decode cX6_overIn 14 = .ok (.ldc 130, 2) := by decide +kernel
theorem dX6_overIn_16 : decode cX6_overIn 16 = .ok (.invokespecial 66, 3) := by decide +kernel
theorem dX6_overIn_19 : decode cX6_overIn 19 = .ok (.athrow, 1) := by decide +kernel
theorem dX6_overIn_20 : decode cX6_overIn 20 = .ok (.aload_n 0, 1) := by decide +kernel
theorem dX6_overIn_21 : decode cX6_overIn 21 = .ok (.getfield 25, 3) := by decide +kernel
theorem dX6_overIn_24 : decode cX6_overIn 24 = .ok (.aload_n 0, 1) := by decide +kernel
theorem dX6_overIn_25 : decode cX6_overIn 25 = .ok (.getfield 21, 3) := by decide +kernel
theorem dX6_overIn_28 : decode cX6_overIn 28 = .ok (.invokevirtual 242, 3) := by decide +kernel
theorem dX6_overIn_31 : decode cX6_overIn 31 = .ok (.aload_n 0, 1) := by decide +kernel
theorem dX6_overIn_32 : decode cX6_overIn 32 = .ok (.getfield 25, 3) := by decide +kernel
theorem dX6_overIn_35 : decode cX6_overIn 35 = .ok (.iload_n 1, 1) := by decide +kernel
theorem dX6_overIn_36 : decode cX6_overIn 36 = .ok (.invokevirtual 132, 3) := by decide +kernel
theorem dX6_overIn_39 : decode cX6_overIn 39 = .ok (.pop, 1) := by decide +kernel
theorem dX6_overIn_40 : decode cX6_overIn 40 = .ok (.aload_n 0, 1) := by decide +kernel
theorem dX6_overIn_41 : decode cX6_overIn 41 = .ok (.getfield 25, 3) := by decide +kernel
theorem dX6_overIn_44 : decode cX6_overIn 44 = .ok (.invokevirtual 246, 3) := by decide +kernel
theorem dX6_overIn_47 : decode cX6_overIn 47 = .ok (.ireturn, 1) := by decide +kernel
theorem dX6_left_0 : decode cX6_left 0 = .ok (.aload_n 0, 1) := by decide +kernel
theorem dX6_left_1 : decode cX6_left 1 = .ok (.getfield 21, 3) := by decide +kernel
theorem dX6_left_4 : decode cX6_left 4 = .ok (.iload_n 1, 1) := by decide +kernel
theorem dX6_left_5 : decode cX6_left 5 = .ok (.iconst 0, 1) := by decide +kernel
theorem dX6_left_6 : decode cX6_left 6 = .ok (.invokevirtual 100, 3) := by decide +kernel
theorem dX6_left_9 : decode cX6_left 9 = .ok (.ifCond .ne 13, 3) := by decide +kernel
theorem dX6_left_12 : decode cX6_left 12 = .ok (.new 47, 3) := by decide +kernel
theorem dX6_left_15 : decode cX6_left 15 = .ok (.dup, 1) := by decide +kernel
theorem dX6_left_16 : decode cX6_left 16 = .ok (.ldc 103, 2) := by decide +kernel
theorem dX6_left_18 : decode cX6_left 18 = .ok (.invokespecial 51, 3) := by decide +kernel
theorem dX6_left_21 : decode cX6_left 21 = .ok (.athrow, 1) := by decide +kernel
theorem dX6_left_22 : decode cX6_left 22 = .ok (.aload_n 0, 1) := by decide +kernel
theorem dX6_left_23 : decode cX6_left 23 = .ok (.getfield 21, 3) := by decide +kernel
theorem dX6_left_26 : decode cX6_left 26 = .ok (.iload_n 1, 1) := by decide +kernel
theorem dX6_left_27 : decode cX6_left 27 = .ok (.invokevirtual 110, 3) := by decide +kernel
theorem dX6_left_30 : decode cX6_left 30 = .ok (.invokevirtual 113, 3) := by decide +kernel
theorem dX6_left_33 : decode cX6_left 33 = .ok (.ifCond .eq 5, 3) := by decide +kernel
theorem dX6_left_36 : decode cX6_left 36 = .ok (.iconst 0, 1) := by decide +kernel
theorem dX6_left_37 : decode cX6_left 37 = .ok (.ireturn, 1) := by decide +kernel
theorem dX6_left_38 : decode cX6_left 38 = .ok (.aload_n 0, 1) := by decide +kernel
theorem dX6_left_39 : decode cX6_left 39 = .ok (.getfield 25, 3) := by decide +kernel
theorem dX6_left_42 : decode cX6_left 42 = .ok (.aload_n 0, 1) := by decide +kernel
theorem dX6_left_43 : decode cX6_left 43 = .ok (.getfield 21, 3) := by decide +kernel
theorem dX6_left_46 : decode cX6_left 46 = .ok (.invokevirtual 242, 3) := by decide +kernel
theorem dX6_left_49 : decode cX6_left 49 = .ok (.iconst 0, 1) := by decide +kernel
theorem dX6_left_50 : decode cX6_left 50 = .ok (.istore_n 2, 1) := by decide +kernel
theorem dX6_left_51 : decode cX6_left 51 = .ok (.iload_n 2, 1) := by decide +kernel
theorem dX6_left_52 : decode cX6_left 52 = .ok (.bipush 20, 2) := by decide +kernel
theorem dX6_left_54 : decode cX6_left 54 = .ok (.if_icmp .ge 35, 3) := by decide +kernel
theorem dX6_left_57 : decode cX6_left 57 = .ok (.aload_n 0, 1) := by decide +kernel
theorem dX6_left_58 : decode cX6_left 58 = .ok (.getfield 25, 3) := by decide +kernel
theorem dX6_left_61 : decode cX6_left 61 = .ok (.iload_n 1, 1) := by decide +kernel
theorem dX6_left_62 : decode cX6_left 62 = .ok (.iconst 0, 1) := by decide +kernel
theorem dX6_left_63 : decode cX6_left 63 = .ok (.invokevirtual 118, 3) := by decide +kernel
theorem dX6_left_66 : decode cX6_left 66 = .ok (.pop, 1) := by decide +kernel
theorem dX6_left_67 : decode cX6_left 67 = .ok (.aload_n 0, 1) := by decide +kernel
theorem dX6_left_68 : decode cX6_left 68 = .ok (.getfield 25, 3) := by decide +kernel
theorem dX6_left_71 : decode cX6_left 71 = .ok (.iload_n 1, 1) := by decide +kernel
theorem dX6_left_72 : decode cX6_left 72 = .ok (.invokevirtual 110, 3) := by decide +kernel
theorem dX6_left_75 : decode cX6_left 75 = .ok (.invokevirtual 113, 3) := by decide +kernel
theorem dX6_left_78 : decode cX6_left 78 = .ok (.ifCond .eq 5, 3) := by decide +kernel
theorem dX6_left_81 : decode cX6_left 81 = .ok (.iload_n 2, 1) := by decide +kernel
theorem dX6_left_82 : decode cX6_left 82 = .ok (.ireturn, 1) := by decide +kernel
theorem dX6_left_83 : decode cX6_left 83 = .ok (.iinc 2 1, 3) := by decide +kernel
theorem dX6_left_86 : decode cX6_left 86 = .ok (.goto (-35), 3) := by decide +kernel
theorem dX6_left_89 : decode cX6_left 89 = .ok (.bipush 20, 2) := by decide +kernel
theorem dX6_left_91 : decode cX6_left 91 = .ok (.ireturn, 1) := by decide +kernel
theorem dX6_digest_0 : decode cX6_digest 0 = .ok (.ldc2_w 249, 3) := by decide +kernel
theorem dX6_digest_3 : decode cX6_digest 3 = .ok (.lstore_n 1, 1) := by decide +kernel
theorem dX6_digest_4 : decode cX6_digest 4 = .ok (.iconst 0, 1) := by decide +kernel
theorem dX6_digest_5 : decode cX6_digest 5 = .ok (.istore_n 3, 1) := by decide +kernel
theorem dX6_digest_6 : decode cX6_digest 6 = .ok (.iload_n 3, 1) := by decide +kernel
theorem dX6_digest_7 : decode cX6_digest 7 = .ok (.bipush 11, 2) := by decide +kernel
theorem dX6_digest_9 : decode cX6_digest 9 = .ok (.if_icmp .gt 22, 3) := by decide +kernel
theorem dX6_digest_12 : decode cX6_digest 12 = .ok (.lload_n 1, 1) := by decide +kernel
theorem dX6_digest_13 : decode cX6_digest 13 = .ok (.ldc2_w 251, 3) := by decide +kernel
theorem dX6_digest_16 : decode cX6_digest 16 = .ok (.lmul, 1) := by decide +kernel
theorem dX6_digest_17 : decode cX6_digest 17 = .ok (.aload_n 0, 1) := by decide +kernel
theorem dX6_digest_18 : decode cX6_digest 18 = .ok (.iload_n 3, 1) := by decide +kernel
theorem dX6_digest_19 : decode cX6_digest 19 = .ok (.invokevirtual 253, 3) := by decide +kernel
theorem dX6_digest_22 : decode cX6_digest 22 = .ok (.i2l, 1) := by decide +kernel
theorem dX6_digest_23 : decode cX6_digest 23 = .ok (.ladd, 1) := by decide +kernel
theorem dX6_digest_24 : decode cX6_digest 24 = .ok (.lstore_n 1, 1) := by decide +kernel
theorem dX6_digest_25 : decode cX6_digest 25 = .ok (.iinc 3 1, 3) := by decide +kernel
theorem dX6_digest_28 : decode cX6_digest 28 = .ok (.goto (-22), 3) := by decide +kernel
theorem dX6_digest_31 : decode cX6_digest 31 = .ok (.iconst 0, 1) := by decide +kernel
theorem dX6_digest_32 : decode cX6_digest 32 = .ok (.istore_n 3, 1) := by decide +kernel
theorem dX6_digest_33 : decode cX6_digest 33 = .ok (.iload_n 3, 1) := by decide +kernel
theorem dX6_digest_34 : decode cX6_digest 34 = .ok (.aload_n 0, 1) := by decide +kernel
theorem dX6_digest_35 : decode cX6_digest 35 = .ok (.getfield 10, 3) := by decide +kernel
theorem dX6_digest_38 : decode cX6_digest 38 = .ok (.getfield 28, 3) := by decide +kernel
theorem dX6_digest_41 : decode cX6_digest 41 = .ok (.if_icmp .ge 39, 3) := by decide +kernel
theorem dX6_digest_44 : decode cX6_digest 44 = .ok (.iconst 0, 1) := by decide +kernel
theorem dX6_digest_45 : decode cX6_digest 45 = .ok (.istore 4, 2) := by decide +kernel
theorem dX6_digest_47 : decode cX6_digest 47 = .ok (.iload 4, 2) := by decide +kernel
theorem dX6_digest_49 : decode cX6_digest 49 = .ok (.iconst 2, 1) := by decide +kernel
theorem dX6_digest_50 : decode cX6_digest 50 = .ok (.if_icmp .gt 24, 3) := by decide +kernel
theorem dX6_digest_53 : decode cX6_digest 53 = .ok (.lload_n 1, 1) := by decide +kernel
theorem dX6_digest_54 : decode cX6_digest 54 = .ok (.ldc2_w 251, 3) := by decide +kernel
theorem dX6_digest_57 : decode cX6_digest 57 = .ok (.lmul, 1) := by decide +kernel
theorem dX6_digest_58 : decode cX6_digest 58 = .ok (.aload_n 0, 1) := by decide +kernel
theorem dX6_digest_59 : decode cX6_digest 59 = .ok (.iload_n 3, 1) := by decide +kernel
theorem dX6_digest_60 : decode cX6_digest 60 = .ok (.iload 4, 2) := by decide +kernel
theorem dX6_digest_62 : decode cX6_digest 62 = .ok (.invokevirtual 256, 3) := by decide +kernel
theorem dX6_digest_65 : decode cX6_digest 65 = .ok (.i2l, 1) := by decide +kernel
theorem dX6_digest_66 : decode cX6_digest 66 = .ok (.ladd, 1) := by decide +kernel
theorem dX6_digest_67 : decode cX6_digest 67 = .ok (.lstore_n 1, 1) := by decide +kernel
theorem dX6_digest_68 : decode cX6_digest 68 = .ok (.iinc 4 1, 3) := by decide +kernel
theorem dX6_digest_71 : decode cX6_digest 71 = .ok (.goto (-24), 3) := by decide +kernel
theorem dX6_digest_74 : decode cX6_digest 74 = .ok (.iinc 3 1, 3) := by decide +kernel
theorem dX6_digest_77 : decode cX6_digest 77 = .ok (.goto (-44), 3) := by decide +kernel
theorem dX6_digest_80 : decode cX6_digest 80 = .ok (.iconst 0, 1) := by decide +kernel
theorem dX6_digest_81 : decode cX6_digest 81 = .ok (.istore_n 3, 1) := by decide +kernel
theorem dX6_digest_82 : decode cX6_digest 82 = .ok (.iload_n 3, 1) := by decide +kernel
theorem dX6_digest_83 : decode cX6_digest 83 = .ok (.aload_n 0, 1) := by decide +kernel
theorem dX6_digest_84 : decode cX6_digest 84 = .ok (.getfield 21, 3) := by decide +kernel
theorem dX6_digest_87 : decode cX6_digest 87 = .ok (.getfield 221, 3) := by decide +kernel
theorem dX6_digest_90 : decode cX6_digest 90 = .ok (.if_icmp .ge 194, 3) := by decide +kernel
theorem dX6_digest_93 : decode cX6_digest 93 = .ok (.iconst 0, 1) := by decide +kernel
theorem dX6_digest_94 : decode cX6_digest 94 = .ok (.istore 4, 2) := by decide +kernel
theorem dX6_digest_96 : decode cX6_digest 96 = .ok (.iload 4, 2) := by decide +kernel
theorem dX6_digest_98 : decode cX6_digest 98 = .ok (.bipush 7, 2) := by decide +kernel
theorem dX6_digest_100 : decode cX6_digest 100 = .ok (.if_icmp .gt 24, 3) := by decide +kernel
theorem dX6_digest_103 : decode cX6_digest 103 = .ok (.lload_n 1, 1) := by decide +kernel
theorem dX6_digest_104 : decode cX6_digest 104 = .ok (.ldc2_w 251, 3) := by decide +kernel
theorem dX6_digest_107 : decode cX6_digest 107 = .ok (.lmul, 1) := by decide +kernel
theorem dX6_digest_108 : decode cX6_digest 108 = .ok (.aload_n 0, 1) := by decide +kernel
theorem dX6_digest_109 : decode cX6_digest 109 = .ok (.iload_n 3, 1) := by decide +kernel
theorem dX6_digest_110 : decode cX6_digest 110 = .ok (.iload 4, 2) := by decide +kernel
theorem dX6_digest_112 : decode cX6_digest 112 = .ok (.invokevirtual 259, 3) := by decide +kernel
theorem dX6_digest_115 : decode cX6_digest 115 = .ok (.i2l, 1) := by decide +kernel
theorem dX6_digest_116 : decode cX6_digest 116 = .ok (.ladd, 1) := by decide +kernel
theorem dX6_digest_117 : decode cX6_digest 117 = .ok (.lstore_n 1, 1) := by decide +kernel
theorem dX6_digest_118 : decode cX6_digest 118 = .ok (.iinc 4 1, 3) := by decide +kernel
theorem dX6_digest_121 : decode cX6_digest 121 = .ok (.goto (-25), 3) := by decide +kernel
theorem dX6_digest_124 : decode cX6_digest 124 = .ok (.iconst 0, 1) := by decide +kernel
theorem dX6_digest_125 : decode cX6_digest 125 = .ok (.istore 4, 2) := by decide +kernel
theorem dX6_digest_127 : decode cX6_digest 127 = .ok (.iload 4, 2) := by decide +kernel
theorem dX6_digest_129 : decode cX6_digest 129 = .ok (.iconst 4, 1) := by decide +kernel
theorem dX6_digest_130 : decode cX6_digest 130 = .ok (.if_icmp .ge 24, 3) := by decide +kernel
theorem dX6_digest_133 : decode cX6_digest 133 = .ok (.lload_n 1, 1) := by decide +kernel
theorem dX6_digest_134 : decode cX6_digest 134 = .ok (.ldc2_w 251, 3) := by decide +kernel
theorem dX6_digest_137 : decode cX6_digest 137 = .ok (.lmul, 1) := by decide +kernel
theorem dX6_digest_138 : decode cX6_digest 138 = .ok (.aload_n 0, 1) := by decide +kernel
theorem dX6_digest_139 : decode cX6_digest 139 = .ok (.iload_n 3, 1) := by decide +kernel
theorem dX6_digest_140 : decode cX6_digest 140 = .ok (.iload 4, 2) := by decide +kernel
theorem dX6_digest_142 : decode cX6_digest 142 = .ok (.invokevirtual 262, 3) := by decide +kernel
theorem dX6_digest_145 : decode cX6_digest 145 = .ok (.i2l, 1) := by decide +kernel
theorem dX6_digest_146 : decode cX6_digest 146 = .ok (.ladd, 1) := by decide +kernel
theorem dX6_digest_147 : decode cX6_digest 147 = .ok (.lstore_n 1, 1) := by decide +kernel
theorem dX6_digest_148 : decode cX6_digest 148 = .ok (.iinc 4 1, 3) := by decide +kernel
theorem dX6_digest_151 : decode cX6_digest 151 = .ok (.goto (-24), 3) := by decide +kernel
theorem dX6_digest_154 : decode cX6_digest 154 = .ok (.iconst 0, 1) := by decide +kernel
theorem dX6_digest_155 : decode cX6_digest 155 = .ok (.istore 4, 2) := by decide +kernel
theorem dX6_digest_157 : decode cX6_digest 157 = .ok (.iload 4, 2) := by decide +kernel
theorem dX6_digest_159 : decode cX6_digest 159 = .ok (.aload_n 0, 1) := by decide +kernel
theorem dX6_digest_160 : decode cX6_digest 160 = .ok (.getfield 21, 3) := by decide +kernel
theorem dX6_digest_163 : decode cX6_digest 163 = .ok (.iload_n 3, 1) := by decide +kernel
theorem dX6_digest_164 : decode cX6_digest 164 = .ok (.invokevirtual 110, 3) := by decide +kernel
theorem dX6_digest_167 : decode cX6_digest 167 = .ok (.getfield 165, 3) := by decide +kernel
theorem dX6_digest_170 : decode cX6_digest 170 = .ok (.getfield 169, 3) := by decide +kernel
theorem dX6_digest_173 : decode cX6_digest 173 = .ok (.if_icmp .ge 24, 3) := by decide +kernel
theorem dX6_digest_176 : decode cX6_digest 176 = .ok (.lload_n 1, 1) := by decide +kernel
theorem dX6_digest_177 : decode cX6_digest 177 = .ok (.ldc2_w 251, 3) := by decide +kernel
theorem dX6_digest_180 : decode cX6_digest 180 = .ok (.lmul, 1) := by decide +kernel
theorem dX6_digest_181 : decode cX6_digest 181 = .ok (.aload_n 0, 1) := by decide +kernel
theorem dX6_digest_182 : decode cX6_digest 182 = .ok (.iload_n 3, 1) := by decide +kernel
theorem dX6_digest_183 : decode cX6_digest 183 = .ok (.iload 4, 2) := by decide +kernel
theorem dX6_digest_185 : decode cX6_digest 185 = .ok (.invokevirtual 265, 3) := by decide +kernel
theorem dX6_digest_188 : decode cX6_digest 188 = .ok (.i2l, 1) := by decide +kernel
theorem dX6_digest_189 : decode cX6_digest 189 = .ok (.ladd, 1) := by decide +kernel
theorem dX6_digest_190 : decode cX6_digest 190 = .ok (.lstore_n 1, 1) := by decide +kernel
theorem dX6_digest_191 : decode cX6_digest 191 = .ok (.iinc 4 1, 3) := by decide +kernel
theorem dX6_digest_194 : decode cX6_digest 194 = .ok (.goto (-37), 3) := by decide +kernel
theorem dX6_digest_197 : decode cX6_digest 197 = .ok (.aload_n 0, 1) := by decide +kernel
theorem dX6_digest_198 : decode cX6_digest 198 = .ok (.getfield 21, 3) := by decide +kernel
theorem dX6_digest_201 : decode cX6_digest 201 = .ok (.iload_n 3, 1) := by decide +kernel
theorem dX6_digest_202 : decode cX6_digest 202 = .ok (.iconst 0, 1) := by decide +kernel
theorem dX6_digest_203 : decode cX6_digest 203 = .ok (.invokevirtual 100, 3) := by decide +kernel
theorem dX6_digest_206 : decode cX6_digest 206 = .ok (.ifCond .eq 29, 3) := by decide +kernel
theorem dX6_digest_209 : decode cX6_digest 209 = .ok (.lload_n 1, 1) := by decide +kernel
theorem dX6_digest_210 : decode cX6_digest 210 = .ok (.ldc2_w 251, 3) := by decide +kernel
theorem dX6_digest_213 : decode cX6_digest 213 = .ok (.lmul, 1) := by decide +kernel
theorem dX6_digest_214 : decode cX6_digest 214 = .ok (.aload_n 0, 1) := by decide +kernel
theorem dX6_digest_215 : decode cX6_digest 215 = .ok (.iload_n 3, 1) := by decide +kernel
theorem dX6_digest_216 : decode cX6_digest 216 = .ok (.invokevirtual 267, 3) := by decide +kernel
theorem dX6_digest_219 : decode cX6_digest 219 = .ok (.i2l, 1) := by decide +kernel
theorem dX6_digest_220 : decode cX6_digest 220 = .ok (.ladd, 1) := by decide +kernel
theorem dX6_digest_221 : decode cX6_digest 221 = .ok (.lstore_n 1, 1) := by decide +kernel
theorem dX6_digest_222 : decode cX6_digest 222 = .ok (.lload_n 1, 1) := by decide +kernel
theorem dX6_digest_223 : decode cX6_digest 223 = .ok (.ldc2_w 251, 3) := by decide +kernel
theorem dX6_digest_226 : decode cX6_digest 226 = .ok (.lmul, 1) := by decide +kernel
theorem dX6_digest_227 : decode cX6_digest 227 = .ok (.aload_n 0, 1) := by decide +kernel
theorem dX6_digest_228 : decode cX6_digest 228 = .ok (.iload_n 3, 1) := by decide +kernel
theorem dX6_digest_229 : decode cX6_digest 229 = .ok (.invokevirtual 270, 3) := by decide +kernel
theorem dX6_digest_232 : decode cX6_digest 232 = .ok (.i2l, 1) := by decide +kernel
theorem dX6_digest_233 : decode cX6_digest 233 = .ok (.ladd, 1) := by decide +kernel
theorem dX6_digest_234 : decode cX6_digest 234 = .ok (.lstore_n 1, 1) := by decide +kernel
theorem dX6_digest_235 : decode cX6_digest 235 = .ok (.aload_n 0, 1) := by decide +kernel
theorem dX6_digest_236 : decode cX6_digest 236 = .ok (.getfield 21, 3) := by decide +kernel
theorem dX6_digest_239 : decode cX6_digest 239 = .ok (.iload_n 3, 1) := by decide +kernel
theorem dX6_digest_240 : decode cX6_digest 240 = .ok (.iconst 1, 1) := by decide +kernel
theorem dX6_digest_241 : decode cX6_digest 241 = .ok (.invokevirtual 100, 3) := by decide +kernel
theorem dX6_digest_244 : decode cX6_digest 244 = .ok (.ifCond .eq 34, 3) := by decide +kernel
theorem dX6_digest_247 : decode cX6_digest 247 = .ok (.iconst 0, 1) := by decide +kernel
theorem dX6_digest_248 : decode cX6_digest 248 = .ok (.istore 4, 2) := by decide +kernel
theorem dX6_digest_250 : decode cX6_digest 250 = .ok (.iload 4, 2) := by decide +kernel
theorem dX6_digest_252 : decode cX6_digest 252 = .ok (.bipush 6, 2) := by decide +kernel
theorem dX6_digest_254 : decode cX6_digest 254 = .ok (.if_icmp .gt 24, 3) := by decide +kernel
theorem dX6_digest_257 : decode cX6_digest 257 = .ok (.lload_n 1, 1) := by decide +kernel
theorem dX6_digest_258 : decode cX6_digest 258 = .ok (.ldc2_w 251, 3) := by decide +kernel
theorem dX6_digest_261 : decode cX6_digest 261 = .ok (.lmul, 1) := by decide +kernel
theorem dX6_digest_262 : decode cX6_digest 262 = .ok (.aload_n 0, 1) := by decide +kernel
theorem dX6_digest_263 : decode cX6_digest 263 = .ok (.iload_n 3, 1) := by decide +kernel
theorem dX6_digest_264 : decode cX6_digest 264 = .ok (.iload 4, 2) := by decide +kernel
theorem dX6_digest_266 : decode cX6_digest 266 = .ok (.invokevirtual 273, 3) := by decide +kernel
theorem dX6_digest_269 : decode cX6_digest 269 = .ok (.i2l, 1) := by decide +kernel
theorem dX6_digest_270 : decode cX6_digest 270 = .ok (.ladd, 1) := by decide +kernel
theorem dX6_digest_271 : decode cX6_digest 271 = .ok (.lstore_n 1, 1) := by decide +kernel
theorem dX6_digest_272 : decode cX6_digest 272 = .ok (.iinc 4 1, 3) := by decide +kernel
theorem dX6_digest_275 : decode cX6_digest 275 = .ok (.goto (-25), 3) := by decide +kernel
theorem dX6_digest_278 : decode cX6_digest 278 = .ok (.iinc 3 1, 3) := by decide +kernel
theorem dX6_digest_281 : decode cX6_digest 281 = .ok (.goto (-199), 3) := by decide +kernel
theorem dX6_digest_284 : decode cX6_digest 284 = .ok (.lload_n 1, 1) := by decide +kernel
theorem dX6_digest_285 : decode cX6_digest 285 = .ok (.ldc2_w 251, 3) := by decide +kernel
theorem dX6_digest_288 : decode cX6_digest 288 = .ok (.lmul, 1) := by decide +kernel
theorem dX6_digest_289 : decode cX6_digest 289 = .ok (.aload_n 0, 1) := by decide +kernel
theorem dX6_digest_290 : decode cX6_digest 290 = .ok (.bipush 20, 2) := by decide +kernel
theorem dX6_digest_292 : decode cX6_digest 292 = .ok (.invokevirtual 276, 3) := by decide +kernel
theorem dX6_digest_295 : decode cX6_digest 295 = .ok (.i2l, 1) := by decide +kernel
theorem dX6_digest_296 : decode cX6_digest 296 = .ok (.ladd, 1) := by decide +kernel
theorem dX6_digest_297 : decode cX6_digest 297 = .ok (.lreturn, 1) := by decide +kernel
theorem dX6_within_0 : decode cX6_within 0 = .ok (.iload_n 0, 1) := by decide +kernel
theorem dX6_within_1 : decode cX6_within 1 = .ok (.iload_n 1, 1) := by decide +kernel
theorem dX6_within_2 : decode cX6_within 2 = .ok (.if_icmp .lt 12, 3) := by decide +kernel
theorem dX6_within_5 : decode cX6_within 5 = .ok (.iload_n 0, 1) := by decide +kernel
theorem dX6_within_6 : decode cX6_within 6 = .ok (.iload_n 2, 1) := by decide +kernel
theorem dX6_within_7 : decode cX6_within 7 = .ok (.if_icmp .gt 7, 3) := by decide +kernel
theorem dX6_within_10 : decode cX6_within 10 = .ok (.iconst 1, 1) := by decide +kernel
theorem dX6_within_11 : decode cX6_within 11 = .ok (.goto 4, 3) := by decide +kernel
theorem dX6_within_14 : decode cX6_within 14 = .ok (.iconst 0, 1) := by decide +kernel
theorem dX6_within_15 : decode cX6_within 15 = .ok (.ireturn, 1) := by decide +kernel
