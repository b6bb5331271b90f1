theorem dX4_copyFrom_0 : decode cX4_copyFrom 0 = .ok (.aload_n 1, 1) := by decide +kernel
theorem dX4_copyFrom_1 : decode cX4_copyFrom 1 = .ok (.getfield 9, 3) := by decide +kernel
theorem dX4_copyFrom_4 : decode cX4_copyFrom 4 = .ok (.iconst 0, 1) := by decide +kernel
theorem dX4_copyFrom_5 : decode cX4_copyFrom 5 = .ok (.aload_n 0, 1) := by decide +kernel
theorem dX4_copyFrom_6 : decode cX4_copyFrom 6 = .ok (.getfield 9, 3) := by decide +kernel
theorem dX4_copyFrom_9 : decode cX4_copyFrom 9 = .ok (.iconst 0, 1) := by decide +kernel
theorem dX4_copyFrom_10 : decode cX4_copyFrom 10 = .ok (.bipush 24, 2) := by decide +kernel
theorem dX4_copyFrom_12 : decode cX4_copyFrom 12 = .ok (.invokestatic 23, 3) := by decide +kernel
theorem dX4_copyFrom_15 : decode cX4_copyFrom 15 = .ok (.aload_n 0, 1) := by decide +kernel
theorem dX4_copyFrom_16 : decode cX4_copyFrom 16 = .ok (.aload_n 1, 1) := by decide +kernel
theorem dX4_copyFrom_17 : decode cX4_copyFrom 17 = .ok (.getfield 15, 3) := by decide +kernel
theorem dX4_copyFrom_20 : decode cX4_copyFrom 20 = .ok (.putfield 15, 3) := by decide +kernel
theorem dX4_copyFrom_23 : decode cX4_copyFrom 23 = .ok (.return_, 1) := by decide +kernel
theorem dX5_init_0 : decode cX5_init 0 = .ok (.aload_n 0, 1) := by decide +kernel
theorem dX5_init_1 : decode cX5_init 1 = .ok (.invokespecial 3, 3) := by decide +kernel
theorem dX5_init_4 : decode cX5_init 4 = .ok (.aload_n 0, 1) := by decide +kernel
theorem dX5_init_5 : decode cX5_init 5 = .ok (.bipush 6, 2) := by decide +kernel
theorem dX5_init_7 : decode cX5_init 7 = .ok (.newarray .int, 2) := by decide +kernel
theorem dX5_init_9 : decode cX5_init 9 = .ok (.putfield 9, 3) := by decide +kernel
theorem dX5_init_12 : decode cX5_init 12 = .ok (.aload_n 0, 1) := by decide +kernel
theorem dX5_init_13 : decode cX5_init 13 = .ok (.bipush 6, 2) := by decide +kernel
theorem dX5_init_15 : decode cX5_init 15 = .ok (.newarray .int, 2) := by decide +kernel
theorem dX5_init_17 : decode cX5_init 17 = .ok (.putfield 15, 3) := by decide +kernel
theorem dX5_init_20 : decode cX5_init 20 = .ok (.return_, 1) := by decide +kernel
theorem dX5_has_0 : decode cX5_has 0 = .ok (.iload_n 1, 1) := by decide +kernel
theorem dX5_has_1 : decode cX5_has 1 = .ok (.ifCond .lt 15, 3) := by decide +kernel
theorem dX5_has_4 : decode cX5_has 4 = .ok (.iload_n 1, 1) := by decide +kernel
theorem dX5_has_5 : decode cX5_has 5 = .ok (.aload_n 0, 1) := by decide +kernel
theorem dX5_has_6 : decode cX5_has 6 = .ok (.getfield 18, 3) := by decide +kernel
theorem dX5_has_9 : decode cX5_has 9 = .ok (.if_icmp .ge 7, 3) := by decide +kernel
theorem dX5_has_12 : decode cX5_has 12 = .ok (.iconst 1, 1) := by decide +kernel
theorem dX5_has_13 : decode cX5_has 13 = .ok (.goto 4, 3) := by decide +kernel
theorem dX5_has_16 : decode cX5_has 16 = .ok (.iconst 0, 1) := by decide +kernel
theorem dX5_has_17 : decode cX5_has 17 = .ok (.ireturn, 1) := by decide +kernel
theorem dX5_isFull_0 : decode cX5_isFull 0 = .ok (.aload_n 0, 1) := by decide +kernel
theorem dX5_isFull_1 : decode cX5_isFull 1 = .ok (.getfield 18, 3) := by decide +kernel
theorem dX5_isFull_4 : decode cX5_isFull 4 = .ok (.bipush 6, 2) := by decide +kernel
theorem dX5_isFull_6 : decode cX5_isFull 6 = .ok (.if_icmp .lt 7, 3) := by decide +kernel
theorem dX5_isFull_9 : decode cX5_isFull 9 = .ok (.iconst 1, 1) := by decide +kernel
theorem dX5_isFull_10 : decode cX5_isFull 10 = .ok (.goto 4, 3) := by decide +kernel
theorem dX5_isFull_13 : decode cX5_isFull 13 = .ok (.iconst 0, 1) := by decide +kernel
theorem dX5_isFull_14 : decode cX5_isFull 14 = .ok (.ireturn, 1) := by decide +kernel
theorem dX5_signAt_0 : decode cX5_signAt 0 = .ok (.aload_n 0, 1) := by decide +kernel
theorem dX5_signAt_1 : decode cX5_signAt 1 = .ok (.iload_n 1, 1) := by decide +kernel
theorem dX5_signAt_2 : decode cX5_signAt 2 = .ok (.invokevirtual 22, 3) := by decide +kernel
theorem dX5_signAt_5 : decode cX5_signAt 5 = .ok (.ifCond .eq 12, 3) := by decide +kernel
theorem dX5_signAt_8 : decode cX5_signAt 8 = .ok (.aload_n 0, 1) := by decide +kernel
theorem dX5_signAt_9 : decode cX5_signAt 9 = .ok (.getfield 9, 3) := by decide +kernel
theorem dX5_signAt_12 : decode cX5_signAt 12 = .ok (.iload_n 1, 1) := by decide +kernel
theorem dX5_signAt_13 : decode cX5_signAt 13 = .ok (.iaload, 1) := by decide +kernel
theorem dX5_signAt_14 : decode cX5_signAt 14 = .ok (.goto 4, 3) := by decide +kernel
theorem dX5_signAt_17 : decode cX5_signAt 17 = .ok (.iconst 0, 1) := by decide +kernel
theorem dX5_signAt_18 : decode cX5_signAt 18 = .ok (.ireturn, 1) := by decide +kernel
theorem dX5_lastSign_0 : decode cX5_lastSign 0 = .ok (.aload_n 0, 1) := by decide +kernel
theorem dX5_lastSign_1 : decode cX5_lastSign 1 = .ok (.getfield 18, 3) := by decide +kernel
theorem dX5_lastSign_4 : decode cX5_lastSign 4 = .ok (.ifCond .le 26, 3) := by decide +kernel
theorem dX5_lastSign_7 : decode cX5_lastSign 7 = .ok (.aload_n 0, 1) := by decide +kernel
theorem dX5_lastSign_8 : decode cX5_lastSign 8 = .ok (.getfield 18, 3) := by decide +kernel
theorem dX5_lastSign_11 : decode cX5_lastSign 11 = .ok (.bipush 6, 2) := by decide +kernel
theorem dX5_lastSign_13 : decode cX5_lastSign 13 = .ok (.if_icmp .gt 17, 3) := by decide +kernel
theorem dX5_lastSign_16 : decode cX5_lastSign 16 = .ok (.aload_n 0, 1) := by decide +kernel
theorem dX5_lastSign_17 : decode cX5_lastSign 17 = .ok (.getfield 9, 3) := by decide +kernel
theorem dX5_lastSign_20 : decode cX5_lastSign 20 = .ok (.aload_n 0, 1) := by decide +kernel
theorem dX5_lastSign_21 : decode cX5_lastSign 21 = .ok (.getfield 18, 3) := by decide +kernel
theorem dX5_lastSign_24 : decode cX5_lastSign 24 = .ok (.iconst 1, 1) := by decide +kernel
theorem dX5_lastSign_25 : decode cX5_lastSign 25 = .ok (.isub, 1) := by decide +kernel
theorem dX5_lastSign_26 : decode cX5_lastSign 26 = .ok (.iaload, 1) := by decide +kernel
theorem dX5_lastSign_27 : decode cX5_lastSign 27 = .ok (.goto 4, 3) := by decide +kernel
theorem dX5_lastSign_30 : decode cX5_lastSign 30 = .ok (.iconst 0, 1) := by decide +kernel
theorem dX5_lastSign_31 : decode cX5_lastSign 31 = .ok (.ireturn, 1) := by decide +kernel
theorem dX5_lastMark_0 : decode cX5_lastMark 0 = .ok (.aload_n 0, 1) := by decide +kernel
theorem dX5_lastMark_1 : decode cX5_lastMark 1 = .ok (.getfield 18, 3) := by decide +kernel
theorem dX5_lastMark_4 : decode cX5_lastMark 4 = .ok (.ifCond .le 26, 3) := by decide +kernel
theorem dX5_lastMark_7 : decode cX5_lastMark 7 = .ok (.aload_n 0, 1) := by decide +kernel
theorem dX5_lastMark_8 : decode cX5_lastMark 8 = .ok (.getfield 18, 3) := by decide +kernel
theorem dX5_lastMark_11 : decode cX5_lastMark 11 = .ok (.bipush 6, 2) := by decide +kernel
theorem dX5_lastMark_13 : decode cX5_lastMark 13 = .ok (.if_icmp .gt 17, 3) := by decide +kernel
theorem dX5_lastMark_16 : decode cX5_lastMark 16 = .ok (.aload_n 0, 1) := by decide +kernel
theorem dX5_lastMark_17 : decode cX5_lastMark 17 = .ok (.getfield 15, 3) := by decide +kernel
theorem dX5_lastMark_20 : decode cX5_lastMark 20 = .ok (.aload_n 0, 1) := by decide +kernel
theorem dX5_lastMark_21 : decode cX5_lastMark 21 = .ok (.getfield 18, 3) := by decide +kernel
theorem dX5_lastMark_24 : decode cX5_lastMark 24 = .ok (.iconst 1, 1) := by decide +kernel
theorem dX5_lastMark_25 : decode cX5_lastMark 25 = .ok (.isub, 1) := by decide +kernel
theorem dX5_lastMark_26 : decode cX5_lastMark 26 = .ok (.iaload, 1) := by decide +kernel
theorem dX5_lastMark_27 : decode cX5_lastMark 27 = .ok (.goto 4, 3) := by decide +kernel
theorem dX5_lastMark_30 : decode cX5_lastMark 30 = .ok (.iconst 0, 1) := by decide +kernel
theorem dX5_lastMark_31 : decode cX5_lastMark 31 = .ok (.ireturn, 1) := by decide +kernel
theorem dX5_put_0 : decode cX5_put 0 = .ok (.aload_n 0, 1) := by decide +kernel
theorem dX5_put_1 : decode cX5_put 1 = .ok (.getfield 18, 3) := by decide +kernel
theorem dX5_put_4 : decode cX5_put 4 = .ok (.ifCond .lt 42, 3) := by decide +kernel
theorem dX5_put_7 : decode cX5_put 7 = .ok (.aload_n 0, 1) := by decide +kernel
theorem dX5_put_8 : decode cX5_put 8 = .ok (.getfield 18, 3) := by decide +kernel
theorem dX5_put_11 : decode cX5_put 11 = .ok (.bipush 6, 2) := by decide +kernel
theorem dX5_put_13 : decode cX5_put 13 = .ok (.if_icmp .ge 33, 3) := by decide +kernel
theorem dX5_put_16 : decode cX5_put 16 = .ok (.aload_n 0, 1) := by decide +kernel
theorem dX5_put_17 : decode cX5_put 17 = .ok (.getfield 9, 3) := by decide +kernel
theorem dX5_put_20 : decode cX5_put 20 = .ok (.aload_n 0, 1) := by decide +kernel
theorem dX5_put_21 : decode cX5_put 21 = .ok (.getfield 18, 3) := by decide +kernel
theorem dX5_put_24 : decode cX5_put 24 = .ok (.iload_n 1, 1) := by decide +kernel
theorem dX5_put_25 : decode cX5_put 25 = .ok (.iastore, 1) := by decide +kernel
theorem dX5_put_26 : decode cX5_put 26 = .ok (.aload_n 0, 1) := by decide +kernel
theorem dX5_put_27 : decode cX5_put 27 = .ok (.getfield 15, 3) := by decide +kernel
theorem dX5_put_30 : decode cX5_put 30 = .ok (.aload_n 0, 1) := by decide +kernel
theorem dX5_put_31 : decode cX5_put 31 = .ok (.getfield 18, 3) := by decide +kernel
theorem dX5_put_34 : decode cX5_put 34 = .ok (.iload_n 2, 1) := by decide +kernel
theorem dX5_put_35 : decode cX5_put 35 = .ok (.iastore, 1) := by decide +kernel
theorem dX5_put_36 : decode cX5_put 36 = .ok (.aload_n 0, 1) := by decide +kernel
theorem dX5_put_37 : decode cX5_put 37 = .ok (.dup, 1) := by decide +kernel
theorem dX5_put_38 : decode cX5_put 38 = .ok (.getfield 18, 3) := by decide +kernel
theorem dX5_put_41 : decode cX5_put 41 = .ok (.iconst 1, 1) := by decide +kernel
theorem dX5_put_42 : decode cX5_put 42 = .ok (.iadd, 1) := by decide +kernel
theorem dX5_put_43 : decode cX5_put 43 = .ok (.putfield 18, 3) := by decide +kernel
theorem dX5_put_46 : decode cX5_put 46 = .ok (.return_, 1) := by decide +kernel
theorem dX5_takeOff_0 : decode cX5_takeOff 0 = .ok (.aload_n 0, 1) := by decide +kernel
theorem dX5_takeOff_1 : decode cX5_takeOff 1 = .ok (.getfield 18, 3) := by decide +kernel
theorem dX5_takeOff_4 : decode cX5_takeOff 4 = .ok (.ifCond .le 13, 3) := by decide +kernel
theorem dX5_takeOff_7 : decode cX5_takeOff 7 = .ok (.aload_n 0, 1) := by decide +kernel
theorem dX5_takeOff_8 : decode cX5_takeOff 8 = .ok (.dup, 1) := by decide +kernel
theorem dX5_takeOff_9 : decode cX5_takeOff 9 = .ok (.getfield 18, 3) := by decide +kernel
theorem dX5_takeOff_12 : decode cX5_takeOff 12 = .ok (.iconst 1, 1) := by decide +kernel
theorem dX5_takeOff_13 : decode cX5_takeOff 13 = .ok (.isub, 1) := by decide +kernel
theorem dX5_takeOff_14 : decode cX5_takeOff 14 = .ok (.putfield 18, 3) := by decide +kernel
theorem dX5_takeOff_17 : decode cX5_takeOff 17 = .ok (.return_, 1) := by decide +kernel
theorem dX5_copyFrom_0 : decode cX5_copyFrom 0 = .ok (.aload_n 1, 1) := by decide +kernel
theorem dX5_copyFrom_1 : decode cX5_copyFrom 1 = .ok (.getfield 9, 3) := by decide +kernel
theorem dX5_copyFrom_4 : decode cX5_copyFrom 4 = .ok (.iconst 0, 1) := by decide +kernel
theorem dX5_copyFrom_5 : decode cX5_copyFrom 5 = .ok (.aload_n 0, 1) := by decide +kernel
theorem dX5_copyFrom_6 : decode cX5_copyFrom 6 = .ok (.getfield 9, 3) := by decide +kernel
theorem dX5_copyFrom_9 : decode cX5_copyFrom 9 = .ok (.iconst 0, 1) := by decide +kernel
theorem dX5_copyFrom_10 : decode cX5_copyFrom 10 = .ok (.bipush 6, 2) := by decide +kernel
theorem dX5_copyFrom_12 : decode cX5_copyFrom 12 = .ok (.invokestatic 26, 3) := by decide +kernel
theorem dX5_copyFrom_15 : decode cX5_copyFrom 15 = .ok (.aload_n 1, 1) := by decide +kernel
theorem dX5_copyFrom_16 : decode cX5_copyFrom 16 = .ok (.getfield 15, 3) := by decide +kernel
theorem dX5_copyFrom_19 : decode cX5_copyFrom 19 = .ok (.iconst 0, 1) := by decide +kernel
theorem dX5_copyFrom_20 : decode cX5_copyFrom 20 = .ok (.aload_n 0, 1) := by decide +kernel
theorem dX5_copyFrom_21 : decode cX5_copyFrom 21 = .ok (.getfield 15, 3) := by decide +kernel
theorem dX5_copyFrom_24 : decode cX5_copyFrom 24 = .ok (.iconst 0, 1) := by decide +kernel
theorem dX5_copyFrom_25 : decode cX5_copyFrom 25 = .ok (.bipush 6, 2) := by decide +kernel
theorem dX5_copyFrom_27 : decode cX5_copyFrom 27 = .ok (.invokestatic 26, 3) := by decide +kernel
theorem dX5_copyFrom_30 : decode cX5_copyFrom 30 = .ok (.aload_n 0, 1) := by decide +kernel
theorem dX5_copyFrom_31 : decode cX5_copyFrom 31 = .ok (.aload_n 1, 1) := by decide +kernel
theorem dX5_copyFrom_32 : decode cX5_copyFrom 32 = .ok (.getfield 18, 3) := by decide +kernel
theorem dX5_copyFrom_35 : decode cX5_copyFrom 35 = .ok (.putfield 18, 3) := by decide +kernel
theorem dX5_copyFrom_38 : decode cX5_copyFrom 38 = .ok (.return_, 1) := by decide +kernel
theorem dX6_init_0 : decode cX6_init 0 = .ok (.aload_n 0, 1) := by decide +kernel
theorem dX6_init_1 : decode cX6_init 1 = .ok (.invokespecial 1, 3) := by decide +kernel
theorem dX6_init_4 : decode cX6_init 4 = .ok (.aload_n 0, 1) := by decide +kernel
theorem dX6_init_5 : decode cX6_init 5 = .ok (.new 7, 3) := by decide +kernel
theorem dX6_init_8 : decode cX6_init 8 = .ok (.dup, 1) := by decide +kernel
theorem dX6_init_9 : decode cX6_init 9 = .ok (.invokespecial 9, 3) := by decide +kernel
theorem dX6_init_12 : decode cX6_init 12 = .ok (.putfield 10, 3) := by decide +kernel
theorem dX6_init_15 : decode cX6_init 15 = .ok (.aload_n 0, 1) := by decide +kernel
theorem dX6_init_16 : decode cX6_init 16 = .ok (.new 16, 3) := by decide +kernel
theorem dX6_init_19 : decode cX6_init 19 = .ok (.dup, 1) := by decide +kernel
theorem dX6_init_20 : decode cX6_init 20 = .ok (.aload_n 0, 1) := by decide +kernel
theorem dX6_init_21 : decode cX6_init 21 = .ok (.getfield 10, 3) := by decide +kernel
theorem dX6_init_24 : decode cX6_init 24 = .ok (.invokespecial 18, 3) := by decide +kernel
theorem dX6_init_27 : decode cX6_init 27 = .ok (.putfield 21, 3) := by decide +kernel
theorem dX6_init_30 : decode cX6_init 30 = .ok (.aload_n 0, 1) := by decide +kernel
theorem dX6_init_31 : decode cX6_init 31 = .ok (.new 16, 3) := by decide +kernel
theorem dX6_init_34 : decode cX6_init 34 = .ok (.dup, 1) := by decide +kernel
theorem dX6_init_35 : decode cX6_init 35 = .ok (.aload_n 0, 1) := by decide +kernel
theorem dX6_init_36 : decode cX6_init 36 = .ok (.getfield 10, 3) := by decide +kernel
theorem dX6_init_39 : decode cX6_init 39 = .ok (.invokespecial 18, 3) := by decide +kernel
theorem dX6_init_42 : decode cX6_init 42 = .ok (.putfield 25, 3) := by decide +kernel
theorem dX6_init_45 : decode cX6_init 45 = .ok (.return_, 1) := by decide +kernel
theorem dX6_body_0 : decode cX6_body 0 = .ok (.aload_n 0, 1) := by decide +kernel
theorem dX6_body_1 : decode cX6_body 1 = .ok (.getfield 10, 3) := by decide +kernel
theorem dX6_body_4 : decode cX6_body 4 = .ok (.getfield 28, 3) := by decide +kernel
theorem dX6_body_7 : decode cX6_body 7 = .ok (.bipush 8, 2) := by decide +kernel
theorem dX6_body_9 : decode cX6_body 9 = .ok (.if_icmp .lt 13, 3) := by decide +kernel
theorem dX6_body_12 : decode cX6_body 12 = .ok (.new 32, 3) := by decide +kernel
theorem dX6_body_15 : decode cX6_body 15 = .ok (.dup, 1) := by decide +kernel
theorem dX6_body_16 : decode cX6_body 16 = .ok (.ldc 34, 2) := by decide +kernel
theorem dX6_body_18 : decode cX6_body 18 = .ok (.invokespecial 36, 3) := by decide +kernel
theorem dX6_body_21 : decode cX6_body 21 = .ok (.athrow, 1) := by decide +kernel
theorem dX6_body_22 : decode cX6_body 22 = .ok (.aload_n 0, 1) := by decide +kernel
theorem dX6_body_23 : decode cX6_body 23 = .ok (.getfield 10, 3) := by decide +kernel
theorem dX6_body_26 : decode cX6_body 26 = .ok (.invokevirtual 39, 3) := by decide +kernel
theorem dX6_body_29 : decode cX6_body 29 = .ok (.ireturn, 1) := by decide +kernel
theorem dX6_line_0 : decode cX6_line 0 = .ok (.aload_n 0, 1) := by decide +kernel
theorem dX6_line_1 : decode cX6_line 1 = .ok (.getfield 10, 3) := by decide +kernel
theorem dX6_line_4 : decode cX6_line 4 = .ok (.iload_n 1, 1) := by decide +kernel
theorem dX6_line_5 : decode cX6_line 5 = .ok (.invokevirtual 43, 3) := by decide +kernel
theorem dX6_line_8 : decode cX6_line 8 = .ok (.ifCond .ne 13, 3) := by decide +kernel
theorem dX6_line_11 : decode cX6_line 11 = .ok (.new 47, 3) := by decide +kernel
theorem dX6_line_14 : decode cX6_line 14 = .ok (.dup, 1) := by decide +kernel
theorem dX6_line_15 : decode cX6_line 15 = .ok (.ldc 49, 2) := by decide +kernel
theorem dX6_line_17 : decode cX6_line 17 = .ok (.invokespecial 51, 3) := by decide +kernel
theorem dX6_line_20 : decode cX6_line 20 = .ok (.athrow, 1) := by decide +kernel
theorem dX6_line_21 : decode cX6_line 21 = .ok (.aload_n 0, 1) := by decide +kernel
theorem dX6_line_22 : decode cX6_line 22 = .ok (.getfield 10, 3) := by decide +kernel
theorem dX6_line_25 : decode cX6_line 25 = .ok (.iload_n 1, 1) := by decide +kernel
theorem dX6_line_26 : decode cX6_line 26 = .ok (.invokevirtual 52, 3) := by decide +kernel
theorem dX6_line_29 : decode cX6_line 29 = .ok (.astore 5, 2) := by decide +kernel
theorem dX6_line_31 : decode cX6_line 31 = .ok (.aload 5, 2) := by decide +kernel
theorem dX6_line_33 : decode cX6_line 33 = .ok (.iload_n 2, 1) := by decide +kernel
theorem dX6_line_34 : decode cX6_line 34 = .ok (.iload_n 3, 1) := by decide +kernel
theorem dX6_line_35 : decode cX6_line 35 = .ok (.iload 4, 2) := by decide +kernel
theorem dX6_line_37 : decode cX6_line 37 = .ok (.invokevirtual 56, 3) := by decide +kernel
theorem dX6_line_40 : decode cX6_line 40 = .ok (.ifCond .ne 13, 3) := by decide +kernel
theorem dX6_line_43 : decode cX6_line 43 = .ok (.new 62, 3) := by decide +kernel
theorem dX6_line_46 : decode cX6_line 46 = .ok (.dup, 1) := by decide +kernel
theorem dX6_line_47 : decode cX6_line 47 = .ok (.ldc 64, 2) := by decide +kernel
theorem dX6_line_49 : decode cX6_line 49 = .ok (.invokespecial 66, 3) := by decide +kernel
theorem dX6_line_52 : decode cX6_line 52 = .ok (.athrow, 1) := by decide +kernel
theorem dX6_line_53 : decode cX6_line 53 = .ok (.aload 5, 2) := by decide +kernel
theorem dX6_line_55 : decode cX6_line 55 = .ok (.getfield 67, 3) := by decide +kernel
theorem dX6_line_58 : decode cX6_line 58 = .ok (.bipush 12, 2) := by decide +kernel
theorem dX6_line_60 : decode cX6_line 60 = .ok (.if_icmp .ge 14, 3) := by decide +kernel
theorem dX6_line_63 : decode cX6_line 63 = .ok (.aload_n 0, 1) := by decide +kernel
theorem dX6_line_64 : decode cX6_line 64 = .ok (.getfield 21, 3) := by decide +kernel
theorem dX6_line_67 : decode cX6_line 67 = .ok (.iload_n 1, 1) := by decide +kernel
theorem dX6_line_68 : decode cX6_line 68 = .ok (.invokevirtual 70, 3) := by decide +kernel
theorem dX6_line_71 : decode cX6_line 71 = .ok (.ifCond .le 13, 3) := by decide +kernel
theorem dX6_line_74 : decode cX6_line 74 = .ok (.new 32, 3) := by decide +kernel
theorem dX6_line_77 : decode cX6_line 77 = .ok (.dup, 1) := by decide +kernel
theorem dX6_line_78 : decode cX6_line 78 = .ok (.ldc 74, 2) := by decide +kernel
theorem dX6_line_80 : decode cX6_line 80 = .ok (.invokespecial 36, 3) := by decide +kernel
theorem dX6_line_83 : decode cX6_line 83 = .ok (.athrow, 1) := by decide +kernel
theorem dX6_line_84 : decode cX6_line 84 = .ok (.aload 5, 2) := by decide +kernel
theorem dX6_line_86 : decode cX6_line 86 = .ok (.iload_n 2, 1) := by decide +kernel
theorem dX6_line_87 : decode cX6_line 87 = .ok (.iload_n 3, 1) := by decide +kernel
theorem dX6_line_88 : decode cX6_line 88 = .ok (.iload 4, 2) := by decide +kernel
theorem dX6_line_90 : decode cX6_line 90 = .ok (.invokevirtual 76, 3) := by decide +kernel
theorem dX6_line_93 : decode cX6_line 93 = .ok (.ireturn, 1) := by decide +kernel
theorem dX6_ofBody_0 : decode cX6_ofBody 0 = .ok (.aload_n 0, 1) := by decide +kernel
theorem dX6_ofBody_1 : decode cX6_ofBody 1 = .ok (.getfield 10, 3) := by decide +kernel
theorem dX6_ofBody_4 : decode cX6_ofBody 4 = .ok (.iload_n 1, 1) := by decide +kernel
theorem dX6_ofBody_5 : decode cX6_ofBody 5 = .ok (.invokevirtual 43, 3) := by decide +kernel
theorem dX6_ofBody_8 : decode cX6_ofBody 8 = .ok (.ifCond .ne 13, 3) := by decide +kernel
theorem dX6_ofBody_11 : decode cX6_ofBody 11 = .ok (.new 47, 3) := by decide +kernel
theorem dX6_ofBody_14 : decode cX6_ofBody 14 = .ok (.dup, 1) := by decide +kernel
theorem dX6_ofBody_15 : decode cX6_ofBody 15 = .ok (.ldc 49, 2) := by decide +kernel
theorem dX6_ofBody_17 : decode cX6_ofBody 17 = .ok (.invokespecial 51, 3) := by decide +kernel
theorem dX6_ofBody_20 : decode cX6_ofBody 20 = .ok (.athrow, 1) := by decide +kernel
theorem dX6_ofBody_21 : decode cX6_ofBody 21 = .ok (.iload_n 2, 1) := by decide +kernel
theorem dX6_ofBody_22 : decode cX6_ofBody 22 = .ok (.tableswitch 59 0 2 #[26, 38, 47], 26) := by decide +kernel
theorem dX6_ofBody_48 : decode cX6_ofBody 48 = .ok (.aload_n 0, 1) := by decide +kernel
theorem dX6_ofBody_49 : decode cX6_ofBody 49 = .ok (.getfield 10, 3) := by decide +kernel
theorem dX6_ofBody_52 : decode cX6_ofBody 52 = .ok (.iload_n 1, 1) := by decide +kernel
theorem dX6_ofBody_53 : decode cX6_ofBody 53 = .ok (.invokevirtual 52, 3) := by decide +kernel
theorem dX6_ofBody_56 : decode cX6_ofBody 56 = .ok (.getfield 67, 3) := by decide +kernel
theorem dX6_ofBody_59 : decode cX6_ofBody 59 = .ok (.ireturn, 1) := by decide +kernel
theorem dX6_ofBody_60 : decode cX6_ofBody 60 = .ok (.aload_n 0, 1) := by decide +kernel
theorem dX6_ofBody_61 : decode cX6_ofBody 61 = .ok (.getfield 21, 3) := by decide +kernel
theorem dX6_ofBody_64 : decode cX6_ofBody 64 = .ok (.iload_n 1, 1) := by decide +kernel
theorem dX6_ofBody_65 : decode cX6_ofBody 65 = .ok (.invokevirtual 70, 3) := by decide +kernel
theorem dX6_ofBody_68 : decode cX6_ofBody 68 = .ok (.ireturn, 1) := by decide +kernel
theorem dX6_ofBody_69 : decode cX6_ofBody 69 = .ok (.aload_n 0, 1) := by decide +kernel
theorem dX6_ofBody_70 : decode cX6_ofBody 70 = .ok (.getfield 10, 3) := by decide +kernel
theorem dX6_ofBody_73 : decode cX6_ofBody 73 = .ok (.iload_n 1, 1) := by decide +kernel
theorem dX6_ofBody_74 : decode cX6_ofBody 74 = .ok (.invokevirtual 52, 3) := by decide +kernel
theorem dX6_ofBody_77 : decode cX6_ofBody 77 = .ok (.invokevirtual 80, 3) := by decide +kernel
theorem dX6_ofBody_80 : decode cX6_ofBody 80 = .ok (.ireturn, 1) := by decide +kernel
theorem dX6_ofBody_81 : decode cX6_ofBody 81 = .ok (.new 62, 3) := by decide +kernel
theorem dX6_ofBody_84 : decode cX6_ofBody 84 = .ok (.dup, 1) := by decide +kernel
theorem dX6_ofBody_85 : decode cX6_ofBody 85 = .ok (.ldc 83, 2) := by decide +kernel
theorem dX6_ofBody_87 : decode cX6_ofBody 87 = .ok (.invokespecial 66, 3) := by decide +kernel
theorem dX6_ofBody_90 : decode cX6_ofBody 90 = .ok (.athrow, 1) := by decide +kernel
theorem dX6_generator_0 : decode cX6_generator 0 = .ok (.aload_n 0, 1) := by decide +kernel
theorem dX6_generator_1 : decode cX6_generator 1 = .ok (.getfield 10, 3) := by decide +kernel
theorem dX6_generator_4 : decode cX6_generator 4 = .ok (.iload_n 1, 1) := by decide +kernel
theorem dX6_generator_5 : decode cX6_generator 5 = .ok (.invokevirtual 43, 3) := by decide +kernel
theorem dX6_generator_8 : decode cX6_generator 8 = .ok (.ifCond .ne 13, 3) := by decide +kernel
theorem dX6_generator_11 : decode cX6_generator 11 = .ok (.new 47, 3) := by decide +kernel
theorem dX6_generator_14 : decode cX6_generator 14 = .ok (.dup, 1) := by decide +kernel
theorem dX6_generator_15 : decode cX6_generator 15 = .ok (.ldc 49, 2) := by decide +kernel
theorem dX6_generator_17 : decode cX6_generator 17 = .ok (.invokespecial 51, 3) := by decide +kernel
theorem dX6_generator_20 : decode cX6_generator 20 = .ok (.athrow, 1) := by decide +kernel
theorem dX6_generator_21 : decode cX6_generator 21 = .ok (.aload_n 0, 1) := by decide +kernel
theorem dX6_generator_22 : decode cX6_generator 22 = .ok (.getfield 21, 3) := by decide +kernel
theorem dX6_generator_25 : decode cX6_generator 25 = .ok (.invokevirtual 85, 3) := by decide +kernel
theorem dX6_generator_28 : decode cX6_generator 28 = .ok (.ifCond .eq 13, 3) := by decide +kernel
theorem dX6_generator_31 : decode cX6_generator 31 = .ok (.new 32, 3) := by decide +kernel
theorem dX6_generator_34 : decode cX6_generator 34 = .ok (.dup, 1) := by decide +kernel
theorem dX6_generator_35 : decode cX6_generator 35 = .ok (.ldc 89, 2) := by decide +kernel
theorem dX6_generator_37 : decode cX6_generator 37 = .ok (.invokespecial 36, 3) := by decide +kernel
theorem dX6_generator_40 : decode cX6_generator 40 = .ok (.athrow, 1) := by decide +kernel
theorem dX6_generator_41 : decode cX6_generator 41 = .ok (.aload_n 0, 1) := by decide +kernel
theorem dX6_generator_42 : decode cX6_generator 42 = .ok (.getfield 21, 3) := by decide +kernel
theorem dX6_generator_45 : decode cX6_generator 45 = .ok (.iload_n 1, 1) := by decide +kernel
theorem dX6_generator_46 : decode cX6_generator 46 = .ok (.iconst 0, 1) := by decide +kernel
theorem dX6_generator_47 : decode cX6_generator 47 = .ok (.iconst (-1), 1) := by decide +kernel
theorem dX6_generator_48 : decode cX6_generator 48 = .ok (.invokevirtual 91, 3) := by decide +kernel
theorem dX6_generator_51 : decode cX6_generator 51 = .ok (.getfield 95, 3) := by decide +kernel
theorem dX6_generator_54 : decode cX6_generator 54 = .ok (.ireturn, 1) := by decide +kernel
theorem dX6_resume_0 : decode cX6_resume 0 = .ok (.aload_n 0, 1) := by decide +kernel
theorem dX6_resume_1 : decode cX6_resume 1 = .ok (.getfield 21, 3) := by decide +kernel
theorem dX6_resume_4 : decode cX6_resume 4 = .ok (.iload_n 1, 1) := by decide +kernel
theorem dX6_resume_5 : decode cX6_resume 5 = .ok (.iconst 0, 1) := by decide +kernel
theorem dX6_resume_6 : decode cX6_resume 6 = .ok (.invokevirtual 100, 3) := by decide +kernel
theorem dX6_resume_9 : decode cX6_resume 9 = .ok (.ifCond .ne 13, 3) := by decide +kernel
theorem dX6_resume_12 : decode cX6_resume 12 = .ok (.new 47, 3) := by decide +kernel
theorem dX6_resume_15 : decode cX6_resume 15 = .ok (.dup, 1) := by decide +kernel
theorem dX6_resume_16 : decode cX6_resume 16 = .ok (.ldc 103, 2) := by decide +kernel
theorem dX6_resume_18 : decode cX6_resume 18 = .ok (.invokespecial 51, 3) := by decide +kernel
theorem dX6_resume_21 : decode cX6_resume 21 = .ok (.athrow, 1) := by decide +kernel
theorem dX6_resume_22 : decode cX6_resume 22 = .ok (.iload_n 2, 1) := by decide +kernel
theorem dX6_resume_23 : decode cX6_resume 23 = .ok (.sipush (-999), 3) := by decide +kernel
theorem dX6_resume_26 : decode cX6_resume 26 = .ok (.sipush 999, 3) := by decide +kernel
theorem dX6_resume_29 : decode cX6_resume 29 = .ok (.invokestatic 105, 3) := by decide +kernel
theorem dX6_resume_32 : decode cX6_resume 32 = .ok (.ifCond .ne 13, 3) := by decide +kernel
theorem dX6_resume_35 : decode cX6_resume 35 = .ok (.new 62, 3) := by decide +kernel
theorem dX6_resume_38 : decode cX6_resume 38 = .ok (.dup, 1) := by decide +kernel
theorem dX6_resume_39 : decode cX6_resume 39 = .ok (.ldc 108, 2) := by decide +kernel
theorem dX6_resume_41 : decode cX6_resume 41 = .ok (.invokespecial 66, 3) := by decide +kernel
theorem dX6_resume_44 : decode cX6_resume 44 = .ok (.athrow, 1) := by decide +kernel
theorem dX6_resume_45 : decode cX6_resume 45 = .ok (.aload_n 0, 1) := by decide +kernel
theorem dX6_resume_46 : decode cX6_resume 46 = .ok (.getfield 21, 3) := by decide +kernel
theorem dX6_resume_49 : decode cX6_resume 49 = .ok (.iload_n 1, 1) := by decide +kernel
theorem dX6_resume_50 : decode cX6_resume 50 = .ok (.invokevirtual 110, 3) := by decide +kernel
theorem dX6_resume_53 : decode cX6_resume 53 = .ok (.invokevirtual 113, 3) := by decide +kernel
theorem dX6_resume_56 : decode cX6_resume 56 = .ok (.ifCond .eq 13, 3) := by decide +kernel
theorem dX6_resume_59 : decode cX6_resume 59 = .ok (.new 32, 3) := by decide +kernel
theorem dX6_resume_62 : decode cX6_resume 62 = .ok (.dup, 1) := by decide +kernel
theorem dX6_resume_63 : decode cX6_resume 63 = .ok (.ldc 116, 2) := by decide +kernel
theorem dX6_resume_65 : decode cX6_resume 65 = .ok (.invokespecial 36, 3) := by decide +kernel
theorem dX6_resume_68 : decode cX6_resume 68 = .ok (.athrow, 1) := by decide +kernel
theorem dX6_resume_69 : decode cX6_resume 69 = .ok (.aload_n 0, 1) := by decide +kernel
theorem dX6_resume_70 : decode cX6_resume 70 = .ok (.getfield 21, 3) := by decide +kernel
theorem dX6_resume_73 : decode cX6_resume 73 = .ok (.iload_n 1, 1) := by decide +kernel
theorem dX6_resume_74 : decode cX6_resume 74 = .ok (.iload_n 2, 1) := by decide +kernel
theorem dX6_resume_75 : decode cX6_resume 75 = .ok (.invokevirtual 118, 3) := by decide +kernel
theorem dX6_resume_78 : decode cX6_resume 78 = .ok (.ireturn, 1) := by decide +kernel
theorem dX6_raise_0 : decode cX6_raise 0 = .ok (.aload_n 0, 1) := by decide +kernel
theorem dX6_raise_1 : decode cX6_raise 1 = .ok (.getfield 21, 3) := by decide +kernel
theorem dX6_raise_4 : decode cX6_raise 4 = .ok (.iload_n 1, 1) := by decide +kernel
theorem dX6_raise_5 : decode cX6_raise 5 = .ok (.iconst 0, 1) := by decide +kernel
theorem dX6_raise_6 : decode cX6_raise 6 = .ok (.invokevirtual 100, 3) := by decide +kernel
theorem dX6_raise_9 : decode cX6_raise 9 = .ok (.ifCond .ne 13, 3) := by decide +kernel
theorem dX6_raise_12 : decode cX6_raise 12 = .ok (.new 47, 3) := by decide +kernel
theorem dX6_raise_15 : decode cX6_raise 15 = .ok (.dup, 1) := by decide +kernel
theorem dX6_raise_16 : decode cX6_raise 16 = .ok (.ldc 103, 2) := by decide +kernel
theorem dX6_raise_18 : decode cX6_raise 18 = .ok (.invokespecial 51, 3) := by decide +kernel
theorem dX6_raise_21 : decode cX6_raise 21 = .ok (.athrow, 1) := by decide +kernel
theorem dX6_raise_22 : decode cX6_raise 22 = .ok (.iload_n 2, 1) := by decide +kernel
theorem dX6_raise_23 : decode cX6_raise 23 = .ok (.iconst 1, 1) := by decide +kernel
theorem dX6_raise_24 : decode cX6_raise 24 = .ok (.bipush 7, 2) := by decide +kernel
theorem dX6_raise_26 : decode cX6_raise 26 = .ok (.invokestatic 105, 3) := by decide +kernel
theorem dX6_raise_29 : decode cX6_raise 29 = .ok (.ifCond .ne 13, 3) := by decide +kernel
theorem dX6_raise_32 : decode cX6_raise 32 = .ok (.new 62, 3) := by decide +kernel
theorem dX6_raise_35 : decode cX6_raise 35 = .ok (.dup, 1) := by decide +kernel
theorem dX6_raise_36 : decode cX6_raise 36 = .ok (.ldc 122, 2) := by decide +kernel
theorem dX6_raise_38 : decode cX6_raise 38 = .ok (.invokespecial 66, 3) := by decide +kernel
theorem dX6_raise_41 : decode cX6_raise 41 = .ok (.athrow, 1) := by decide +kernel
theorem dX6_raise_42 : decode cX6_raise 42 = .ok (.aload_n 0, 1) := by decide +kernel
theorem dX6_raise_43 : decode cX6_raise 43 = .ok (.getfield 21, 3) := by decide +kernel
theorem dX6_raise_46 : decode cX6_raise 46 = .ok (.iload_n 1, 1) := by decide +kernel
theorem dX6_raise_47 : decode cX6_raise 47 = .ok (.invokevirtual 110, 3) := by decide +kernel
theorem dX6_raise_50 : decode cX6_raise 50 = .ok (.invokevirtual 113, 3) := by decide +kernel
theorem dX6_raise_53 : decode cX6_raise 53 = .ok (.ifCond .eq 13, 3) := by decide +kernel
theorem dX6_raise_56 : decode cX6_raise 56 = .ok (.new 32, 3) := by decide +kernel
theorem dX6_raise_59 : decode cX6_raise 59 = .ok (.dup, 1) := by decide +kernel
theorem dX6_raise_60 : decode cX6_raise 60 = .ok (.ldc 116, 2) := by decide +kernel
theorem dX6_raise_62 : decode cX6_raise 62 = .ok (.invokespecial 36, 3) := by decide +kernel
theorem dX6_raise_65 : decode cX6_raise 65 = .ok (.athrow, 1) := by decide +kernel
theorem dX6_raise_66 : decode cX6_raise 66 = .ok (.aload_n 0, 1) := by decide +kernel
theorem dX6_raise_67 : decode cX6_raise 67 = .ok (.getfield 21, 3) := by decide +kernel
theorem dX6_raise_70 : decode cX6_raise 70 = .ok (.iload_n 1, 1) := by decide +kernel
theorem dX6_raise_71 : decode cX6_raise 71 = .ok (.iload_n 2, 1) := by decide +kernel
theorem dX6_raise_72 : decode cX6_raise 72 = .ok (.invokevirtual 124, 3) := by decide +kernel
theorem dX6_raise_75 : decode cX6_raise 75 = .ok (.ireturn, 1) := by decide +kernel
theorem dX6_close_0 : decode cX6_close 0 = .ok (.aload_n 0, 1) := by decide +kernel
theorem dX6_close_1 : decode cX6_close 1 = .ok (.getfield 21, 3) := by decide +kernel
theorem dX6_close_4 : decode cX6_close 4 = .ok (.iload_n 1, 1) := by decide +kernel
theorem dX6_close_5 : decode cX6_close 5 = .ok (.iconst 0, 1) := by decide +kernel
theorem dX6_close_6 : decode cX6_close 6 = .ok (.invokevirtual 100, 3) := by decide +kernel
theorem dX6_close_9 : decode cX6_close 9 = .ok (.ifCond .ne 13, 3) := by decide +kernel
theorem dX6_close_12 : decode cX6_close 12 = .ok (.new 47, 3) := by decide +kernel
theorem dX6_close_15 : decode cX6_close 15 = .ok (.dup, 1) := by decide +kernel
theorem dX6_close_16 : decode cX6_close 16 = .ok (.ldc 103, 2) := by decide +kernel
theorem dX6_close_18 : decode cX6_close 18 = .ok (.invokespecial 51, 3) := by decide +kernel
theorem dX6_close_21 : decode cX6_close 21 = .ok (.athrow, 1) := by decide +kernel
theorem dX6_close_22 : decode cX6_close 22 = .ok (.aload_n 0, 1) := by decide +kernel
theorem dX6_close_23 : decode cX6_close 23 = .ok (.getfield 21, 3) := by decide +kernel
theorem dX6_close_26 : decode cX6_close 26 = .ok (.iload_n 1, 1) := by decide +kernel
theorem dX6_close_27 : decode cX6_close 27 = .ok (.invokevirtual 127, 3) := by decide +kernel
theorem dX6_close_30 : decode cX6_close 30 = .ok (.ireturn, 1) := by decide +kernel
theorem dX6_start_0 : decode cX6_start 0 = .ok (.aload_n 0, 1) := by decide +kernel
theorem dX6_start_1 : decode cX6_start 1 = .ok (.getfield 10, 3) := by decide +kernel
theorem dX6_start_4 : decode cX6_start 4 = .ok (.iload_n 1, 1) := by decide +kernel
theorem dX6_start_5 : decode cX6_start 5 = .ok (.invokevirtual 43, 3) := by decide +kernel
theorem dX6_start_8 : decode cX6_start 8 = .ok (.ifCond .ne 13, 3) := by decide +kernel
theorem dX6_start_11 : decode cX6_start 11 = .ok (.new 47, 3) := by decide +kernel
theorem dX6_start_14 : decode cX6_start 14 = .ok (.dup, 1) := by decide +kernel
theorem dX6_start_15 : decode cX6_start 15 = .ok (.ldc 49, 2) := by decide +kernel
theorem dX6_start_17 : decode cX6_start 17 = .ok (.invokespecial 51, 3) := by decide +kernel
theorem dX6_start_20 : decode cX6_start 20 = .ok (.athrow, 1) := by decide +kernel
theorem dX6_start_21 : decode cX6_start 21 = .ok (.aload_n 0, 1) := by decide +kernel
theorem dX6_start_22 : decode cX6_start 22 = .ok (.getfield 21, 3) := by decide +kernel
theorem dX6_start_25 : decode cX6_start 25 = .ok (.invokevirtual 85, 3) := by decide +kernel
theorem dX6_start_28 : decode cX6_start 28 = .ok (.ifCond .eq 13, 3) := by decide +kernel
theorem dX6_start_31 : decode cX6_start 31 = .ok (.new 32, 3) := by decide +kernel
theorem dX6_start_34 : decode cX6_start 34 = .ok (.dup, 1) := by decide +kernel
theorem dX6_start_35 : decode cX6_start 35 = .ok (.ldc 89, 2) := by decide +kernel
theorem dX6_start_37 : decode cX6_start 37 = .ok (.invokespecial 36, 3) := by decide +kernel
theorem dX6_start_40 : decode cX6_start 40 = .ok (.athrow, 1) := by decide +kernel
theorem dX6_start_41 : decode cX6_start 41 = .ok (.aload_n 0, 1) := by decide +kernel
theorem dX6_start_42 : decode cX6_start 42 = .ok (.getfield 21, 3) := by decide +kernel
theorem dX6_start_45 : decode cX6_start 45 = .ok (.iload_n 1, 1) := by decide +kernel
theorem dX6_start_46 : decode cX6_start 46 = .ok (.iconst 1, 1) := by decide +kernel
theorem dX6_start_47 : decode cX6_start 47 = .ok (.iconst (-1), 1) := by decide +kernel
theorem dX6_start_48 : decode cX6_start 48 = .ok (.invokevirtual 91, 3) := by decide +kernel
theorem dX6_start_51 : decode cX6_start 51 = .ok (.getfield 95, 3) := by decide +kernel
theorem dX6_start_54 : decode cX6_start 54 = .ok (.ireturn, 1) := by decide +kernel
theorem dX6_run_0 : decode cX6_run 0 = .ok (.iload_n 1, 1) := by decide +kernel
theorem dX6_run_1 : decode cX6_run 1 = .ok (.iconst 1, 1) := by decide +kernel
theorem dX6_run_2 : decode cX6_run 2 = .ok (.bipush 50, 2) := by decide +kernel
theorem dX6_run_4 : decode cX6_run 4 = .ok (.invokestatic 105, 3) := by decide +kernel
theorem dX6_run_7 : decode cX6_run 7 = .ok (.ifCond .ne 13, 3) := by decide +kernel
theorem dX6_run_10 : decode cX6_run 10 = .ok (.new 62, 3) := by decide +kernel
theorem dX6_run_13 : decode cX6_run 13 = .ok (.dup, 1) := by decide +kernel
theorem dX6_run_14 : decode cX6_run 14 = .ok (.ldc 130, 2) := by decide +kernel
theorem dX6_run_16 : decode cX6_run 16 = .ok (.invokespecial 66, 3) := by decide +kernel
theorem dX6_run_19 : decode cX6_run 19 = .ok (.athrow, 1) := by decide +kernel
theorem dX6_run_20 : decode cX6_run 20 = .ok (.aload_n 0, 1) := by decide +kernel
theorem dX6_run_21 : decode cX6_run 21 = .ok (.getfield 21, 3) := by decide +kernel
theorem dX6_run_24 : decode cX6_run 24 = .ok (.iload_n 1, 1) := by decide +kernel
theorem dX6_run_25 : decode cX6_run 25 = .ok (.invokevirtual 132, 3) := by decide +kernel
theorem dX6_run_28 : decode cX6_run 28 = .ok (.ireturn, 1) := by decide +kernel
theorem dX6_tick_0 : decode cX6_tick 0 = .ok (.iload_n 1, 1) := by decide +kernel
theorem dX6_tick_1 : decode cX6_tick 1 = .ok (.iconst 1, 1) := by decide +kernel
theorem dX6_tick_2 : decode cX6_tick 2 = .ok (.bipush 20, 2) := by decide +kernel
theorem dX6_tick_4 : decode cX6_tick 4 = .ok (.invokestatic 105, 3) := by decide +kernel
theorem dX6_tick_7 : decode cX6_tick 7 = .ok (.ifCond .ne 13, 3) := by decide +kernel
theorem dX6_tick_10 : decode cX6_tick 10 = .ok (.new 62, 3) := by decide +kernel
theorem dX6_tick_13 : decode cX6_tick 13 = .ok (.dup, 1) := by decide +kernel
theorem dX6_tick_14 : decode cX6_tick 14 = .ok (.ldc 135, 2) := by decide +kernel
theorem dX6_tick_16 : decode cX6_tick 16 = .ok (.invokespecial 66, 3) := by decide +kernel
theorem dX6_tick_19 : decode cX6_tick 19 = .ok (.athrow, 1) := by decide +kernel
theorem dX6_tick_20 : decode cX6_tick 20 = .ok (.iconst 0, 1) := by decide +kernel
theorem dX6_tick_21 : decode cX6_tick 21 = .ok (.istore_n 2, 1) := by decide +kernel
theorem dX6_tick_22 : decode cX6_tick 22 = .ok (.iconst 0, 1) := by decide +kernel
theorem dX6_tick_23 : decode cX6_tick 23 = .ok (.istore_n 3, 1) := by decide +kernel
theorem dX6_tick_24 : decode cX6_tick 24 = .ok (.iload_n 3, 1) := by decide +kernel
theorem dX6_tick_25 : decode cX6_tick 25 = .ok (.iload_n 1, 1) := by decide +kernel
theorem dX6_tick_26 : decode cX6_tick 26 = .ok (.if_icmp .ge 19, 3) := by decide +kernel
theorem dX6_tick_29 : decode cX6_tick 29 = .ok (.iload_n 2, 1) := by decide +kernel
theorem dX6_tick_30 : decode cX6_tick 30 = .ok (.aload_n 0, 1) := by decide +kernel
theorem dX6_tick_31 : decode cX6_tick 31 = .ok (.getfield 21, 3) := by decide +kernel
theorem dX6_tick_34 : decode cX6_tick 34 = .ok (.invokevirtual 137, 3) := by decide +kernel
theorem dX6_tick_37 : decode cX6_tick 37 = .ok (.iadd, 1) := by decide +kernel
theorem dX6_tick_38 : decode cX6_tick 38 = .ok (.istore_n 2, 1) := by decide +kernel
theorem dX6_tick_39 : decode cX6_tick 39 = .ok (.iinc 3 1, 3) := by decide +kernel
theorem dX6_tick_42 : decode cX6_tick 42 = .ok (.goto (-18), 3) := by decide +kernel
theorem dX6_tick_45 : decode cX6_tick 45 = .ok (.iload_n 2, 1) := by decide +kernel
theorem dX6_tick_46 : decode cX6_tick 46 = .ok (.ireturn, 1) := by decide +kernel
theorem dX6_cancel_0 : decode cX6_cancel 0 = .ok (.aload_n 0, 1) := by decide +kernel
theorem dX6_cancel_1 : decode cX6_cancel 1 = .ok (.getfield 21, 3) := by decide +kernel
theorem dX6_cancel_4 : decode cX6_cancel 4 = .ok (.iload_n 1, 1) := by decide +kernel
theorem dX6_cancel_5 : decode cX6_cancel 5 = .ok (.iconst 1, 1) := by decide +kernel
theorem dX6_cancel_6 : decode cX6_cancel 6 = .ok (.invokevirtual 100, 3) := by decide +kernel
theorem dX6_cancel_9 : decode cX6_cancel 9 = .ok (.ifCond .ne 13, 3) := by decide +kernel
theorem dX6_cancel_12 : decode cX6_cancel 12 = .ok (.new 47, 3) := by decide +kernel
theorem dX6_cancel_15 : decode cX6_cancel 15 = .ok (.dup, 1) := by decide +kernel
theorem dX6_cancel_16 : decode cX6_cancel 16 = .ok (.ldc 140, 2) := by decide +kernel
theorem dX6_cancel_18 : decode cX6_cancel 18 = .ok (.invokespecial 51, 3) := by decide +kernel
theorem dX6_cancel_21 : decode cX6_cancel 21 = .ok (.athrow, 1) := by decide +kernel
theorem dX6_cancel_22 : decode cX6_cancel 22 = .ok (.aload_n 0, 1) := by decide +kernel
theorem dX6_cancel_23 : decode cX6_cancel 23 = .ok (.getfield 21, 3) := by decide +kernel
theorem dX6_cancel_26 : decode cX6_cancel 26 = .ok (.iload_n 1, 1) := by decide +kernel
theorem dX6_cancel_27 : decode cX6_cancel 27 = .ok (.invokevirtual 142, 3) := by decide +kernel
theorem dX6_cancel_30 : decode cX6_cancel 30 = .ok (.ireturn, 1) := by decide +kernel
theorem dX6_of_0 : decode cX6_of 0 = .ok (.aload_n 0, 1) := by decide +kernel
theorem dX6_of_1 : decode cX6_of 1 = .ok (.getfield 21, 3) := by decide +kernel
theorem dX6_of_4 : decode cX6_of 4 = .ok (.iload_n 1, 1) := by decide +kernel
theorem dX6_of_5 : decode cX6_of 5 = .ok (.invokevirtual 145, 3) := by decide +kernel
theorem dX6_of_8 : decode cX6_of 8 = .ok (.ifCond .ne 13, 3) := by decide +kernel
theorem dX6_of_11 : decode cX6_of 11 = .ok (.new 47, 3) := by decide +kernel
theorem dX6_of_14 : decode cX6_of 14 = .ok (.dup, 1) := by decide +kernel
theorem dX6_of_15 : decode cX6_of 15 = .ok (.ldc 148, 2) := by decide +kernel
theorem dX6_of_17 : decode cX6_of 17 = .ok (.invokespecial 51, 3) := by decide +kernel
theorem dX6_of_20 : decode cX6_of 20 = .ok (.athrow, 1) := by decide +kernel
theorem dX6_of_21 : decode cX6_of 21 = .ok (.aload_n 0, 1) := by decide +kernel
theorem dX6_of_22 : decode cX6_of 22 = .ok (.getfield 21, 3) := by decide +kernel
theorem dX6_of_25 : decode cX6_of 25 = .ok (.iload_n 1, 1) := by decide +kernel
theorem dX6_of_26 : decode cX6_of 26 = .ok (.invokevirtual 110, 3) := by decide +kernel
theorem dX6_of_29 : decode cX6_of 29 = .ok (.astore_n 3, 1) := by decide +kernel
theorem dX6_of_30 : decode cX6_of 30 = .ok (.iload_n 2, 1) := by decide +kernel
theorem dX6_of_31 : decode cX6_of 31 = .ok (.tableswitch 100 0 7 #[45, 50, 55, 60, 77, 82, 90, 95], 45) := by decide +kernel
theorem dX6_of_76 : decode cX6_of 76 = .ok (.aload_n 3, 1) := by decide +kernel
theorem dX6_of_77 : decode cX6_of 77 = .ok (.getfield 150, 3) := by decide +kernel
theorem dX6_of_80 : decode cX6_of 80 = .ok (.ireturn, 1) := by decide +kernel
theorem dX6_of_81 : decode cX6_of 81 = .ok (.aload_n 3, 1) := by decide +kernel
theorem dX6_of_82 : decode cX6_of 82 = .ok (.getfield 153, 3) := by decide +kernel
theorem dX6_of_85 : decode cX6_of 85 = .ok (.ireturn, 1) := by decide +kernel
theorem dX6_of_86 : decode cX6_of 86 = .ok (.aload_n 3, 1) := by decide +kernel
theorem dX6_of_87 : decode cX6_of 87 = .ok (.getfield 156, 3) := by decide +kernel
theorem dX6_of_90 : decode cX6_of 90 = .ok (.ireturn, 1) := by decide +kernel
theorem dX6_of_91 : decode cX6_of 91 = .ok (.aload_n 3, 1) := by decide +kernel
theorem dX6_of_92 : decode cX6_of 92 = .ok (.getfield 153, 3) := by decide +kernel
theorem dX6_of_95 : decode cX6_of 95 = .ok (.iconst 1, 1) := by decide +kernel
theorem dX6_of_96 : decode cX6_of 96 = .ok (.if_icmp .ne 10, 3) := by decide +kernel
theorem dX6_of_99 : decode cX6_of 99 = .ok (.aload_n 3, 1) := by decide +kernel
theorem dX6_of_100 : decode cX6_of 100 = .ok (.getfield 159, 3) := by decide +kernel
theorem dX6_of_103 : decode cX6_of 103 = .ok (.goto 4, 3) := by decide +kernel
theorem dX6_of_106 : decode cX6_of 106 = .ok (.iconst (-1), 1) := by decide +kernel
theorem dX6_of_107 : decode cX6_of 107 = .ok (.ireturn, 1) := by decide +kernel
theorem dX6_of_108 : decode cX6_of 108 = .ok (.aload_n 3, 1) := by decide +kernel
theorem dX6_of_109 : decode cX6_of 109 = .ok (.getfield 162, 3) := by decide +kernel
theorem dX6_of_112 : decode cX6_of 112 = .ok (.ireturn, 1) := by decide +kernel
theorem dX6_of_113 : decode cX6_of 113 = .ok (.aload_n 3, 1) := by decide +kernel
theorem dX6_of_114 : decode cX6_of 114 = .ok (.getfield 165, 3) := by decide +kernel
theorem dX6_of_117 : decode cX6_of 117 = .ok (.getfield 169, 3) := by decide +kernel
theorem dX6_of_120 : decode cX6_of 120 = .ok (.ireturn, 1) := by decide +kernel
theorem dX6_of_121 : decode cX6_of 121 = .ok (.aload_n 3, 1) := by decide +kernel
theorem dX6_of_122 : decode cX6_of 122 = .ok (.getfield 172, 3) := by decide +kernel
theorem dX6_of_125 : decode cX6_of 125 = .ok (.ireturn, 1) := by decide +kernel
theorem dX6_of_126 : decode cX6_of 126 = .ok (.aload_n 3, 1) := by decide +kernel
theorem dX6_of_127 : decode cX6_of 127 = .ok (.getfield 175, 3) := by decide +kernel
theorem dX6_of_130 : decode cX6_of 130 = .ok (.ireturn, 1) := by decide +kernel
theorem dX6_of_131 : decode cX6_of 131 = .ok (.new 62, 3) := by decide +kernel
theorem dX6_of_134 : decode cX6_of 134 = .ok (.dup, 1) := by decide +kernel
theorem dX6_of_135 : decode cX6_of 135 = .ok (.ldc 178, 2) := by decide +kernel
theorem dX6_of_137 : decode cX6_of 137 = .ok (.invokespecial 66, 3) := by decide +kernel
theorem dX6_of_140 : decode cX6_of 140 = .ok (.athrow, 1) := by decide +kernel
theorem dX6_local_0 : decode cX6_local 0 = .ok (.aload_n 0, 1) := by decide +kernel
theorem dX6_local_1 : decode cX6_local 1 = .ok (.getfield 21, 3) := by decide +kernel
theorem dX6_local_4 : decode cX6_local 4 = .ok (.iload_n 1, 1) := by decide +kernel
theorem dX6_local_5 : decode cX6_local 5 = .ok (.invokevirtual 145, 3) := by decide +kernel
theorem dX6_local_8 : decode cX6_local 8 = .ok (.ifCond .eq 12, 3) := by decide +kernel
theorem dX6_local_11 : decode cX6_local 11 = .ok (.iload_n 2, 1) := by decide +kernel
theorem dX6_local_12 : decode cX6_local 12 = .ok (.iconst 0, 1) := by decide +kernel
theorem dX6_local_13 : decode cX6_local 13 = .ok (.iconst 3, 1) := by decide +kernel
theorem dX6_local_14 : decode cX6_local 14 = .ok (.invokestatic 105, 3) := by decide +kernel
theorem dX6_local_17 : decode cX6_local 17 = .ok (.ifCond .ne 13, 3) := by decide +kernel
theorem dX6_local_20 : decode cX6_local 20 = .ok (.new 47, 3) := by decide +kernel
theorem dX6_local_23 : decode cX6_local 23 = .ok (.dup, 1) := by decide +kernel
theorem dX6_local_24 : decode cX6_local 24 = .ok (.ldc 180, 2) := by decide +kernel
theorem dX6_local_26 : decode cX6_local 26 = .ok (.invokespecial 51, 3) := by decide +kernel
theorem dX6_local_29 : decode cX6_local 29 = .ok (.athrow, 1) := by decide +kernel
theorem dX6_local_30 : decode cX6_local 30 = .ok (.aload_n 0, 1) := by decide +kernel
theorem dX6_local_31 : decode cX6_local 31 = .ok (.getfield 21, 3) := by decide +kernel
theorem dX6_local_34 : decode cX6_local 34 = .ok (.iload_n 1, 1) := by decide +kernel
theorem dX6_local_35 : decode cX6_local 35 = .ok (.invokevirtual 110, 3) := by decide +kernel
theorem dX6_local_38 : decode cX6_local 38 = .ok (.iload_n 2, 1) := by decide +kernel
theorem dX6_local_39 : decode cX6_local 39 = .ok (.invokevirtual 182, 3) := by decide +kernel
theorem dX6_local_42 : decode cX6_local 42 = .ok (.ireturn, 1) := by decide +kernel
theorem dX6_stack_0 : decode cX6_stack 0 = .ok (.aload_n 0, 1) := by decide +kernel
theorem dX6_stack_1 : decode cX6_stack 1 = .ok (.getfield 21, 3) := by decide +kernel
theorem dX6_stack_4 : decode cX6_stack 4 = .ok (.iload_n 1, 1) := by decide +kernel
theorem dX6_stack_5 : decode cX6_stack 5 = .ok (.invokevirtual 145, 3) := by decide +kernel
theorem dX6_stack_8 : decode cX6_stack 8 = .ok (.ifCond .eq 21, 3) := by decide +kernel
theorem dX6_stack_11 : decode cX6_stack 11 = .ok (.aload_n 0, 1) := by decide +kernel
theorem dX6_stack_12 : decode cX6_stack 12 = .ok (.getfield 21, 3) := by decide +kernel
theorem dX6_stack_15 : decode cX6_stack 15 = .ok (.iload_n 1, 1) := by decide +kernel
theorem dX6_stack_16 : decode cX6_stack 16 = .ok (.invokevirtual 110, 3) := by decide +kernel
theorem dX6_stack_19 : decode cX6_stack 19 = .ok (.getfield 165, 3) := by decide +kernel
theorem dX6_stack_22 : decode cX6_stack 22 = .ok (.iload_n 2, 1) := by decide +kernel
theorem dX6_stack_23 : decode cX6_stack 23 = .ok (.invokevirtual 185, 3) := by decide +kernel
theorem dX6_stack_26 : decode cX6_stack 26 = .ok (.ifCond .ne 13, 3) := by decide +kernel
theorem dX6_stack_29 : decode cX6_stack 29 = .ok (.new 47, 3) := by decide +kernel
theorem dX6_stack_32 : decode cX6_stack 32 = .ok (.dup, 1) := by decide +kernel
theorem dX6_stack_33 : decode cX6_stack 33 = .ok (.ldc 186, 2) := by decide +kernel
theorem dX6_stack_35 : decode cX6_stack 35 = .ok (.invokespecial 51, 3) := by decide +kernel
theorem dX6_stack_38 : decode cX6_stack 38 = .ok (.athrow, 1) := by decide +kernel
theorem dX6_stack_39 : decode cX6_stack 39 = .ok (.aload_n 0, 1) := by decide +kernel
theorem dX6_stack_40 : decode cX6_stack 40 = .ok (.getfield 21, 3) := by decide +kernel
theorem dX6_stack_43 : decode cX6_stack 43 = .ok (.iload_n 1, 1) := by decide +kernel
theorem dX6_stack_44 : decode cX6_stack 44 = .ok (.invokevirtual 110, 3) := by decide +kernel
theorem dX6_stack_47 : decode cX6_stack 47 = .ok (.getfield 165, 3) := by decide +kernel
theorem dX6_stack_50 : decode cX6_stack 50 = .ok (.iload_n 2, 1) := by decide +kernel
theorem dX6_stack_51 : decode cX6_stack 51 = .ok (.invokevirtual 188, 3) := by decide +kernel
theorem dX6_stack_54 : decode cX6_stack 54 = .ok (.ireturn, 1) := by decide +kernel
theorem dX6_ofTask_0 : decode cX6_ofTask 0 = .ok (.aload_n 0, 1) := by decide +kernel
theorem dX6_ofTask_1 : decode cX6_ofTask 1 = .ok (.getfield 21, 3) := by decide +kernel
theorem dX6_ofTask_4 : decode cX6_ofTask 4 = .ok (.iload_n 1, 1) := by decide +kernel
theorem dX6_ofTask_5 : decode cX6_ofTask 5 = .ok (.iconst 1, 1) := by decide +kernel
theorem dX6_ofTask_6 : decode cX6_ofTask 6 = .ok (.invokevirtual 100, 3) := by decide +kernel
theorem dX6_ofTask_9 : decode cX6_ofTask 9 = .ok (.ifCond .ne 13, 3) := by decide +kernel
theorem dX6_ofTask_12 : decode cX6_ofTask 12 = .ok (.new 47, 3) := by decide +kernel
theorem dX6_ofTask_15 : decode cX6_ofTask 15 = .ok (.dup, 1) := by decide +kernel
theorem dX6_ofTask_16 : decode cX6_ofTask 16 = .ok (.ldc 140, 2) := by decide +kernel
theorem dX6_ofTask_18 : decode cX6_ofTask 18 = .ok (.invokespecial 51, 3) := by decide +kernel
theorem dX6_ofTask_21 : decode cX6_ofTask 21 = .ok (.athrow, 1) := by decide +kernel
theorem dX6_ofTask_22 : decode cX6_ofTask 22 = .ok (.aload_n 0, 1) := by decide +kernel
theorem dX6_ofTask_23 : decode cX6_ofTask 23 = .ok (.getfield 21, 3) := by decide +kernel
theorem dX6_ofTask_26 : decode cX6_ofTask 26 = .ok (.iload_n 1, 1) := by decide +kernel
theorem dX6_ofTask_27 : decode cX6_ofTask 27 = .ok (.invokevirtual 110, 3) := by decide +kernel
theorem dX6_ofTask_30 : decode cX6_ofTask 30 = .ok (.astore_n 3, 1) := by decide +kernel
theorem dX6_ofTask_31 : decode cX6_ofTask 31 = .ok (.iload_n 2, 1) := by decide +kernel
theorem dX6_ofTask_32 : decode cX6_ofTask 32 = .ok (.tableswitch 98 0 6 #[44, 56, 61, 66, 71, 84, 89], 44) := by decide +kernel
theorem dX6_ofTask_76 : decode cX6_ofTask 76 = .ok (.aload_n 0, 1) := by decide +kernel
theorem dX6_ofTask_77 : decode cX6_ofTask 77 = .ok (.getfield 21, 3) := by decide +kernel
theorem dX6_ofTask_80 : decode cX6_ofTask 80 = .ok (.getfield 191, 3) := by decide +kernel
theorem dX6_ofTask_83 : decode cX6_ofTask 83 = .ok (.iload_n 1, 1) := by decide +kernel
theorem dX6_ofTask_84 : decode cX6_ofTask 84 = .ok (.invokevirtual 195, 3) := by decide +kernel
theorem dX6_ofTask_87 : decode cX6_ofTask 87 = .ok (.ireturn, 1) := by decide +kernel
theorem dX6_ofTask_88 : decode cX6_ofTask 88 = .ok (.aload_n 3, 1) := by decide +kernel
theorem dX6_ofTask_89 : decode cX6_ofTask 89 = .ok (.getfield 200, 3) := by decide +kernel
theorem dX6_ofTask_92 : decode cX6_ofTask 92 = .ok (.ireturn, 1) := by decide +kernel
theorem dX6_ofTask_93 : decode cX6_ofTask 93 = .ok (.aload_n 3, 1) := by decide +kernel
theorem dX6_ofTask_94 : decode cX6_ofTask 94 = .ok (.getfield 203, 3) := by decide +kernel
theorem dX6_ofTask_97 : decode cX6_ofTask 97 = .ok (.ireturn, 1) := by decide +kernel
theorem dX6_ofTask_98 : decode cX6_ofTask 98 = .ok (.aload_n 3, 1) := by decide +kernel
theorem dX6_ofTask_99 : decode cX6_ofTask 99 = .ok (.getfield 206, 3) := by decide +kernel
theorem dX6_ofTask_102 : decode cX6_ofTask 102 = .ok (.ireturn, 1) := by decide +kernel
theorem dX6_ofTask_103 : decode cX6_ofTask 103 = .ok (.aload_n 3, 1) := by decide +kernel
theorem dX6_ofTask_104 : decode cX6_ofTask 104 = .ok (.getfield 209, 3) := by decide +kernel
theorem dX6_ofTask_107 : decode cX6_ofTask 107 = .ok (.ifCond .eq 7, 3) := by decide +kernel
theorem dX6_ofTask_110 : decode cX6_ofTask 110 = .ok (.iconst 1, 1) := by decide +kernel
theorem dX6_ofTask_111 : decode cX6_ofTask 111 = .ok (.goto 4, 3) := by decide +kernel
theorem dX6_ofTask_114 : decode cX6_ofTask 114 = .ok (.iconst 0, 1) := by decide +kernel
theorem dX6_ofTask_115 : decode cX6_ofTask 115 = .ok (.ireturn, 1) := by decide +kernel
theorem dX6_ofTask_116 : decode cX6_ofTask 116 = .ok (.aload_n 3, 1) := by decide +kernel
theorem dX6_ofTask_117 : decode cX6_ofTask 117 = .ok (.getfield 213, 3) := by decide +kernel
theorem dX6_ofTask_120 : decode cX6_ofTask 120 = .ok (.ireturn, 1) := by decide +kernel
theorem dX6_ofTask_121 : decode cX6_ofTask 121 = .ok (.aload_n 0, 1) := by decide +kernel
theorem dX6_ofTask_122 : decode cX6_ofTask 122 = .ok (.getfield 21, 3) := by decide +kernel
theorem dX6_ofTask_125 : decode cX6_ofTask 125 = .ok (.iload_n 1, 1) := by decide +kernel
theorem dX6_ofTask_126 : decode cX6_ofTask 126 = .ok (.invokevirtual 216, 3) := by decide +kernel
theorem dX6_ofTask_129 : decode cX6_ofTask 129 = .ok (.ireturn, 1) := by decide +kernel
theorem dX6_ofTask_130 : decode cX6_ofTask 130 = .ok (.new 62, 3) := by decide +kernel
theorem dX6_ofTask_133 : decode cX6_ofTask 133 = .ok (.dup, 1) := by decide +kernel
theorem dX6_ofTask_134 : decode cX6_ofTask 134 = .ok (.ldc 219, 2) := by decide +kernel
theorem dX6_ofTask_136 : decode cX6_ofTask 136 = .ok (.invokespecial 66, 3) := by decide +kernel
theorem dX6_ofTask_139 : decode cX6_ofTask 139 = .ok (.athrow, 1) := by decide +kernel
theorem dX6_many_0 : decode cX6_many 0 = .ok (.iload_n 1, 1) := by decide +kernel
theorem dX6_many_1 : decode cX6_many 1 = .ok (.tableswitch 168 0 11 #[63, 71, 79, 88, 97, 106, 115, 124, 133, 144, 152, 160], 63) := by decide +kernel
theorem dX6_many_64 : decode cX6_many 64 = .ok (.aload_n 0, 1) := by decide +kernel
theorem dX6_many_65 : decode cX6_many 65 = .ok (.getfield 10, 3) := by decide +kernel
theorem dX6_many_68 : decode cX6_many 68 = .ok (.getfield 28, 3) := by decide +kernel
theorem dX6_many_71 : decode cX6_many 71 = .ok (.ireturn, 1) := by decide +kernel
theorem dX6_many_72 : decode cX6_many 72 = .ok (.aload_n 0, 1) := by decide +kernel
theorem dX6_many_73 : decode cX6_many 73 = .ok (.getfield 21, 3) := by decide +kernel
theorem dX6_many_76 : decode cX6_many 76 = .ok (.getfield 221, 3) := by decide +kernel
theorem dX6_many_79 : decode cX6_many 79 = .ok (.ireturn, 1) := by decide +kernel
theorem dX6_many_80 : decode cX6_many 80 = .ok (.aload_n 0, 1) := by decide +kernel
theorem dX6_many_81 : decode cX6_many 81 = .ok (.getfield 21, 3) := by decide +kernel
theorem dX6_many_84 : decode cX6_many 84 = .ok (.iconst 0, 1) := by decide +kernel
theorem dX6_many_85 : decode cX6_many 85 = .ok (.invokevirtual 222, 3) := by decide +kernel
theorem dX6_many_88 : decode cX6_many 88 = .ok (.ireturn, 1) := by decide +kernel
theorem dX6_many_89 : decode cX6_many 89 = .ok (.aload_n 0, 1) := by decide +kernel
theorem dX6_many_90 : decode cX6_many 90 = .ok (.getfield 21, 3) := by decide +kernel
theorem dX6_many_93 : decode cX6_many 93 = .ok (.iconst 1, 1) := by decide +kernel
theorem dX6_many_94 : decode cX6_many 94 = .ok (.invokevirtual 222, 3) := by decide +kernel
theorem dX6_many_97 : decode cX6_many 97 = .ok (.ireturn, 1) := by decide +kernel
theorem dX6_many_98 : decode cX6_many 98 = .ok (.aload_n 0, 1) := by decide +kernel
theorem dX6_many_99 : decode cX6_many 99 = .ok (.getfield 21, 3) := by decide +kernel
theorem dX6_many_102 : decode cX6_many 102 = .ok (.iconst 0, 1) := by decide +kernel
theorem dX6_many_103 : decode cX6_many 103 = .ok (.invokevirtual 225, 3) := by decide +kernel
theorem dX6_many_106 : decode cX6_many 106 = .ok (.ireturn, 1) := by decide +kernel
theorem dX6_many_107 : decode cX6_many 107 = .ok (.aload_n 0, 1) := by decide +kernel
theorem dX6_many_108 : decode cX6_many 108 = .ok (.getfield 21, 3) := by decide +kernel
theorem dX6_many_111 : decode cX6_many 111 = .ok (.iconst 1, 1) := by decide +kernel
theorem dX6_many_112 : decode cX6_many 112 = .ok (.invokevirtual 225, 3) := by decide +kernel
theorem dX6_many_115 : decode cX6_many 115 = .ok (.ireturn, 1) := by decide +kernel
theorem dX6_many_116 : decode cX6_many 116 = .ok (.aload_n 0, 1) := by decide +kernel
theorem dX6_many_117 : decode cX6_many 117 = .ok (.getfield 21, 3) := by decide +kernel
theorem dX6_many_120 : decode cX6_many 120 = .ok (.iconst 3, 1) := by decide +kernel
theorem dX6_many_121 : decode cX6_many 121 = .ok (.invokevirtual 225, 3) := by decide +kernel
theorem dX6_many_124 : decode cX6_many 124 = .ok (.ireturn, 1) := by decide +kernel
theorem dX6_many_125 : decode cX6_many 125 = .ok (.aload_n 0, 1) := by decide +kernel
theorem dX6_many_126 : decode cX6_many 126 = .ok (.getfield 21, 3) := by decide +kernel
theorem dX6_many_129 : decode cX6_many 129 = .ok (.iconst 4, 1) := by decide +kernel
theorem dX6_many_130 : decode cX6_many 130 = .ok (.invokevirtual 225, 3) := by decide +kernel
theorem dX6_many_133 : decode cX6_many 133 = .ok (.ireturn, 1) := by decide +kernel
theorem dX6_many_134 : decode cX6_many 134 = .ok (.aload_n 0, 1) := by decide +kernel
theorem dX6_many_135 : decode cX6_many 135 = .ok (.getfield 21, 3) := by decide +kernel
theorem dX6_many_138 : decode cX6_many 138 = .ok (.getfield 191, 3) := by decide +kernel
theorem dX6_many_141 : decode cX6_many 141 = .ok (.getfield 228, 3) := by decide +kernel
theorem dX6_many_144 : decode cX6_many 144 = .ok (.ireturn, 1) := by decide +kernel
theorem dX6_many_145 : decode cX6_many 145 = .ok (.aload_n 0, 1) := by decide +kernel
theorem dX6_many_146 : decode cX6_many 146 = .ok (.getfield 21, 3) := by decide +kernel
theorem dX6_many_149 : decode cX6_many 149 = .ok (.getfield 229, 3) := by decide +kernel
theorem dX6_many_152 : decode cX6_many 152 = .ok (.ireturn, 1) := by decide +kernel
theorem dX6_many_153 : decode cX6_many 153 = .ok (.aload_n 0, 1) := by decide +kernel
theorem dX6_many_154 : decode cX6_many 154 = .ok (.getfield 21, 3) := by decide +kernel
theorem dX6_many_157 : decode cX6_many 157 = .ok (.invokevirtual 232, 3) := by decide +kernel
theorem dX6_many_160 : decode cX6_many 160 = .ok (.ireturn, 1) := by decide +kernel
theorem dX6_many_161 : decode cX6_many 161 = .ok (.aload_n 0, 1) := by decide +kernel
theorem dX6_many_162 : decode cX6_many 162 = .ok (.getfield 21, 3) := by decide +kernel
theorem dX6_many_165 : decode cX6_many 165 = .ok (.getfield 235, 3) := by decide +kernel
theorem dX6_many_168 : decode cX6_many 168 = .ok (.ireturn, 1) := by decide +kernel
theorem dX6_many_169 : decode cX6_many 169 = .ok (.new 62, 3) := by decide +kernel
theorem dX6_many_172 : decode cX6_many 172 = .ok (.dup, 1) := by decide +kernel
theorem dX6_many_173 : decode cX6_many 173 = .ok (.ldc 238, 2) := by decide +kernel
theorem dX6_many_175 : decode cX6_many 175 = .ok (.invokespecial 66, 3) := by decide +kernel
theorem dX6_many_178 : decode cX6_many 178 = .ok (.athrow, 1) := by decide +kernel
theorem dX6_meanLines_0 : decode cX6_meanLines 0 = .ok (.aload_n 0, 1) := by decide +kernel
theorem dX6_meanLines_1 : decode cX6_meanLines 1 = .ok (.getfield 21, 3) := by decide +kernel
theorem dX6_meanLines_4 : decode cX6_meanLines 4 = .ok (.getfield 221, 3) := by decide +kernel
theorem dX6_meanLines_7 : decode cX6_meanLines 7 = .ok (.ifCond .gt 5, 3) := by decide +kernel
theorem dX6_meanLines_10 : decode cX6_meanLines 10 = .ok (.dconst 0, 1) := by decide +kernel
theorem dX6_meanLines_11 : decode cX6_meanLines 11 = .ok (.dreturn, 1) := by decide +kernel
theorem dX6_meanLines_12 : decode cX6_meanLines 12 = .ok (.aload_n 0, 1) := by decide +kernel
theorem dX6_meanLines_13 : decode cX6_meanLines 13 = .ok (.getfield 21, 3) := by decide +kernel
theorem dX6_meanLines_16 : decode cX6_meanLines 16 = .ok (.invokevirtual 232, 3) := by decide +kernel
theorem dX6_meanLines_19 : decode cX6_meanLines 19 = .ok (.i2d, 1) := by decide +kernel
theorem dX6_meanLines_20 : decode cX6_meanLines 20 = .ok (.aload_n 0, 1) := by decide +kernel
theorem dX6_meanLines_21 : decode cX6_meanLines 21 = .ok (.getfield 21, 3) := by decide +kernel
theorem dX6_meanLines_24 : decode cX6_meanLines 24 = .ok (.getfield 221, 3) := by decide +kernel
theorem dX6_meanLines_27 : decode cX6_meanLines 27 = .ok (.i2d, 1) := by decide +kernel
theorem dX6_meanLines_28 : decode cX6_meanLines 28 = .ok (.ddiv, 1) := by decide +kernel
theorem dX6_meanLines_29 : decode cX6_meanLines 29 = .ok (.dreturn, 1) := by decide +kernel
theorem dX6_wouldGive_0 : decode cX6_wouldGive 0 = .ok (.aload_n 0, 1) := by decide +kernel
theorem dX6_wouldGive_1 : decode cX6_wouldGive 1 = .ok (.getfield 21, 3) := by decide +kernel
theorem dX6_wouldGive_4 : decode cX6_wouldGive 4 = .ok (.iload_n 1, 1) := by decide +kernel
theorem dX6_wouldGive_5 : decode cX6_wouldGive 5 = .ok (.iconst 0, 1) := by decide +kernel
