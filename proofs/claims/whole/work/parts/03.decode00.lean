theorem dX0_init_0 : decode cX0_init 0 = .ok (.aload_n 0, 1) := by decide +kernel
theorem dX0_init_1 : decode cX0_init 1 = .ok (.invokespecial 3, 3) := by decide +kernel
theorem dX0_init_4 : decode cX0_init 4 = .ok (.aload_n 0, 1) := by decide +kernel
theorem dX0_init_5 : decode cX0_init 5 = .ok (.bipush 16, 2) := by decide +kernel
theorem dX0_init_7 : decode cX0_init 7 = .ok (.newarray .int, 2) := by decide +kernel
theorem dX0_init_9 : decode cX0_init 9 = .ok (.putfield 9, 3) := by decide +kernel
theorem dX0_init_12 : decode cX0_init 12 = .ok (.return_, 1) := by decide +kernel
theorem dX0_begin_0 : decode cX0_begin 0 = .ok (.aload_n 0, 1) := by decide +kernel
theorem dX0_begin_1 : decode cX0_begin 1 = .ok (.iconst 0, 1) := by decide +kernel
theorem dX0_begin_2 : decode cX0_begin 2 = .ok (.putfield 15, 3) := by decide +kernel
theorem dX0_begin_5 : decode cX0_begin 5 = .ok (.aload_n 0, 1) := by decide +kernel
theorem dX0_begin_6 : decode cX0_begin 6 = .ok (.iload_n 1, 1) := by decide +kernel
theorem dX0_begin_7 : decode cX0_begin 7 = .ok (.putfield 19, 3) := by decide +kernel
theorem dX0_begin_10 : decode cX0_begin 10 = .ok (.aload_n 0, 1) := by decide +kernel
theorem dX0_begin_11 : decode cX0_begin 11 = .ok (.iload_n 2, 1) := by decide +kernel
theorem dX0_begin_12 : decode cX0_begin 12 = .ok (.putfield 22, 3) := by decide +kernel
theorem dX0_begin_15 : decode cX0_begin 15 = .ok (.aload_n 0, 1) := by decide +kernel
theorem dX0_begin_16 : decode cX0_begin 16 = .ok (.iload_n 3, 1) := by decide +kernel
theorem dX0_begin_17 : decode cX0_begin 17 = .ok (.putfield 25, 3) := by decide +kernel
theorem dX0_begin_20 : decode cX0_begin 20 = .ok (.return_, 1) := by decide +kernel
theorem dX0_leave_0 : decode cX0_leave 0 = .ok (.aload_n 0, 1) := by decide +kernel
theorem dX0_leave_1 : decode cX0_leave 1 = .ok (.getfield 15, 3) := by decide +kernel
theorem dX0_leave_4 : decode cX0_leave 4 = .ok (.bipush 16, 2) := by decide +kernel
theorem dX0_leave_6 : decode cX0_leave 6 = .ok (.if_icmp .lt 4, 3) := by decide +kernel
theorem dX0_leave_9 : decode cX0_leave 9 = .ok (.return_, 1) := by decide +kernel
theorem dX0_leave_10 : decode cX0_leave 10 = .ok (.aload_n 0, 1) := by decide +kernel
theorem dX0_leave_11 : decode cX0_leave 11 = .ok (.getfield 9, 3) := by decide +kernel
theorem dX0_leave_14 : decode cX0_leave 14 = .ok (.aload_n 0, 1) := by decide +kernel
theorem dX0_leave_15 : decode cX0_leave 15 = .ok (.getfield 15, 3) := by decide +kernel
theorem dX0_leave_18 : decode cX0_leave 18 = .ok (.iload_n 1, 1) := by decide +kernel
theorem dX0_leave_19 : decode cX0_leave 19 = .ok (.iastore, 1) := by decide +kernel
theorem dX0_leave_20 : decode cX0_leave 20 = .ok (.aload_n 0, 1) := by decide +kernel
theorem dX0_leave_21 : decode cX0_leave 21 = .ok (.dup, 1) := by decide +kernel
theorem dX0_leave_22 : decode cX0_leave 22 = .ok (.getfield 15, 3) := by decide +kernel
theorem dX0_leave_25 : decode cX0_leave 25 = .ok (.iconst 1, 1) := by decide +kernel
theorem dX0_leave_26 : decode cX0_leave 26 = .ok (.iadd, 1) := by decide +kernel
theorem dX0_leave_27 : decode cX0_leave 27 = .ok (.putfield 15, 3) := by decide +kernel
theorem dX0_leave_30 : decode cX0_leave 30 = .ok (.return_, 1) := by decide +kernel
theorem dX1_init_0 : decode cX1_init 0 = .ok (.aload_n 0, 1) := by decide +kernel
theorem dX1_init_1 : decode cX1_init 1 = .ok (.invokespecial 1, 3) := by decide +kernel
theorem dX1_init_4 : decode cX1_init 4 = .ok (.return_, 1) := by decide +kernel
theorem dX1_sees_0 : decode cX1_sees 0 = .ok (.iload_n 2, 1) := by decide +kernel
theorem dX1_sees_1 : decode cX1_sees 1 = .ok (.aload_n 1, 1) := by decide +kernel
theorem dX1_sees_2 : decode cX1_sees 2 = .ok (.getfield 7, 3) := by decide +kernel
theorem dX1_sees_5 : decode cX1_sees 5 = .ok (.iand, 1) := by decide +kernel
theorem dX1_sees_6 : decode cX1_sees 6 = .ok (.ireturn, 1) := by decide +kernel
theorem dX1_size_0 : decode cX1_size 0 = .ok (.aload_n 1, 1) := by decide +kernel
theorem dX1_size_1 : decode cX1_size 1 = .ok (.bipush 14, 2) := by decide +kernel
theorem dX1_size_3 : decode cX1_size 3 = .ok (.invokevirtual 13, 3) := by decide +kernel
theorem dX1_size_6 : decode cX1_size 6 = .ok (.aload_n 0, 1) := by decide +kernel
theorem dX1_size_7 : decode cX1_size 7 = .ok (.aload_n 1, 1) := by decide +kernel
theorem dX1_size_8 : decode cX1_size 8 = .ok (.invokespecial 19, 3) := by decide +kernel
theorem dX1_size_11 : decode cX1_size 11 = .ok (.iconst 2, 1) := by decide +kernel
theorem dX1_size_12 : decode cX1_size 12 = .ok (.imul, 1) := by decide +kernel
theorem dX1_size_13 : decode cX1_size 13 = .ok (.ireturn, 1) := by decide +kernel
theorem dX2_init_0 : decode cX2_init 0 = .ok (.aload_n 0, 1) := by decide +kernel
theorem dX2_init_1 : decode cX2_init 1 = .ok (.invokespecial 1, 3) := by decide +kernel
theorem dX2_init_4 : decode cX2_init 4 = .ok (.return_, 1) := by decide +kernel
theorem dX2_sees_0 : decode cX2_sees 0 = .ok (.iload_n 2, 1) := by decide +kernel
theorem dX2_sees_1 : decode cX2_sees 1 = .ok (.aload_n 1, 1) := by decide +kernel
theorem dX2_sees_2 : decode cX2_sees 2 = .ok (.getfield 7, 3) := by decide +kernel
theorem dX2_sees_5 : decode cX2_sees 5 = .ok (.iand, 1) := by decide +kernel
theorem dX2_sees_6 : decode cX2_sees 6 = .ok (.aload_n 1, 1) := by decide +kernel
theorem dX2_sees_7 : decode cX2_sees 7 = .ok (.getfield 13, 3) := by decide +kernel
theorem dX2_sees_10 : decode cX2_sees 10 = .ok (.iconst (-1), 1) := by decide +kernel
theorem dX2_sees_11 : decode cX2_sees 11 = .ok (.ixor, 1) := by decide +kernel
theorem dX2_sees_12 : decode cX2_sees 12 = .ok (.iand, 1) := by decide +kernel
theorem dX2_sees_13 : decode cX2_sees 13 = .ok (.ireturn, 1) := by decide +kernel
theorem dX2_size_0 : decode cX2_size 0 = .ok (.aload_n 1, 1) := by decide +kernel
theorem dX2_size_1 : decode cX2_size 1 = .ok (.bipush 13, 2) := by decide +kernel
theorem dX2_size_3 : decode cX2_size 3 = .ok (.invokevirtual 16, 3) := by decide +kernel
theorem dX2_size_6 : decode cX2_size 6 = .ok (.aload_n 0, 1) := by decide +kernel
theorem dX2_size_7 : decode cX2_size 7 = .ok (.aload_n 1, 1) := by decide +kernel
theorem dX2_size_8 : decode cX2_size 8 = .ok (.invokespecial 22, 3) := by decide +kernel
theorem dX2_size_11 : decode cX2_size 11 = .ok (.bipush 100, 2) := by decide +kernel
theorem dX2_size_13 : decode cX2_size 13 = .ok (.isub, 1) := by decide +kernel
theorem dX2_size_14 : decode cX2_size 14 = .ok (.ireturn, 1) := by decide +kernel
theorem dX2_mark_0 : decode cX2_mark 0 = .ok (.aload_n 1, 1) := by decide +kernel
theorem dX2_mark_1 : decode cX2_mark 1 = .ok (.bipush 23, 2) := by decide +kernel
theorem dX2_mark_3 : decode cX2_mark 3 = .ok (.invokevirtual 16, 3) := by decide +kernel
theorem dX2_mark_6 : decode cX2_mark 6 = .ok (.aload_n 0, 1) := by decide +kernel
theorem dX2_mark_7 : decode cX2_mark 7 = .ok (.aload_n 1, 1) := by decide +kernel
theorem dX2_mark_8 : decode cX2_mark 8 = .ok (.invokespecial 26, 3) := by decide +kernel
theorem dX2_mark_11 : decode cX2_mark 11 = .ok (.istore_n 2, 1) := by decide +kernel
theorem dX2_mark_12 : decode cX2_mark 12 = .ok (.iload_n 2, 1) := by decide +kernel
theorem dX2_mark_13 : decode cX2_mark 13 = .ok (.aload_n 0, 1) := by decide +kernel
theorem dX2_mark_14 : decode cX2_mark 14 = .ok (.aload_n 1, 1) := by decide +kernel
theorem dX2_mark_15 : decode cX2_mark 15 = .ok (.invokevirtual 29, 3) := by decide +kernel
theorem dX2_mark_18 : decode cX2_mark 18 = .ok (.isub, 1) := by decide +kernel
theorem dX2_mark_19 : decode cX2_mark 19 = .ok (.ireturn, 1) := by decide +kernel
theorem dX3_init_0 : decode cX3_init 0 = .ok (.aload_n 0, 1) := by decide +kernel
theorem dX3_init_1 : decode cX3_init 1 = .ok (.invokespecial 1, 3) := by decide +kernel
theorem dX3_init_4 : decode cX3_init 4 = .ok (.return_, 1) := by decide +kernel
theorem dX3_size_0 : decode cX3_size 0 = .ok (.aload_n 1, 1) := by decide +kernel
theorem dX3_size_1 : decode cX3_size 1 = .ok (.bipush 10, 2) := by decide +kernel
theorem dX3_size_3 : decode cX3_size 3 = .ok (.invokevirtual 7, 3) := by decide +kernel
theorem dX3_size_6 : decode cX3_size 6 = .ok (.aload_n 1, 1) := by decide +kernel
theorem dX3_size_7 : decode cX3_size 7 = .ok (.getfield 13, 3) := by decide +kernel
theorem dX3_size_10 : decode cX3_size 10 = .ok (.ireturn, 1) := by decide +kernel
theorem dX3_mark_0 : decode cX3_mark 0 = .ok (.aload_n 1, 1) := by decide +kernel
theorem dX3_mark_1 : decode cX3_mark 1 = .ok (.bipush 20, 2) := by decide +kernel
theorem dX3_mark_3 : decode cX3_mark 3 = .ok (.invokevirtual 7, 3) := by decide +kernel
theorem dX3_mark_6 : decode cX3_mark 6 = .ok (.aload_n 1, 1) := by decide +kernel
theorem dX3_mark_7 : decode cX3_mark 7 = .ok (.getfield 17, 3) := by decide +kernel
theorem dX3_mark_10 : decode cX3_mark 10 = .ok (.ireturn, 1) := by decide +kernel
theorem dX4_init_0 : decode cX4_init 0 = .ok (.aload_n 0, 1) := by decide +kernel
theorem dX4_init_1 : decode cX4_init 1 = .ok (.invokespecial 3, 3) := by decide +kernel
theorem dX4_init_4 : decode cX4_init 4 = .ok (.aload_n 0, 1) := by decide +kernel
theorem dX4_init_5 : decode cX4_init 5 = .ok (.bipush 25, 2) := by decide +kernel
theorem dX4_init_7 : decode cX4_init 7 = .ok (.newarray .int, 2) := by decide +kernel
theorem dX4_init_9 : decode cX4_init 9 = .ok (.putfield 9, 3) := by decide +kernel
theorem dX4_init_12 : decode cX4_init 12 = .ok (.aload_n 0, 1) := by decide +kernel
theorem dX4_init_13 : decode cX4_init 13 = .ok (.aload_n 1, 1) := by decide +kernel
theorem dX4_init_14 : decode cX4_init 14 = .ok (.putfield 15, 3) := by decide +kernel
theorem dX4_init_17 : decode cX4_init 17 = .ok (.aload_n 0, 1) := by decide +kernel
theorem dX4_init_18 : decode cX4_init 18 = .ok (.new 19, 3) := by decide +kernel
theorem dX4_init_21 : decode cX4_init 21 = .ok (.dup, 1) := by decide +kernel
theorem dX4_init_22 : decode cX4_init 22 = .ok (.aload_n 2, 1) := by decide +kernel
theorem dX4_init_23 : decode cX4_init 23 = .ok (.invokespecial 21, 3) := by decide +kernel
theorem dX4_init_26 : decode cX4_init 26 = .ok (.putfield 24, 3) := by decide +kernel
theorem dX4_init_29 : decode cX4_init 29 = .ok (.return_, 1) := by decide +kernel
theorem dX4_after_0 : decode cX4_after 0 = .ok (.aload_n 0, 1) := by decide +kernel
theorem dX4_after_1 : decode cX4_after 1 = .ok (.getfield 24, 3) := by decide +kernel
theorem dX4_after_4 : decode cX4_after 4 = .ok (.aload_n 0, 1) := by decide +kernel
theorem dX4_after_5 : decode cX4_after 5 = .ok (.getfield 15, 3) := by decide +kernel
theorem dX4_after_8 : decode cX4_after 8 = .ok (.invokevirtual 27, 3) := by decide +kernel
theorem dX4_after_11 : decode cX4_after 11 = .ok (.aload_n 0, 1) := by decide +kernel
theorem dX4_after_12 : decode cX4_after 12 = .ok (.iload_n 1, 1) := by decide +kernel
theorem dX4_after_13 : decode cX4_after 13 = .ok (.iload_n 2, 1) := by decide +kernel
theorem dX4_after_14 : decode cX4_after 14 = .ok (.invokevirtual 31, 3) := by decide +kernel
theorem dX4_after_17 : decode cX4_after 17 = .ok (.iload_n 3, 1) := by decide +kernel
theorem dX4_after_18 : decode cX4_after 18 = .ok (.ifCond .ne 15, 3) := by decide +kernel
theorem dX4_after_21 : decode cX4_after 21 = .ok (.aload_n 0, 1) := by decide +kernel
theorem dX4_after_22 : decode cX4_after 22 = .ok (.getfield 24, 3) := by decide +kernel
theorem dX4_after_25 : decode cX4_after 25 = .ok (.getfield 35, 3) := by decide +kernel
theorem dX4_after_28 : decode cX4_after 28 = .ok (.iload_n 1, 1) := by decide +kernel
theorem dX4_after_29 : decode cX4_after 29 = .ok (.iaload, 1) := by decide +kernel
theorem dX4_after_30 : decode cX4_after 30 = .ok (.goto 12, 3) := by decide +kernel
theorem dX4_after_33 : decode cX4_after 33 = .ok (.aload_n 0, 1) := by decide +kernel
theorem dX4_after_34 : decode cX4_after 34 = .ok (.getfield 24, 3) := by decide +kernel
theorem dX4_after_37 : decode cX4_after 37 = .ok (.getfield 38, 3) := by decide +kernel
theorem dX4_after_40 : decode cX4_after 40 = .ok (.iload_n 1, 1) := by decide +kernel
theorem dX4_after_41 : decode cX4_after 41 = .ok (.iaload, 1) := by decide +kernel
theorem dX4_after_42 : decode cX4_after 42 = .ok (.ireturn, 1) := by decide +kernel
theorem dX4_goOn_0 : decode cX4_goOn 0 = .ok (.iconst 0, 1) := by decide +kernel
theorem dX4_goOn_1 : decode cX4_goOn 1 = .ok (.istore_n 3, 1) := by decide +kernel
theorem dX4_goOn_2 : decode cX4_goOn 2 = .ok (.iload_n 3, 1) := by decide +kernel
theorem dX4_goOn_3 : decode cX4_goOn 3 = .ok (.iload_n 2, 1) := by decide +kernel
theorem dX4_goOn_4 : decode cX4_goOn 4 = .ok (.if_icmp .ge 24, 3) := by decide +kernel
theorem dX4_goOn_7 : decode cX4_goOn 7 = .ok (.aload_n 0, 1) := by decide +kernel
theorem dX4_goOn_8 : decode cX4_goOn 8 = .ok (.getfield 24, 3) := by decide +kernel
theorem dX4_goOn_11 : decode cX4_goOn 11 = .ok (.iload_n 1, 1) := by decide +kernel
theorem dX4_goOn_12 : decode cX4_goOn 12 = .ok (.invokevirtual 41, 3) := by decide +kernel
theorem dX4_goOn_15 : decode cX4_goOn 15 = .ok (.aload_n 0, 1) := by decide +kernel
theorem dX4_goOn_16 : decode cX4_goOn 16 = .ok (.getfield 24, 3) := by decide +kernel
theorem dX4_goOn_19 : decode cX4_goOn 19 = .ok (.invokevirtual 45, 3) := by decide +kernel
theorem dX4_goOn_22 : decode cX4_goOn 22 = .ok (.iinc 3 1, 3) := by decide +kernel
theorem dX4_goOn_25 : decode cX4_goOn 25 = .ok (.goto (-23), 3) := by decide +kernel
theorem dX4_goOn_28 : decode cX4_goOn 28 = .ok (.return_, 1) := by decide +kernel
theorem dX4_daysUntilAllKnown_0 : decode cX4_daysUntilAllKnown 0 = .ok (.aload_n 0, 1) := by decide +kernel
theorem dX4_daysUntilAllKnown_1 : decode cX4_daysUntilAllKnown 1 = .ok (.getfield 24, 3) := by decide +kernel
theorem dX4_daysUntilAllKnown_4 : decode cX4_daysUntilAllKnown 4 = .ok (.aload_n 0, 1) := by decide +kernel
theorem dX4_daysUntilAllKnown_5 : decode cX4_daysUntilAllKnown 5 = .ok (.getfield 15, 3) := by decide +kernel
theorem dX4_daysUntilAllKnown_8 : decode cX4_daysUntilAllKnown 8 = .ok (.invokevirtual 27, 3) := by decide +kernel
theorem dX4_daysUntilAllKnown_11 : decode cX4_daysUntilAllKnown 11 = .ok (.iconst 0, 1) := by decide +kernel
theorem dX4_daysUntilAllKnown_12 : decode cX4_daysUntilAllKnown 12 = .ok (.istore_n 2, 1) := by decide +kernel
theorem dX4_daysUntilAllKnown_13 : decode cX4_daysUntilAllKnown 13 = .ok (.iload_n 2, 1) := by decide +kernel
theorem dX4_daysUntilAllKnown_14 : decode cX4_daysUntilAllKnown 14 = .ok (.bipush 60, 2) := by decide +kernel
theorem dX4_daysUntilAllKnown_16 : decode cX4_daysUntilAllKnown 16 = .ok (.if_icmp .gt 45, 3) := by decide +kernel
theorem dX4_daysUntilAllKnown_19 : decode cX4_daysUntilAllKnown 19 = .ok (.aload_n 0, 1) := by decide +kernel
theorem dX4_daysUntilAllKnown_20 : decode cX4_daysUntilAllKnown 20 = .ok (.getfield 24, 3) := by decide +kernel
theorem dX4_daysUntilAllKnown_23 : decode cX4_daysUntilAllKnown 23 = .ok (.getfield 38, 3) := by decide +kernel
theorem dX4_daysUntilAllKnown_26 : decode cX4_daysUntilAllKnown 26 = .ok (.iload_n 1, 1) := by decide +kernel
theorem dX4_daysUntilAllKnown_27 : decode cX4_daysUntilAllKnown 27 = .ok (.iaload, 1) := by decide +kernel
theorem dX4_daysUntilAllKnown_28 : decode cX4_daysUntilAllKnown 28 = .ok (.aload_n 0, 1) := by decide +kernel
theorem dX4_daysUntilAllKnown_29 : decode cX4_daysUntilAllKnown 29 = .ok (.getfield 24, 3) := by decide +kernel
theorem dX4_daysUntilAllKnown_32 : decode cX4_daysUntilAllKnown 32 = .ok (.invokevirtual 48, 3) := by decide +kernel
theorem dX4_daysUntilAllKnown_35 : decode cX4_daysUntilAllKnown 35 = .ok (.if_icmp .ne 5, 3) := by decide +kernel
theorem dX4_daysUntilAllKnown_38 : decode cX4_daysUntilAllKnown 38 = .ok (.iload_n 2, 1) := by decide +kernel
theorem dX4_daysUntilAllKnown_39 : decode cX4_daysUntilAllKnown 39 = .ok (.ireturn, 1) := by decide +kernel
theorem dX4_daysUntilAllKnown_40 : decode cX4_daysUntilAllKnown 40 = .ok (.aload_n 0, 1) := by decide +kernel
theorem dX4_daysUntilAllKnown_41 : decode cX4_daysUntilAllKnown 41 = .ok (.getfield 24, 3) := by decide +kernel
theorem dX4_daysUntilAllKnown_44 : decode cX4_daysUntilAllKnown 44 = .ok (.iload_n 1, 1) := by decide +kernel
theorem dX4_daysUntilAllKnown_45 : decode cX4_daysUntilAllKnown 45 = .ok (.invokevirtual 41, 3) := by decide +kernel
theorem dX4_daysUntilAllKnown_48 : decode cX4_daysUntilAllKnown 48 = .ok (.aload_n 0, 1) := by decide +kernel
theorem dX4_daysUntilAllKnown_49 : decode cX4_daysUntilAllKnown 49 = .ok (.getfield 24, 3) := by decide +kernel
theorem dX4_daysUntilAllKnown_52 : decode cX4_daysUntilAllKnown 52 = .ok (.invokevirtual 45, 3) := by decide +kernel
theorem dX4_daysUntilAllKnown_55 : decode cX4_daysUntilAllKnown 55 = .ok (.iinc 2 1, 3) := by decide +kernel
theorem dX4_daysUntilAllKnown_58 : decode cX4_daysUntilAllKnown 58 = .ok (.goto (-45), 3) := by decide +kernel
theorem dX4_daysUntilAllKnown_61 : decode cX4_daysUntilAllKnown 61 = .ok (.ldc 52, 2) := by decide +kernel
theorem dX4_daysUntilAllKnown_63 : decode cX4_daysUntilAllKnown 63 = .ok (.ireturn, 1) := by decide +kernel
theorem dX4_firstToKnowAll_0 : decode cX4_firstToKnowAll 0 = .ok (.ldc 52, 2) := by decide +kernel
theorem dX4_firstToKnowAll_2 : decode cX4_firstToKnowAll 2 = .ok (.istore_n 2, 1) := by decide +kernel
theorem dX4_firstToKnowAll_3 : decode cX4_firstToKnowAll 3 = .ok (.bipush 61, 2) := by decide +kernel
theorem dX4_firstToKnowAll_5 : decode cX4_firstToKnowAll 5 = .ok (.istore_n 3, 1) := by decide +kernel
theorem dX4_firstToKnowAll_6 : decode cX4_firstToKnowAll 6 = .ok (.iconst 0, 1) := by decide +kernel
theorem dX4_firstToKnowAll_7 : decode cX4_firstToKnowAll 7 = .ok (.istore 4, 2) := by decide +kernel
theorem dX4_firstToKnowAll_9 : decode cX4_firstToKnowAll 9 = .ok (.iload 4, 2) := by decide +kernel
theorem dX4_firstToKnowAll_11 : decode cX4_firstToKnowAll 11 = .ok (.aload_n 0, 1) := by decide +kernel
theorem dX4_firstToKnowAll_12 : decode cX4_firstToKnowAll 12 = .ok (.getfield 15, 3) := by decide +kernel
theorem dX4_firstToKnowAll_15 : decode cX4_firstToKnowAll 15 = .ok (.getfield 53, 3) := by decide +kernel
theorem dX4_firstToKnowAll_18 : decode cX4_firstToKnowAll 18 = .ok (.if_icmp .ge 36, 3) := by decide +kernel
theorem dX4_firstToKnowAll_21 : decode cX4_firstToKnowAll 21 = .ok (.aload_n 0, 1) := by decide +kernel
theorem dX4_firstToKnowAll_22 : decode cX4_firstToKnowAll 22 = .ok (.iload 4, 2) := by decide +kernel
theorem dX4_firstToKnowAll_24 : decode cX4_firstToKnowAll 24 = .ok (.invokevirtual 57, 3) := by decide +kernel
theorem dX4_firstToKnowAll_27 : decode cX4_firstToKnowAll 27 = .ok (.istore 5, 2) := by decide +kernel
theorem dX4_firstToKnowAll_29 : decode cX4_firstToKnowAll 29 = .ok (.iload 5, 2) := by decide +kernel
theorem dX4_firstToKnowAll_31 : decode cX4_firstToKnowAll 31 = .ok (.ldc 52, 2) := by decide +kernel
theorem dX4_firstToKnowAll_33 : decode cX4_firstToKnowAll 33 = .ok (.if_icmp .eq 15, 3) := by decide +kernel
theorem dX4_firstToKnowAll_36 : decode cX4_firstToKnowAll 36 = .ok (.iload 5, 2) := by decide +kernel
theorem dX4_firstToKnowAll_38 : decode cX4_firstToKnowAll 38 = .ok (.iload_n 3, 1) := by decide +kernel
theorem dX4_firstToKnowAll_39 : decode cX4_firstToKnowAll 39 = .ok (.if_icmp .ge 9, 3) := by decide +kernel
theorem dX4_firstToKnowAll_42 : decode cX4_firstToKnowAll 42 = .ok (.iload 4, 2) := by decide +kernel
theorem dX4_firstToKnowAll_44 : decode cX4_firstToKnowAll 44 = .ok (.istore_n 2, 1) := by decide +kernel
theorem dX4_firstToKnowAll_45 : decode cX4_firstToKnowAll 45 = .ok (.iload 5, 2) := by decide +kernel
theorem dX4_firstToKnowAll_47 : decode cX4_firstToKnowAll 47 = .ok (.istore_n 3, 1) := by decide +kernel
theorem dX4_firstToKnowAll_48 : decode cX4_firstToKnowAll 48 = .ok (.iinc 4 1, 3) := by decide +kernel
theorem dX4_firstToKnowAll_51 : decode cX4_firstToKnowAll 51 = .ok (.goto (-42), 3) := by decide +kernel
theorem dX4_firstToKnowAll_54 : decode cX4_firstToKnowAll 54 = .ok (.iload_n 1, 1) := by decide +kernel
theorem dX4_firstToKnowAll_55 : decode cX4_firstToKnowAll 55 = .ok (.ifCond .eq 9, 3) := by decide +kernel
theorem dX4_firstToKnowAll_58 : decode cX4_firstToKnowAll 58 = .ok (.iload_n 2, 1) := by decide +kernel
theorem dX4_firstToKnowAll_59 : decode cX4_firstToKnowAll 59 = .ok (.ldc 52, 2) := by decide +kernel
theorem dX4_firstToKnowAll_61 : decode cX4_firstToKnowAll 61 = .ok (.if_icmp .ne 7, 3) := by decide +kernel
theorem dX4_firstToKnowAll_64 : decode cX4_firstToKnowAll 64 = .ok (.iload_n 2, 1) := by decide +kernel
theorem dX4_firstToKnowAll_65 : decode cX4_firstToKnowAll 65 = .ok (.goto 4, 3) := by decide +kernel
theorem dX4_firstToKnowAll_68 : decode cX4_firstToKnowAll 68 = .ok (.iload_n 3, 1) := by decide +kernel
theorem dX4_firstToKnowAll_69 : decode cX4_firstToKnowAll 69 = .ok (.ireturn, 1) := by decide +kernel
theorem dX4_fewestMoves_0 : decode cX4_fewestMoves 0 = .ok (.aload_n 0, 1) := by decide +kernel
theorem dX4_fewestMoves_1 : decode cX4_fewestMoves 1 = .ok (.getfield 9, 3) := by decide +kernel
theorem dX4_fewestMoves_4 : decode cX4_fewestMoves 4 = .ok (.iconst 0, 1) := by decide +kernel
theorem dX4_fewestMoves_5 : decode cX4_fewestMoves 5 = .ok (.invokestatic 61, 3) := by decide +kernel
theorem dX4_fewestMoves_8 : decode cX4_fewestMoves 8 = .ok (.iconst 0, 1) := by decide +kernel
theorem dX4_fewestMoves_9 : decode cX4_fewestMoves 9 = .ok (.istore_n 2, 1) := by decide +kernel
theorem dX4_fewestMoves_10 : decode cX4_fewestMoves 10 = .ok (.iload_n 2, 1) := by decide +kernel
theorem dX4_fewestMoves_11 : decode cX4_fewestMoves 11 = .ok (.aload_n 0, 1) := by decide +kernel
theorem dX4_fewestMoves_12 : decode cX4_fewestMoves 12 = .ok (.getfield 15, 3) := by decide +kernel
theorem dX4_fewestMoves_15 : decode cX4_fewestMoves 15 = .ok (.getfield 67, 3) := by decide +kernel
theorem dX4_fewestMoves_18 : decode cX4_fewestMoves 18 = .ok (.if_icmp .ge 108, 3) := by decide +kernel
theorem dX4_fewestMoves_21 : decode cX4_fewestMoves 21 = .ok (.aload_n 0, 1) := by decide +kernel
theorem dX4_fewestMoves_22 : decode cX4_fewestMoves 22 = .ok (.getfield 15, 3) := by decide +kernel
theorem dX4_fewestMoves_25 : decode cX4_fewestMoves 25 = .ok (.getfield 70, 3) := by decide +kernel
theorem dX4_fewestMoves_28 : decode cX4_fewestMoves 28 = .ok (.istore_n 3, 1) := by decide +kernel
theorem dX4_fewestMoves_29 : decode cX4_fewestMoves 29 = .ok (.iload_n 3, 1) := by decide +kernel
theorem dX4_fewestMoves_30 : decode cX4_fewestMoves 30 = .ok (.ifCond .lt 48, 3) := by decide +kernel
theorem dX4_fewestMoves_33 : decode cX4_fewestMoves 33 = .ok (.aload_n 0, 1) := by decide +kernel
theorem dX4_fewestMoves_34 : decode cX4_fewestMoves 34 = .ok (.getfield 9, 3) := by decide +kernel
theorem dX4_fewestMoves_37 : decode cX4_fewestMoves 37 = .ok (.iload_n 3, 1) := by decide +kernel
theorem dX4_fewestMoves_38 : decode cX4_fewestMoves 38 = .ok (.iload_n 3, 1) := by decide +kernel
theorem dX4_fewestMoves_39 : decode cX4_fewestMoves 39 = .ok (.iload_n 1, 1) := by decide +kernel
theorem dX4_fewestMoves_40 : decode cX4_fewestMoves 40 = .ok (.if_icmp .lt 29, 3) := by decide +kernel
theorem dX4_fewestMoves_43 : decode cX4_fewestMoves 43 = .ok (.aload_n 0, 1) := by decide +kernel
theorem dX4_fewestMoves_44 : decode cX4_fewestMoves 44 = .ok (.getfield 9, 3) := by decide +kernel
theorem dX4_fewestMoves_47 : decode cX4_fewestMoves 47 = .ok (.iload_n 3, 1) := by decide +kernel
theorem dX4_fewestMoves_48 : decode cX4_fewestMoves 48 = .ok (.iload_n 1, 1) := by decide +kernel
theorem dX4_fewestMoves_49 : decode cX4_fewestMoves 49 = .ok (.isub, 1) := by decide +kernel
theorem dX4_fewestMoves_50 : decode cX4_fewestMoves 50 = .ok (.iaload, 1) := by decide +kernel
theorem dX4_fewestMoves_51 : decode cX4_fewestMoves 51 = .ok (.iload_n 3, 1) := by decide +kernel
theorem dX4_fewestMoves_52 : decode cX4_fewestMoves 52 = .ok (.aload_n 0, 1) := by decide +kernel
theorem dX4_fewestMoves_53 : decode cX4_fewestMoves 53 = .ok (.getfield 15, 3) := by decide +kernel
theorem dX4_fewestMoves_56 : decode cX4_fewestMoves 56 = .ok (.getfield 73, 3) := by decide +kernel
theorem dX4_fewestMoves_59 : decode cX4_fewestMoves 59 = .ok (.iload_n 2, 1) := by decide +kernel
theorem dX4_fewestMoves_60 : decode cX4_fewestMoves 60 = .ok (.iaload, 1) := by decide +kernel
theorem dX4_fewestMoves_61 : decode cX4_fewestMoves 61 = .ok (.isub, 1) := by decide +kernel
theorem dX4_fewestMoves_62 : decode cX4_fewestMoves 62 = .ok (.invokestatic 76, 3) := by decide +kernel
theorem dX4_fewestMoves_65 : decode cX4_fewestMoves 65 = .ok (.iadd, 1) := by decide +kernel
theorem dX4_fewestMoves_66 : decode cX4_fewestMoves 66 = .ok (.goto 5, 3) := by decide +kernel
theorem dX4_fewestMoves_69 : decode cX4_fewestMoves 69 = .ok (.ldc 81, 2) := by decide +kernel
theorem dX4_fewestMoves_71 : decode cX4_fewestMoves 71 = .ok (.iastore, 1) := by decide +kernel
theorem dX4_fewestMoves_72 : decode cX4_fewestMoves 72 = .ok (.iinc 3 (-1), 3) := by decide +kernel
theorem dX4_fewestMoves_75 : decode cX4_fewestMoves 75 = .ok (.goto (-46), 3) := by decide +kernel
theorem dX4_fewestMoves_78 : decode cX4_fewestMoves 78 = .ok (.iconst 1, 1) := by decide +kernel
theorem dX4_fewestMoves_79 : decode cX4_fewestMoves 79 = .ok (.istore_n 3, 1) := by decide +kernel
theorem dX4_fewestMoves_80 : decode cX4_fewestMoves 80 = .ok (.iload_n 3, 1) := by decide +kernel
theorem dX4_fewestMoves_81 : decode cX4_fewestMoves 81 = .ok (.aload_n 0, 1) := by decide +kernel
theorem dX4_fewestMoves_82 : decode cX4_fewestMoves 82 = .ok (.getfield 15, 3) := by decide +kernel
theorem dX4_fewestMoves_85 : decode cX4_fewestMoves 85 = .ok (.getfield 70, 3) := by decide +kernel
theorem dX4_fewestMoves_88 : decode cX4_fewestMoves 88 = .ok (.if_icmp .gt 32, 3) := by decide +kernel
theorem dX4_fewestMoves_91 : decode cX4_fewestMoves 91 = .ok (.aload_n 0, 1) := by decide +kernel
theorem dX4_fewestMoves_92 : decode cX4_fewestMoves 92 = .ok (.getfield 9, 3) := by decide +kernel
theorem dX4_fewestMoves_95 : decode cX4_fewestMoves 95 = .ok (.iload_n 3, 1) := by decide +kernel
theorem dX4_fewestMoves_96 : decode cX4_fewestMoves 96 = .ok (.aload_n 0, 1) := by decide +kernel
theorem dX4_fewestMoves_97 : decode cX4_fewestMoves 97 = .ok (.getfield 9, 3) := by decide +kernel
theorem dX4_fewestMoves_100 : decode cX4_fewestMoves 100 = .ok (.iload_n 3, 1) := by decide +kernel
theorem dX4_fewestMoves_101 : decode cX4_fewestMoves 101 = .ok (.iaload, 1) := by decide +kernel
theorem dX4_fewestMoves_102 : decode cX4_fewestMoves 102 = .ok (.aload_n 0, 1) := by decide +kernel
theorem dX4_fewestMoves_103 : decode cX4_fewestMoves 103 = .ok (.getfield 9, 3) := by decide +kernel
theorem dX4_fewestMoves_106 : decode cX4_fewestMoves 106 = .ok (.iload_n 3, 1) := by decide +kernel
theorem dX4_fewestMoves_107 : decode cX4_fewestMoves 107 = .ok (.iconst 1, 1) := by decide +kernel
theorem dX4_fewestMoves_108 : decode cX4_fewestMoves 108 = .ok (.isub, 1) := by decide +kernel
theorem dX4_fewestMoves_109 : decode cX4_fewestMoves 109 = .ok (.iaload, 1) := by decide +kernel
theorem dX4_fewestMoves_110 : decode cX4_fewestMoves 110 = .ok (.invokestatic 82, 3) := by decide +kernel
theorem dX4_fewestMoves_113 : decode cX4_fewestMoves 113 = .ok (.iastore, 1) := by decide +kernel
theorem dX4_fewestMoves_114 : decode cX4_fewestMoves 114 = .ok (.iinc 3 1, 3) := by decide +kernel
theorem dX4_fewestMoves_117 : decode cX4_fewestMoves 117 = .ok (.goto (-37), 3) := by decide +kernel
theorem dX4_fewestMoves_120 : decode cX4_fewestMoves 120 = .ok (.iinc 2 1, 3) := by decide +kernel
theorem dX4_fewestMoves_123 : decode cX4_fewestMoves 123 = .ok (.goto (-113), 3) := by decide +kernel
theorem dX4_fewestMoves_126 : decode cX4_fewestMoves 126 = .ok (.aload_n 0, 1) := by decide +kernel
theorem dX4_fewestMoves_127 : decode cX4_fewestMoves 127 = .ok (.getfield 15, 3) := by decide +kernel
theorem dX4_fewestMoves_130 : decode cX4_fewestMoves 130 = .ok (.getfield 70, 3) := by decide +kernel
theorem dX4_fewestMoves_133 : decode cX4_fewestMoves 133 = .ok (.iload_n 1, 1) := by decide +kernel
theorem dX4_fewestMoves_134 : decode cX4_fewestMoves 134 = .ok (.isub, 1) := by decide +kernel
theorem dX4_fewestMoves_135 : decode cX4_fewestMoves 135 = .ok (.istore_n 2, 1) := by decide +kernel
theorem dX4_fewestMoves_136 : decode cX4_fewestMoves 136 = .ok (.iload_n 2, 1) := by decide +kernel
theorem dX4_fewestMoves_137 : decode cX4_fewestMoves 137 = .ok (.ifCond .lt 23, 3) := by decide +kernel
theorem dX4_fewestMoves_140 : decode cX4_fewestMoves 140 = .ok (.aload_n 0, 1) := by decide +kernel
theorem dX4_fewestMoves_141 : decode cX4_fewestMoves 141 = .ok (.getfield 9, 3) := by decide +kernel
theorem dX4_fewestMoves_144 : decode cX4_fewestMoves 144 = .ok (.iload_n 2, 1) := by decide +kernel
theorem dX4_fewestMoves_145 : decode cX4_fewestMoves 145 = .ok (.iaload, 1) := by decide +kernel
theorem dX4_fewestMoves_146 : decode cX4_fewestMoves 146 = .ok (.ldc 81, 2) := by decide +kernel
theorem dX4_fewestMoves_148 : decode cX4_fewestMoves 148 = .ok (.if_icmp .ge 12, 3) := by decide +kernel
theorem dX4_fewestMoves_151 : decode cX4_fewestMoves 151 = .ok (.aload_n 0, 1) := by decide +kernel
theorem dX4_fewestMoves_152 : decode cX4_fewestMoves 152 = .ok (.getfield 9, 3) := by decide +kernel
theorem dX4_fewestMoves_155 : decode cX4_fewestMoves 155 = .ok (.iload_n 2, 1) := by decide +kernel
theorem dX4_fewestMoves_156 : decode cX4_fewestMoves 156 = .ok (.iaload, 1) := by decide +kernel
theorem dX4_fewestMoves_157 : decode cX4_fewestMoves 157 = .ok (.goto 5, 3) := by decide +kernel
theorem dX4_fewestMoves_160 : decode cX4_fewestMoves 160 = .ok (.ldc 52, 2) := by decide +kernel
theorem dX4_fewestMoves_162 : decode cX4_fewestMoves 162 = .ok (.ireturn, 1) := by decide +kernel
theorem dX4_whichFit_0 : decode cX4_whichFit 0 = .ok (.iconst 0, 1) := by decide +kernel
theorem dX4_whichFit_1 : decode cX4_whichFit 1 = .ok (.istore 6, 2) := by decide +kernel
theorem dX4_whichFit_3 : decode cX4_whichFit 3 = .ok (.iload 5, 2) := by decide +kernel
theorem dX4_whichFit_5 : decode cX4_whichFit 5 = .ok (.invokestatic 86, 3) := by decide +kernel
theorem dX4_whichFit_8 : decode cX4_whichFit 8 = .ok (.istore 7, 2) := by decide +kernel
theorem dX4_whichFit_10 : decode cX4_whichFit 10 = .ok (.iload 7, 2) := by decide +kernel
theorem dX4_whichFit_12 : decode cX4_whichFit 12 = .ok (.aload_n 0, 1) := by decide +kernel
theorem dX4_whichFit_13 : decode cX4_whichFit 13 = .ok (.iload 5, 2) := by decide +kernel
theorem dX4_whichFit_15 : decode cX4_whichFit 15 = .ok (.invokevirtual 89, 3) := by decide +kernel
theorem dX4_whichFit_18 : decode cX4_whichFit 18 = .ok (.if_icmp .gt 50, 3) := by decide +kernel
theorem dX4_whichFit_21 : decode cX4_whichFit 21 = .ok (.aload_n 0, 1) := by decide +kernel
theorem dX4_whichFit_22 : decode cX4_whichFit 22 = .ok (.getfield 24, 3) := by decide +kernel
theorem dX4_whichFit_25 : decode cX4_whichFit 25 = .ok (.aload_n 0, 1) := by decide +kernel
theorem dX4_whichFit_26 : decode cX4_whichFit 26 = .ok (.getfield 15, 3) := by decide +kernel
theorem dX4_whichFit_29 : decode cX4_whichFit 29 = .ok (.invokevirtual 27, 3) := by decide +kernel
theorem dX4_whichFit_32 : decode cX4_whichFit 32 = .ok (.aload_n 0, 1) := by decide +kernel
theorem dX4_whichFit_33 : decode cX4_whichFit 33 = .ok (.iload_n 1, 1) := by decide +kernel
theorem dX4_whichFit_34 : decode cX4_whichFit 34 = .ok (.iload 5, 2) := by decide +kernel
theorem dX4_whichFit_36 : decode cX4_whichFit 36 = .ok (.iload 7, 2) := by decide +kernel
theorem dX4_whichFit_38 : decode cX4_whichFit 38 = .ok (.invokevirtual 92, 3) := by decide +kernel
theorem dX4_whichFit_41 : decode cX4_whichFit 41 = .ok (.aload_n 0, 1) := by decide +kernel
theorem dX4_whichFit_42 : decode cX4_whichFit 42 = .ok (.iload_n 1, 1) := by decide +kernel
theorem dX4_whichFit_43 : decode cX4_whichFit 43 = .ok (.aload_n 2, 1) := by decide +kernel
theorem dX4_whichFit_44 : decode cX4_whichFit 44 = .ok (.iload_n 3, 1) := by decide +kernel
theorem dX4_whichFit_45 : decode cX4_whichFit 45 = .ok (.iload 4, 2) := by decide +kernel
theorem dX4_whichFit_47 : decode cX4_whichFit 47 = .ok (.invokevirtual 96, 3) := by decide +kernel
theorem dX4_whichFit_50 : decode cX4_whichFit 50 = .ok (.ifCond .eq 12, 3) := by decide +kernel
theorem dX4_whichFit_53 : decode cX4_whichFit 53 = .ok (.iload 6, 2) := by decide +kernel
theorem dX4_whichFit_55 : decode cX4_whichFit 55 = .ok (.iconst 1, 1) := by decide +kernel
theorem dX4_whichFit_56 : decode cX4_whichFit 56 = .ok (.iload 7, 2) := by decide +kernel
theorem dX4_whichFit_58 : decode cX4_whichFit 58 = .ok (.ishl, 1) := by decide +kernel
theorem dX4_whichFit_59 : decode cX4_whichFit 59 = .ok (.ior, 1) := by decide +kernel
theorem dX4_whichFit_60 : decode cX4_whichFit 60 = .ok (.istore 6, 2) := by decide +kernel
theorem dX4_whichFit_62 : decode cX4_whichFit 62 = .ok (.iinc 7 1, 3) := by decide +kernel
theorem dX4_whichFit_65 : decode cX4_whichFit 65 = .ok (.goto (-55), 3) := by decide +kernel
theorem dX4_whichFit_68 : decode cX4_whichFit 68 = .ok (.iload 6, 2) := by decide +kernel
theorem dX4_whichFit_70 : decode cX4_whichFit 70 = .ok (.ireturn, 1) := by decide +kernel
theorem dX4_leastGuess_0 : decode cX4_leastGuess 0 = .ok (.iload_n 0, 1) := by decide +kernel
theorem dX4_leastGuess_1 : decode cX4_leastGuess 1 = .ok (.ifCond .ne 7, 3) := by decide +kernel
theorem dX4_leastGuess_4 : decode cX4_leastGuess 4 = .ok (.iconst 1, 1) := by decide +kernel
theorem dX4_leastGuess_5 : decode cX4_leastGuess 5 = .ok (.goto 4, 3) := by decide +kernel
theorem dX4_leastGuess_8 : decode cX4_leastGuess 8 = .ok (.iconst 0, 1) := by decide +kernel
theorem dX4_leastGuess_9 : decode cX4_leastGuess 9 = .ok (.ireturn, 1) := by decide +kernel
theorem dX4_greatestGuess_0 : decode cX4_greatestGuess 0 = .ok (.iload_n 1, 1) := by decide +kernel
theorem dX4_greatestGuess_1 : decode cX4_greatestGuess 1 = .ok (.tableswitch 39 0 2 #[27, 29, 37], 27) := by decide +kernel
theorem dX4_greatestGuess_28 : decode cX4_greatestGuess 28 = .ok (.iconst 5, 1) := by decide +kernel
theorem dX4_greatestGuess_29 : decode cX4_greatestGuess 29 = .ok (.ireturn, 1) := by decide +kernel
theorem dX4_greatestGuess_30 : decode cX4_greatestGuess 30 = .ok (.aload_n 0, 1) := by decide +kernel
theorem dX4_greatestGuess_31 : decode cX4_greatestGuess 31 = .ok (.getfield 15, 3) := by decide +kernel
theorem dX4_greatestGuess_34 : decode cX4_greatestGuess 34 = .ok (.getfield 67, 3) := by decide +kernel
theorem dX4_greatestGuess_37 : decode cX4_greatestGuess 37 = .ok (.ireturn, 1) := by decide +kernel
theorem dX4_greatestGuess_38 : decode cX4_greatestGuess 38 = .ok (.iconst 1, 1) := by decide +kernel
theorem dX4_greatestGuess_39 : decode cX4_greatestGuess 39 = .ok (.ireturn, 1) := by decide +kernel
theorem dX4_greatestGuess_40 : decode cX4_greatestGuess 40 = .ok (.bipush 24, 2) := by decide +kernel
theorem dX4_greatestGuess_42 : decode cX4_greatestGuess 42 = .ok (.ireturn, 1) := by decide +kernel
theorem dX4_suppose_0 : decode cX4_suppose 0 = .ok (.iload_n 2, 1) := by decide +kernel
theorem dX4_suppose_1 : decode cX4_suppose 1 = .ok (.tableswitch 66 0 2 #[27, 40, 53], 27) := by decide +kernel
theorem dX4_suppose_28 : decode cX4_suppose 28 = .ok (.aload_n 0, 1) := by decide +kernel
theorem dX4_suppose_29 : decode cX4_suppose 29 = .ok (.getfield 24, 3) := by decide +kernel
theorem dX4_suppose_32 : decode cX4_suppose 32 = .ok (.getfield 100, 3) := by decide +kernel
theorem dX4_suppose_35 : decode cX4_suppose 35 = .ok (.iload_n 1, 1) := by decide +kernel
theorem dX4_suppose_36 : decode cX4_suppose 36 = .ok (.iload_n 3, 1) := by decide +kernel
theorem dX4_suppose_37 : decode cX4_suppose 37 = .ok (.iastore, 1) := by decide +kernel
theorem dX4_suppose_38 : decode cX4_suppose 38 = .ok (.goto 37, 3) := by decide +kernel
theorem dX4_suppose_41 : decode cX4_suppose 41 = .ok (.aload_n 0, 1) := by decide +kernel
theorem dX4_suppose_42 : decode cX4_suppose 42 = .ok (.getfield 24, 3) := by decide +kernel
theorem dX4_suppose_45 : decode cX4_suppose 45 = .ok (.getfield 35, 3) := by decide +kernel
theorem dX4_suppose_48 : decode cX4_suppose 48 = .ok (.iload_n 1, 1) := by decide +kernel
theorem dX4_suppose_49 : decode cX4_suppose 49 = .ok (.iload_n 3, 1) := by decide +kernel
theorem dX4_suppose_50 : decode cX4_suppose 50 = .ok (.iastore, 1) := by decide +kernel
theorem dX4_suppose_51 : decode cX4_suppose 51 = .ok (.goto 24, 3) := by decide +kernel
theorem dX4_suppose_54 : decode cX4_suppose 54 = .ok (.aload_n 0, 1) := by decide +kernel
theorem dX4_suppose_55 : decode cX4_suppose 55 = .ok (.getfield 24, 3) := by decide +kernel
theorem dX4_suppose_58 : decode cX4_suppose 58 = .ok (.getfield 103, 3) := by decide +kernel
theorem dX4_suppose_61 : decode cX4_suppose 61 = .ok (.iload_n 1, 1) := by decide +kernel
theorem dX4_suppose_62 : decode cX4_suppose 62 = .ok (.iload_n 3, 1) := by decide +kernel
theorem dX4_suppose_63 : decode cX4_suppose 63 = .ok (.iastore, 1) := by decide +kernel
theorem dX4_suppose_64 : decode cX4_suppose 64 = .ok (.goto 11, 3) := by decide +kernel
theorem dX4_suppose_67 : decode cX4_suppose 67 = .ok (.aload_n 0, 1) := by decide +kernel
theorem dX4_suppose_68 : decode cX4_suppose 68 = .ok (.getfield 24, 3) := by decide +kernel
theorem dX4_suppose_71 : decode cX4_suppose 71 = .ok (.iload_n 3, 1) := by decide +kernel
theorem dX4_suppose_72 : decode cX4_suppose 72 = .ok (.putfield 106, 3) := by decide +kernel
theorem dX4_suppose_75 : decode cX4_suppose 75 = .ok (.return_, 1) := by decide +kernel
theorem dX4_cameToKnow_0 : decode cX4_cameToKnow 0 = .ok (.iconst 0, 1) := by decide +kernel
theorem dX4_cameToKnow_1 : decode cX4_cameToKnow 1 = .ok (.istore 5, 2) := by decide +kernel
theorem dX4_cameToKnow_3 : decode cX4_cameToKnow 3 = .ok (.iload 5, 2) := by decide +kernel
theorem dX4_cameToKnow_5 : decode cX4_cameToKnow 5 = .ok (.iload 4, 2) := by decide +kernel
theorem dX4_cameToKnow_7 : decode cX4_cameToKnow 7 = .ok (.if_icmp .ge 50, 3) := by decide +kernel
theorem dX4_cameToKnow_10 : decode cX4_cameToKnow 10 = .ok (.aload_n 0, 1) := by decide +kernel
theorem dX4_cameToKnow_11 : decode cX4_cameToKnow 11 = .ok (.getfield 24, 3) := by decide +kernel
theorem dX4_cameToKnow_14 : decode cX4_cameToKnow 14 = .ok (.iload_n 1, 1) := by decide +kernel
theorem dX4_cameToKnow_15 : decode cX4_cameToKnow 15 = .ok (.invokevirtual 41, 3) := by decide +kernel
theorem dX4_cameToKnow_18 : decode cX4_cameToKnow 18 = .ok (.aload_n 0, 1) := by decide +kernel
theorem dX4_cameToKnow_19 : decode cX4_cameToKnow 19 = .ok (.getfield 24, 3) := by decide +kernel
theorem dX4_cameToKnow_22 : decode cX4_cameToKnow 22 = .ok (.invokevirtual 45, 3) := by decide +kernel
theorem dX4_cameToKnow_25 : decode cX4_cameToKnow 25 = .ok (.aload_n 0, 1) := by decide +kernel
theorem dX4_cameToKnow_26 : decode cX4_cameToKnow 26 = .ok (.getfield 24, 3) := by decide +kernel
theorem dX4_cameToKnow_29 : decode cX4_cameToKnow 29 = .ok (.getfield 38, 3) := by decide +kernel
theorem dX4_cameToKnow_32 : decode cX4_cameToKnow 32 = .ok (.iload_n 1, 1) := by decide +kernel
theorem dX4_cameToKnow_33 : decode cX4_cameToKnow 33 = .ok (.iaload, 1) := by decide +kernel
theorem dX4_cameToKnow_34 : decode cX4_cameToKnow 34 = .ok (.invokestatic 109, 3) := by decide +kernel
theorem dX4_cameToKnow_37 : decode cX4_cameToKnow 37 = .ok (.aload_n 2, 1) := by decide +kernel
theorem dX4_cameToKnow_38 : decode cX4_cameToKnow 38 = .ok (.getfield 114, 3) := by decide +kernel
theorem dX4_cameToKnow_41 : decode cX4_cameToKnow 41 = .ok (.iload_n 3, 1) := by decide +kernel
theorem dX4_cameToKnow_42 : decode cX4_cameToKnow 42 = .ok (.iload 5, 2) := by decide +kernel
theorem dX4_cameToKnow_44 : decode cX4_cameToKnow 44 = .ok (.iadd, 1) := by decide +kernel
theorem dX4_cameToKnow_45 : decode cX4_cameToKnow 45 = .ok (.iaload, 1) := by decide +kernel
theorem dX4_cameToKnow_46 : decode cX4_cameToKnow 46 = .ok (.if_icmp .eq 5, 3) := by decide +kernel
theorem dX4_cameToKnow_49 : decode cX4_cameToKnow 49 = .ok (.iconst 0, 1) := by decide +kernel
theorem dX4_cameToKnow_50 : decode cX4_cameToKnow 50 = .ok (.ireturn, 1) := by decide +kernel
theorem dX4_cameToKnow_51 : decode cX4_cameToKnow 51 = .ok (.iinc 5 1, 3) := by decide +kernel
theorem dX4_cameToKnow_54 : decode cX4_cameToKnow 54 = .ok (.goto (-51), 3) := by decide +kernel
theorem dX4_cameToKnow_57 : decode cX4_cameToKnow 57 = .ok (.iconst 1, 1) := by decide +kernel
theorem dX4_cameToKnow_58 : decode cX4_cameToKnow 58 = .ok (.ireturn, 1) := by decide +kernel
theorem dX4_tenthsInAll_0 : decode cX4_tenthsInAll 0 = .ok (.iconst 1, 1) := by decide +kernel
theorem dX4_tenthsInAll_1 : decode cX4_tenthsInAll 1 = .ok (.istore_n 1, 1) := by decide +kernel
theorem dX4_tenthsInAll_2 : decode cX4_tenthsInAll 2 = .ok (.iconst 0, 1) := by decide +kernel
theorem dX4_tenthsInAll_3 : decode cX4_tenthsInAll 3 = .ok (.istore_n 2, 1) := by decide +kernel
theorem dX4_tenthsInAll_4 : decode cX4_tenthsInAll 4 = .ok (.iload_n 2, 1) := by decide +kernel
theorem dX4_tenthsInAll_5 : decode cX4_tenthsInAll 5 = .ok (.aload_n 0, 1) := by decide +kernel
theorem dX4_tenthsInAll_6 : decode cX4_tenthsInAll 6 = .ok (.getfield 15, 3) := by decide +kernel
theorem dX4_tenthsInAll_9 : decode cX4_tenthsInAll 9 = .ok (.getfield 67, 3) := by decide +kernel
theorem dX4_tenthsInAll_12 : decode cX4_tenthsInAll 12 = .ok (.if_icmp .ge 14, 3) := by decide +kernel
theorem dX4_tenthsInAll_15 : decode cX4_tenthsInAll 15 = .ok (.iload_n 1, 1) := by decide +kernel
theorem dX4_tenthsInAll_16 : decode cX4_tenthsInAll 16 = .ok (.bipush 10, 2) := by decide +kernel
theorem dX4_tenthsInAll_18 : decode cX4_tenthsInAll 18 = .ok (.imul, 1) := by decide +kernel
theorem dX4_tenthsInAll_19 : decode cX4_tenthsInAll 19 = .ok (.istore_n 1, 1) := by decide +kernel
theorem dX4_tenthsInAll_20 : decode cX4_tenthsInAll 20 = .ok (.iinc 2 1, 3) := by decide +kernel
theorem dX4_tenthsInAll_23 : decode cX4_tenthsInAll 23 = .ok (.goto (-19), 3) := by decide +kernel
theorem dX4_tenthsInAll_26 : decode cX4_tenthsInAll 26 = .ok (.iload_n 1, 1) := by decide +kernel
theorem dX4_tenthsInAll_27 : decode cX4_tenthsInAll 27 = .ok (.ireturn, 1) := by decide +kernel
theorem dX4_tenthsThatKnow_0 : decode cX4_tenthsThatKnow 0 = .ok (.iconst 0, 1) := by decide +kernel
theorem dX4_tenthsThatKnow_1 : decode cX4_tenthsThatKnow 1 = .ok (.istore 5, 2) := by decide +kernel
theorem dX4_tenthsThatKnow_3 : decode cX4_tenthsThatKnow 3 = .ok (.iconst 0, 1) := by decide +kernel
theorem dX4_tenthsThatKnow_4 : decode cX4_tenthsThatKnow 4 = .ok (.istore 6, 2) := by decide +kernel
theorem dX4_tenthsThatKnow_6 : decode cX4_tenthsThatKnow 6 = .ok (.iload 6, 2) := by decide +kernel
theorem dX4_tenthsThatKnow_8 : decode cX4_tenthsThatKnow 8 = .ok (.iconst 1, 1) := by decide +kernel
theorem dX4_tenthsThatKnow_9 : decode cX4_tenthsThatKnow 9 = .ok (.aload_n 0, 1) := by decide +kernel
theorem dX4_tenthsThatKnow_10 : decode cX4_tenthsThatKnow 10 = .ok (.getfield 15, 3) := by decide +kernel
theorem dX4_tenthsThatKnow_13 : decode cX4_tenthsThatKnow 13 = .ok (.getfield 67, 3) := by decide +kernel
theorem dX4_tenthsThatKnow_16 : decode cX4_tenthsThatKnow 16 = .ok (.ishl, 1) := by decide +kernel
theorem dX4_tenthsThatKnow_17 : decode cX4_tenthsThatKnow 17 = .ok (.if_icmp .ge 71, 3) := by decide +kernel
theorem dX4_tenthsThatKnow_20 : decode cX4_tenthsThatKnow 20 = .ok (.aload_n 0, 1) := by decide +kernel
theorem dX4_tenthsThatKnow_21 : decode cX4_tenthsThatKnow 21 = .ok (.iload 6, 2) := by decide +kernel
theorem dX4_tenthsThatKnow_23 : decode cX4_tenthsThatKnow 23 = .ok (.iload 4, 2) := by decide +kernel
theorem dX4_tenthsThatKnow_25 : decode cX4_tenthsThatKnow 25 = .ok (.invokevirtual 119, 3) := by decide +kernel
theorem dX4_tenthsThatKnow_28 : decode cX4_tenthsThatKnow 28 = .ok (.istore 7, 2) := by decide +kernel
theorem dX4_tenthsThatKnow_30 : decode cX4_tenthsThatKnow 30 = .ok (.iload 7, 2) := by decide +kernel
theorem dX4_tenthsThatKnow_32 : decode cX4_tenthsThatKnow 32 = .ok (.ifCond .ne 6, 3) := by decide +kernel
theorem dX4_tenthsThatKnow_35 : decode cX4_tenthsThatKnow 35 = .ok (.goto 47, 3) := by decide +kernel
theorem dX4_tenthsThatKnow_38 : decode cX4_tenthsThatKnow 38 = .ok (.aload_n 0, 1) := by decide +kernel
theorem dX4_tenthsThatKnow_39 : decode cX4_tenthsThatKnow 39 = .ok (.getfield 24, 3) := by decide +kernel
theorem dX4_tenthsThatKnow_42 : decode cX4_tenthsThatKnow 42 = .ok (.aload_n 0, 1) := by decide +kernel
theorem dX4_tenthsThatKnow_43 : decode cX4_tenthsThatKnow 43 = .ok (.getfield 15, 3) := by decide +kernel
theorem dX4_tenthsThatKnow_46 : decode cX4_tenthsThatKnow 46 = .ok (.invokevirtual 27, 3) := by decide +kernel
theorem dX4_tenthsThatKnow_49 : decode cX4_tenthsThatKnow 49 = .ok (.aload_n 0, 1) := by decide +kernel
theorem dX4_tenthsThatKnow_50 : decode cX4_tenthsThatKnow 50 = .ok (.iload 6, 2) := by decide +kernel
theorem dX4_tenthsThatKnow_52 : decode cX4_tenthsThatKnow 52 = .ok (.invokevirtual 122, 3) := by decide +kernel
theorem dX4_tenthsThatKnow_55 : decode cX4_tenthsThatKnow 55 = .ok (.aload_n 0, 1) := by decide +kernel
theorem dX4_tenthsThatKnow_56 : decode cX4_tenthsThatKnow 56 = .ok (.iload_n 1, 1) := by decide +kernel
theorem dX4_tenthsThatKnow_57 : decode cX4_tenthsThatKnow 57 = .ok (.iload_n 3, 1) := by decide +kernel
theorem dX4_tenthsThatKnow_58 : decode cX4_tenthsThatKnow 58 = .ok (.invokevirtual 31, 3) := by decide +kernel
theorem dX4_tenthsThatKnow_61 : decode cX4_tenthsThatKnow 61 = .ok (.iload 5, 2) := by decide +kernel
theorem dX4_tenthsThatKnow_63 : decode cX4_tenthsThatKnow 63 = .ok (.iload 7, 2) := by decide +kernel
theorem dX4_tenthsThatKnow_65 : decode cX4_tenthsThatKnow 65 = .ok (.aload_n 0, 1) := by decide +kernel
theorem dX4_tenthsThatKnow_66 : decode cX4_tenthsThatKnow 66 = .ok (.getfield 24, 3) := by decide +kernel
theorem dX4_tenthsThatKnow_69 : decode cX4_tenthsThatKnow 69 = .ok (.getfield 38, 3) := by decide +kernel
theorem dX4_tenthsThatKnow_72 : decode cX4_tenthsThatKnow 72 = .ok (.iload_n 1, 1) := by decide +kernel
theorem dX4_tenthsThatKnow_73 : decode cX4_tenthsThatKnow 73 = .ok (.iaload, 1) := by decide +kernel
theorem dX4_tenthsThatKnow_74 : decode cX4_tenthsThatKnow 74 = .ok (.iload_n 2, 1) := by decide +kernel
theorem dX4_tenthsThatKnow_75 : decode cX4_tenthsThatKnow 75 = .ok (.invokestatic 125, 3) := by decide +kernel
theorem dX4_tenthsThatKnow_78 : decode cX4_tenthsThatKnow 78 = .ok (.imul, 1) := by decide +kernel
theorem dX4_tenthsThatKnow_79 : decode cX4_tenthsThatKnow 79 = .ok (.iadd, 1) := by decide +kernel
theorem dX4_tenthsThatKnow_80 : decode cX4_tenthsThatKnow 80 = .ok (.istore 5, 2) := by decide +kernel
theorem dX4_tenthsThatKnow_82 : decode cX4_tenthsThatKnow 82 = .ok (.iinc 6 1, 3) := by decide +kernel
theorem dX4_tenthsThatKnow_85 : decode cX4_tenthsThatKnow 85 = .ok (.goto (-79), 3) := by decide +kernel
theorem dX4_tenthsThatKnow_88 : decode cX4_tenthsThatKnow 88 = .ok (.iload 5, 2) := by decide +kernel
theorem dX4_tenthsThatKnow_90 : decode cX4_tenthsThatKnow 90 = .ok (.ireturn, 1) := by decide +kernel
theorem dX4_tenthsOf_0 : decode cX4_tenthsOf 0 = .ok (.iconst 1, 1) := by decide +kernel
theorem dX4_tenthsOf_1 : decode cX4_tenthsOf 1 = .ok (.istore_n 3, 1) := by decide +kernel
theorem dX4_tenthsOf_2 : decode cX4_tenthsOf 2 = .ok (.iconst 0, 1) := by decide +kernel
theorem dX4_tenthsOf_3 : decode cX4_tenthsOf 3 = .ok (.istore 4, 2) := by decide +kernel
theorem dX4_tenthsOf_5 : decode cX4_tenthsOf 5 = .ok (.iload 4, 2) := by decide +kernel
theorem dX4_tenthsOf_7 : decode cX4_tenthsOf 7 = .ok (.aload_n 0, 1) := by decide +kernel
theorem dX4_tenthsOf_8 : decode cX4_tenthsOf 8 = .ok (.getfield 15, 3) := by decide +kernel
theorem dX4_tenthsOf_11 : decode cX4_tenthsOf 11 = .ok (.getfield 67, 3) := by decide +kernel
theorem dX4_tenthsOf_14 : decode cX4_tenthsOf 14 = .ok (.if_icmp .ge 30, 3) := by decide +kernel
theorem dX4_tenthsOf_17 : decode cX4_tenthsOf 17 = .ok (.iload_n 3, 1) := by decide +kernel
theorem dX4_tenthsOf_18 : decode cX4_tenthsOf 18 = .ok (.iload_n 1, 1) := by decide +kernel
theorem dX4_tenthsOf_19 : decode cX4_tenthsOf 19 = .ok (.iload 4, 2) := by decide +kernel
theorem dX4_tenthsOf_21 : decode cX4_tenthsOf 21 = .ok (.invokestatic 125, 3) := by decide +kernel
theorem dX4_tenthsOf_24 : decode cX4_tenthsOf 24 = .ok (.iconst 1, 1) := by decide +kernel
theorem dX4_tenthsOf_25 : decode cX4_tenthsOf 25 = .ok (.if_icmp .ne 7, 3) := by decide +kernel
theorem dX4_tenthsOf_28 : decode cX4_tenthsOf 28 = .ok (.iload_n 2, 1) := by decide +kernel
theorem dX4_tenthsOf_29 : decode cX4_tenthsOf 29 = .ok (.goto 7, 3) := by decide +kernel
theorem dX4_tenthsOf_32 : decode cX4_tenthsOf 32 = .ok (.bipush 10, 2) := by decide +kernel
theorem dX4_tenthsOf_34 : decode cX4_tenthsOf 34 = .ok (.iload_n 2, 1) := by decide +kernel
theorem dX4_tenthsOf_35 : decode cX4_tenthsOf 35 = .ok (.isub, 1) := by decide +kernel
theorem dX4_tenthsOf_36 : decode cX4_tenthsOf 36 = .ok (.imul, 1) := by decide +kernel
theorem dX4_tenthsOf_37 : decode cX4_tenthsOf 37 = .ok (.istore_n 3, 1) := by decide +kernel
theorem dX4_tenthsOf_38 : decode cX4_tenthsOf 38 = .ok (.iinc 4 1, 3) := by decide +kernel
theorem dX4_tenthsOf_41 : decode cX4_tenthsOf 41 = .ok (.goto (-36), 3) := by decide +kernel
theorem dX4_tenthsOf_44 : decode cX4_tenthsOf 44 = .ok (.iload_n 3, 1) := by decide +kernel
theorem dX4_tenthsOf_45 : decode cX4_tenthsOf 45 = .ok (.ireturn, 1) := by decide +kernel
theorem dX4_settle_0 : decode cX4_settle 0 = .ok (.aload_n 0, 1) := by decide +kernel
theorem dX4_settle_1 : decode cX4_settle 1 = .ok (.getfield 24, 3) := by decide +kernel
theorem dX4_settle_4 : decode cX4_settle 4 = .ok (.getfield 67, 3) := by decide +kernel
theorem dX4_settle_7 : decode cX4_settle 7 = .ok (.iconst 1, 1) := by decide +kernel
theorem dX4_settle_8 : decode cX4_settle 8 = .ok (.isub, 1) := by decide +kernel
theorem dX4_settle_9 : decode cX4_settle 9 = .ok (.istore_n 2, 1) := by decide +kernel
theorem dX4_settle_10 : decode cX4_settle 10 = .ok (.iload_n 2, 1) := by decide +kernel
theorem dX4_settle_11 : decode cX4_settle 11 = .ok (.ifCond .lt 26, 3) := by decide +kernel
theorem dX4_settle_14 : decode cX4_settle 14 = .ok (.iload_n 1, 1) := by decide +kernel
theorem dX4_settle_15 : decode cX4_settle 15 = .ok (.iload_n 2, 1) := by decide +kernel
theorem dX4_settle_16 : decode cX4_settle 16 = .ok (.invokestatic 125, 3) := by decide +kernel
theorem dX4_settle_19 : decode cX4_settle 19 = .ok (.iconst 1, 1) := by decide +kernel
theorem dX4_settle_20 : decode cX4_settle 20 = .ok (.if_icmp .ne 11, 3) := by decide +kernel
theorem dX4_settle_23 : decode cX4_settle 23 = .ok (.aload_n 0, 1) := by decide +kernel
theorem dX4_settle_24 : decode cX4_settle 24 = .ok (.getfield 24, 3) := by decide +kernel
theorem dX4_settle_27 : decode cX4_settle 27 = .ok (.iload_n 2, 1) := by decide +kernel
theorem dX4_settle_28 : decode cX4_settle 28 = .ok (.invokevirtual 128, 3) := by decide +kernel
theorem dX4_settle_31 : decode cX4_settle 31 = .ok (.iinc 2 (-1), 3) := by decide +kernel
theorem dX4_settle_34 : decode cX4_settle 34 = .ok (.goto (-24), 3) := by decide +kernel
theorem dX4_settle_37 : decode cX4_settle 37 = .ok (.return_, 1) := by decide +kernel
theorem dX4_afterYears_0 : decode cX4_afterYears 0 = .ok (.aload_n 0, 1) := by decide +kernel
theorem dX4_afterYears_1 : decode cX4_afterYears 1 = .ok (.getfield 24, 3) := by decide +kernel
theorem dX4_afterYears_4 : decode cX4_afterYears 4 = .ok (.aload_n 0, 1) := by decide +kernel
theorem dX4_afterYears_5 : decode cX4_afterYears 5 = .ok (.getfield 15, 3) := by decide +kernel
theorem dX4_afterYears_8 : decode cX4_afterYears 8 = .ok (.invokevirtual 27, 3) := by decide +kernel
theorem dX4_afterYears_11 : decode cX4_afterYears 11 = .ok (.iload_n 2, 1) := by decide +kernel
theorem dX4_afterYears_12 : decode cX4_afterYears 12 = .ok (.i2l, 1) := by decide +kernel
theorem dX4_afterYears_13 : decode cX4_afterYears 13 = .ok (.lstore 4, 2) := by decide +kernel
theorem dX4_afterYears_15 : decode cX4_afterYears 15 = .ok (.iconst 0, 1) := by decide +kernel
theorem dX4_afterYears_16 : decode cX4_afterYears 16 = .ok (.istore 6, 2) := by decide +kernel
theorem dX4_afterYears_18 : decode cX4_afterYears 18 = .ok (.iload 6, 2) := by decide +kernel
theorem dX4_afterYears_20 : decode cX4_afterYears 20 = .ok (.iload_n 1, 1) := by decide +kernel
theorem dX4_afterYears_21 : decode cX4_afterYears 21 = .ok (.if_icmp .ge 104, 3) := by decide +kernel
theorem dX4_afterYears_24 : decode cX4_afterYears 24 = .ok (.lload 4, 2) := by decide +kernel
theorem dX4_afterYears_26 : decode cX4_afterYears 26 = .ok (.ldc2_w 131, 3) := by decide +kernel
theorem dX4_afterYears_29 : decode cX4_afterYears 29 = .ok (.lmul, 1) := by decide +kernel
theorem dX4_afterYears_30 : decode cX4_afterYears 30 = .ok (.ldc2_w 133, 3) := by decide +kernel
theorem dX4_afterYears_33 : decode cX4_afterYears 33 = .ok (.lrem, 1) := by decide +kernel
theorem dX4_afterYears_34 : decode cX4_afterYears 34 = .ok (.lstore 4, 2) := by decide +kernel
theorem dX4_afterYears_36 : decode cX4_afterYears 36 = .ok (.aload_n 0, 1) := by decide +kernel
theorem dX4_afterYears_37 : decode cX4_afterYears 37 = .ok (.getfield 24, 3) := by decide +kernel
theorem dX4_afterYears_40 : decode cX4_afterYears 40 = .ok (.getfield 70, 3) := by decide +kernel
theorem dX4_afterYears_43 : decode cX4_afterYears 43 = .ok (.ifCond .le 29, 3) := by decide +kernel
theorem dX4_afterYears_46 : decode cX4_afterYears 46 = .ok (.aload_n 0, 1) := by decide +kernel
theorem dX4_afterYears_47 : decode cX4_afterYears 47 = .ok (.getfield 24, 3) := by decide +kernel
theorem dX4_afterYears_50 : decode cX4_afterYears 50 = .ok (.dup, 1) := by decide +kernel
theorem dX4_afterYears_51 : decode cX4_afterYears 51 = .ok (.getfield 135, 3) := by decide +kernel
theorem dX4_afterYears_54 : decode cX4_afterYears 54 = .ok (.iconst 1, 1) := by decide +kernel
theorem dX4_afterYears_55 : decode cX4_afterYears 55 = .ok (.lload 4, 2) := by decide +kernel
theorem dX4_afterYears_57 : decode cX4_afterYears 57 = .ok (.aload_n 0, 1) := by decide +kernel
theorem dX4_afterYears_58 : decode cX4_afterYears 58 = .ok (.getfield 24, 3) := by decide +kernel
theorem dX4_afterYears_61 : decode cX4_afterYears 61 = .ok (.getfield 70, 3) := by decide +kernel
theorem dX4_afterYears_64 : decode cX4_afterYears 64 = .ok (.i2l, 1) := by decide +kernel
theorem dX4_afterYears_65 : decode cX4_afterYears 65 = .ok (.lrem, 1) := by decide +kernel
theorem dX4_afterYears_66 : decode cX4_afterYears 66 = .ok (.l2i, 1) := by decide +kernel
theorem dX4_afterYears_67 : decode cX4_afterYears 67 = .ok (.ishl, 1) := by decide +kernel
theorem dX4_afterYears_68 : decode cX4_afterYears 68 = .ok (.ixor, 1) := by decide +kernel
theorem dX4_afterYears_69 : decode cX4_afterYears 69 = .ok (.putfield 135, 3) := by decide +kernel
theorem dX4_afterYears_72 : decode cX4_afterYears 72 = .ok (.aload_n 0, 1) := by decide +kernel
theorem dX4_afterYears_73 : decode cX4_afterYears 73 = .ok (.getfield 24, 3) := by decide +kernel
theorem dX4_afterYears_76 : decode cX4_afterYears 76 = .ok (.getfield 67, 3) := by decide +kernel
theorem dX4_afterYears_79 : decode cX4_afterYears 79 = .ok (.ifCond .le 33, 3) := by decide +kernel
theorem dX4_afterYears_82 : decode cX4_afterYears 82 = .ok (.lload 4, 2) := by decide +kernel
theorem dX4_afterYears_84 : decode cX4_afterYears 84 = .ok (.ldc2_w 138, 3) := by decide +kernel
theorem dX4_afterYears_87 : decode cX4_afterYears 87 = .ok (.lrem, 1) := by decide +kernel
theorem dX4_afterYears_88 : decode cX4_afterYears 88 = .ok (.lconst 0, 1) := by decide +kernel
theorem dX4_afterYears_89 : decode cX4_afterYears 89 = .ok (.lcmp, 1) := by decide +kernel
theorem dX4_afterYears_90 : decode cX4_afterYears 90 = .ok (.ifCond .ne 22, 3) := by decide +kernel
theorem dX4_afterYears_93 : decode cX4_afterYears 93 = .ok (.aload_n 0, 1) := by decide +kernel
theorem dX4_afterYears_94 : decode cX4_afterYears 94 = .ok (.getfield 24, 3) := by decide +kernel
theorem dX4_afterYears_97 : decode cX4_afterYears 97 = .ok (.lload 4, 2) := by decide +kernel
theorem dX4_afterYears_99 : decode cX4_afterYears 99 = .ok (.aload_n 0, 1) := by decide +kernel
theorem dX4_afterYears_100 : decode cX4_afterYears 100 = .ok (.getfield 24, 3) := by decide +kernel
theorem dX4_afterYears_103 : decode cX4_afterYears 103 = .ok (.getfield 67, 3) := by decide +kernel
theorem dX4_afterYears_106 : decode cX4_afterYears 106 = .ok (.i2l, 1) := by decide +kernel
theorem dX4_afterYears_107 : decode cX4_afterYears 107 = .ok (.lrem, 1) := by decide +kernel
theorem dX4_afterYears_108 : decode cX4_afterYears 108 = .ok (.l2i, 1) := by decide +kernel
theorem dX4_afterYears_109 : decode cX4_afterYears 109 = .ok (.invokevirtual 128, 3) := by decide +kernel
theorem dX4_afterYears_112 : decode cX4_afterYears 112 = .ok (.aload_n 0, 1) := by decide +kernel
theorem dX4_afterYears_113 : decode cX4_afterYears 113 = .ok (.getfield 24, 3) := by decide +kernel
theorem dX4_afterYears_116 : decode cX4_afterYears 116 = .ok (.invokevirtual 140, 3) := by decide +kernel
theorem dX4_afterYears_119 : decode cX4_afterYears 119 = .ok (.iinc 6 1, 3) := by decide +kernel
theorem dX4_afterYears_122 : decode cX4_afterYears 122 = .ok (.goto (-104), 3) := by decide +kernel
theorem dX4_afterYears_125 : decode cX4_afterYears 125 = .ok (.iload_n 3, 1) := by decide +kernel
theorem dX4_afterYears_126 : decode cX4_afterYears 126 = .ok (.ifCond .ne 13, 3) := by decide +kernel
theorem dX4_afterYears_129 : decode cX4_afterYears 129 = .ok (.aload_n 0, 1) := by decide +kernel
theorem dX4_afterYears_130 : decode cX4_afterYears 130 = .ok (.getfield 24, 3) := by decide +kernel
theorem dX4_afterYears_133 : decode cX4_afterYears 133 = .ok (.invokevirtual 143, 3) := by decide +kernel
theorem dX4_afterYears_136 : decode cX4_afterYears 136 = .ok (.goto 10, 3) := by decide +kernel
theorem dX4_afterYears_139 : decode cX4_afterYears 139 = .ok (.aload_n 0, 1) := by decide +kernel
theorem dX4_afterYears_140 : decode cX4_afterYears 140 = .ok (.getfield 24, 3) := by decide +kernel
theorem dX4_afterYears_143 : decode cX4_afterYears 143 = .ok (.getfield 135, 3) := by decide +kernel
theorem dX4_afterYears_146 : decode cX4_afterYears 146 = .ok (.invokestatic 109, 3) := by decide +kernel
theorem dX4_afterYears_149 : decode cX4_afterYears 149 = .ok (.ireturn, 1) := by decide +kernel
theorem dX5_init_0 : decode cX5_init 0 = .ok (.aload_n 0, 1) := by decide +kernel
theorem dX5_init_1 : decode cX5_init 1 = .ok (.invokespecial 1, 3) := by decide +kernel
theorem dX5_init_4 : decode cX5_init 4 = .ok (.return_, 1) := by decide +kernel
theorem dX5_sees_0 : decode cX5_sees 0 = .ok (.iload_n 2, 1) := by decide +kernel
theorem dX5_sees_1 : decode cX5_sees 1 = .ok (.aload_n 1, 1) := by decide +kernel
theorem dX5_sees_2 : decode cX5_sees 2 = .ok (.getfield 7, 3) := by decide +kernel
theorem dX5_sees_5 : decode cX5_sees 5 = .ok (.iconst (-1), 1) := by decide +kernel
theorem dX5_sees_6 : decode cX5_sees 6 = .ok (.ixor, 1) := by decide +kernel
theorem dX5_sees_7 : decode cX5_sees 7 = .ok (.iand, 1) := by decide +kernel
theorem dX5_sees_8 : decode cX5_sees 8 = .ok (.ireturn, 1) := by decide +kernel
theorem dX5_size_0 : decode cX5_size 0 = .ok (.aload_n 1, 1) := by decide +kernel
theorem dX5_size_1 : decode cX5_size 1 = .ok (.bipush 11, 2) := by decide +kernel
theorem dX5_size_3 : decode cX5_size 3 = .ok (.invokevirtual 13, 3) := by decide +kernel
theorem dX5_size_6 : decode cX5_size 6 = .ok (.aload_n 0, 1) := by decide +kernel
theorem dX5_size_7 : decode cX5_size 7 = .ok (.aload_n 1, 1) := by decide +kernel
theorem dX5_size_8 : decode cX5_size 8 = .ok (.invokespecial 19, 3) := by decide +kernel
theorem dX5_size_11 : decode cX5_size 11 = .ok (.istore_n 2, 1) := by decide +kernel
theorem dX5_size_12 : decode cX5_size 12 = .ok (.iload_n 2, 1) := by decide +kernel
theorem dX5_size_13 : decode cX5_size 13 = .ok (.aload_n 0, 1) := by decide +kernel
theorem dX5_size_14 : decode cX5_size 14 = .ok (.aload_n 1, 1) := by decide +kernel
theorem dX5_size_15 : decode cX5_size 15 = .ok (.invokevirtual 23, 3) := by decide +kernel
theorem dX5_size_18 : decode cX5_size 18 = .ok (.iadd, 1) := by decide +kernel
theorem dX5_size_19 : decode cX5_size 19 = .ok (.ireturn, 1) := by decide +kernel
theorem dX5_mark_0 : decode cX5_mark 0 = .ok (.aload_n 1, 1) := by decide +kernel
theorem dX5_mark_1 : decode cX5_mark 1 = .ok (.bipush 21, 2) := by decide +kernel
theorem dX5_mark_3 : decode cX5_mark 3 = .ok (.invokevirtual 13, 3) := by decide +kernel
theorem dX5_mark_6 : decode cX5_mark 6 = .ok (.aload_n 0, 1) := by decide +kernel
theorem dX5_mark_7 : decode cX5_mark 7 = .ok (.aload_n 1, 1) := by decide +kernel
theorem dX5_mark_8 : decode cX5_mark 8 = .ok (.invokespecial 28, 3) := by decide +kernel
theorem dX5_mark_11 : decode cX5_mark 11 = .ok (.aload_n 1, 1) := by decide +kernel
theorem dX5_mark_12 : decode cX5_mark 12 = .ok (.getfield 29, 3) := by decide +kernel
theorem dX5_mark_15 : decode cX5_mark 15 = .ok (.iadd, 1) := by decide +kernel
theorem dX5_mark_16 : decode cX5_mark 16 = .ok (.ireturn, 1) := by decide +kernel
theorem dX6_init_0 : decode cX6_init 0 = .ok (.aload_n 0, 1) := by decide +kernel
theorem dX6_init_1 : decode cX6_init 1 = .ok (.invokespecial 3, 3) := by decide +kernel
theorem dX6_init_4 : decode cX6_init 4 = .ok (.aload_n 0, 1) := by decide +kernel
theorem dX6_init_5 : decode cX6_init 5 = .ok (.bipush 24, 2) := by decide +kernel
theorem dX6_init_7 : decode cX6_init 7 = .ok (.newarray .int, 2) := by decide +kernel
theorem dX6_init_9 : decode cX6_init 9 = .ok (.putfield 9, 3) := by decide +kernel
theorem dX6_init_12 : decode cX6_init 12 = .ok (.aload_n 0, 1) := by decide +kernel
theorem dX6_init_13 : decode cX6_init 13 = .ok (.iconst 5, 1) := by decide +kernel
theorem dX6_init_14 : decode cX6_init 14 = .ok (.newarray .int, 2) := by decide +kernel
theorem dX6_init_16 : decode cX6_init 16 = .ok (.putfield 15, 3) := by decide +kernel
theorem dX6_init_19 : decode cX6_init 19 = .ok (.aload_n 0, 1) := by decide +kernel
theorem dX6_init_20 : decode cX6_init 20 = .ok (.iconst 5, 1) := by decide +kernel
theorem dX6_init_21 : decode cX6_init 21 = .ok (.newarray .int, 2) := by decide +kernel
theorem dX6_init_23 : decode cX6_init 23 = .ok (.putfield 18, 3) := by decide +kernel
theorem dX6_init_26 : decode cX6_init 26 = .ok (.aload_n 0, 1) := by decide +kernel
theorem dX6_init_27 : decode cX6_init 27 = .ok (.iconst 5, 1) := by decide +kernel
theorem dX6_init_28 : decode cX6_init 28 = .ok (.newarray .int, 2) := by decide +kernel
theorem dX6_init_30 : decode cX6_init 30 = .ok (.putfield 21, 3) := by decide +kernel
theorem dX6_init_33 : decode cX6_init 33 = .ok (.aload_n 0, 1) := by decide +kernel
theorem dX6_init_34 : decode cX6_init 34 = .ok (.iconst 5, 1) := by decide +kernel
theorem dX6_init_35 : decode cX6_init 35 = .ok (.newarray .int, 2) := by decide +kernel
theorem dX6_init_37 : decode cX6_init 37 = .ok (.putfield 24, 3) := by decide +kernel
theorem dX6_init_40 : decode cX6_init 40 = .ok (.aload_n 0, 1) := by decide +kernel
theorem dX6_init_41 : decode cX6_init 41 = .ok (.iconst 5, 1) := by decide +kernel
theorem dX6_init_42 : decode cX6_init 42 = .ok (.newarray .int, 2) := by decide +kernel
theorem dX6_init_44 : decode cX6_init 44 = .ok (.putfield 27, 3) := by decide +kernel
theorem dX6_init_47 : decode cX6_init 47 = .ok (.aload_n 0, 1) := by decide +kernel
theorem dX6_init_48 : decode cX6_init 48 = .ok (.aload_n 1, 1) := by decide +kernel
theorem dX6_init_49 : decode cX6_init 49 = .ok (.putfield 30, 3) := by decide +kernel
theorem dX6_init_52 : decode cX6_init 52 = .ok (.return_, 1) := by decide +kernel
theorem dX6_clear_0 : decode cX6_clear 0 = .ok (.aload_n 0, 1) := by decide +kernel
theorem dX6_clear_1 : decode cX6_clear 1 = .ok (.iconst 0, 1) := by decide +kernel
theorem dX6_clear_2 : decode cX6_clear 2 = .ok (.putfield 34, 3) := by decide +kernel
theorem dX6_clear_5 : decode cX6_clear 5 = .ok (.aload_n 0, 1) := by decide +kernel
theorem dX6_clear_6 : decode cX6_clear 6 = .ok (.iconst 0, 1) := by decide +kernel
theorem dX6_clear_7 : decode cX6_clear 7 = .ok (.putfield 38, 3) := by decide +kernel
theorem dX6_clear_10 : decode cX6_clear 10 = .ok (.aload_n 0, 1) := by decide +kernel
theorem dX6_clear_11 : decode cX6_clear 11 = .ok (.iconst 0, 1) := by decide +kernel
theorem dX6_clear_12 : decode cX6_clear 12 = .ok (.putfield 41, 3) := by decide +kernel
theorem dX6_clear_15 : decode cX6_clear 15 = .ok (.aload_n 0, 1) := by decide +kernel
theorem dX6_clear_16 : decode cX6_clear 16 = .ok (.iconst 0, 1) := by decide +kernel
theorem dX6_clear_17 : decode cX6_clear 17 = .ok (.putfield 44, 3) := by decide +kernel
theorem dX6_clear_20 : decode cX6_clear 20 = .ok (.aload_n 0, 1) := by decide +kernel
theorem dX6_clear_21 : decode cX6_clear 21 = .ok (.iconst 0, 1) := by decide +kernel
theorem dX6_clear_22 : decode cX6_clear 22 = .ok (.putfield 47, 3) := by decide +kernel
theorem dX6_clear_25 : decode cX6_clear 25 = .ok (.aload_n 0, 1) := by decide +kernel
theorem dX6_clear_26 : decode cX6_clear 26 = .ok (.iconst 0, 1) := by decide +kernel
theorem dX6_clear_27 : decode cX6_clear 27 = .ok (.putfield 50, 3) := by decide +kernel
theorem dX6_clear_30 : decode cX6_clear 30 = .ok (.aload_n 0, 1) := by decide +kernel
theorem dX6_clear_31 : decode cX6_clear 31 = .ok (.iconst 0, 1) := by decide +kernel
theorem dX6_clear_32 : decode cX6_clear 32 = .ok (.putfield 53, 3) := by decide +kernel
theorem dX6_clear_35 : decode cX6_clear 35 = .ok (.return_, 1) := by decide +kernel
theorem dX6_become_0 : decode cX6_become 0 = .ok (.aload_n 0, 1) := by decide +kernel
theorem dX6_become_1 : decode cX6_become 1 = .ok (.aload_n 1, 1) := by decide +kernel
theorem dX6_become_2 : decode cX6_become 2 = .ok (.getfield 34, 3) := by decide +kernel
theorem dX6_become_5 : decode cX6_become 5 = .ok (.putfield 34, 3) := by decide +kernel
theorem dX6_become_8 : decode cX6_become 8 = .ok (.aload_n 0, 1) := by decide +kernel
theorem dX6_become_9 : decode cX6_become 9 = .ok (.aload_n 1, 1) := by decide +kernel
theorem dX6_become_10 : decode cX6_become 10 = .ok (.getfield 38, 3) := by decide +kernel
theorem dX6_become_13 : decode cX6_become 13 = .ok (.putfield 38, 3) := by decide +kernel
theorem dX6_become_16 : decode cX6_become 16 = .ok (.aload_n 0, 1) := by decide +kernel
theorem dX6_become_17 : decode cX6_become 17 = .ok (.aload_n 1, 1) := by decide +kernel
theorem dX6_become_18 : decode cX6_become 18 = .ok (.getfield 41, 3) := by decide +kernel
theorem dX6_become_21 : decode cX6_become 21 = .ok (.putfield 41, 3) := by decide +kernel
theorem dX6_become_24 : decode cX6_become 24 = .ok (.aload_n 0, 1) := by decide +kernel
theorem dX6_become_25 : decode cX6_become 25 = .ok (.aload_n 1, 1) := by decide +kernel
theorem dX6_become_26 : decode cX6_become 26 = .ok (.getfield 44, 3) := by decide +kernel
theorem dX6_become_29 : decode cX6_become 29 = .ok (.putfield 44, 3) := by decide +kernel
theorem dX6_become_32 : decode cX6_become 32 = .ok (.aload_n 0, 1) := by decide +kernel
theorem dX6_become_33 : decode cX6_become 33 = .ok (.aload_n 1, 1) := by decide +kernel
theorem dX6_become_34 : decode cX6_become 34 = .ok (.getfield 47, 3) := by decide +kernel
theorem dX6_become_37 : decode cX6_become 37 = .ok (.putfield 47, 3) := by decide +kernel
theorem dX6_become_40 : decode cX6_become 40 = .ok (.aload_n 0, 1) := by decide +kernel
theorem dX6_become_41 : decode cX6_become 41 = .ok (.aload_n 1, 1) := by decide +kernel
theorem dX6_become_42 : decode cX6_become 42 = .ok (.getfield 50, 3) := by decide +kernel
theorem dX6_become_45 : decode cX6_become 45 = .ok (.putfield 50, 3) := by decide +kernel
theorem dX6_become_48 : decode cX6_become 48 = .ok (.aload_n 0, 1) := by decide +kernel
theorem dX6_become_49 : decode cX6_become 49 = .ok (.aload_n 1, 1) := by decide +kernel
theorem dX6_become_50 : decode cX6_become 50 = .ok (.getfield 53, 3) := by decide +kernel
theorem dX6_become_53 : decode cX6_become 53 = .ok (.putfield 53, 3) := by decide +kernel
theorem dX6_become_56 : decode cX6_become 56 = .ok (.aload_n 1, 1) := by decide +kernel
theorem dX6_become_57 : decode cX6_become 57 = .ok (.getfield 9, 3) := by decide +kernel
theorem dX6_become_60 : decode cX6_become 60 = .ok (.iconst 0, 1) := by decide +kernel
theorem dX6_become_61 : decode cX6_become 61 = .ok (.aload_n 0, 1) := by decide +kernel
theorem dX6_become_62 : decode cX6_become 62 = .ok (.getfield 9, 3) := by decide +kernel
theorem dX6_become_65 : decode cX6_become 65 = .ok (.iconst 0, 1) := by decide +kernel
theorem dX6_become_66 : decode cX6_become 66 = .ok (.bipush 24, 2) := by decide +kernel
theorem dX6_become_68 : decode cX6_become 68 = .ok (.invokestatic 56, 3) := by decide +kernel
theorem dX6_become_71 : decode cX6_become 71 = .ok (.aload_n 1, 1) := by decide +kernel
theorem dX6_become_72 : decode cX6_become 72 = .ok (.getfield 15, 3) := by decide +kernel
theorem dX6_become_75 : decode cX6_become 75 = .ok (.iconst 0, 1) := by decide +kernel
theorem dX6_become_76 : decode cX6_become 76 = .ok (.aload_n 0, 1) := by decide +kernel
theorem dX6_become_77 : decode cX6_become 77 = .ok (.getfield 15, 3) := by decide +kernel
theorem dX6_become_80 : decode cX6_become 80 = .ok (.iconst 0, 1) := by decide +kernel
theorem dX6_become_81 : decode cX6_become 81 = .ok (.iconst 5, 1) := by decide +kernel
theorem dX6_become_82 : decode cX6_become 82 = .ok (.invokestatic 56, 3) := by decide +kernel
theorem dX6_become_85 : decode cX6_become 85 = .ok (.aload_n 1, 1) := by decide +kernel
theorem dX6_become_86 : decode cX6_become 86 = .ok (.getfield 18, 3) := by decide +kernel
theorem dX6_become_89 : decode cX6_become 89 = .ok (.iconst 0, 1) := by decide +kernel
theorem dX6_become_90 : decode cX6_become 90 = .ok (.aload_n 0, 1) := by decide +kernel
theorem dX6_become_91 : decode cX6_become 91 = .ok (.getfield 18, 3) := by decide +kernel
theorem dX6_become_94 : decode cX6_become 94 = .ok (.iconst 0, 1) := by decide +kernel
theorem dX6_become_95 : decode cX6_become 95 = .ok (.iconst 5, 1) := by decide +kernel
theorem dX6_become_96 : decode cX6_become 96 = .ok (.invokestatic 56, 3) := by decide +kernel
theorem dX6_become_99 : decode cX6_become 99 = .ok (.aload_n 1, 1) := by decide +kernel
theorem dX6_become_100 : decode cX6_become 100 = .ok (.getfield 21, 3) := by decide +kernel
theorem dX6_become_103 : decode cX6_become 103 = .ok (.iconst 0, 1) := by decide +kernel
theorem dX6_become_104 : decode cX6_become 104 = .ok (.aload_n 0, 1) := by decide +kernel
theorem dX6_become_105 : decode cX6_become 105 = .ok (.getfield 21, 3) := by decide +kernel
theorem dX6_become_108 : decode cX6_become 108 = .ok (.iconst 0, 1) := by decide +kernel
theorem dX6_become_109 : decode cX6_become 109 = .ok (.iconst 5, 1) := by decide +kernel
theorem dX6_become_110 : decode cX6_become 110 = .ok (.invokestatic 56, 3) := by decide +kernel
theorem dX6_become_113 : decode cX6_become 113 = .ok (.aload_n 1, 1) := by decide +kernel
theorem dX6_become_114 : decode cX6_become 114 = .ok (.getfield 24, 3) := by decide +kernel
theorem dX6_become_117 : decode cX6_become 117 = .ok (.iconst 0, 1) := by decide +kernel
theorem dX6_become_118 : decode cX6_become 118 = .ok (.aload_n 0, 1) := by decide +kernel
theorem dX6_become_119 : decode cX6_become 119 = .ok (.getfield 24, 3) := by decide +kernel
theorem dX6_become_122 : decode cX6_become 122 = .ok (.iconst 0, 1) := by decide +kernel
theorem dX6_become_123 : decode cX6_become 123 = .ok (.iconst 5, 1) := by decide +kernel
theorem dX6_become_124 : decode cX6_become 124 = .ok (.invokestatic 56, 3) := by decide +kernel
theorem dX6_become_127 : decode cX6_become 127 = .ok (.aload_n 1, 1) := by decide +kernel
theorem dX6_become_128 : decode cX6_become 128 = .ok (.getfield 27, 3) := by decide +kernel
theorem dX6_become_131 : decode cX6_become 131 = .ok (.iconst 0, 1) := by decide +kernel
theorem dX6_become_132 : decode cX6_become 132 = .ok (.aload_n 0, 1) := by decide +kernel
theorem dX6_become_133 : decode cX6_become 133 = .ok (.getfield 27, 3) := by decide +kernel
theorem dX6_become_136 : decode cX6_become 136 = .ok (.iconst 0, 1) := by decide +kernel
theorem dX6_become_137 : decode cX6_become 137 = .ok (.iconst 5, 1) := by decide +kernel
theorem dX6_become_138 : decode cX6_become 138 = .ok (.invokestatic 56, 3) := by decide +kernel
theorem dX6_become_141 : decode cX6_become 141 = .ok (.return_, 1) := by decide +kernel
theorem dX6_addFolk_0 : decode cX6_addFolk 0 = .ok (.aload_n 0, 1) := by decide +kernel
theorem dX6_addFolk_1 : decode cX6_addFolk 1 = .ok (.getfield 18, 3) := by decide +kernel
theorem dX6_addFolk_4 : decode cX6_addFolk 4 = .ok (.aload_n 0, 1) := by decide +kernel
theorem dX6_addFolk_5 : decode cX6_addFolk 5 = .ok (.getfield 44, 3) := by decide +kernel
theorem dX6_addFolk_8 : decode cX6_addFolk 8 = .ok (.iload_n 1, 1) := by decide +kernel
theorem dX6_addFolk_9 : decode cX6_addFolk 9 = .ok (.iastore, 1) := by decide +kernel
theorem dX6_addFolk_10 : decode cX6_addFolk 10 = .ok (.aload_n 0, 1) := by decide +kernel
theorem dX6_addFolk_11 : decode cX6_addFolk 11 = .ok (.getfield 21, 3) := by decide +kernel
theorem dX6_addFolk_14 : decode cX6_addFolk 14 = .ok (.aload_n 0, 1) := by decide +kernel
theorem dX6_addFolk_15 : decode cX6_addFolk 15 = .ok (.getfield 44, 3) := by decide +kernel
theorem dX6_addFolk_18 : decode cX6_addFolk 18 = .ok (.iload_n 2, 1) := by decide +kernel
theorem dX6_addFolk_19 : decode cX6_addFolk 19 = .ok (.iastore, 1) := by decide +kernel
theorem dX6_addFolk_20 : decode cX6_addFolk 20 = .ok (.aload_n 0, 1) := by decide +kernel
theorem dX6_addFolk_21 : decode cX6_addFolk 21 = .ok (.getfield 24, 3) := by decide +kernel
theorem dX6_addFolk_24 : decode cX6_addFolk 24 = .ok (.aload_n 0, 1) := by decide +kernel
theorem dX6_addFolk_25 : decode cX6_addFolk 25 = .ok (.getfield 44, 3) := by decide +kernel
theorem dX6_addFolk_28 : decode cX6_addFolk 28 = .ok (.iload_n 3, 1) := by decide +kernel
theorem dX6_addFolk_29 : decode cX6_addFolk 29 = .ok (.iastore, 1) := by decide +kernel
theorem dX6_addFolk_30 : decode cX6_addFolk 30 = .ok (.aload_n 0, 1) := by decide +kernel
theorem dX6_addFolk_31 : decode cX6_addFolk 31 = .ok (.getfield 27, 3) := by decide +kernel
theorem dX6_addFolk_34 : decode cX6_addFolk 34 = .ok (.aload_n 0, 1) := by decide +kernel
theorem dX6_addFolk_35 : decode cX6_addFolk 35 = .ok (.getfield 44, 3) := by decide +kernel
theorem dX6_addFolk_38 : decode cX6_addFolk 38 = .ok (.iconst 0, 1) := by decide +kernel
theorem dX6_addFolk_39 : decode cX6_addFolk 39 = .ok (.iastore, 1) := by decide +kernel
theorem dX6_addFolk_40 : decode cX6_addFolk 40 = .ok (.aload_n 0, 1) := by decide +kernel
theorem dX6_addFolk_41 : decode cX6_addFolk 41 = .ok (.dup, 1) := by decide +kernel
theorem dX6_addFolk_42 : decode cX6_addFolk 42 = .ok (.getfield 44, 3) := by decide +kernel
theorem dX6_addFolk_45 : decode cX6_addFolk 45 = .ok (.iconst 1, 1) := by decide +kernel
theorem dX6_addFolk_46 : decode cX6_addFolk 46 = .ok (.iadd, 1) := by decide +kernel
theorem dX6_addFolk_47 : decode cX6_addFolk 47 = .ok (.putfield 44, 3) := by decide +kernel
theorem dX6_addFolk_50 : decode cX6_addFolk 50 = .ok (.return_, 1) := by decide +kernel
theorem dX6_seeWhatRises_0 : decode cX6_seeWhatRises 0 = .ok (.aload_n 0, 1) := by decide +kernel
theorem dX6_seeWhatRises_1 : decode cX6_seeWhatRises 1 = .ok (.iconst 1, 1) := by decide +kernel
theorem dX6_seeWhatRises_2 : decode cX6_seeWhatRises 2 = .ok (.putfield 47, 3) := by decide +kernel
theorem dX6_seeWhatRises_5 : decode cX6_seeWhatRises 5 = .ok (.iconst 1, 1) := by decide +kernel
theorem dX6_seeWhatRises_6 : decode cX6_seeWhatRises 6 = .ok (.istore_n 1, 1) := by decide +kernel
theorem dX6_seeWhatRises_7 : decode cX6_seeWhatRises 7 = .ok (.iload_n 1, 1) := by decide +kernel
theorem dX6_seeWhatRises_8 : decode cX6_seeWhatRises 8 = .ok (.aload_n 0, 1) := by decide +kernel
theorem dX6_seeWhatRises_9 : decode cX6_seeWhatRises 9 = .ok (.getfield 38, 3) := by decide +kernel
theorem dX6_seeWhatRises_12 : decode cX6_seeWhatRises 12 = .ok (.if_icmp .ge 38, 3) := by decide +kernel
theorem dX6_seeWhatRises_15 : decode cX6_seeWhatRises 15 = .ok (.aload_n 0, 1) := by decide +kernel
theorem dX6_seeWhatRises_16 : decode cX6_seeWhatRises 16 = .ok (.getfield 9, 3) := by decide +kernel
theorem dX6_seeWhatRises_19 : decode cX6_seeWhatRises 19 = .ok (.iload_n 1, 1) := by decide +kernel
theorem dX6_seeWhatRises_20 : decode cX6_seeWhatRises 20 = .ok (.iaload, 1) := by decide +kernel
theorem dX6_seeWhatRises_21 : decode cX6_seeWhatRises 21 = .ok (.aload_n 0, 1) := by decide +kernel
theorem dX6_seeWhatRises_22 : decode cX6_seeWhatRises 22 = .ok (.getfield 9, 3) := by decide +kernel
theorem dX6_seeWhatRises_25 : decode cX6_seeWhatRises 25 = .ok (.iload_n 1, 1) := by decide +kernel
theorem dX6_seeWhatRises_26 : decode cX6_seeWhatRises 26 = .ok (.iconst 1, 1) := by decide +kernel
theorem dX6_seeWhatRises_27 : decode cX6_seeWhatRises 27 = .ok (.isub, 1) := by decide +kernel
theorem dX6_seeWhatRises_28 : decode cX6_seeWhatRises 28 = .ok (.iaload, 1) := by decide +kernel
theorem dX6_seeWhatRises_29 : decode cX6_seeWhatRises 29 = .ok (.if_icmp .le 15, 3) := by decide +kernel
theorem dX6_seeWhatRises_32 : decode cX6_seeWhatRises 32 = .ok (.aload_n 0, 1) := by decide +kernel
theorem dX6_seeWhatRises_33 : decode cX6_seeWhatRises 33 = .ok (.dup, 1) := by decide +kernel
theorem dX6_seeWhatRises_34 : decode cX6_seeWhatRises 34 = .ok (.getfield 47, 3) := by decide +kernel
theorem dX6_seeWhatRises_37 : decode cX6_seeWhatRises 37 = .ok (.iconst 1, 1) := by decide +kernel
theorem dX6_seeWhatRises_38 : decode cX6_seeWhatRises 38 = .ok (.iload_n 1, 1) := by decide +kernel
theorem dX6_seeWhatRises_39 : decode cX6_seeWhatRises 39 = .ok (.ishl, 1) := by decide +kernel
theorem dX6_seeWhatRises_40 : decode cX6_seeWhatRises 40 = .ok (.ior, 1) := by decide +kernel
theorem dX6_seeWhatRises_41 : decode cX6_seeWhatRises 41 = .ok (.putfield 47, 3) := by decide +kernel
theorem dX6_seeWhatRises_44 : decode cX6_seeWhatRises 44 = .ok (.iinc 1 1, 3) := by decide +kernel
theorem dX6_seeWhatRises_47 : decode cX6_seeWhatRises 47 = .ok (.goto (-40), 3) := by decide +kernel
theorem dX6_seeWhatRises_50 : decode cX6_seeWhatRises 50 = .ok (.return_, 1) := by decide +kernel
theorem dX6_getScene_0 : decode cX6_getScene 0 = .ok (.aload_n 1, 1) := by decide +kernel
theorem dX6_getScene_1 : decode cX6_getScene 1 = .ok (.ifnull 10, 3) := by decide +kernel
theorem dX6_getScene_4 : decode cX6_getScene 4 = .ok (.aload_n 1, 1) := by decide +kernel
theorem dX6_getScene_5 : decode cX6_getScene 5 = .ok (.arraylength, 1) := by decide +kernel
theorem dX6_getScene_6 : decode cX6_getScene 6 = .ok (.bipush 22, 2) := by decide +kernel
theorem dX6_getScene_8 : decode cX6_getScene 8 = .ok (.if_icmp .ge 4, 3) := by decide +kernel
theorem dX6_getScene_11 : decode cX6_getScene 11 = .ok (.return_, 1) := by decide +kernel
theorem dX6_getScene_12 : decode cX6_getScene 12 = .ok (.aload_n 1, 1) := by decide +kernel
theorem dX6_getScene_13 : decode cX6_getScene 13 = .ok (.iconst 0, 1) := by decide +kernel
theorem dX6_getScene_14 : decode cX6_getScene 14 = .ok (.aload_n 0, 1) := by decide +kernel
theorem dX6_getScene_15 : decode cX6_getScene 15 = .ok (.getfield 53, 3) := by decide +kernel
theorem dX6_getScene_18 : decode cX6_getScene 18 = .ok (.iastore, 1) := by decide +kernel
theorem dX6_getScene_19 : decode cX6_getScene 19 = .ok (.aload_n 1, 1) := by decide +kernel
theorem dX6_getScene_20 : decode cX6_getScene 20 = .ok (.iconst 1, 1) := by decide +kernel
theorem dX6_getScene_21 : decode cX6_getScene 21 = .ok (.aload_n 0, 1) := by decide +kernel
theorem dX6_getScene_22 : decode cX6_getScene 22 = .ok (.getfield 50, 3) := by decide +kernel
theorem dX6_getScene_25 : decode cX6_getScene 25 = .ok (.iastore, 1) := by decide +kernel
theorem dX6_getScene_26 : decode cX6_getScene 26 = .ok (.aload_n 0, 1) := by decide +kernel
theorem dX6_getScene_27 : decode cX6_getScene 27 = .ok (.getfield 15, 3) := by decide +kernel
theorem dX6_getScene_30 : decode cX6_getScene 30 = .ok (.iconst 0, 1) := by decide +kernel
theorem dX6_getScene_31 : decode cX6_getScene 31 = .ok (.aload_n 1, 1) := by decide +kernel
theorem dX6_getScene_32 : decode cX6_getScene 32 = .ok (.iconst 2, 1) := by decide +kernel
theorem dX6_getScene_33 : decode cX6_getScene 33 = .ok (.iconst 5, 1) := by decide +kernel
theorem dX6_getScene_34 : decode cX6_getScene 34 = .ok (.invokestatic 56, 3) := by decide +kernel
theorem dX6_getScene_37 : decode cX6_getScene 37 = .ok (.aload_n 0, 1) := by decide +kernel
theorem dX6_getScene_38 : decode cX6_getScene 38 = .ok (.getfield 21, 3) := by decide +kernel
theorem dX6_getScene_41 : decode cX6_getScene 41 = .ok (.iconst 0, 1) := by decide +kernel
theorem dX6_getScene_42 : decode cX6_getScene 42 = .ok (.aload_n 1, 1) := by decide +kernel
theorem dX6_getScene_43 : decode cX6_getScene 43 = .ok (.bipush 7, 2) := by decide +kernel
theorem dX6_getScene_45 : decode cX6_getScene 45 = .ok (.iconst 5, 1) := by decide +kernel
theorem dX6_getScene_46 : decode cX6_getScene 46 = .ok (.invokestatic 56, 3) := by decide +kernel
theorem dX6_getScene_49 : decode cX6_getScene 49 = .ok (.aload_n 0, 1) := by decide +kernel
theorem dX6_getScene_50 : decode cX6_getScene 50 = .ok (.getfield 24, 3) := by decide +kernel
theorem dX6_getScene_53 : decode cX6_getScene 53 = .ok (.iconst 0, 1) := by decide +kernel
theorem dX6_getScene_54 : decode cX6_getScene 54 = .ok (.aload_n 1, 1) := by decide +kernel
theorem dX6_getScene_55 : decode cX6_getScene 55 = .ok (.bipush 12, 2) := by decide +kernel
theorem dX6_getScene_57 : decode cX6_getScene 57 = .ok (.iconst 5, 1) := by decide +kernel
theorem dX6_getScene_58 : decode cX6_getScene 58 = .ok (.invokestatic 56, 3) := by decide +kernel
theorem dX6_getScene_61 : decode cX6_getScene 61 = .ok (.aload_n 0, 1) := by decide +kernel
theorem dX6_getScene_62 : decode cX6_getScene 62 = .ok (.getfield 27, 3) := by decide +kernel
theorem dX6_getScene_65 : decode cX6_getScene 65 = .ok (.iconst 0, 1) := by decide +kernel
theorem dX6_getScene_66 : decode cX6_getScene 66 = .ok (.aload_n 1, 1) := by decide +kernel
theorem dX6_getScene_67 : decode cX6_getScene 67 = .ok (.bipush 17, 2) := by decide +kernel
theorem dX6_getScene_69 : decode cX6_getScene 69 = .ok (.iconst 5, 1) := by decide +kernel
theorem dX6_getScene_70 : decode cX6_getScene 70 = .ok (.invokestatic 56, 3) := by decide +kernel
theorem dX6_getScene_73 : decode cX6_getScene 73 = .ok (.return_, 1) := by decide +kernel
theorem dX6_setScene_0 : decode cX6_setScene 0 = .ok (.aload_n 1, 1) := by decide +kernel
theorem dX6_setScene_1 : decode cX6_setScene 1 = .ok (.ifnull 10, 3) := by decide +kernel
theorem dX6_setScene_4 : decode cX6_setScene 4 = .ok (.aload_n 1, 1) := by decide +kernel
theorem dX6_setScene_5 : decode cX6_setScene 5 = .ok (.arraylength, 1) := by decide +kernel
theorem dX6_setScene_6 : decode cX6_setScene 6 = .ok (.bipush 22, 2) := by decide +kernel
theorem dX6_setScene_8 : decode cX6_setScene 8 = .ok (.if_icmp .ge 4, 3) := by decide +kernel
theorem dX6_setScene_11 : decode cX6_setScene 11 = .ok (.return_, 1) := by decide +kernel
theorem dX6_setScene_12 : decode cX6_setScene 12 = .ok (.aload_n 0, 1) := by decide +kernel
theorem dX6_setScene_13 : decode cX6_setScene 13 = .ok (.aload_n 1, 1) := by decide +kernel
theorem dX6_setScene_14 : decode cX6_setScene 14 = .ok (.iconst 0, 1) := by decide +kernel
theorem dX6_setScene_15 : decode cX6_setScene 15 = .ok (.iaload, 1) := by decide +kernel
theorem dX6_setScene_16 : decode cX6_setScene 16 = .ok (.putfield 53, 3) := by decide +kernel
theorem dX6_setScene_19 : decode cX6_setScene 19 = .ok (.aload_n 0, 1) := by decide +kernel
theorem dX6_setScene_20 : decode cX6_setScene 20 = .ok (.aload_n 1, 1) := by decide +kernel
theorem dX6_setScene_21 : decode cX6_setScene 21 = .ok (.iconst 1, 1) := by decide +kernel
theorem dX6_setScene_22 : decode cX6_setScene 22 = .ok (.iaload, 1) := by decide +kernel
theorem dX6_setScene_23 : decode cX6_setScene 23 = .ok (.putfield 50, 3) := by decide +kernel
theorem dX6_setScene_26 : decode cX6_setScene 26 = .ok (.aload_n 1, 1) := by decide +kernel
theorem dX6_setScene_27 : decode cX6_setScene 27 = .ok (.iconst 2, 1) := by decide +kernel
theorem dX6_setScene_28 : decode cX6_setScene 28 = .ok (.aload_n 0, 1) := by decide +kernel
theorem dX6_setScene_29 : decode cX6_setScene 29 = .ok (.getfield 15, 3) := by decide +kernel
theorem dX6_setScene_32 : decode cX6_setScene 32 = .ok (.iconst 0, 1) := by decide +kernel
theorem dX6_setScene_33 : decode cX6_setScene 33 = .ok (.iconst 5, 1) := by decide +kernel
theorem dX6_setScene_34 : decode cX6_setScene 34 = .ok (.invokestatic 56, 3) := by decide +kernel
theorem dX6_setScene_37 : decode cX6_setScene 37 = .ok (.aload_n 1, 1) := by decide +kernel
theorem dX6_setScene_38 : decode cX6_setScene 38 = .ok (.bipush 7, 2) := by decide +kernel
theorem dX6_setScene_40 : decode cX6_setScene 40 = .ok (.aload_n 0, 1) := by decide +kernel
theorem dX6_setScene_41 : decode cX6_setScene 41 = .ok (.getfield 21, 3) := by decide +kernel
theorem dX6_setScene_44 : decode cX6_setScene 44 = .ok (.iconst 0, 1) := by decide +kernel
theorem dX6_setScene_45 : decode cX6_setScene 45 = .ok (.iconst 5, 1) := by decide +kernel
theorem dX6_setScene_46 : decode cX6_setScene 46 = .ok (.invokestatic 56, 3) := by decide +kernel
theorem dX6_setScene_49 : decode cX6_setScene 49 = .ok (.aload_n 1, 1) := by decide +kernel
theorem dX6_setScene_50 : decode cX6_setScene 50 = .ok (.bipush 12, 2) := by decide +kernel
theorem dX6_setScene_52 : decode cX6_setScene 52 = .ok (.aload_n 0, 1) := by decide +kernel
theorem dX6_setScene_53 : decode cX6_setScene 53 = .ok (.getfield 24, 3) := by decide +kernel
theorem dX6_setScene_56 : decode cX6_setScene 56 = .ok (.iconst 0, 1) := by decide +kernel
theorem dX6_setScene_57 : decode cX6_setScene 57 = .ok (.iconst 5, 1) := by decide +kernel
theorem dX6_setScene_58 : decode cX6_setScene 58 = .ok (.invokestatic 56, 3) := by decide +kernel
theorem dX6_setScene_61 : decode cX6_setScene 61 = .ok (.aload_n 1, 1) := by decide +kernel
theorem dX6_setScene_62 : decode cX6_setScene 62 = .ok (.bipush 17, 2) := by decide +kernel
theorem dX6_setScene_64 : decode cX6_setScene 64 = .ok (.aload_n 0, 1) := by decide +kernel
theorem dX6_setScene_65 : decode cX6_setScene 65 = .ok (.getfield 27, 3) := by decide +kernel
theorem dX6_setScene_68 : decode cX6_setScene 68 = .ok (.iconst 0, 1) := by decide +kernel
theorem dX6_setScene_69 : decode cX6_setScene 69 = .ok (.iconst 5, 1) := by decide +kernel
theorem dX6_setScene_70 : decode cX6_setScene 70 = .ok (.invokestatic 56, 3) := by decide +kernel
theorem dX6_setScene_73 : decode cX6_setScene 73 = .ok (.return_, 1) := by decide +kernel
theorem dX6_hasCell_0 : decode cX6_hasCell 0 = .ok (.iload_n 1, 1) := by decide +kernel
theorem dX6_hasCell_1 : decode cX6_hasCell 1 = .ok (.ifCond .lt 15, 3) := by decide +kernel
theorem dX6_hasCell_4 : decode cX6_hasCell 4 = .ok (.iload_n 1, 1) := by decide +kernel
theorem dX6_hasCell_5 : decode cX6_hasCell 5 = .ok (.aload_n 0, 1) := by decide +kernel
theorem dX6_hasCell_6 : decode cX6_hasCell 6 = .ok (.getfield 38, 3) := by decide +kernel
theorem dX6_hasCell_9 : decode cX6_hasCell 9 = .ok (.if_icmp .ge 7, 3) := by decide +kernel
theorem dX6_hasCell_12 : decode cX6_hasCell 12 = .ok (.iconst 1, 1) := by decide +kernel
theorem dX6_hasCell_13 : decode cX6_hasCell 13 = .ok (.goto 4, 3) := by decide +kernel
theorem dX6_hasCell_16 : decode cX6_hasCell 16 = .ok (.iconst 0, 1) := by decide +kernel
theorem dX6_hasCell_17 : decode cX6_hasCell 17 = .ok (.ireturn, 1) := by decide +kernel
theorem dX6_hasWall_0 : decode cX6_hasWall 0 = .ok (.iload_n 1, 1) := by decide +kernel
theorem dX6_hasWall_1 : decode cX6_hasWall 1 = .ok (.ifCond .lt 15, 3) := by decide +kernel
theorem dX6_hasWall_4 : decode cX6_hasWall 4 = .ok (.iload_n 1, 1) := by decide +kernel
theorem dX6_hasWall_5 : decode cX6_hasWall 5 = .ok (.aload_n 0, 1) := by decide +kernel
theorem dX6_hasWall_6 : decode cX6_hasWall 6 = .ok (.getfield 41, 3) := by decide +kernel
theorem dX6_hasWall_9 : decode cX6_hasWall 9 = .ok (.if_icmp .ge 7, 3) := by decide +kernel
theorem dX6_hasWall_12 : decode cX6_hasWall 12 = .ok (.iconst 1, 1) := by decide +kernel
theorem dX6_hasWall_13 : decode cX6_hasWall 13 = .ok (.goto 4, 3) := by decide +kernel
theorem dX6_hasWall_16 : decode cX6_hasWall 16 = .ok (.iconst 0, 1) := by decide +kernel
theorem dX6_hasWall_17 : decode cX6_hasWall 17 = .ok (.ireturn, 1) := by decide +kernel
theorem dX6_hasHouse_0 : decode cX6_hasHouse 0 = .ok (.aload_n 0, 1) := by decide +kernel
theorem dX6_hasHouse_1 : decode cX6_hasHouse 1 = .ok (.getfield 38, 3) := by decide +kernel
theorem dX6_hasHouse_4 : decode cX6_hasHouse 4 = .ok (.ifCond .le 19, 3) := by decide +kernel
theorem dX6_hasHouse_7 : decode cX6_hasHouse 7 = .ok (.iload_n 1, 1) := by decide +kernel
theorem dX6_hasHouse_8 : decode cX6_hasHouse 8 = .ok (.ifCond .lt 15, 3) := by decide +kernel
theorem dX6_hasHouse_11 : decode cX6_hasHouse 11 = .ok (.iload_n 1, 1) := by decide +kernel
theorem dX6_hasHouse_12 : decode cX6_hasHouse 12 = .ok (.aload_n 0, 1) := by decide +kernel
theorem dX6_hasHouse_13 : decode cX6_hasHouse 13 = .ok (.getfield 41, 3) := by decide +kernel
theorem dX6_hasHouse_16 : decode cX6_hasHouse 16 = .ok (.if_icmp .gt 7, 3) := by decide +kernel
theorem dX6_hasHouse_19 : decode cX6_hasHouse 19 = .ok (.iconst 1, 1) := by decide +kernel
theorem dX6_hasHouse_20 : decode cX6_hasHouse 20 = .ok (.goto 4, 3) := by decide +kernel
theorem dX6_hasHouse_23 : decode cX6_hasHouse 23 = .ok (.iconst 0, 1) := by decide +kernel
theorem dX6_hasHouse_24 : decode cX6_hasHouse 24 = .ok (.ireturn, 1) := by decide +kernel
theorem dX6_hasFolk_0 : decode cX6_hasFolk 0 = .ok (.iload_n 1, 1) := by decide +kernel
theorem dX6_hasFolk_1 : decode cX6_hasFolk 1 = .ok (.ifCond .lt 15, 3) := by decide +kernel
theorem dX6_hasFolk_4 : decode cX6_hasFolk 4 = .ok (.iload_n 1, 1) := by decide +kernel
theorem dX6_hasFolk_5 : decode cX6_hasFolk 5 = .ok (.aload_n 0, 1) := by decide +kernel
theorem dX6_hasFolk_6 : decode cX6_hasFolk 6 = .ok (.getfield 44, 3) := by decide +kernel
theorem dX6_hasFolk_9 : decode cX6_hasFolk 9 = .ok (.if_icmp .ge 7, 3) := by decide +kernel
theorem dX6_hasFolk_12 : decode cX6_hasFolk 12 = .ok (.iconst 1, 1) := by decide +kernel
theorem dX6_hasFolk_13 : decode cX6_hasFolk 13 = .ok (.goto 4, 3) := by decide +kernel
theorem dX6_hasFolk_16 : decode cX6_hasFolk 16 = .ok (.iconst 0, 1) := by decide +kernel
theorem dX6_hasFolk_17 : decode cX6_hasFolk 17 = .ok (.ireturn, 1) := by decide +kernel
theorem dX6_allCells_0 : decode cX6_allCells 0 = .ok (.iconst 1, 1) := by decide +kernel
theorem dX6_allCells_1 : decode cX6_allCells 1 = .ok (.aload_n 0, 1) := by decide +kernel
theorem dX6_allCells_2 : decode cX6_allCells 2 = .ok (.getfield 38, 3) := by decide +kernel
theorem dX6_allCells_5 : decode cX6_allCells 5 = .ok (.ishl, 1) := by decide +kernel
theorem dX6_allCells_6 : decode cX6_allCells 6 = .ok (.iconst 1, 1) := by decide +kernel
theorem dX6_allCells_7 : decode cX6_allCells 7 = .ok (.isub, 1) := by decide +kernel
theorem dX6_allCells_8 : decode cX6_allCells 8 = .ok (.ireturn, 1) := by decide +kernel
theorem dX6_startOf_0 : decode cX6_startOf 0 = .ok (.iload_n 1, 1) := by decide +kernel
theorem dX6_startOf_1 : decode cX6_startOf 1 = .ok (.ifCond .gt 5, 3) := by decide +kernel
theorem dX6_startOf_4 : decode cX6_startOf 4 = .ok (.iconst 0, 1) := by decide +kernel
theorem dX6_startOf_5 : decode cX6_startOf 5 = .ok (.ireturn, 1) := by decide +kernel
theorem dX6_startOf_6 : decode cX6_startOf 6 = .ok (.iload_n 1, 1) := by decide +kernel
theorem dX6_startOf_7 : decode cX6_startOf 7 = .ok (.aload_n 0, 1) := by decide +kernel
theorem dX6_startOf_8 : decode cX6_startOf 8 = .ok (.getfield 41, 3) := by decide +kernel
theorem dX6_startOf_11 : decode cX6_startOf 11 = .ok (.if_icmp .gt 14, 3) := by decide +kernel
theorem dX6_startOf_14 : decode cX6_startOf 14 = .ok (.aload_n 0, 1) := by decide +kernel
theorem dX6_startOf_15 : decode cX6_startOf 15 = .ok (.getfield 15, 3) := by decide +kernel
theorem dX6_startOf_18 : decode cX6_startOf 18 = .ok (.iload_n 1, 1) := by decide +kernel
theorem dX6_startOf_19 : decode cX6_startOf 19 = .ok (.iconst 1, 1) := by decide +kernel
theorem dX6_startOf_20 : decode cX6_startOf 20 = .ok (.isub, 1) := by decide +kernel
theorem dX6_startOf_21 : decode cX6_startOf 21 = .ok (.iaload, 1) := by decide +kernel
theorem dX6_startOf_22 : decode cX6_startOf 22 = .ok (.goto 7, 3) := by decide +kernel
theorem dX6_startOf_25 : decode cX6_startOf 25 = .ok (.aload_n 0, 1) := by decide +kernel
theorem dX6_startOf_26 : decode cX6_startOf 26 = .ok (.getfield 38, 3) := by decide +kernel
theorem dX6_startOf_29 : decode cX6_startOf 29 = .ok (.ireturn, 1) := by decide +kernel
theorem dX6_cellsIn_0 : decode cX6_cellsIn 0 = .ok (.aload_n 0, 1) := by decide +kernel
theorem dX6_cellsIn_1 : decode cX6_cellsIn 1 = .ok (.iload_n 1, 1) := by decide +kernel
theorem dX6_cellsIn_2 : decode cX6_cellsIn 2 = .ok (.iconst 1, 1) := by decide +kernel
theorem dX6_cellsIn_3 : decode cX6_cellsIn 3 = .ok (.iadd, 1) := by decide +kernel
theorem dX6_cellsIn_4 : decode cX6_cellsIn 4 = .ok (.invokevirtual 62, 3) := by decide +kernel
theorem dX6_cellsIn_7 : decode cX6_cellsIn 7 = .ok (.aload_n 0, 1) := by decide +kernel
theorem dX6_cellsIn_8 : decode cX6_cellsIn 8 = .ok (.iload_n 1, 1) := by decide +kernel
theorem dX6_cellsIn_9 : decode cX6_cellsIn 9 = .ok (.invokevirtual 62, 3) := by decide +kernel
theorem dX6_cellsIn_12 : decode cX6_cellsIn 12 = .ok (.isub, 1) := by decide +kernel
theorem dX6_cellsIn_13 : decode cX6_cellsIn 13 = .ok (.ireturn, 1) := by decide +kernel
theorem dX6_cellBits_0 : decode cX6_cellBits 0 = .ok (.iconst 1, 1) := by decide +kernel
theorem dX6_cellBits_1 : decode cX6_cellBits 1 = .ok (.aload_n 0, 1) := by decide +kernel
theorem dX6_cellBits_2 : decode cX6_cellBits 2 = .ok (.iload_n 1, 1) := by decide +kernel
theorem dX6_cellBits_3 : decode cX6_cellBits 3 = .ok (.iconst 1, 1) := by decide +kernel
theorem dX6_cellBits_4 : decode cX6_cellBits 4 = .ok (.iadd, 1) := by decide +kernel
theorem dX6_cellBits_5 : decode cX6_cellBits 5 = .ok (.invokevirtual 62, 3) := by decide +kernel
theorem dX6_cellBits_8 : decode cX6_cellBits 8 = .ok (.ishl, 1) := by decide +kernel
theorem dX6_cellBits_9 : decode cX6_cellBits 9 = .ok (.iconst 1, 1) := by decide +kernel
theorem dX6_cellBits_10 : decode cX6_cellBits 10 = .ok (.aload_n 0, 1) := by decide +kernel
theorem dX6_cellBits_11 : decode cX6_cellBits 11 = .ok (.iload_n 1, 1) := by decide +kernel
theorem dX6_cellBits_12 : decode cX6_cellBits 12 = .ok (.invokevirtual 62, 3) := by decide +kernel
theorem dX6_cellBits_15 : decode cX6_cellBits 15 = .ok (.ishl, 1) := by decide +kernel
theorem dX6_cellBits_16 : decode cX6_cellBits 16 = .ok (.isub, 1) := by decide +kernel
theorem dX6_cellBits_17 : decode cX6_cellBits 17 = .ok (.ireturn, 1) := by decide +kernel
theorem dX6_houseOf_0 : decode cX6_houseOf 0 = .ok (.iconst 0, 1) := by decide +kernel
theorem dX6_houseOf_1 : decode cX6_houseOf 1 = .ok (.istore_n 2, 1) := by decide +kernel
theorem dX6_houseOf_2 : decode cX6_houseOf 2 = .ok (.iconst 0, 1) := by decide +kernel
theorem dX6_houseOf_3 : decode cX6_houseOf 3 = .ok (.istore_n 3, 1) := by decide +kernel
theorem dX6_houseOf_4 : decode cX6_houseOf 4 = .ok (.iload_n 3, 1) := by decide +kernel
theorem dX6_houseOf_5 : decode cX6_houseOf 5 = .ok (.aload_n 0, 1) := by decide +kernel
theorem dX6_houseOf_6 : decode cX6_houseOf 6 = .ok (.getfield 41, 3) := by decide +kernel
theorem dX6_houseOf_9 : decode cX6_houseOf 9 = .ok (.if_icmp .ge 22, 3) := by decide +kernel
theorem dX6_houseOf_12 : decode cX6_houseOf 12 = .ok (.aload_n 0, 1) := by decide +kernel
theorem dX6_houseOf_13 : decode cX6_houseOf 13 = .ok (.getfield 15, 3) := by decide +kernel
theorem dX6_houseOf_16 : decode cX6_houseOf 16 = .ok (.iload_n 3, 1) := by decide +kernel
theorem dX6_houseOf_17 : decode cX6_houseOf 17 = .ok (.iaload, 1) := by decide +kernel
theorem dX6_houseOf_18 : decode cX6_houseOf 18 = .ok (.iload_n 1, 1) := by decide +kernel
theorem dX6_houseOf_19 : decode cX6_houseOf 19 = .ok (.if_icmp .gt 6, 3) := by decide +kernel
theorem dX6_houseOf_22 : decode cX6_houseOf 22 = .ok (.iinc 2 1, 3) := by decide +kernel
theorem dX6_houseOf_25 : decode cX6_houseOf 25 = .ok (.iinc 3 1, 3) := by decide +kernel
theorem dX6_houseOf_28 : decode cX6_houseOf 28 = .ok (.goto (-24), 3) := by decide +kernel
theorem dX6_houseOf_31 : decode cX6_houseOf 31 = .ok (.iload_n 2, 1) := by decide +kernel
theorem dX6_houseOf_32 : decode cX6_houseOf 32 = .ok (.ireturn, 1) := by decide +kernel
theorem dX6_freeForWall_0 : decode cX6_freeForWall 0 = .ok (.iload_n 1, 1) := by decide +kernel
theorem dX6_freeForWall_1 : decode cX6_freeForWall 1 = .ok (.iconst 1, 1) := by decide +kernel
theorem dX6_freeForWall_2 : decode cX6_freeForWall 2 = .ok (.if_icmp .lt 11, 3) := by decide +kernel
theorem dX6_freeForWall_5 : decode cX6_freeForWall 5 = .ok (.iload_n 1, 1) := by decide +kernel
theorem dX6_freeForWall_6 : decode cX6_freeForWall 6 = .ok (.aload_n 0, 1) := by decide +kernel
theorem dX6_freeForWall_7 : decode cX6_freeForWall 7 = .ok (.getfield 38, 3) := by decide +kernel
theorem dX6_freeForWall_10 : decode cX6_freeForWall 10 = .ok (.if_icmp .lt 5, 3) := by decide +kernel
theorem dX6_freeForWall_13 : decode cX6_freeForWall 13 = .ok (.iconst 0, 1) := by decide +kernel
theorem dX6_freeForWall_14 : decode cX6_freeForWall 14 = .ok (.ireturn, 1) := by decide +kernel
theorem dX6_freeForWall_15 : decode cX6_freeForWall 15 = .ok (.iconst 0, 1) := by decide +kernel
theorem dX6_freeForWall_16 : decode cX6_freeForWall 16 = .ok (.istore_n 2, 1) := by decide +kernel
theorem dX6_freeForWall_17 : decode cX6_freeForWall 17 = .ok (.iload_n 2, 1) := by decide +kernel
theorem dX6_freeForWall_18 : decode cX6_freeForWall 18 = .ok (.aload_n 0, 1) := by decide +kernel
theorem dX6_freeForWall_19 : decode cX6_freeForWall 19 = .ok (.getfield 41, 3) := by decide +kernel
theorem dX6_freeForWall_22 : decode cX6_freeForWall 22 = .ok (.if_icmp .ge 21, 3) := by decide +kernel
theorem dX6_freeForWall_25 : decode cX6_freeForWall 25 = .ok (.aload_n 0, 1) := by decide +kernel
theorem dX6_freeForWall_26 : decode cX6_freeForWall 26 = .ok (.getfield 15, 3) := by decide +kernel
theorem dX6_freeForWall_29 : decode cX6_freeForWall 29 = .ok (.iload_n 2, 1) := by decide +kernel
theorem dX6_freeForWall_30 : decode cX6_freeForWall 30 = .ok (.iaload, 1) := by decide +kernel
theorem dX6_freeForWall_31 : decode cX6_freeForWall 31 = .ok (.iload_n 1, 1) := by decide +kernel
theorem dX6_freeForWall_32 : decode cX6_freeForWall 32 = .ok (.if_icmp .ne 5, 3) := by decide +kernel
theorem dX6_freeForWall_35 : decode cX6_freeForWall 35 = .ok (.iconst 0, 1) := by decide +kernel
theorem dX6_freeForWall_36 : decode cX6_freeForWall 36 = .ok (.ireturn, 1) := by decide +kernel
theorem dX6_freeForWall_37 : decode cX6_freeForWall 37 = .ok (.iinc 2 1, 3) := by decide +kernel
theorem dX6_freeForWall_40 : decode cX6_freeForWall 40 = .ok (.goto (-23), 3) := by decide +kernel
theorem dX6_freeForWall_43 : decode cX6_freeForWall 43 = .ok (.iconst 1, 1) := by decide +kernel
theorem dX6_freeForWall_44 : decode cX6_freeForWall 44 = .ok (.ireturn, 1) := by decide +kernel
theorem dX6_moveUpIfFree_0 : decode cX6_moveUpIfFree 0 = .ok (.aload_n 0, 1) := by decide +kernel
theorem dX6_moveUpIfFree_1 : decode cX6_moveUpIfFree 1 = .ok (.iload_n 1, 1) := by decide +kernel
theorem dX6_moveUpIfFree_2 : decode cX6_moveUpIfFree 2 = .ok (.invokevirtual 66, 3) := by decide +kernel
theorem dX6_moveUpIfFree_5 : decode cX6_moveUpIfFree 5 = .ok (.ifCond .eq 28, 3) := by decide +kernel
theorem dX6_moveUpIfFree_8 : decode cX6_moveUpIfFree 8 = .ok (.aload_n 0, 1) := by decide +kernel
theorem dX6_moveUpIfFree_9 : decode cX6_moveUpIfFree 9 = .ok (.aload_n 0, 1) := by decide +kernel
theorem dX6_moveUpIfFree_10 : decode cX6_moveUpIfFree 10 = .ok (.getfield 15, 3) := by decide +kernel
theorem dX6_moveUpIfFree_13 : decode cX6_moveUpIfFree 13 = .ok (.iload_n 1, 1) := by decide +kernel
theorem dX6_moveUpIfFree_14 : decode cX6_moveUpIfFree 14 = .ok (.iaload, 1) := by decide +kernel
theorem dX6_moveUpIfFree_15 : decode cX6_moveUpIfFree 15 = .ok (.iconst 1, 1) := by decide +kernel
theorem dX6_moveUpIfFree_16 : decode cX6_moveUpIfFree 16 = .ok (.iadd, 1) := by decide +kernel
theorem dX6_moveUpIfFree_17 : decode cX6_moveUpIfFree 17 = .ok (.invokevirtual 70, 3) := by decide +kernel
theorem dX6_moveUpIfFree_20 : decode cX6_moveUpIfFree 20 = .ok (.ifCond .eq 13, 3) := by decide +kernel
theorem dX6_moveUpIfFree_23 : decode cX6_moveUpIfFree 23 = .ok (.aload_n 0, 1) := by decide +kernel
theorem dX6_moveUpIfFree_24 : decode cX6_moveUpIfFree 24 = .ok (.getfield 15, 3) := by decide +kernel
theorem dX6_moveUpIfFree_27 : decode cX6_moveUpIfFree 27 = .ok (.iload_n 1, 1) := by decide +kernel
theorem dX6_moveUpIfFree_28 : decode cX6_moveUpIfFree 28 = .ok (.dup2, 1) := by decide +kernel
theorem dX6_moveUpIfFree_29 : decode cX6_moveUpIfFree 29 = .ok (.iaload, 1) := by decide +kernel
theorem dX6_moveUpIfFree_30 : decode cX6_moveUpIfFree 30 = .ok (.iconst 1, 1) := by decide +kernel
theorem dX6_moveUpIfFree_31 : decode cX6_moveUpIfFree 31 = .ok (.iadd, 1) := by decide +kernel
theorem dX6_moveUpIfFree_32 : decode cX6_moveUpIfFree 32 = .ok (.iastore, 1) := by decide +kernel
theorem dX6_moveUpIfFree_33 : decode cX6_moveUpIfFree 33 = .ok (.return_, 1) := by decide +kernel
theorem dX6_sortOf_0 : decode cX6_sortOf 0 = .ok (.aload_n 0, 1) := by decide +kernel
theorem dX6_sortOf_1 : decode cX6_sortOf 1 = .ok (.getfield 18, 3) := by decide +kernel
theorem dX6_sortOf_4 : decode cX6_sortOf 4 = .ok (.iload_n 1, 1) := by decide +kernel
theorem dX6_sortOf_5 : decode cX6_sortOf 5 = .ok (.iaload, 1) := by decide +kernel
theorem dX6_sortOf_6 : decode cX6_sortOf 6 = .ok (.istore_n 2, 1) := by decide +kernel
theorem dX6_sortOf_7 : decode cX6_sortOf 7 = .ok (.iload_n 2, 1) := by decide +kernel
theorem dX6_sortOf_8 : decode cX6_sortOf 8 = .ok (.ifCond .lt 21, 3) := by decide +kernel
theorem dX6_sortOf_11 : decode cX6_sortOf 11 = .ok (.iload_n 2, 1) := by decide +kernel
theorem dX6_sortOf_12 : decode cX6_sortOf 12 = .ok (.aload_n 0, 1) := by decide +kernel
theorem dX6_sortOf_13 : decode cX6_sortOf 13 = .ok (.getfield 30, 3) := by decide +kernel
theorem dX6_sortOf_16 : decode cX6_sortOf 16 = .ok (.arraylength, 1) := by decide +kernel
theorem dX6_sortOf_17 : decode cX6_sortOf 17 = .ok (.if_icmp .ge 12, 3) := by decide +kernel
theorem dX6_sortOf_20 : decode cX6_sortOf 20 = .ok (.aload_n 0, 1) := by decide +kernel
theorem dX6_sortOf_21 : decode cX6_sortOf 21 = .ok (.getfield 30, 3) := by decide +kernel
theorem dX6_sortOf_24 : decode cX6_sortOf 24 = .ok (.iload_n 2, 1) := by decide +kernel
theorem dX6_sortOf_25 : decode cX6_sortOf 25 = .ok (.aaload, 1) := by decide +kernel
theorem dX6_sortOf_26 : decode cX6_sortOf 26 = .ok (.goto 4, 3) := by decide +kernel
theorem dX6_sortOf_29 : decode cX6_sortOf 29 = .ok (.aconst_null, 1) := by decide +kernel
theorem dX6_sortOf_30 : decode cX6_sortOf 30 = .ok (.areturn, 1) := by decide +kernel
theorem dX6_seenBy_0 : decode cX6_seenBy 0 = .ok (.aload_n 0, 1) := by decide +kernel
theorem dX6_seenBy_1 : decode cX6_seenBy 1 = .ok (.iload_n 1, 1) := by decide +kernel
theorem dX6_seenBy_2 : decode cX6_seenBy 2 = .ok (.invokevirtual 73, 3) := by decide +kernel
theorem dX6_seenBy_5 : decode cX6_seenBy 5 = .ok (.astore_n 2, 1) := by decide +kernel
theorem dX6_seenBy_6 : decode cX6_seenBy 6 = .ok (.aload_n 2, 1) := by decide +kernel
theorem dX6_seenBy_7 : decode cX6_seenBy 7 = .ok (.ifnonnull 7, 3) := by decide +kernel
theorem dX6_seenBy_10 : decode cX6_seenBy 10 = .ok (.iconst 0, 1) := by decide +kernel
theorem dX6_seenBy_11 : decode cX6_seenBy 11 = .ok (.goto 18, 3) := by decide +kernel
theorem dX6_seenBy_14 : decode cX6_seenBy 14 = .ok (.aload_n 2, 1) := by decide +kernel
theorem dX6_seenBy_15 : decode cX6_seenBy 15 = .ok (.aload_n 0, 1) := by decide +kernel
theorem dX6_seenBy_16 : decode cX6_seenBy 16 = .ok (.aload_n 0, 1) := by decide +kernel
theorem dX6_seenBy_17 : decode cX6_seenBy 17 = .ok (.aload_n 0, 1) := by decide +kernel
theorem dX6_seenBy_18 : decode cX6_seenBy 18 = .ok (.getfield 21, 3) := by decide +kernel
theorem dX6_seenBy_21 : decode cX6_seenBy 21 = .ok (.iload_n 1, 1) := by decide +kernel
theorem dX6_seenBy_22 : decode cX6_seenBy 22 = .ok (.iaload, 1) := by decide +kernel
theorem dX6_seenBy_23 : decode cX6_seenBy 23 = .ok (.invokevirtual 77, 3) := by decide +kernel
theorem dX6_seenBy_26 : decode cX6_seenBy 26 = .ok (.invokevirtual 80, 3) := by decide +kernel
theorem dX6_seenBy_29 : decode cX6_seenBy 29 = .ok (.ireturn, 1) := by decide +kernel
theorem dX6_passDay_0 : decode cX6_passDay 0 = .ok (.iconst 0, 1) := by decide +kernel
theorem dX6_passDay_1 : decode cX6_passDay 1 = .ok (.istore_n 1, 1) := by decide +kernel
theorem dX6_passDay_2 : decode cX6_passDay 2 = .ok (.iload_n 1, 1) := by decide +kernel
theorem dX6_passDay_3 : decode cX6_passDay 3 = .ok (.aload_n 0, 1) := by decide +kernel
theorem dX6_passDay_4 : decode cX6_passDay 4 = .ok (.getfield 44, 3) := by decide +kernel
theorem dX6_passDay_7 : decode cX6_passDay 7 = .ok (.if_icmp .ge 14, 3) := by decide +kernel
theorem dX6_passDay_10 : decode cX6_passDay 10 = .ok (.aload_n 0, 1) := by decide +kernel
theorem dX6_passDay_11 : decode cX6_passDay 11 = .ok (.iload_n 1, 1) := by decide +kernel
theorem dX6_passDay_12 : decode cX6_passDay 12 = .ok (.invokevirtual 86, 3) := by decide +kernel
theorem dX6_passDay_15 : decode cX6_passDay 15 = .ok (.iinc 1 1, 3) := by decide +kernel
theorem dX6_passDay_18 : decode cX6_passDay 18 = .ok (.goto (-16), 3) := by decide +kernel
theorem dX6_passDay_21 : decode cX6_passDay 21 = .ok (.aload_n 0, 1) := by decide +kernel
theorem dX6_passDay_22 : decode cX6_passDay 22 = .ok (.invokevirtual 90, 3) := by decide +kernel
theorem dX6_passDay_25 : decode cX6_passDay 25 = .ok (.return_, 1) := by decide +kernel
theorem dX6_walk_0 : decode cX6_walk 0 = .ok (.aload_n 0, 1) := by decide +kernel
theorem dX6_walk_1 : decode cX6_walk 1 = .ok (.getfield 24, 3) := by decide +kernel
theorem dX6_walk_4 : decode cX6_walk 4 = .ok (.iload_n 1, 1) := by decide +kernel
theorem dX6_walk_5 : decode cX6_walk 5 = .ok (.iaload, 1) := by decide +kernel
theorem dX6_walk_6 : decode cX6_walk 6 = .ok (.iconst 1, 1) := by decide +kernel
theorem dX6_walk_7 : decode cX6_walk 7 = .ok (.if_icmp .ne 7, 3) := by decide +kernel
theorem dX6_walk_10 : decode cX6_walk 10 = .ok (.iconst 1, 1) := by decide +kernel
theorem dX6_walk_11 : decode cX6_walk 11 = .ok (.goto 4, 3) := by decide +kernel
theorem dX6_walk_14 : decode cX6_walk 14 = .ok (.iconst 0, 1) := by decide +kernel
theorem dX6_walk_15 : decode cX6_walk 15 = .ok (.istore_n 2, 1) := by decide +kernel
theorem dX6_walk_16 : decode cX6_walk 16 = .ok (.iload_n 2, 1) := by decide +kernel
theorem dX6_walk_17 : decode cX6_walk 17 = .ok (.ifCond .eq 24, 3) := by decide +kernel
theorem dX6_walk_20 : decode cX6_walk 20 = .ok (.aload_n 0, 1) := by decide +kernel
theorem dX6_walk_21 : decode cX6_walk 21 = .ok (.getfield 21, 3) := by decide +kernel
theorem dX6_walk_24 : decode cX6_walk 24 = .ok (.iload_n 1, 1) := by decide +kernel
theorem dX6_walk_25 : decode cX6_walk 25 = .ok (.iaload, 1) := by decide +kernel
theorem dX6_walk_26 : decode cX6_walk 26 = .ok (.aload_n 0, 1) := by decide +kernel
theorem dX6_walk_27 : decode cX6_walk 27 = .ok (.getfield 41, 3) := by decide +kernel
theorem dX6_walk_30 : decode cX6_walk 30 = .ok (.if_icmp .lt 7, 3) := by decide +kernel
theorem dX6_walk_33 : decode cX6_walk 33 = .ok (.iconst 1, 1) := by decide +kernel
theorem dX6_walk_34 : decode cX6_walk 34 = .ok (.goto 21, 3) := by decide +kernel
theorem dX6_walk_37 : decode cX6_walk 37 = .ok (.iconst 0, 1) := by decide +kernel
theorem dX6_walk_38 : decode cX6_walk 38 = .ok (.goto 17, 3) := by decide +kernel
theorem dX6_walk_41 : decode cX6_walk 41 = .ok (.aload_n 0, 1) := by decide +kernel
theorem dX6_walk_42 : decode cX6_walk 42 = .ok (.getfield 21, 3) := by decide +kernel
theorem dX6_walk_45 : decode cX6_walk 45 = .ok (.iload_n 1, 1) := by decide +kernel
theorem dX6_walk_46 : decode cX6_walk 46 = .ok (.iaload, 1) := by decide +kernel
theorem dX6_walk_47 : decode cX6_walk 47 = .ok (.ifCond .gt 7, 3) := by decide +kernel
theorem dX6_walk_50 : decode cX6_walk 50 = .ok (.iconst 1, 1) := by decide +kernel
theorem dX6_walk_51 : decode cX6_walk 51 = .ok (.goto 4, 3) := by decide +kernel
theorem dX6_walk_54 : decode cX6_walk 54 = .ok (.iconst 0, 1) := by decide +kernel
theorem dX6_walk_55 : decode cX6_walk 55 = .ok (.istore_n 3, 1) := by decide +kernel
theorem dX6_walk_56 : decode cX6_walk 56 = .ok (.iload_n 3, 1) := by decide +kernel
theorem dX6_walk_57 : decode cX6_walk 57 = .ok (.ifCond .eq 28, 3) := by decide +kernel
theorem dX6_walk_60 : decode cX6_walk 60 = .ok (.iload_n 2, 1) := by decide +kernel
theorem dX6_walk_61 : decode cX6_walk 61 = .ok (.ifCond .ne 7, 3) := by decide +kernel
theorem dX6_walk_64 : decode cX6_walk 64 = .ok (.iconst 1, 1) := by decide +kernel
theorem dX6_walk_65 : decode cX6_walk 65 = .ok (.goto 4, 3) := by decide +kernel
theorem dX6_walk_68 : decode cX6_walk 68 = .ok (.iconst 0, 1) := by decide +kernel
theorem dX6_walk_69 : decode cX6_walk 69 = .ok (.istore_n 2, 1) := by decide +kernel
theorem dX6_walk_70 : decode cX6_walk 70 = .ok (.aload_n 0, 1) := by decide +kernel
theorem dX6_walk_71 : decode cX6_walk 71 = .ok (.getfield 24, 3) := by decide +kernel
theorem dX6_walk_74 : decode cX6_walk 74 = .ok (.iload_n 1, 1) := by decide +kernel
theorem dX6_walk_75 : decode cX6_walk 75 = .ok (.iload_n 2, 1) := by decide +kernel
theorem dX6_walk_76 : decode cX6_walk 76 = .ok (.ifCond .eq 7, 3) := by decide +kernel
theorem dX6_walk_79 : decode cX6_walk 79 = .ok (.iconst 1, 1) := by decide +kernel
theorem dX6_walk_80 : decode cX6_walk 80 = .ok (.goto 4, 3) := by decide +kernel
theorem dX6_walk_83 : decode cX6_walk 83 = .ok (.iconst 0, 1) := by decide +kernel
theorem dX6_walk_84 : decode cX6_walk 84 = .ok (.iastore, 1) := by decide +kernel
theorem dX6_walk_85 : decode cX6_walk 85 = .ok (.aload_n 0, 1) := by decide +kernel
theorem dX6_walk_86 : decode cX6_walk 86 = .ok (.getfield 41, 3) := by decide +kernel
theorem dX6_walk_89 : decode cX6_walk 89 = .ok (.ifCond .le 21, 3) := by decide +kernel
theorem dX6_walk_92 : decode cX6_walk 92 = .ok (.aload_n 0, 1) := by decide +kernel
theorem dX6_walk_93 : decode cX6_walk 93 = .ok (.getfield 21, 3) := by decide +kernel
theorem dX6_walk_96 : decode cX6_walk 96 = .ok (.iload_n 1, 1) := by decide +kernel
theorem dX6_walk_97 : decode cX6_walk 97 = .ok (.dup2, 1) := by decide +kernel
theorem dX6_walk_98 : decode cX6_walk 98 = .ok (.iaload, 1) := by decide +kernel
theorem dX6_walk_99 : decode cX6_walk 99 = .ok (.iload_n 2, 1) := by decide +kernel
theorem dX6_walk_100 : decode cX6_walk 100 = .ok (.ifCond .eq 7, 3) := by decide +kernel
theorem dX6_walk_103 : decode cX6_walk 103 = .ok (.iconst 1, 1) := by decide +kernel
theorem dX6_walk_104 : decode cX6_walk 104 = .ok (.goto 4, 3) := by decide +kernel
theorem dX6_walk_107 : decode cX6_walk 107 = .ok (.iconst (-1), 1) := by decide +kernel
theorem dX6_walk_108 : decode cX6_walk 108 = .ok (.iadd, 1) := by decide +kernel
theorem dX6_walk_109 : decode cX6_walk 109 = .ok (.iastore, 1) := by decide +kernel
theorem dX6_walk_110 : decode cX6_walk 110 = .ok (.aload_n 0, 1) := by decide +kernel
theorem dX6_walk_111 : decode cX6_walk 111 = .ok (.getfield 27, 3) := by decide +kernel
theorem dX6_walk_114 : decode cX6_walk 114 = .ok (.iload_n 1, 1) := by decide +kernel
theorem dX6_walk_115 : decode cX6_walk 115 = .ok (.dup2, 1) := by decide +kernel
theorem dX6_walk_116 : decode cX6_walk 116 = .ok (.iaload, 1) := by decide +kernel
theorem dX6_walk_117 : decode cX6_walk 117 = .ok (.aload_n 0, 1) := by decide +kernel
theorem dX6_walk_118 : decode cX6_walk 118 = .ok (.iload_n 1, 1) := by decide +kernel
theorem dX6_walk_119 : decode cX6_walk 119 = .ok (.invokevirtual 93, 3) := by decide +kernel
theorem dX6_walk_122 : decode cX6_walk 122 = .ok (.ior, 1) := by decide +kernel
theorem dX6_walk_123 : decode cX6_walk 123 = .ok (.iastore, 1) := by decide +kernel
theorem dX6_walk_124 : decode cX6_walk 124 = .ok (.return_, 1) := by decide +kernel
theorem dX6_endDay_0 : decode cX6_endDay 0 = .ok (.aload_n 0, 1) := by decide +kernel
theorem dX6_endDay_1 : decode cX6_endDay 1 = .ok (.getfield 34, 3) := by decide +kernel
theorem dX6_endDay_4 : decode cX6_endDay 4 = .ok (.ifCond .le 35, 3) := by decide +kernel
theorem dX6_endDay_7 : decode cX6_endDay 7 = .ok (.aload_n 0, 1) := by decide +kernel
theorem dX6_endDay_8 : decode cX6_endDay 8 = .ok (.getfield 38, 3) := by decide +kernel
theorem dX6_endDay_11 : decode cX6_endDay 11 = .ok (.ifCond .le 28, 3) := by decide +kernel
theorem dX6_endDay_14 : decode cX6_endDay 14 = .ok (.aload_n 0, 1) := by decide +kernel
theorem dX6_endDay_15 : decode cX6_endDay 15 = .ok (.dup, 1) := by decide +kernel
theorem dX6_endDay_16 : decode cX6_endDay 16 = .ok (.getfield 50, 3) := by decide +kernel
theorem dX6_endDay_19 : decode cX6_endDay 19 = .ok (.iconst 1, 1) := by decide +kernel
theorem dX6_endDay_20 : decode cX6_endDay 20 = .ok (.aload_n 0, 1) := by decide +kernel
theorem dX6_endDay_21 : decode cX6_endDay 21 = .ok (.getfield 53, 3) := by decide +kernel
theorem dX6_endDay_24 : decode cX6_endDay 24 = .ok (.aload_n 0, 1) := by decide +kernel
theorem dX6_endDay_25 : decode cX6_endDay 25 = .ok (.getfield 34, 3) := by decide +kernel
theorem dX6_endDay_28 : decode cX6_endDay 28 = .ok (.imul, 1) := by decide +kernel
theorem dX6_endDay_29 : decode cX6_endDay 29 = .ok (.aload_n 0, 1) := by decide +kernel
theorem dX6_endDay_30 : decode cX6_endDay 30 = .ok (.getfield 38, 3) := by decide +kernel
theorem dX6_endDay_33 : decode cX6_endDay 33 = .ok (.irem, 1) := by decide +kernel
theorem dX6_endDay_34 : decode cX6_endDay 34 = .ok (.ishl, 1) := by decide +kernel
theorem dX6_endDay_35 : decode cX6_endDay 35 = .ok (.ior, 1) := by decide +kernel
theorem dX6_endDay_36 : decode cX6_endDay 36 = .ok (.putfield 50, 3) := by decide +kernel
theorem dX6_endDay_39 : decode cX6_endDay 39 = .ok (.aload_n 0, 1) := by decide +kernel
theorem dX6_endDay_40 : decode cX6_endDay 40 = .ok (.dup, 1) := by decide +kernel
theorem dX6_endDay_41 : decode cX6_endDay 41 = .ok (.getfield 53, 3) := by decide +kernel
theorem dX6_endDay_44 : decode cX6_endDay 44 = .ok (.iconst 1, 1) := by decide +kernel
theorem dX6_endDay_45 : decode cX6_endDay 45 = .ok (.iadd, 1) := by decide +kernel
theorem dX6_endDay_46 : decode cX6_endDay 46 = .ok (.putfield 53, 3) := by decide +kernel
theorem dX6_endDay_49 : decode cX6_endDay 49 = .ok (.return_, 1) := by decide +kernel
theorem dX6_knownByAnybody_0 : decode cX6_knownByAnybody 0 = .ok (.iconst 0, 1) := by decide +kernel
theorem dX6_knownByAnybody_1 : decode cX6_knownByAnybody 1 = .ok (.istore_n 1, 1) := by decide +kernel
theorem dX6_knownByAnybody_2 : decode cX6_knownByAnybody 2 = .ok (.iconst 0, 1) := by decide +kernel
theorem dX6_knownByAnybody_3 : decode cX6_knownByAnybody 3 = .ok (.istore_n 2, 1) := by decide +kernel
theorem dX6_knownByAnybody_4 : decode cX6_knownByAnybody 4 = .ok (.iload_n 2, 1) := by decide +kernel
theorem dX6_knownByAnybody_5 : decode cX6_knownByAnybody 5 = .ok (.aload_n 0, 1) := by decide +kernel
theorem dX6_knownByAnybody_6 : decode cX6_knownByAnybody 6 = .ok (.getfield 44, 3) := by decide +kernel
theorem dX6_knownByAnybody_9 : decode cX6_knownByAnybody 9 = .ok (.if_icmp .ge 18, 3) := by decide +kernel
theorem dX6_knownByAnybody_12 : decode cX6_knownByAnybody 12 = .ok (.iload_n 1, 1) := by decide +kernel
theorem dX6_knownByAnybody_13 : decode cX6_knownByAnybody 13 = .ok (.aload_n 0, 1) := by decide +kernel
theorem dX6_knownByAnybody_14 : decode cX6_knownByAnybody 14 = .ok (.getfield 27, 3) := by decide +kernel
theorem dX6_knownByAnybody_17 : decode cX6_knownByAnybody 17 = .ok (.iload_n 2, 1) := by decide +kernel
theorem dX6_knownByAnybody_18 : decode cX6_knownByAnybody 18 = .ok (.iaload, 1) := by decide +kernel
theorem dX6_knownByAnybody_19 : decode cX6_knownByAnybody 19 = .ok (.ior, 1) := by decide +kernel
theorem dX6_knownByAnybody_20 : decode cX6_knownByAnybody 20 = .ok (.istore_n 1, 1) := by decide +kernel
theorem dX6_knownByAnybody_21 : decode cX6_knownByAnybody 21 = .ok (.iinc 2 1, 3) := by decide +kernel
theorem dX6_knownByAnybody_24 : decode cX6_knownByAnybody 24 = .ok (.goto (-20), 3) := by decide +kernel
theorem dX6_knownByAnybody_27 : decode cX6_knownByAnybody 27 = .ok (.iload_n 1, 1) := by decide +kernel
theorem dX6_knownByAnybody_28 : decode cX6_knownByAnybody 28 = .ok (.ireturn, 1) := by decide +kernel
theorem dX6_folkWhoKnow_0 : decode cX6_folkWhoKnow 0 = .ok (.iconst 0, 1) := by decide +kernel
theorem dX6_folkWhoKnow_1 : decode cX6_folkWhoKnow 1 = .ok (.istore_n 2, 1) := by decide +kernel
theorem dX6_folkWhoKnow_2 : decode cX6_folkWhoKnow 2 = .ok (.iconst 0, 1) := by decide +kernel
theorem dX6_folkWhoKnow_3 : decode cX6_folkWhoKnow 3 = .ok (.istore_n 3, 1) := by decide +kernel
theorem dX6_folkWhoKnow_4 : decode cX6_folkWhoKnow 4 = .ok (.iload_n 3, 1) := by decide +kernel
theorem dX6_folkWhoKnow_5 : decode cX6_folkWhoKnow 5 = .ok (.aload_n 0, 1) := by decide +kernel
theorem dX6_folkWhoKnow_6 : decode cX6_folkWhoKnow 6 = .ok (.getfield 44, 3) := by decide +kernel
theorem dX6_folkWhoKnow_9 : decode cX6_folkWhoKnow 9 = .ok (.if_icmp .ge 24, 3) := by decide +kernel
theorem dX6_folkWhoKnow_12 : decode cX6_folkWhoKnow 12 = .ok (.iload_n 2, 1) := by decide +kernel
theorem dX6_folkWhoKnow_13 : decode cX6_folkWhoKnow 13 = .ok (.aload_n 0, 1) := by decide +kernel
theorem dX6_folkWhoKnow_14 : decode cX6_folkWhoKnow 14 = .ok (.getfield 27, 3) := by decide +kernel
theorem dX6_folkWhoKnow_17 : decode cX6_folkWhoKnow 17 = .ok (.iload_n 3, 1) := by decide +kernel
theorem dX6_folkWhoKnow_18 : decode cX6_folkWhoKnow 18 = .ok (.iaload, 1) := by decide +kernel
theorem dX6_folkWhoKnow_19 : decode cX6_folkWhoKnow 19 = .ok (.iload_n 1, 1) := by decide +kernel
theorem dX6_folkWhoKnow_20 : decode cX6_folkWhoKnow 20 = .ok (.invokestatic 96, 3) := by decide +kernel
theorem dX6_folkWhoKnow_23 : decode cX6_folkWhoKnow 23 = .ok (.iload_n 3, 1) := by decide +kernel
theorem dX6_folkWhoKnow_24 : decode cX6_folkWhoKnow 24 = .ok (.ishl, 1) := by decide +kernel
theorem dX6_folkWhoKnow_25 : decode cX6_folkWhoKnow 25 = .ok (.ior, 1) := by decide +kernel
theorem dX6_folkWhoKnow_26 : decode cX6_folkWhoKnow 26 = .ok (.istore_n 2, 1) := by decide +kernel
theorem dX6_folkWhoKnow_27 : decode cX6_folkWhoKnow 27 = .ok (.iinc 3 1, 3) := by decide +kernel
theorem dX6_folkWhoKnow_30 : decode cX6_folkWhoKnow 30 = .ok (.goto (-26), 3) := by decide +kernel
theorem dX6_folkWhoKnow_33 : decode cX6_folkWhoKnow 33 = .ok (.iload_n 2, 1) := by decide +kernel
theorem dX6_folkWhoKnow_34 : decode cX6_folkWhoKnow 34 = .ok (.ireturn, 1) := by decide +kernel
theorem dX6_folkIn_0 : decode cX6_folkIn 0 = .ok (.iconst 0, 1) := by decide +kernel
theorem dX6_folkIn_1 : decode cX6_folkIn 1 = .ok (.istore_n 2, 1) := by decide +kernel
theorem dX6_folkIn_2 : decode cX6_folkIn 2 = .ok (.iconst 0, 1) := by decide +kernel
theorem dX6_folkIn_3 : decode cX6_folkIn 3 = .ok (.istore_n 3, 1) := by decide +kernel
theorem dX6_folkIn_4 : decode cX6_folkIn 4 = .ok (.iload_n 3, 1) := by decide +kernel
theorem dX6_folkIn_5 : decode cX6_folkIn 5 = .ok (.aload_n 0, 1) := by decide +kernel
theorem dX6_folkIn_6 : decode cX6_folkIn 6 = .ok (.getfield 44, 3) := by decide +kernel
theorem dX6_folkIn_9 : decode cX6_folkIn 9 = .ok (.if_icmp .ge 25, 3) := by decide +kernel
theorem dX6_folkIn_12 : decode cX6_folkIn 12 = .ok (.aload_n 0, 1) := by decide +kernel
theorem dX6_folkIn_13 : decode cX6_folkIn 13 = .ok (.getfield 21, 3) := by decide +kernel
theorem dX6_folkIn_16 : decode cX6_folkIn 16 = .ok (.iload_n 3, 1) := by decide +kernel
theorem dX6_folkIn_17 : decode cX6_folkIn 17 = .ok (.iaload, 1) := by decide +kernel
theorem dX6_folkIn_18 : decode cX6_folkIn 18 = .ok (.iload_n 1, 1) := by decide +kernel
theorem dX6_folkIn_19 : decode cX6_folkIn 19 = .ok (.if_icmp .ne 9, 3) := by decide +kernel
theorem dX6_folkIn_22 : decode cX6_folkIn 22 = .ok (.iload_n 2, 1) := by decide +kernel
theorem dX6_folkIn_23 : decode cX6_folkIn 23 = .ok (.iconst 1, 1) := by decide +kernel
theorem dX6_folkIn_24 : decode cX6_folkIn 24 = .ok (.iload_n 3, 1) := by decide +kernel
theorem dX6_folkIn_25 : decode cX6_folkIn 25 = .ok (.ishl, 1) := by decide +kernel
theorem dX6_folkIn_26 : decode cX6_folkIn 26 = .ok (.ior, 1) := by decide +kernel
theorem dX6_folkIn_27 : decode cX6_folkIn 27 = .ok (.istore_n 2, 1) := by decide +kernel
theorem dX6_folkIn_28 : decode cX6_folkIn 28 = .ok (.iinc 3 1, 3) := by decide +kernel
theorem dX6_folkIn_31 : decode cX6_folkIn 31 = .ok (.goto (-27), 3) := by decide +kernel
theorem dX6_folkIn_34 : decode cX6_folkIn 34 = .ok (.iload_n 2, 1) := by decide +kernel
theorem dX6_folkIn_35 : decode cX6_folkIn 35 = .ok (.ireturn, 1) := by decide +kernel
theorem dX6_fewestWhoKnowAll_0 : decode cX6_fewestWhoKnowAll 0 = .ok (.iconst 0, 1) := by decide +kernel
theorem dX6_fewestWhoKnowAll_1 : decode cX6_fewestWhoKnowAll 1 = .ok (.istore_n 1, 1) := by decide +kernel
theorem dX6_fewestWhoKnowAll_2 : decode cX6_fewestWhoKnowAll 2 = .ok (.bipush 6, 2) := by decide +kernel
theorem dX6_fewestWhoKnowAll_4 : decode cX6_fewestWhoKnowAll 4 = .ok (.istore_n 2, 1) := by decide +kernel
theorem dX6_fewestWhoKnowAll_5 : decode cX6_fewestWhoKnowAll 5 = .ok (.iconst 1, 1) := by decide +kernel
theorem dX6_fewestWhoKnowAll_6 : decode cX6_fewestWhoKnowAll 6 = .ok (.istore_n 3, 1) := by decide +kernel
theorem dX6_fewestWhoKnowAll_7 : decode cX6_fewestWhoKnowAll 7 = .ok (.iload_n 3, 1) := by decide +kernel
theorem dX6_fewestWhoKnowAll_8 : decode cX6_fewestWhoKnowAll 8 = .ok (.iconst 1, 1) := by decide +kernel
theorem dX6_fewestWhoKnowAll_9 : decode cX6_fewestWhoKnowAll 9 = .ok (.aload_n 0, 1) := by decide +kernel
theorem dX6_fewestWhoKnowAll_10 : decode cX6_fewestWhoKnowAll 10 = .ok (.getfield 44, 3) := by decide +kernel
theorem dX6_fewestWhoKnowAll_13 : decode cX6_fewestWhoKnowAll 13 = .ok (.ishl, 1) := by decide +kernel
theorem dX6_fewestWhoKnowAll_14 : decode cX6_fewestWhoKnowAll 14 = .ok (.if_icmp .ge 36, 3) := by decide +kernel
theorem dX6_fewestWhoKnowAll_17 : decode cX6_fewestWhoKnowAll 17 = .ok (.iload_n 3, 1) := by decide +kernel
theorem dX6_fewestWhoKnowAll_18 : decode cX6_fewestWhoKnowAll 18 = .ok (.invokestatic 100, 3) := by decide +kernel
theorem dX6_fewestWhoKnowAll_21 : decode cX6_fewestWhoKnowAll 21 = .ok (.iload_n 2, 1) := by decide +kernel
theorem dX6_fewestWhoKnowAll_22 : decode cX6_fewestWhoKnowAll 22 = .ok (.if_icmp .ge 22, 3) := by decide +kernel
theorem dX6_fewestWhoKnowAll_25 : decode cX6_fewestWhoKnowAll 25 = .ok (.aload_n 0, 1) := by decide +kernel
theorem dX6_fewestWhoKnowAll_26 : decode cX6_fewestWhoKnowAll 26 = .ok (.iload_n 3, 1) := by decide +kernel
theorem dX6_fewestWhoKnowAll_27 : decode cX6_fewestWhoKnowAll 27 = .ok (.invokevirtual 105, 3) := by decide +kernel
theorem dX6_fewestWhoKnowAll_30 : decode cX6_fewestWhoKnowAll 30 = .ok (.aload_n 0, 1) := by decide +kernel
theorem dX6_fewestWhoKnowAll_31 : decode cX6_fewestWhoKnowAll 31 = .ok (.invokevirtual 108, 3) := by decide +kernel
theorem dX6_fewestWhoKnowAll_34 : decode cX6_fewestWhoKnowAll 34 = .ok (.if_icmp .ne 10, 3) := by decide +kernel
theorem dX6_fewestWhoKnowAll_37 : decode cX6_fewestWhoKnowAll 37 = .ok (.iload_n 3, 1) := by decide +kernel
theorem dX6_fewestWhoKnowAll_38 : decode cX6_fewestWhoKnowAll 38 = .ok (.istore_n 1, 1) := by decide +kernel
theorem dX6_fewestWhoKnowAll_39 : decode cX6_fewestWhoKnowAll 39 = .ok (.iload_n 3, 1) := by decide +kernel
theorem dX6_fewestWhoKnowAll_40 : decode cX6_fewestWhoKnowAll 40 = .ok (.invokestatic 100, 3) := by decide +kernel
theorem dX6_fewestWhoKnowAll_43 : decode cX6_fewestWhoKnowAll 43 = .ok (.istore_n 2, 1) := by decide +kernel
theorem dX6_fewestWhoKnowAll_44 : decode cX6_fewestWhoKnowAll 44 = .ok (.iinc 3 1, 3) := by decide +kernel
theorem dX6_fewestWhoKnowAll_47 : decode cX6_fewestWhoKnowAll 47 = .ok (.goto (-40), 3) := by decide +kernel
theorem dX6_fewestWhoKnowAll_50 : decode cX6_fewestWhoKnowAll 50 = .ok (.iload_n 1, 1) := by decide +kernel
theorem dX6_fewestWhoKnowAll_51 : decode cX6_fewestWhoKnowAll 51 = .ok (.ireturn, 1) := by decide +kernel
theorem dX6_knownByParty_0 : decode cX6_knownByParty 0 = .ok (.iconst 0, 1) := by decide +kernel
theorem dX6_knownByParty_1 : decode cX6_knownByParty 1 = .ok (.istore_n 2, 1) := by decide +kernel
theorem dX6_knownByParty_2 : decode cX6_knownByParty 2 = .ok (.iconst 0, 1) := by decide +kernel
theorem dX6_knownByParty_3 : decode cX6_knownByParty 3 = .ok (.istore_n 3, 1) := by decide +kernel
theorem dX6_knownByParty_4 : decode cX6_knownByParty 4 = .ok (.iload_n 3, 1) := by decide +kernel
theorem dX6_knownByParty_5 : decode cX6_knownByParty 5 = .ok (.aload_n 0, 1) := by decide +kernel
theorem dX6_knownByParty_6 : decode cX6_knownByParty 6 = .ok (.getfield 44, 3) := by decide +kernel
theorem dX6_knownByParty_9 : decode cX6_knownByParty 9 = .ok (.if_icmp .ge 27, 3) := by decide +kernel
theorem dX6_knownByParty_12 : decode cX6_knownByParty 12 = .ok (.iload_n 1, 1) := by decide +kernel
theorem dX6_knownByParty_13 : decode cX6_knownByParty 13 = .ok (.iload_n 3, 1) := by decide +kernel
theorem dX6_knownByParty_14 : decode cX6_knownByParty 14 = .ok (.invokestatic 96, 3) := by decide +kernel
theorem dX6_knownByParty_17 : decode cX6_knownByParty 17 = .ok (.iconst 1, 1) := by decide +kernel
theorem dX6_knownByParty_18 : decode cX6_knownByParty 18 = .ok (.if_icmp .ne 12, 3) := by decide +kernel
theorem dX6_knownByParty_21 : decode cX6_knownByParty 21 = .ok (.iload_n 2, 1) := by decide +kernel
theorem dX6_knownByParty_22 : decode cX6_knownByParty 22 = .ok (.aload_n 0, 1) := by decide +kernel
theorem dX6_knownByParty_23 : decode cX6_knownByParty 23 = .ok (.getfield 27, 3) := by decide +kernel
theorem dX6_knownByParty_26 : decode cX6_knownByParty 26 = .ok (.iload_n 3, 1) := by decide +kernel
theorem dX6_knownByParty_27 : decode cX6_knownByParty 27 = .ok (.iaload, 1) := by decide +kernel
theorem dX6_knownByParty_28 : decode cX6_knownByParty 28 = .ok (.ior, 1) := by decide +kernel
theorem dX6_knownByParty_29 : decode cX6_knownByParty 29 = .ok (.istore_n 2, 1) := by decide +kernel
theorem dX6_knownByParty_30 : decode cX6_knownByParty 30 = .ok (.iinc 3 1, 3) := by decide +kernel
theorem dX6_knownByParty_33 : decode cX6_knownByParty 33 = .ok (.goto (-29), 3) := by decide +kernel
theorem dX6_knownByParty_36 : decode cX6_knownByParty 36 = .ok (.iload_n 2, 1) := by decide +kernel
theorem dX6_knownByParty_37 : decode cX6_knownByParty 37 = .ok (.ireturn, 1) := by decide +kernel
theorem dX6_periodOf_0 : decode cX6_periodOf 0 = .ok (.iconst 1, 1) := by decide +kernel
theorem dX6_periodOf_1 : decode cX6_periodOf 1 = .ok (.istore_n 2, 1) := by decide +kernel
theorem dX6_periodOf_2 : decode cX6_periodOf 2 = .ok (.iload_n 2, 1) := by decide +kernel
theorem dX6_periodOf_3 : decode cX6_periodOf 3 = .ok (.aload_n 0, 1) := by decide +kernel
theorem dX6_periodOf_4 : decode cX6_periodOf 4 = .ok (.getfield 38, 3) := by decide +kernel
theorem dX6_periodOf_7 : decode cX6_periodOf 7 = .ok (.if_icmp .ge 25, 3) := by decide +kernel
theorem dX6_periodOf_10 : decode cX6_periodOf 10 = .ok (.aload_n 0, 1) := by decide +kernel
theorem dX6_periodOf_11 : decode cX6_periodOf 11 = .ok (.aload_n 0, 1) := by decide +kernel
theorem dX6_periodOf_12 : decode cX6_periodOf 12 = .ok (.getfield 27, 3) := by decide +kernel
theorem dX6_periodOf_15 : decode cX6_periodOf 15 = .ok (.iload_n 1, 1) := by decide +kernel
theorem dX6_periodOf_16 : decode cX6_periodOf 16 = .ok (.iaload, 1) := by decide +kernel
theorem dX6_periodOf_17 : decode cX6_periodOf 17 = .ok (.iload_n 2, 1) := by decide +kernel
theorem dX6_periodOf_18 : decode cX6_periodOf 18 = .ok (.invokevirtual 112, 3) := by decide +kernel
theorem dX6_periodOf_21 : decode cX6_periodOf 21 = .ok (.ifCond .eq 5, 3) := by decide +kernel
theorem dX6_periodOf_24 : decode cX6_periodOf 24 = .ok (.iload_n 2, 1) := by decide +kernel
theorem dX6_periodOf_25 : decode cX6_periodOf 25 = .ok (.ireturn, 1) := by decide +kernel
theorem dX6_periodOf_26 : decode cX6_periodOf 26 = .ok (.iinc 2 1, 3) := by decide +kernel
theorem dX6_periodOf_29 : decode cX6_periodOf 29 = .ok (.goto (-27), 3) := by decide +kernel
theorem dX6_periodOf_32 : decode cX6_periodOf 32 = .ok (.aload_n 0, 1) := by decide +kernel
theorem dX6_periodOf_33 : decode cX6_periodOf 33 = .ok (.getfield 38, 3) := by decide +kernel
theorem dX6_periodOf_36 : decode cX6_periodOf 36 = .ok (.ireturn, 1) := by decide +kernel
theorem dX6_goesOnBy_0 : decode cX6_goesOnBy 0 = .ok (.iload_n 2, 1) := by decide +kernel
theorem dX6_goesOnBy_1 : decode cX6_goesOnBy 1 = .ok (.iconst 1, 1) := by decide +kernel
theorem dX6_goesOnBy_2 : decode cX6_goesOnBy 2 = .ok (.if_icmp .ge 5, 3) := by decide +kernel
theorem dX6_goesOnBy_5 : decode cX6_goesOnBy 5 = .ok (.iconst 0, 1) := by decide +kernel
theorem dX6_goesOnBy_6 : decode cX6_goesOnBy 6 = .ok (.ireturn, 1) := by decide +kernel
theorem dX6_goesOnBy_7 : decode cX6_goesOnBy 7 = .ok (.iconst 0, 1) := by decide +kernel
theorem dX6_goesOnBy_8 : decode cX6_goesOnBy 8 = .ok (.istore_n 3, 1) := by decide +kernel
theorem dX6_goesOnBy_9 : decode cX6_goesOnBy 9 = .ok (.iload_n 3, 1) := by decide +kernel
theorem dX6_goesOnBy_10 : decode cX6_goesOnBy 10 = .ok (.aload_n 0, 1) := by decide +kernel
theorem dX6_goesOnBy_11 : decode cX6_goesOnBy 11 = .ok (.getfield 38, 3) := by decide +kernel
theorem dX6_goesOnBy_14 : decode cX6_goesOnBy 14 = .ok (.if_icmp .ge 71, 3) := by decide +kernel
theorem dX6_goesOnBy_17 : decode cX6_goesOnBy 17 = .ok (.iload_n 1, 1) := by decide +kernel
theorem dX6_goesOnBy_18 : decode cX6_goesOnBy 18 = .ok (.iload_n 3, 1) := by decide +kernel
theorem dX6_goesOnBy_19 : decode cX6_goesOnBy 19 = .ok (.invokestatic 96, 3) := by decide +kernel
theorem dX6_goesOnBy_22 : decode cX6_goesOnBy 22 = .ok (.ifCond .ne 6, 3) := by decide +kernel
theorem dX6_goesOnBy_25 : decode cX6_goesOnBy 25 = .ok (.goto 54, 3) := by decide +kernel
theorem dX6_goesOnBy_28 : decode cX6_goesOnBy 28 = .ok (.iload_n 3, 1) := by decide +kernel
theorem dX6_goesOnBy_29 : decode cX6_goesOnBy 29 = .ok (.iload_n 2, 1) := by decide +kernel
theorem dX6_goesOnBy_30 : decode cX6_goesOnBy 30 = .ok (.iadd, 1) := by decide +kernel
theorem dX6_goesOnBy_31 : decode cX6_goesOnBy 31 = .ok (.istore 4, 2) := by decide +kernel
theorem dX6_goesOnBy_33 : decode cX6_goesOnBy 33 = .ok (.iload 4, 2) := by decide +kernel
theorem dX6_goesOnBy_35 : decode cX6_goesOnBy 35 = .ok (.aload_n 0, 1) := by decide +kernel
theorem dX6_goesOnBy_36 : decode cX6_goesOnBy 36 = .ok (.getfield 38, 3) := by decide +kernel
theorem dX6_goesOnBy_39 : decode cX6_goesOnBy 39 = .ok (.if_icmp .ge 40, 3) := by decide +kernel
theorem dX6_goesOnBy_42 : decode cX6_goesOnBy 42 = .ok (.iload_n 1, 1) := by decide +kernel
theorem dX6_goesOnBy_43 : decode cX6_goesOnBy 43 = .ok (.iload 4, 2) := by decide +kernel
theorem dX6_goesOnBy_45 : decode cX6_goesOnBy 45 = .ok (.invokestatic 96, 3) := by decide +kernel
theorem dX6_goesOnBy_48 : decode cX6_goesOnBy 48 = .ok (.iconst 1, 1) := by decide +kernel
theorem dX6_goesOnBy_49 : decode cX6_goesOnBy 49 = .ok (.if_icmp .ne 21, 3) := by decide +kernel
theorem dX6_goesOnBy_52 : decode cX6_goesOnBy 52 = .ok (.aload_n 0, 1) := by decide +kernel
theorem dX6_goesOnBy_53 : decode cX6_goesOnBy 53 = .ok (.getfield 9, 3) := by decide +kernel
theorem dX6_goesOnBy_56 : decode cX6_goesOnBy 56 = .ok (.iload 4, 2) := by decide +kernel
theorem dX6_goesOnBy_58 : decode cX6_goesOnBy 58 = .ok (.iaload, 1) := by decide +kernel
theorem dX6_goesOnBy_59 : decode cX6_goesOnBy 59 = .ok (.aload_n 0, 1) := by decide +kernel
theorem dX6_goesOnBy_60 : decode cX6_goesOnBy 60 = .ok (.getfield 9, 3) := by decide +kernel
theorem dX6_goesOnBy_63 : decode cX6_goesOnBy 63 = .ok (.iload_n 3, 1) := by decide +kernel
theorem dX6_goesOnBy_64 : decode cX6_goesOnBy 64 = .ok (.iaload, 1) := by decide +kernel
theorem dX6_goesOnBy_65 : decode cX6_goesOnBy 65 = .ok (.if_icmp .eq 5, 3) := by decide +kernel
theorem dX6_goesOnBy_68 : decode cX6_goesOnBy 68 = .ok (.iconst 0, 1) := by decide +kernel
theorem dX6_goesOnBy_69 : decode cX6_goesOnBy 69 = .ok (.ireturn, 1) := by decide +kernel
theorem dX6_goesOnBy_70 : decode cX6_goesOnBy 70 = .ok (.iload 4, 2) := by decide +kernel
theorem dX6_goesOnBy_72 : decode cX6_goesOnBy 72 = .ok (.iload_n 2, 1) := by decide +kernel
theorem dX6_goesOnBy_73 : decode cX6_goesOnBy 73 = .ok (.iadd, 1) := by decide +kernel
theorem dX6_goesOnBy_74 : decode cX6_goesOnBy 74 = .ok (.istore 4, 2) := by decide +kernel
theorem dX6_goesOnBy_76 : decode cX6_goesOnBy 76 = .ok (.goto (-43), 3) := by decide +kernel
theorem dX6_goesOnBy_79 : decode cX6_goesOnBy 79 = .ok (.iinc 3 1, 3) := by decide +kernel
theorem dX6_goesOnBy_82 : decode cX6_goesOnBy 82 = .ok (.goto (-73), 3) := by decide +kernel
theorem dX6_goesOnBy_85 : decode cX6_goesOnBy 85 = .ok (.iconst 1, 1) := by decide +kernel
theorem dX6_goesOnBy_86 : decode cX6_goesOnBy 86 = .ok (.ireturn, 1) := by decide +kernel
theorem dX6_figureByPeriod_0 : decode cX6_figureByPeriod 0 = .ok (.aload_n 0, 1) := by decide +kernel
theorem dX6_figureByPeriod_1 : decode cX6_figureByPeriod 1 = .ok (.iload_n 1, 1) := by decide +kernel
theorem dX6_figureByPeriod_2 : decode cX6_figureByPeriod 2 = .ok (.invokevirtual 116, 3) := by decide +kernel
theorem dX6_figureByPeriod_5 : decode cX6_figureByPeriod 5 = .ok (.istore_n 3, 1) := by decide +kernel
theorem dX6_figureByPeriod_6 : decode cX6_figureByPeriod 6 = .ok (.iload_n 3, 1) := by decide +kernel
theorem dX6_figureByPeriod_7 : decode cX6_figureByPeriod 7 = .ok (.iconst 1, 1) := by decide +kernel
theorem dX6_figureByPeriod_8 : decode cX6_figureByPeriod 8 = .ok (.if_icmp .ge 6, 3) := by decide +kernel
theorem dX6_figureByPeriod_11 : decode cX6_figureByPeriod 11 = .ok (.ldc 119, 2) := by decide +kernel
theorem dX6_figureByPeriod_13 : decode cX6_figureByPeriod 13 = .ok (.ireturn, 1) := by decide +kernel
theorem dX6_figureByPeriod_14 : decode cX6_figureByPeriod 14 = .ok (.iload_n 2, 1) := by decide +kernel
theorem dX6_figureByPeriod_15 : decode cX6_figureByPeriod 15 = .ok (.iload_n 3, 1) := by decide +kernel
theorem dX6_figureByPeriod_16 : decode cX6_figureByPeriod 16 = .ok (.irem, 1) := by decide +kernel
theorem dX6_figureByPeriod_17 : decode cX6_figureByPeriod 17 = .ok (.istore 4, 2) := by decide +kernel
theorem dX6_figureByPeriod_19 : decode cX6_figureByPeriod 19 = .ok (.iload 4, 2) := by decide +kernel
theorem dX6_figureByPeriod_21 : decode cX6_figureByPeriod 21 = .ok (.aload_n 0, 1) := by decide +kernel
theorem dX6_figureByPeriod_22 : decode cX6_figureByPeriod 22 = .ok (.getfield 38, 3) := by decide +kernel
theorem dX6_figureByPeriod_25 : decode cX6_figureByPeriod 25 = .ok (.if_icmp .ge 35, 3) := by decide +kernel
theorem dX6_figureByPeriod_28 : decode cX6_figureByPeriod 28 = .ok (.aload_n 0, 1) := by decide +kernel
theorem dX6_figureByPeriod_29 : decode cX6_figureByPeriod 29 = .ok (.getfield 27, 3) := by decide +kernel
theorem dX6_figureByPeriod_32 : decode cX6_figureByPeriod 32 = .ok (.iload_n 1, 1) := by decide +kernel
theorem dX6_figureByPeriod_33 : decode cX6_figureByPeriod 33 = .ok (.iaload, 1) := by decide +kernel
theorem dX6_figureByPeriod_34 : decode cX6_figureByPeriod 34 = .ok (.iload 4, 2) := by decide +kernel
theorem dX6_figureByPeriod_36 : decode cX6_figureByPeriod 36 = .ok (.invokestatic 96, 3) := by decide +kernel
theorem dX6_figureByPeriod_39 : decode cX6_figureByPeriod 39 = .ok (.iconst 1, 1) := by decide +kernel
theorem dX6_figureByPeriod_40 : decode cX6_figureByPeriod 40 = .ok (.if_icmp .ne 11, 3) := by decide +kernel
theorem dX6_figureByPeriod_43 : decode cX6_figureByPeriod 43 = .ok (.aload_n 0, 1) := by decide +kernel
theorem dX6_figureByPeriod_44 : decode cX6_figureByPeriod 44 = .ok (.getfield 9, 3) := by decide +kernel
theorem dX6_figureByPeriod_47 : decode cX6_figureByPeriod 47 = .ok (.iload 4, 2) := by decide +kernel
theorem dX6_figureByPeriod_49 : decode cX6_figureByPeriod 49 = .ok (.iaload, 1) := by decide +kernel
theorem dX6_figureByPeriod_50 : decode cX6_figureByPeriod 50 = .ok (.ireturn, 1) := by decide +kernel
theorem dX6_figureByPeriod_51 : decode cX6_figureByPeriod 51 = .ok (.iload 4, 2) := by decide +kernel
theorem dX6_figureByPeriod_53 : decode cX6_figureByPeriod 53 = .ok (.iload_n 3, 1) := by decide +kernel
theorem dX6_figureByPeriod_54 : decode cX6_figureByPeriod 54 = .ok (.iadd, 1) := by decide +kernel
theorem dX6_figureByPeriod_55 : decode cX6_figureByPeriod 55 = .ok (.istore 4, 2) := by decide +kernel
theorem dX6_figureByPeriod_57 : decode cX6_figureByPeriod 57 = .ok (.goto (-38), 3) := by decide +kernel
theorem dX6_figureByPeriod_60 : decode cX6_figureByPeriod 60 = .ok (.ldc 119, 2) := by decide +kernel
theorem dX6_figureByPeriod_62 : decode cX6_figureByPeriod 62 = .ok (.ireturn, 1) := by decide +kernel
theorem dX6_countPlaces_0 : decode cX6_countPlaces 0 = .ok (.iconst 0, 1) := by decide +kernel
theorem dX6_countPlaces_1 : decode cX6_countPlaces 1 = .ok (.istore 4, 2) := by decide +kernel
theorem dX6_countPlaces_3 : decode cX6_countPlaces 3 = .ok (.iconst 0, 1) := by decide +kernel
theorem dX6_countPlaces_4 : decode cX6_countPlaces 4 = .ok (.istore 5, 2) := by decide +kernel
theorem dX6_countPlaces_6 : decode cX6_countPlaces 6 = .ok (.iload 5, 2) := by decide +kernel
theorem dX6_countPlaces_8 : decode cX6_countPlaces 8 = .ok (.iload_n 3, 1) := by decide +kernel
theorem dX6_countPlaces_9 : decode cX6_countPlaces 9 = .ok (.iadd, 1) := by decide +kernel
theorem dX6_countPlaces_10 : decode cX6_countPlaces 10 = .ok (.aload_n 0, 1) := by decide +kernel
theorem dX6_countPlaces_11 : decode cX6_countPlaces 11 = .ok (.getfield 38, 3) := by decide +kernel
theorem dX6_countPlaces_14 : decode cX6_countPlaces 14 = .ok (.if_icmp .gt 24, 3) := by decide +kernel
theorem dX6_countPlaces_17 : decode cX6_countPlaces 17 = .ok (.aload_n 0, 1) := by decide +kernel
theorem dX6_countPlaces_18 : decode cX6_countPlaces 18 = .ok (.aload_n 1, 1) := by decide +kernel
theorem dX6_countPlaces_19 : decode cX6_countPlaces 19 = .ok (.iload_n 2, 1) := by decide +kernel
theorem dX6_countPlaces_20 : decode cX6_countPlaces 20 = .ok (.iload_n 3, 1) := by decide +kernel
theorem dX6_countPlaces_21 : decode cX6_countPlaces 21 = .ok (.iload 5, 2) := by decide +kernel
theorem dX6_countPlaces_23 : decode cX6_countPlaces 23 = .ok (.invokevirtual 120, 3) := by decide +kernel
theorem dX6_countPlaces_26 : decode cX6_countPlaces 26 = .ok (.ifCond .eq 6, 3) := by decide +kernel
theorem dX6_countPlaces_29 : decode cX6_countPlaces 29 = .ok (.iinc 4 1, 3) := by decide +kernel
theorem dX6_countPlaces_32 : decode cX6_countPlaces 32 = .ok (.iinc 5 1, 3) := by decide +kernel
theorem dX6_countPlaces_35 : decode cX6_countPlaces 35 = .ok (.goto (-29), 3) := by decide +kernel
theorem dX6_countPlaces_38 : decode cX6_countPlaces 38 = .ok (.iload 4, 2) := by decide +kernel
theorem dX6_countPlaces_40 : decode cX6_countPlaces 40 = .ok (.ireturn, 1) := by decide +kernel
theorem dX6_firstPlace_0 : decode cX6_firstPlace 0 = .ok (.iconst 0, 1) := by decide +kernel
theorem dX6_firstPlace_1 : decode cX6_firstPlace 1 = .ok (.istore 4, 2) := by decide +kernel
theorem dX6_firstPlace_3 : decode cX6_firstPlace 3 = .ok (.iload 4, 2) := by decide +kernel
theorem dX6_firstPlace_5 : decode cX6_firstPlace 5 = .ok (.iload_n 3, 1) := by decide +kernel
theorem dX6_firstPlace_6 : decode cX6_firstPlace 6 = .ok (.iadd, 1) := by decide +kernel
theorem dX6_firstPlace_7 : decode cX6_firstPlace 7 = .ok (.aload_n 0, 1) := by decide +kernel
theorem dX6_firstPlace_8 : decode cX6_firstPlace 8 = .ok (.getfield 38, 3) := by decide +kernel
theorem dX6_firstPlace_11 : decode cX6_firstPlace 11 = .ok (.if_icmp .gt 24, 3) := by decide +kernel
theorem dX6_firstPlace_14 : decode cX6_firstPlace 14 = .ok (.aload_n 0, 1) := by decide +kernel
theorem dX6_firstPlace_15 : decode cX6_firstPlace 15 = .ok (.aload_n 1, 1) := by decide +kernel
theorem dX6_firstPlace_16 : decode cX6_firstPlace 16 = .ok (.iload_n 2, 1) := by decide +kernel
theorem dX6_firstPlace_17 : decode cX6_firstPlace 17 = .ok (.iload_n 3, 1) := by decide +kernel
theorem dX6_firstPlace_18 : decode cX6_firstPlace 18 = .ok (.iload 4, 2) := by decide +kernel
theorem dX6_firstPlace_20 : decode cX6_firstPlace 20 = .ok (.invokevirtual 120, 3) := by decide +kernel
theorem dX6_firstPlace_23 : decode cX6_firstPlace 23 = .ok (.ifCond .eq 6, 3) := by decide +kernel
theorem dX6_firstPlace_26 : decode cX6_firstPlace 26 = .ok (.iload 4, 2) := by decide +kernel
theorem dX6_firstPlace_28 : decode cX6_firstPlace 28 = .ok (.ireturn, 1) := by decide +kernel
theorem dX6_firstPlace_29 : decode cX6_firstPlace 29 = .ok (.iinc 4 1, 3) := by decide +kernel
theorem dX6_firstPlace_32 : decode cX6_firstPlace 32 = .ok (.goto (-29), 3) := by decide +kernel
theorem dX6_firstPlace_35 : decode cX6_firstPlace 35 = .ok (.ldc 119, 2) := by decide +kernel
theorem dX6_firstPlace_37 : decode cX6_firstPlace 37 = .ok (.ireturn, 1) := by decide +kernel
theorem dX6_isTold_0 : decode cX6_isTold 0 = .ok (.iconst 0, 1) := by decide +kernel
theorem dX6_isTold_1 : decode cX6_isTold 1 = .ok (.istore 5, 2) := by decide +kernel
theorem dX6_isTold_3 : decode cX6_isTold 3 = .ok (.iload 5, 2) := by decide +kernel
theorem dX6_isTold_5 : decode cX6_isTold 5 = .ok (.iload_n 3, 1) := by decide +kernel
theorem dX6_isTold_6 : decode cX6_isTold 6 = .ok (.if_icmp .ge 33, 3) := by decide +kernel
theorem dX6_isTold_9 : decode cX6_isTold 9 = .ok (.aload_n 1, 1) := by decide +kernel
theorem dX6_isTold_10 : decode cX6_isTold 10 = .ok (.getfield 124, 3) := by decide +kernel
theorem dX6_isTold_13 : decode cX6_isTold 13 = .ok (.iload_n 2, 1) := by decide +kernel
theorem dX6_isTold_14 : decode cX6_isTold 14 = .ok (.iload 5, 2) := by decide +kernel
theorem dX6_isTold_16 : decode cX6_isTold 16 = .ok (.iadd, 1) := by decide +kernel
theorem dX6_isTold_17 : decode cX6_isTold 17 = .ok (.iaload, 1) := by decide +kernel
theorem dX6_isTold_18 : decode cX6_isTold 18 = .ok (.aload_n 0, 1) := by decide +kernel
theorem dX6_isTold_19 : decode cX6_isTold 19 = .ok (.getfield 9, 3) := by decide +kernel
theorem dX6_isTold_22 : decode cX6_isTold 22 = .ok (.iload 4, 2) := by decide +kernel
theorem dX6_isTold_24 : decode cX6_isTold 24 = .ok (.iload 5, 2) := by decide +kernel
theorem dX6_isTold_26 : decode cX6_isTold 26 = .ok (.iadd, 1) := by decide +kernel
theorem dX6_isTold_27 : decode cX6_isTold 27 = .ok (.iaload, 1) := by decide +kernel
theorem dX6_isTold_28 : decode cX6_isTold 28 = .ok (.if_icmp .eq 5, 3) := by decide +kernel
theorem dX6_isTold_31 : decode cX6_isTold 31 = .ok (.iconst 0, 1) := by decide +kernel
theorem dX6_isTold_32 : decode cX6_isTold 32 = .ok (.ireturn, 1) := by decide +kernel
theorem dX6_isTold_33 : decode cX6_isTold 33 = .ok (.iinc 5 1, 3) := by decide +kernel
theorem dX6_isTold_36 : decode cX6_isTold 36 = .ok (.goto (-33), 3) := by decide +kernel
theorem dX6_isTold_39 : decode cX6_isTold 39 = .ok (.iconst 1, 1) := by decide +kernel
theorem dX6_isTold_40 : decode cX6_isTold 40 = .ok (.ireturn, 1) := by decide +kernel
theorem dX6_rentOf_0 : decode cX6_rentOf 0 = .ok (.iload_n 2, 1) := by decide +kernel
theorem dX6_rentOf_1 : decode cX6_rentOf 1 = .ok (.istore_n 3, 1) := by decide +kernel
theorem dX6_rentOf_2 : decode cX6_rentOf 2 = .ok (.iconst 0, 1) := by decide +kernel
theorem dX6_rentOf_3 : decode cX6_rentOf 3 = .ok (.istore 4, 2) := by decide +kernel
theorem dX6_rentOf_5 : decode cX6_rentOf 5 = .ok (.iload 4, 2) := by decide +kernel
theorem dX6_rentOf_7 : decode cX6_rentOf 7 = .ok (.aload_n 0, 1) := by decide +kernel
theorem dX6_rentOf_8 : decode cX6_rentOf 8 = .ok (.getfield 41, 3) := by decide +kernel
theorem dX6_rentOf_11 : decode cX6_rentOf 11 = .ok (.if_icmp .gt 19, 3) := by decide +kernel
theorem dX6_rentOf_14 : decode cX6_rentOf 14 = .ok (.iload_n 3, 1) := by decide +kernel
theorem dX6_rentOf_15 : decode cX6_rentOf 15 = .ok (.aload_n 0, 1) := by decide +kernel
theorem dX6_rentOf_16 : decode cX6_rentOf 16 = .ok (.iload 4, 2) := by decide +kernel
theorem dX6_rentOf_18 : decode cX6_rentOf 18 = .ok (.iload_n 2, 1) := by decide +kernel
theorem dX6_rentOf_19 : decode cX6_rentOf 19 = .ok (.invokevirtual 129, 3) := by decide +kernel
theorem dX6_rentOf_22 : decode cX6_rentOf 22 = .ok (.isub, 1) := by decide +kernel
theorem dX6_rentOf_23 : decode cX6_rentOf 23 = .ok (.istore_n 3, 1) := by decide +kernel
theorem dX6_rentOf_24 : decode cX6_rentOf 24 = .ok (.iinc 4 1, 3) := by decide +kernel
theorem dX6_rentOf_27 : decode cX6_rentOf 27 = .ok (.goto (-22), 3) := by decide +kernel
theorem dX6_rentOf_30 : decode cX6_rentOf 30 = .ok (.aload_n 0, 1) := by decide +kernel
theorem dX6_rentOf_31 : decode cX6_rentOf 31 = .ok (.iload_n 1, 1) := by decide +kernel
theorem dX6_rentOf_32 : decode cX6_rentOf 32 = .ok (.iload_n 2, 1) := by decide +kernel
theorem dX6_rentOf_33 : decode cX6_rentOf 33 = .ok (.invokevirtual 129, 3) := by decide +kernel
theorem dX6_rentOf_36 : decode cX6_rentOf 36 = .ok (.iload_n 1, 1) := by decide +kernel
theorem dX6_rentOf_37 : decode cX6_rentOf 37 = .ok (.iload_n 3, 1) := by decide +kernel
theorem dX6_rentOf_38 : decode cX6_rentOf 38 = .ok (.if_icmp .ge 7, 3) := by decide +kernel
theorem dX6_rentOf_41 : decode cX6_rentOf 41 = .ok (.iconst 1, 1) := by decide +kernel
theorem dX6_rentOf_42 : decode cX6_rentOf 42 = .ok (.goto 4, 3) := by decide +kernel
theorem dX6_rentOf_45 : decode cX6_rentOf 45 = .ok (.iconst 0, 1) := by decide +kernel
theorem dX6_rentOf_46 : decode cX6_rentOf 46 = .ok (.iadd, 1) := by decide +kernel
theorem dX6_rentOf_47 : decode cX6_rentOf 47 = .ok (.ireturn, 1) := by decide +kernel
theorem dX6_cutShare_0 : decode cX6_cutShare 0 = .ok (.aload_n 0, 1) := by decide +kernel
theorem dX6_cutShare_1 : decode cX6_cutShare 1 = .ok (.getfield 38, 3) := by decide +kernel
theorem dX6_cutShare_4 : decode cX6_cutShare 4 = .ok (.ifCond .le 18, 3) := by decide +kernel
theorem dX6_cutShare_7 : decode cX6_cutShare 7 = .ok (.iload_n 2, 1) := by decide +kernel
theorem dX6_cutShare_8 : decode cX6_cutShare 8 = .ok (.aload_n 0, 1) := by decide +kernel
theorem dX6_cutShare_9 : decode cX6_cutShare 9 = .ok (.iload_n 1, 1) := by decide +kernel
theorem dX6_cutShare_10 : decode cX6_cutShare 10 = .ok (.invokevirtual 132, 3) := by decide +kernel
theorem dX6_cutShare_13 : decode cX6_cutShare 13 = .ok (.imul, 1) := by decide +kernel
theorem dX6_cutShare_14 : decode cX6_cutShare 14 = .ok (.aload_n 0, 1) := by decide +kernel
theorem dX6_cutShare_15 : decode cX6_cutShare 15 = .ok (.getfield 38, 3) := by decide +kernel
theorem dX6_cutShare_18 : decode cX6_cutShare 18 = .ok (.idiv, 1) := by decide +kernel
theorem dX6_cutShare_19 : decode cX6_cutShare 19 = .ok (.goto 4, 3) := by decide +kernel
theorem dX6_cutShare_22 : decode cX6_cutShare 22 = .ok (.iconst 0, 1) := by decide +kernel
theorem dX6_cutShare_23 : decode cX6_cutShare 23 = .ok (.ireturn, 1) := by decide +kernel
theorem dX7_init_0 : decode cX7_init 0 = .ok (.aload_n 0, 1) := by decide +kernel
theorem dX7_init_1 : decode cX7_init 1 = .ok (.invokespecial 3, 3) := by decide +kernel
theorem dX7_init_4 : decode cX7_init 4 = .ok (.aload_n 0, 1) := by decide +kernel
theorem dX7_init_5 : decode cX7_init 5 = .ok (.bipush 40, 2) := by decide +kernel
theorem dX7_init_7 : decode cX7_init 7 = .ok (.newarray .int, 2) := by decide +kernel
theorem dX7_init_9 : decode cX7_init 9 = .ok (.putfield 9, 3) := by decide +kernel
theorem dX7_init_12 : decode cX7_init 12 = .ok (.aload_n 0, 1) := by decide +kernel
theorem dX7_init_13 : decode cX7_init 13 = .ok (.iconst (-1), 1) := by decide +kernel
theorem dX7_init_14 : decode cX7_init 14 = .ok (.putfield 15, 3) := by decide +kernel
theorem dX7_init_17 : decode cX7_init 17 = .ok (.return_, 1) := by decide +kernel
theorem dX7_missing_0 : decode cX7_missing 0 = .ok (.aload_n 0, 1) := by decide +kernel
theorem dX7_missing_1 : decode cX7_missing 1 = .ok (.getfield 15, 3) := by decide +kernel
theorem dX7_missing_4 : decode cX7_missing 4 = .ok (.iconst (-1), 1) := by decide +kernel
theorem dX7_missing_5 : decode cX7_missing 5 = .ok (.if_icmp .ne 7, 3) := by decide +kernel
theorem dX7_missing_8 : decode cX7_missing 8 = .ok (.iconst 1, 1) := by decide +kernel
theorem dX7_missing_9 : decode cX7_missing 9 = .ok (.goto 4, 3) := by decide +kernel
theorem dX7_missing_12 : decode cX7_missing 12 = .ok (.iconst 0, 1) := by decide +kernel
