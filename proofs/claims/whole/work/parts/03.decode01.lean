theorem dX7_missing_13 : decode cX7_missing 13 = .ok (.ireturn, 1) := by decide +kernel
theorem dX7_lay_0 : decode cX7_lay 0 = .ok (.aload_n 0, 1) := by decide +kernel
theorem dX7_lay_1 : decode cX7_lay 1 = .ok (.getfield 9, 3) := by decide +kernel
theorem dX7_lay_4 : decode cX7_lay 4 = .ok (.iconst 0, 1) := by decide +kernel
theorem dX7_lay_5 : decode cX7_lay 5 = .ok (.invokestatic 19, 3) := by decide +kernel
theorem dX7_lay_8 : decode cX7_lay 8 = .ok (.aload_n 0, 1) := by decide +kernel
theorem dX7_lay_9 : decode cX7_lay 9 = .ok (.iload_n 1, 1) := by decide +kernel
theorem dX7_lay_10 : decode cX7_lay 10 = .ok (.putfield 15, 3) := by decide +kernel
theorem dX7_lay_13 : decode cX7_lay 13 = .ok (.aload_n 0, 1) := by decide +kernel
theorem dX7_lay_14 : decode cX7_lay 14 = .ok (.iload_n 2, 1) := by decide +kernel
theorem dX7_lay_15 : decode cX7_lay 15 = .ok (.putfield 25, 3) := by decide +kernel
theorem dX7_lay_18 : decode cX7_lay 18 = .ok (.return_, 1) := by decide +kernel
theorem dX7_lift_0 : decode cX7_lift 0 = .ok (.aload_n 0, 1) := by decide +kernel
theorem dX7_lift_1 : decode cX7_lift 1 = .ok (.iconst (-1), 1) := by decide +kernel
theorem dX7_lift_2 : decode cX7_lift 2 = .ok (.putfield 15, 3) := by decide +kernel
theorem dX7_lift_5 : decode cX7_lift 5 = .ok (.aload_n 0, 1) := by decide +kernel
theorem dX7_lift_6 : decode cX7_lift 6 = .ok (.iconst 0, 1) := by decide +kernel
theorem dX7_lift_7 : decode cX7_lift 7 = .ok (.putfield 25, 3) := by decide +kernel
theorem dX7_lift_10 : decode cX7_lift 10 = .ok (.return_, 1) := by decide +kernel
theorem dX7_has_0 : decode cX7_has 0 = .ok (.iload_n 1, 1) := by decide +kernel
theorem dX7_has_1 : decode cX7_has 1 = .ok (.ifCond .lt 21, 3) := by decide +kernel
theorem dX7_has_4 : decode cX7_has 4 = .ok (.iload_n 2, 1) := by decide +kernel
theorem dX7_has_5 : decode cX7_has 5 = .ok (.ifCond .lt 17, 3) := by decide +kernel
theorem dX7_has_8 : decode cX7_has 8 = .ok (.iload_n 1, 1) := by decide +kernel
theorem dX7_has_9 : decode cX7_has 9 = .ok (.aload_n 0, 1) := by decide +kernel
theorem dX7_has_10 : decode cX7_has 10 = .ok (.getfield 25, 3) := by decide +kernel
theorem dX7_has_13 : decode cX7_has 13 = .ok (.iload_n 2, 1) := by decide +kernel
theorem dX7_has_14 : decode cX7_has 14 = .ok (.isub, 1) := by decide +kernel
theorem dX7_has_15 : decode cX7_has 15 = .ok (.if_icmp .gt 7, 3) := by decide +kernel
theorem dX7_has_18 : decode cX7_has 18 = .ok (.iconst 1, 1) := by decide +kernel
theorem dX7_has_19 : decode cX7_has 19 = .ok (.goto 4, 3) := by decide +kernel
theorem dX7_has_22 : decode cX7_has 22 = .ok (.iconst 0, 1) := by decide +kernel
theorem dX7_has_23 : decode cX7_has 23 = .ok (.ireturn, 1) := by decide +kernel
theorem dX7_store_0 : decode cX7_store 0 = .ok (.aload_n 0, 1) := by decide +kernel
theorem dX7_store_1 : decode cX7_store 1 = .ok (.getfield 15, 3) := by decide +kernel
theorem dX7_store_4 : decode cX7_store 4 = .ok (.ifCond .ne 8, 3) := by decide +kernel
theorem dX7_store_7 : decode cX7_store 7 = .ok (.iload_n 2, 1) := by decide +kernel
theorem dX7_store_8 : decode cX7_store 8 = .ok (.i2b, 1) := by decide +kernel
theorem dX7_store_9 : decode cX7_store 9 = .ok (.goto 17, 3) := by decide +kernel
theorem dX7_store_12 : decode cX7_store 12 = .ok (.aload_n 0, 1) := by decide +kernel
theorem dX7_store_13 : decode cX7_store 13 = .ok (.getfield 15, 3) := by decide +kernel
theorem dX7_store_16 : decode cX7_store 16 = .ok (.iconst 1, 1) := by decide +kernel
theorem dX7_store_17 : decode cX7_store 17 = .ok (.if_icmp .ne 8, 3) := by decide +kernel
theorem dX7_store_20 : decode cX7_store 20 = .ok (.iload_n 2, 1) := by decide +kernel
theorem dX7_store_21 : decode cX7_store 21 = .ok (.i2s, 1) := by decide +kernel
theorem dX7_store_22 : decode cX7_store 22 = .ok (.goto 4, 3) := by decide +kernel
theorem dX7_store_25 : decode cX7_store 25 = .ok (.iload_n 2, 1) := by decide +kernel
theorem dX7_store_26 : decode cX7_store 26 = .ok (.istore_n 3, 1) := by decide +kernel
theorem dX7_store_27 : decode cX7_store 27 = .ok (.aload_n 0, 1) := by decide +kernel
theorem dX7_store_28 : decode cX7_store 28 = .ok (.getfield 9, 3) := by decide +kernel
theorem dX7_store_31 : decode cX7_store 31 = .ok (.iload_n 1, 1) := by decide +kernel
theorem dX7_store_32 : decode cX7_store 32 = .ok (.iload_n 3, 1) := by decide +kernel
theorem dX7_store_33 : decode cX7_store 33 = .ok (.iastore, 1) := by decide +kernel
theorem dX7_store_34 : decode cX7_store 34 = .ok (.iload_n 3, 1) := by decide +kernel
theorem dX7_store_35 : decode cX7_store 35 = .ok (.ireturn, 1) := by decide +kernel
theorem dX8_init_0 : decode cX8_init 0 = .ok (.aload_n 0, 1) := by decide +kernel
theorem dX8_init_1 : decode cX8_init 1 = .ok (.invokespecial 1, 3) := by decide +kernel
theorem dX8_init_4 : decode cX8_init 4 = .ok (.return_, 1) := by decide +kernel
theorem dX8_sees_0 : decode cX8_sees 0 = .ok (.aload_n 0, 1) := by decide +kernel
theorem dX8_sees_1 : decode cX8_sees 1 = .ok (.aload_n 1, 1) := by decide +kernel
theorem dX8_sees_2 : decode cX8_sees 2 = .ok (.iload_n 2, 1) := by decide +kernel
theorem dX8_sees_3 : decode cX8_sees 3 = .ok (.invokespecial 7, 3) := by decide +kernel
theorem dX8_sees_6 : decode cX8_sees 6 = .ok (.ldc 13, 2) := by decide +kernel
theorem dX8_sees_8 : decode cX8_sees 8 = .ok (.iand, 1) := by decide +kernel
theorem dX8_sees_9 : decode cX8_sees 9 = .ok (.ireturn, 1) := by decide +kernel
theorem dX8_mark_0 : decode cX8_mark 0 = .ok (.aload_n 1, 1) := by decide +kernel
theorem dX8_mark_1 : decode cX8_mark 1 = .ok (.bipush 22, 2) := by decide +kernel
theorem dX8_mark_3 : decode cX8_mark 3 = .ok (.invokevirtual 14, 3) := by decide +kernel
theorem dX8_mark_6 : decode cX8_mark 6 = .ok (.aload_n 0, 1) := by decide +kernel
theorem dX8_mark_7 : decode cX8_mark 7 = .ok (.aload_n 1, 1) := by decide +kernel
theorem dX8_mark_8 : decode cX8_mark 8 = .ok (.invokespecial 20, 3) := by decide +kernel
theorem dX8_mark_11 : decode cX8_mark 11 = .ok (.sipush 1000, 3) := by decide +kernel
theorem dX8_mark_14 : decode cX8_mark 14 = .ok (.isub, 1) := by decide +kernel
theorem dX8_mark_15 : decode cX8_mark 15 = .ok (.ireturn, 1) := by decide +kernel
theorem dX9_init_0 : decode cX9_init 0 = .ok (.aload_n 0, 1) := by decide +kernel
theorem dX9_init_1 : decode cX9_init 1 = .ok (.invokespecial 3, 3) := by decide +kernel
theorem dX9_init_4 : decode cX9_init 4 = .ok (.aload_n 0, 1) := by decide +kernel
theorem dX9_init_5 : decode cX9_init 5 = .ok (.bipush 90, 2) := by decide +kernel
theorem dX9_init_7 : decode cX9_init 7 = .ok (.newarray .int, 2) := by decide +kernel
theorem dX9_init_9 : decode cX9_init 9 = .ok (.putfield 9, 3) := by decide +kernel
theorem dX9_init_12 : decode cX9_init 12 = .ok (.return_, 1) := by decide +kernel
theorem dX9_add_0 : decode cX9_add 0 = .ok (.aload_n 0, 1) := by decide +kernel
theorem dX9_add_1 : decode cX9_add 1 = .ok (.getfield 15, 3) := by decide +kernel
theorem dX9_add_4 : decode cX9_add 4 = .ok (.bipush 90, 2) := by decide +kernel
theorem dX9_add_6 : decode cX9_add 6 = .ok (.if_icmp .lt 5, 3) := by decide +kernel
theorem dX9_add_9 : decode cX9_add 9 = .ok (.iconst 0, 1) := by decide +kernel
theorem dX9_add_10 : decode cX9_add 10 = .ok (.ireturn, 1) := by decide +kernel
theorem dX9_add_11 : decode cX9_add 11 = .ok (.aload_n 0, 1) := by decide +kernel
theorem dX9_add_12 : decode cX9_add 12 = .ok (.getfield 9, 3) := by decide +kernel
theorem dX9_add_15 : decode cX9_add 15 = .ok (.aload_n 0, 1) := by decide +kernel
theorem dX9_add_16 : decode cX9_add 16 = .ok (.getfield 15, 3) := by decide +kernel
theorem dX9_add_19 : decode cX9_add 19 = .ok (.iload_n 1, 1) := by decide +kernel
theorem dX9_add_20 : decode cX9_add 20 = .ok (.iastore, 1) := by decide +kernel
theorem dX9_add_21 : decode cX9_add 21 = .ok (.aload_n 0, 1) := by decide +kernel
theorem dX9_add_22 : decode cX9_add 22 = .ok (.dup, 1) := by decide +kernel
theorem dX9_add_23 : decode cX9_add 23 = .ok (.getfield 15, 3) := by decide +kernel
theorem dX9_add_26 : decode cX9_add 26 = .ok (.iconst 1, 1) := by decide +kernel
theorem dX9_add_27 : decode cX9_add 27 = .ok (.iadd, 1) := by decide +kernel
theorem dX9_add_28 : decode cX9_add 28 = .ok (.putfield 15, 3) := by decide +kernel
theorem dX9_add_31 : decode cX9_add 31 = .ok (.iconst 1, 1) := by decide +kernel
theorem dX9_add_32 : decode cX9_add 32 = .ok (.ireturn, 1) := by decide +kernel
theorem dX9_readInto_0 : decode cX9_readInto 0 = .ok (.aload_n 1, 1) := by decide +kernel
theorem dX9_readInto_1 : decode cX9_readInto 1 = .ok (.invokevirtual 19, 3) := by decide +kernel
theorem dX9_readInto_4 : decode cX9_readInto 4 = .ok (.aload_n 0, 1) := by decide +kernel
theorem dX9_readInto_5 : decode cX9_readInto 5 = .ok (.iconst 0, 1) := by decide +kernel
theorem dX9_readInto_6 : decode cX9_readInto 6 = .ok (.putfield 24, 3) := by decide +kernel
theorem dX9_readInto_9 : decode cX9_readInto 9 = .ok (.aload_n 0, 1) := by decide +kernel
theorem dX9_readInto_10 : decode cX9_readInto 10 = .ok (.iconst 0, 1) := by decide +kernel
theorem dX9_readInto_11 : decode cX9_readInto 11 = .ok (.putfield 27, 3) := by decide +kernel
theorem dX9_readInto_14 : decode cX9_readInto 14 = .ok (.aload_n 0, 1) := by decide +kernel
theorem dX9_readInto_15 : decode cX9_readInto 15 = .ok (.invokevirtual 30, 3) := by decide +kernel
theorem dX9_readInto_18 : decode cX9_readInto 18 = .ok (.aload_n 0, 1) := by decide +kernel
theorem dX9_readInto_19 : decode cX9_readInto 19 = .ok (.aload_n 1, 1) := by decide +kernel
theorem dX9_readInto_20 : decode cX9_readInto 20 = .ok (.invokevirtual 33, 3) := by decide +kernel
theorem dX9_readInto_23 : decode cX9_readInto 23 = .ok (.ifCond .eq 31, 3) := by decide +kernel
theorem dX9_readInto_26 : decode cX9_readInto 26 = .ok (.aload_n 0, 1) := by decide +kernel
theorem dX9_readInto_27 : decode cX9_readInto 27 = .ok (.aload_n 1, 1) := by decide +kernel
theorem dX9_readInto_28 : decode cX9_readInto 28 = .ok (.invokevirtual 37, 3) := by decide +kernel
theorem dX9_readInto_31 : decode cX9_readInto 31 = .ok (.ifCond .eq 23, 3) := by decide +kernel
theorem dX9_readInto_34 : decode cX9_readInto 34 = .ok (.aload_n 0, 1) := by decide +kernel
theorem dX9_readInto_35 : decode cX9_readInto 35 = .ok (.aload_n 1, 1) := by decide +kernel
theorem dX9_readInto_36 : decode cX9_readInto 36 = .ok (.invokevirtual 40, 3) := by decide +kernel
theorem dX9_readInto_39 : decode cX9_readInto 39 = .ok (.ifCond .eq 15, 3) := by decide +kernel
theorem dX9_readInto_42 : decode cX9_readInto 42 = .ok (.aload_n 0, 1) := by decide +kernel
theorem dX9_readInto_43 : decode cX9_readInto 43 = .ok (.aload_n 1, 1) := by decide +kernel
theorem dX9_readInto_44 : decode cX9_readInto 44 = .ok (.invokevirtual 43, 3) := by decide +kernel
theorem dX9_readInto_47 : decode cX9_readInto 47 = .ok (.ifCond .eq 7, 3) := by decide +kernel
theorem dX9_readInto_50 : decode cX9_readInto 50 = .ok (.iconst 1, 1) := by decide +kernel
theorem dX9_readInto_51 : decode cX9_readInto 51 = .ok (.goto 4, 3) := by decide +kernel
theorem dX9_readInto_54 : decode cX9_readInto 54 = .ok (.iconst 0, 1) := by decide +kernel
theorem dX9_readInto_55 : decode cX9_readInto 55 = .ok (.istore_n 2, 1) := by decide +kernel
theorem dX9_readInto_56 : decode cX9_readInto 56 = .ok (.iload_n 2, 1) := by decide +kernel
theorem dX9_readInto_57 : decode cX9_readInto 57 = .ok (.ifCond .eq 7, 3) := by decide +kernel
theorem dX9_readInto_60 : decode cX9_readInto 60 = .ok (.aload_n 1, 1) := by decide +kernel
theorem dX9_readInto_61 : decode cX9_readInto 61 = .ok (.invokevirtual 46, 3) := by decide +kernel
theorem dX9_readInto_64 : decode cX9_readInto 64 = .ok (.iload_n 2, 1) := by decide +kernel
theorem dX9_readInto_65 : decode cX9_readInto 65 = .ok (.ireturn, 1) := by decide +kernel
theorem dX9_readLaw_0 : decode cX9_readLaw 0 = .ok (.aload_n 0, 1) := by decide +kernel
theorem dX9_readLaw_1 : decode cX9_readLaw 1 = .ok (.bipush 113, 2) := by decide +kernel
theorem dX9_readLaw_3 : decode cX9_readLaw 3 = .ok (.invokevirtual 49, 3) := by decide +kernel
theorem dX9_readLaw_6 : decode cX9_readLaw 6 = .ok (.ifCond .eq 13, 3) := by decide +kernel
theorem dX9_readLaw_9 : decode cX9_readLaw 9 = .ok (.aload_n 0, 1) := by decide +kernel
theorem dX9_readLaw_10 : decode cX9_readLaw 10 = .ok (.iconst 0, 1) := by decide +kernel
theorem dX9_readLaw_11 : decode cX9_readLaw 11 = .ok (.bipush 24, 2) := by decide +kernel
theorem dX9_readLaw_13 : decode cX9_readLaw 13 = .ok (.invokevirtual 53, 3) := by decide +kernel
theorem dX9_readLaw_16 : decode cX9_readLaw 16 = .ok (.ifCond .ne 5, 3) := by decide +kernel
theorem dX9_readLaw_19 : decode cX9_readLaw 19 = .ok (.iconst 0, 1) := by decide +kernel
theorem dX9_readLaw_20 : decode cX9_readLaw 20 = .ok (.ireturn, 1) := by decide +kernel
theorem dX9_readLaw_21 : decode cX9_readLaw 21 = .ok (.aload_n 1, 1) := by decide +kernel
theorem dX9_readLaw_22 : decode cX9_readLaw 22 = .ok (.aload_n 0, 1) := by decide +kernel
theorem dX9_readLaw_23 : decode cX9_readLaw 23 = .ok (.getfield 57, 3) := by decide +kernel
theorem dX9_readLaw_26 : decode cX9_readLaw 26 = .ok (.putfield 60, 3) := by decide +kernel
theorem dX9_readLaw_29 : decode cX9_readLaw 29 = .ok (.aload_n 0, 1) := by decide +kernel
theorem dX9_readLaw_30 : decode cX9_readLaw 30 = .ok (.bipush 59, 2) := by decide +kernel
theorem dX9_readLaw_32 : decode cX9_readLaw 32 = .ok (.invokevirtual 49, 3) := by decide +kernel
theorem dX9_readLaw_35 : decode cX9_readLaw 35 = .ok (.ireturn, 1) := by decide +kernel
theorem dX9_readPicture_0 : decode cX9_readPicture 0 = .ok (.aload_n 0, 1) := by decide +kernel
theorem dX9_readPicture_1 : decode cX9_readPicture 1 = .ok (.bipush 112, 2) := by decide +kernel
theorem dX9_readPicture_3 : decode cX9_readPicture 3 = .ok (.invokevirtual 49, 3) := by decide +kernel
theorem dX9_readPicture_6 : decode cX9_readPicture 6 = .ok (.ifCond .ne 5, 3) := by decide +kernel
theorem dX9_readPicture_9 : decode cX9_readPicture 9 = .ok (.iconst 0, 1) := by decide +kernel
theorem dX9_readPicture_10 : decode cX9_readPicture 10 = .ok (.ireturn, 1) := by decide +kernel
theorem dX9_readPicture_11 : decode cX9_readPicture 11 = .ok (.iconst 0, 1) := by decide +kernel
theorem dX9_readPicture_12 : decode cX9_readPicture 12 = .ok (.istore_n 2, 1) := by decide +kernel
theorem dX9_readPicture_13 : decode cX9_readPicture 13 = .ok (.iload_n 2, 1) := by decide +kernel
theorem dX9_readPicture_14 : decode cX9_readPicture 14 = .ok (.bipush 90, 2) := by decide +kernel
theorem dX9_readPicture_16 : decode cX9_readPicture 16 = .ok (.if_icmp .ge 72, 3) := by decide +kernel
theorem dX9_readPicture_19 : decode cX9_readPicture 19 = .ok (.aload_n 0, 1) := by decide +kernel
theorem dX9_readPicture_20 : decode cX9_readPicture 20 = .ok (.getfield 63, 3) := by decide +kernel
theorem dX9_readPicture_23 : decode cX9_readPicture 23 = .ok (.bipush 97, 2) := by decide +kernel
theorem dX9_readPicture_25 : decode cX9_readPicture 25 = .ok (.if_icmp .lt 63, 3) := by decide +kernel
theorem dX9_readPicture_28 : decode cX9_readPicture 28 = .ok (.aload_n 0, 1) := by decide +kernel
theorem dX9_readPicture_29 : decode cX9_readPicture 29 = .ok (.getfield 63, 3) := by decide +kernel
theorem dX9_readPicture_32 : decode cX9_readPicture 32 = .ok (.bipush 106, 2) := by decide +kernel
theorem dX9_readPicture_34 : decode cX9_readPicture 34 = .ok (.if_icmp .gt 54, 3) := by decide +kernel
theorem dX9_readPicture_37 : decode cX9_readPicture 37 = .ok (.aload_n 1, 1) := by decide +kernel
theorem dX9_readPicture_38 : decode cX9_readPicture 38 = .ok (.getfield 66, 3) := by decide +kernel
theorem dX9_readPicture_41 : decode cX9_readPicture 41 = .ok (.bipush 24, 2) := by decide +kernel
theorem dX9_readPicture_43 : decode cX9_readPicture 43 = .ok (.if_icmp .lt 9, 3) := by decide +kernel
theorem dX9_readPicture_46 : decode cX9_readPicture 46 = .ok (.aload_n 0, 1) := by decide +kernel
theorem dX9_readPicture_47 : decode cX9_readPicture 47 = .ok (.iconst 3, 1) := by decide +kernel
theorem dX9_readPicture_48 : decode cX9_readPicture 48 = .ok (.invokevirtual 69, 3) := by decide +kernel
theorem dX9_readPicture_51 : decode cX9_readPicture 51 = .ok (.ireturn, 1) := by decide +kernel
theorem dX9_readPicture_52 : decode cX9_readPicture 52 = .ok (.aload_n 1, 1) := by decide +kernel
theorem dX9_readPicture_53 : decode cX9_readPicture 53 = .ok (.getfield 72, 3) := by decide +kernel
theorem dX9_readPicture_56 : decode cX9_readPicture 56 = .ok (.aload_n 1, 1) := by decide +kernel
theorem dX9_readPicture_57 : decode cX9_readPicture 57 = .ok (.getfield 66, 3) := by decide +kernel
theorem dX9_readPicture_60 : decode cX9_readPicture 60 = .ok (.aload_n 0, 1) := by decide +kernel
theorem dX9_readPicture_61 : decode cX9_readPicture 61 = .ok (.getfield 63, 3) := by decide +kernel
theorem dX9_readPicture_64 : decode cX9_readPicture 64 = .ok (.bipush 97, 2) := by decide +kernel
theorem dX9_readPicture_66 : decode cX9_readPicture 66 = .ok (.isub, 1) := by decide +kernel
theorem dX9_readPicture_67 : decode cX9_readPicture 67 = .ok (.iastore, 1) := by decide +kernel
theorem dX9_readPicture_68 : decode cX9_readPicture 68 = .ok (.aload_n 1, 1) := by decide +kernel
theorem dX9_readPicture_69 : decode cX9_readPicture 69 = .ok (.dup, 1) := by decide +kernel
theorem dX9_readPicture_70 : decode cX9_readPicture 70 = .ok (.getfield 66, 3) := by decide +kernel
theorem dX9_readPicture_73 : decode cX9_readPicture 73 = .ok (.iconst 1, 1) := by decide +kernel
theorem dX9_readPicture_74 : decode cX9_readPicture 74 = .ok (.iadd, 1) := by decide +kernel
theorem dX9_readPicture_75 : decode cX9_readPicture 75 = .ok (.putfield 66, 3) := by decide +kernel
theorem dX9_readPicture_78 : decode cX9_readPicture 78 = .ok (.aload_n 0, 1) := by decide +kernel
theorem dX9_readPicture_79 : decode cX9_readPicture 79 = .ok (.invokevirtual 30, 3) := by decide +kernel
theorem dX9_readPicture_82 : decode cX9_readPicture 82 = .ok (.iinc 2 1, 3) := by decide +kernel
theorem dX9_readPicture_85 : decode cX9_readPicture 85 = .ok (.goto (-72), 3) := by decide +kernel
theorem dX9_readPicture_88 : decode cX9_readPicture 88 = .ok (.aload_n 1, 1) := by decide +kernel
theorem dX9_readPicture_89 : decode cX9_readPicture 89 = .ok (.getfield 66, 3) := by decide +kernel
theorem dX9_readPicture_92 : decode cX9_readPicture 92 = .ok (.bipush 6, 2) := by decide +kernel
theorem dX9_readPicture_94 : decode cX9_readPicture 94 = .ok (.if_icmp .ge 9, 3) := by decide +kernel
theorem dX9_readPicture_97 : decode cX9_readPicture 97 = .ok (.aload_n 0, 1) := by decide +kernel
theorem dX9_readPicture_98 : decode cX9_readPicture 98 = .ok (.iconst 1, 1) := by decide +kernel
theorem dX9_readPicture_99 : decode cX9_readPicture 99 = .ok (.invokevirtual 69, 3) := by decide +kernel
theorem dX9_readPicture_102 : decode cX9_readPicture 102 = .ok (.ireturn, 1) := by decide +kernel
theorem dX9_readPicture_103 : decode cX9_readPicture 103 = .ok (.aload_n 0, 1) := by decide +kernel
theorem dX9_readPicture_104 : decode cX9_readPicture 104 = .ok (.bipush 59, 2) := by decide +kernel
theorem dX9_readPicture_106 : decode cX9_readPicture 106 = .ok (.invokevirtual 49, 3) := by decide +kernel
theorem dX9_readPicture_109 : decode cX9_readPicture 109 = .ok (.ireturn, 1) := by decide +kernel
theorem dX9_readWalls_0 : decode cX9_readWalls 0 = .ok (.iconst 1, 1) := by decide +kernel
theorem dX9_readWalls_1 : decode cX9_readWalls 1 = .ok (.istore_n 2, 1) := by decide +kernel
theorem dX9_readWalls_2 : decode cX9_readWalls 2 = .ok (.iconst 0, 1) := by decide +kernel
theorem dX9_readWalls_3 : decode cX9_readWalls 3 = .ok (.istore_n 3, 1) := by decide +kernel
theorem dX9_readWalls_4 : decode cX9_readWalls 4 = .ok (.iload_n 3, 1) := by decide +kernel
theorem dX9_readWalls_5 : decode cX9_readWalls 5 = .ok (.bipush 90, 2) := by decide +kernel
theorem dX9_readWalls_7 : decode cX9_readWalls 7 = .ok (.if_icmp .ge 93, 3) := by decide +kernel
theorem dX9_readWalls_10 : decode cX9_readWalls 10 = .ok (.aload_n 0, 1) := by decide +kernel
theorem dX9_readWalls_11 : decode cX9_readWalls 11 = .ok (.getfield 63, 3) := by decide +kernel
theorem dX9_readWalls_14 : decode cX9_readWalls 14 = .ok (.bipush 120, 2) := by decide +kernel
theorem dX9_readWalls_16 : decode cX9_readWalls 16 = .ok (.if_icmp .ne 84, 3) := by decide +kernel
theorem dX9_readWalls_19 : decode cX9_readWalls 19 = .ok (.aload_n 1, 1) := by decide +kernel
theorem dX9_readWalls_20 : decode cX9_readWalls 20 = .ok (.getfield 75, 3) := by decide +kernel
theorem dX9_readWalls_23 : decode cX9_readWalls 23 = .ok (.iconst 5, 1) := by decide +kernel
theorem dX9_readWalls_24 : decode cX9_readWalls 24 = .ok (.if_icmp .lt 9, 3) := by decide +kernel
theorem dX9_readWalls_27 : decode cX9_readWalls 27 = .ok (.aload_n 0, 1) := by decide +kernel
theorem dX9_readWalls_28 : decode cX9_readWalls 28 = .ok (.iconst 3, 1) := by decide +kernel
theorem dX9_readWalls_29 : decode cX9_readWalls 29 = .ok (.invokevirtual 69, 3) := by decide +kernel
theorem dX9_readWalls_32 : decode cX9_readWalls 32 = .ok (.ireturn, 1) := by decide +kernel
theorem dX9_readWalls_33 : decode cX9_readWalls 33 = .ok (.aload_n 0, 1) := by decide +kernel
theorem dX9_readWalls_34 : decode cX9_readWalls 34 = .ok (.invokevirtual 30, 3) := by decide +kernel
theorem dX9_readWalls_37 : decode cX9_readWalls 37 = .ok (.aload_n 0, 1) := by decide +kernel
theorem dX9_readWalls_38 : decode cX9_readWalls 38 = .ok (.iload_n 2, 1) := by decide +kernel
theorem dX9_readWalls_39 : decode cX9_readWalls 39 = .ok (.aload_n 1, 1) := by decide +kernel
theorem dX9_readWalls_40 : decode cX9_readWalls 40 = .ok (.getfield 66, 3) := by decide +kernel
theorem dX9_readWalls_43 : decode cX9_readWalls 43 = .ok (.iconst 1, 1) := by decide +kernel
theorem dX9_readWalls_44 : decode cX9_readWalls 44 = .ok (.isub, 1) := by decide +kernel
theorem dX9_readWalls_45 : decode cX9_readWalls 45 = .ok (.invokevirtual 53, 3) := by decide +kernel
theorem dX9_readWalls_48 : decode cX9_readWalls 48 = .ok (.ifCond .ne 5, 3) := by decide +kernel
theorem dX9_readWalls_51 : decode cX9_readWalls 51 = .ok (.iconst 0, 1) := by decide +kernel
theorem dX9_readWalls_52 : decode cX9_readWalls 52 = .ok (.ireturn, 1) := by decide +kernel
theorem dX9_readWalls_53 : decode cX9_readWalls 53 = .ok (.aload_n 1, 1) := by decide +kernel
theorem dX9_readWalls_54 : decode cX9_readWalls 54 = .ok (.getfield 78, 3) := by decide +kernel
theorem dX9_readWalls_57 : decode cX9_readWalls 57 = .ok (.aload_n 1, 1) := by decide +kernel
theorem dX9_readWalls_58 : decode cX9_readWalls 58 = .ok (.getfield 75, 3) := by decide +kernel
theorem dX9_readWalls_61 : decode cX9_readWalls 61 = .ok (.aload_n 0, 1) := by decide +kernel
theorem dX9_readWalls_62 : decode cX9_readWalls 62 = .ok (.getfield 57, 3) := by decide +kernel
theorem dX9_readWalls_65 : decode cX9_readWalls 65 = .ok (.iastore, 1) := by decide +kernel
theorem dX9_readWalls_66 : decode cX9_readWalls 66 = .ok (.aload_n 1, 1) := by decide +kernel
theorem dX9_readWalls_67 : decode cX9_readWalls 67 = .ok (.dup, 1) := by decide +kernel
theorem dX9_readWalls_68 : decode cX9_readWalls 68 = .ok (.getfield 75, 3) := by decide +kernel
theorem dX9_readWalls_71 : decode cX9_readWalls 71 = .ok (.iconst 1, 1) := by decide +kernel
theorem dX9_readWalls_72 : decode cX9_readWalls 72 = .ok (.iadd, 1) := by decide +kernel
theorem dX9_readWalls_73 : decode cX9_readWalls 73 = .ok (.putfield 75, 3) := by decide +kernel
theorem dX9_readWalls_76 : decode cX9_readWalls 76 = .ok (.aload_n 0, 1) := by decide +kernel
theorem dX9_readWalls_77 : decode cX9_readWalls 77 = .ok (.getfield 57, 3) := by decide +kernel
theorem dX9_readWalls_80 : decode cX9_readWalls 80 = .ok (.iconst 1, 1) := by decide +kernel
theorem dX9_readWalls_81 : decode cX9_readWalls 81 = .ok (.iadd, 1) := by decide +kernel
theorem dX9_readWalls_82 : decode cX9_readWalls 82 = .ok (.istore_n 2, 1) := by decide +kernel
theorem dX9_readWalls_83 : decode cX9_readWalls 83 = .ok (.aload_n 0, 1) := by decide +kernel
theorem dX9_readWalls_84 : decode cX9_readWalls 84 = .ok (.bipush 59, 2) := by decide +kernel
theorem dX9_readWalls_86 : decode cX9_readWalls 86 = .ok (.invokevirtual 49, 3) := by decide +kernel
theorem dX9_readWalls_89 : decode cX9_readWalls 89 = .ok (.ifCond .ne 5, 3) := by decide +kernel
theorem dX9_readWalls_92 : decode cX9_readWalls 92 = .ok (.iconst 0, 1) := by decide +kernel
theorem dX9_readWalls_93 : decode cX9_readWalls 93 = .ok (.ireturn, 1) := by decide +kernel
theorem dX9_readWalls_94 : decode cX9_readWalls 94 = .ok (.iinc 3 1, 3) := by decide +kernel
theorem dX9_readWalls_97 : decode cX9_readWalls 97 = .ok (.goto (-93), 3) := by decide +kernel
theorem dX9_readWalls_100 : decode cX9_readWalls 100 = .ok (.iconst 1, 1) := by decide +kernel
theorem dX9_readWalls_101 : decode cX9_readWalls 101 = .ok (.ireturn, 1) := by decide +kernel
theorem dX9_readFolk_0 : decode cX9_readFolk 0 = .ok (.iconst 0, 1) := by decide +kernel
theorem dX9_readFolk_1 : decode cX9_readFolk 1 = .ok (.istore_n 2, 1) := by decide +kernel
theorem dX9_readFolk_2 : decode cX9_readFolk 2 = .ok (.iload_n 2, 1) := by decide +kernel
theorem dX9_readFolk_3 : decode cX9_readFolk 3 = .ok (.bipush 90, 2) := by decide +kernel
theorem dX9_readFolk_5 : decode cX9_readFolk 5 = .ok (.if_icmp .ge 115, 3) := by decide +kernel
theorem dX9_readFolk_8 : decode cX9_readFolk 8 = .ok (.aload_n 0, 1) := by decide +kernel
theorem dX9_readFolk_9 : decode cX9_readFolk 9 = .ok (.getfield 63, 3) := by decide +kernel
theorem dX9_readFolk_12 : decode cX9_readFolk 12 = .ok (.iconst (-1), 1) := by decide +kernel
theorem dX9_readFolk_13 : decode cX9_readFolk 13 = .ok (.if_icmp .eq 107, 3) := by decide +kernel
theorem dX9_readFolk_16 : decode cX9_readFolk 16 = .ok (.aload_n 0, 1) := by decide +kernel
theorem dX9_readFolk_17 : decode cX9_readFolk 17 = .ok (.getfield 63, 3) := by decide +kernel
theorem dX9_readFolk_20 : decode cX9_readFolk 20 = .ok (.invokestatic 81, 3) := by decide +kernel
theorem dX9_readFolk_23 : decode cX9_readFolk 23 = .ok (.istore_n 3, 1) := by decide +kernel
theorem dX9_readFolk_24 : decode cX9_readFolk 24 = .ok (.iload_n 3, 1) := by decide +kernel
theorem dX9_readFolk_25 : decode cX9_readFolk 25 = .ok (.ifCond .ne 9, 3) := by decide +kernel
theorem dX9_readFolk_28 : decode cX9_readFolk 28 = .ok (.aload_n 0, 1) := by decide +kernel
theorem dX9_readFolk_29 : decode cX9_readFolk 29 = .ok (.iconst 1, 1) := by decide +kernel
theorem dX9_readFolk_30 : decode cX9_readFolk 30 = .ok (.invokevirtual 69, 3) := by decide +kernel
theorem dX9_readFolk_33 : decode cX9_readFolk 33 = .ok (.ireturn, 1) := by decide +kernel
theorem dX9_readFolk_34 : decode cX9_readFolk 34 = .ok (.aload_n 1, 1) := by decide +kernel
theorem dX9_readFolk_35 : decode cX9_readFolk 35 = .ok (.getfield 85, 3) := by decide +kernel
theorem dX9_readFolk_38 : decode cX9_readFolk 38 = .ok (.iconst 5, 1) := by decide +kernel
theorem dX9_readFolk_39 : decode cX9_readFolk 39 = .ok (.if_icmp .lt 9, 3) := by decide +kernel
theorem dX9_readFolk_42 : decode cX9_readFolk 42 = .ok (.aload_n 0, 1) := by decide +kernel
theorem dX9_readFolk_43 : decode cX9_readFolk 43 = .ok (.iconst 3, 1) := by decide +kernel
theorem dX9_readFolk_44 : decode cX9_readFolk 44 = .ok (.invokevirtual 69, 3) := by decide +kernel
theorem dX9_readFolk_47 : decode cX9_readFolk 47 = .ok (.ireturn, 1) := by decide +kernel
theorem dX9_readFolk_48 : decode cX9_readFolk 48 = .ok (.aload_n 0, 1) := by decide +kernel
theorem dX9_readFolk_49 : decode cX9_readFolk 49 = .ok (.invokevirtual 30, 3) := by decide +kernel
theorem dX9_readFolk_52 : decode cX9_readFolk 52 = .ok (.aload_n 0, 1) := by decide +kernel
theorem dX9_readFolk_53 : decode cX9_readFolk 53 = .ok (.iconst 0, 1) := by decide +kernel
theorem dX9_readFolk_54 : decode cX9_readFolk 54 = .ok (.aload_n 1, 1) := by decide +kernel
theorem dX9_readFolk_55 : decode cX9_readFolk 55 = .ok (.getfield 75, 3) := by decide +kernel
theorem dX9_readFolk_58 : decode cX9_readFolk 58 = .ok (.invokevirtual 53, 3) := by decide +kernel
theorem dX9_readFolk_61 : decode cX9_readFolk 61 = .ok (.ifCond .ne 5, 3) := by decide +kernel
theorem dX9_readFolk_64 : decode cX9_readFolk 64 = .ok (.iconst 0, 1) := by decide +kernel
theorem dX9_readFolk_65 : decode cX9_readFolk 65 = .ok (.ireturn, 1) := by decide +kernel
theorem dX9_readFolk_66 : decode cX9_readFolk 66 = .ok (.aload_n 0, 1) := by decide +kernel
theorem dX9_readFolk_67 : decode cX9_readFolk 67 = .ok (.getfield 57, 3) := by decide +kernel
theorem dX9_readFolk_70 : decode cX9_readFolk 70 = .ok (.istore 4, 2) := by decide +kernel
theorem dX9_readFolk_72 : decode cX9_readFolk 72 = .ok (.aload_n 0, 1) := by decide +kernel
theorem dX9_readFolk_73 : decode cX9_readFolk 73 = .ok (.bipush 44, 2) := by decide +kernel
theorem dX9_readFolk_75 : decode cX9_readFolk 75 = .ok (.invokevirtual 49, 3) := by decide +kernel
theorem dX9_readFolk_78 : decode cX9_readFolk 78 = .ok (.ifCond .eq 12, 3) := by decide +kernel
theorem dX9_readFolk_81 : decode cX9_readFolk 81 = .ok (.aload_n 0, 1) := by decide +kernel
theorem dX9_readFolk_82 : decode cX9_readFolk 82 = .ok (.iconst 0, 1) := by decide +kernel
theorem dX9_readFolk_83 : decode cX9_readFolk 83 = .ok (.iconst 1, 1) := by decide +kernel
theorem dX9_readFolk_84 : decode cX9_readFolk 84 = .ok (.invokevirtual 53, 3) := by decide +kernel
theorem dX9_readFolk_87 : decode cX9_readFolk 87 = .ok (.ifCond .ne 5, 3) := by decide +kernel
theorem dX9_readFolk_90 : decode cX9_readFolk 90 = .ok (.iconst 0, 1) := by decide +kernel
theorem dX9_readFolk_91 : decode cX9_readFolk 91 = .ok (.ireturn, 1) := by decide +kernel
theorem dX9_readFolk_92 : decode cX9_readFolk 92 = .ok (.aload_n 1, 1) := by decide +kernel
theorem dX9_readFolk_93 : decode cX9_readFolk 93 = .ok (.iload_n 3, 1) := by decide +kernel
theorem dX9_readFolk_94 : decode cX9_readFolk 94 = .ok (.iload 4, 2) := by decide +kernel
theorem dX9_readFolk_96 : decode cX9_readFolk 96 = .ok (.aload_n 0, 1) := by decide +kernel
theorem dX9_readFolk_97 : decode cX9_readFolk 97 = .ok (.getfield 57, 3) := by decide +kernel
theorem dX9_readFolk_100 : decode cX9_readFolk 100 = .ok (.invokevirtual 88, 3) := by decide +kernel
theorem dX9_readFolk_103 : decode cX9_readFolk 103 = .ok (.aload_n 0, 1) := by decide +kernel
theorem dX9_readFolk_104 : decode cX9_readFolk 104 = .ok (.bipush 59, 2) := by decide +kernel
theorem dX9_readFolk_106 : decode cX9_readFolk 106 = .ok (.invokevirtual 49, 3) := by decide +kernel
theorem dX9_readFolk_109 : decode cX9_readFolk 109 = .ok (.ifCond .ne 5, 3) := by decide +kernel
theorem dX9_readFolk_112 : decode cX9_readFolk 112 = .ok (.iconst 0, 1) := by decide +kernel
theorem dX9_readFolk_113 : decode cX9_readFolk 113 = .ok (.ireturn, 1) := by decide +kernel
theorem dX9_readFolk_114 : decode cX9_readFolk 114 = .ok (.iinc 2 1, 3) := by decide +kernel
theorem dX9_readFolk_117 : decode cX9_readFolk 117 = .ok (.goto (-115), 3) := by decide +kernel
theorem dX9_readFolk_120 : decode cX9_readFolk 120 = .ok (.iconst 1, 1) := by decide +kernel
theorem dX9_readFolk_121 : decode cX9_readFolk 121 = .ok (.ireturn, 1) := by decide +kernel
theorem dX9_kindByLetter_0 : decode cX9_kindByLetter 0 = .ok (.iload_n 0, 1) := by decide +kernel
theorem dX9_kindByLetter_1 : decode cX9_kindByLetter 1 = .ok (.lookupswitch 61 #[(98, 59), (100, 53), (108, 51), (111, 57), (115, 55)], 51) := by decide +kernel
theorem dX9_kindByLetter_52 : decode cX9_kindByLetter 52 = .ok (.iconst 1, 1) := by decide +kernel
theorem dX9_kindByLetter_53 : decode cX9_kindByLetter 53 = .ok (.ireturn, 1) := by decide +kernel
theorem dX9_kindByLetter_54 : decode cX9_kindByLetter 54 = .ok (.iconst 2, 1) := by decide +kernel
theorem dX9_kindByLetter_55 : decode cX9_kindByLetter 55 = .ok (.ireturn, 1) := by decide +kernel
theorem dX9_kindByLetter_56 : decode cX9_kindByLetter 56 = .ok (.iconst 3, 1) := by decide +kernel
theorem dX9_kindByLetter_57 : decode cX9_kindByLetter 57 = .ok (.ireturn, 1) := by decide +kernel
theorem dX9_kindByLetter_58 : decode cX9_kindByLetter 58 = .ok (.iconst 4, 1) := by decide +kernel
theorem dX9_kindByLetter_59 : decode cX9_kindByLetter 59 = .ok (.ireturn, 1) := by decide +kernel
theorem dX9_kindByLetter_60 : decode cX9_kindByLetter 60 = .ok (.iconst 5, 1) := by decide +kernel
theorem dX9_kindByLetter_61 : decode cX9_kindByLetter 61 = .ok (.ireturn, 1) := by decide +kernel
theorem dX9_kindByLetter_62 : decode cX9_kindByLetter 62 = .ok (.iconst 0, 1) := by decide +kernel
theorem dX9_kindByLetter_63 : decode cX9_kindByLetter 63 = .ok (.ireturn, 1) := by decide +kernel
theorem dX9_pass_0 : decode cX9_pass 0 = .ok (.aload_n 0, 1) := by decide +kernel
theorem dX9_pass_1 : decode cX9_pass 1 = .ok (.getfield 63, 3) := by decide +kernel
theorem dX9_pass_4 : decode cX9_pass 4 = .ok (.iload_n 1, 1) := by decide +kernel
theorem dX9_pass_5 : decode cX9_pass 5 = .ok (.if_icmp .eq 9, 3) := by decide +kernel
theorem dX9_pass_8 : decode cX9_pass 8 = .ok (.aload_n 0, 1) := by decide +kernel
theorem dX9_pass_9 : decode cX9_pass 9 = .ok (.iconst 1, 1) := by decide +kernel
theorem dX9_pass_10 : decode cX9_pass 10 = .ok (.invokevirtual 69, 3) := by decide +kernel
theorem dX9_pass_13 : decode cX9_pass 13 = .ok (.ireturn, 1) := by decide +kernel
theorem dX9_pass_14 : decode cX9_pass 14 = .ok (.aload_n 0, 1) := by decide +kernel
theorem dX9_pass_15 : decode cX9_pass 15 = .ok (.invokevirtual 30, 3) := by decide +kernel
theorem dX9_pass_18 : decode cX9_pass 18 = .ok (.iconst 1, 1) := by decide +kernel
theorem dX9_pass_19 : decode cX9_pass 19 = .ok (.ireturn, 1) := by decide +kernel
theorem dX9_passNumber_0 : decode cX9_passNumber 0 = .ok (.aload_n 0, 1) := by decide +kernel
theorem dX9_passNumber_1 : decode cX9_passNumber 1 = .ok (.getfield 63, 3) := by decide +kernel
theorem dX9_passNumber_4 : decode cX9_passNumber 4 = .ok (.bipush (-2), 2) := by decide +kernel
theorem dX9_passNumber_6 : decode cX9_passNumber 6 = .ok (.if_icmp .eq 9, 3) := by decide +kernel
theorem dX9_passNumber_9 : decode cX9_passNumber 9 = .ok (.aload_n 0, 1) := by decide +kernel
theorem dX9_passNumber_10 : decode cX9_passNumber 10 = .ok (.iconst 1, 1) := by decide +kernel
theorem dX9_passNumber_11 : decode cX9_passNumber 11 = .ok (.invokevirtual 69, 3) := by decide +kernel
theorem dX9_passNumber_14 : decode cX9_passNumber 14 = .ok (.ireturn, 1) := by decide +kernel
theorem dX9_passNumber_15 : decode cX9_passNumber 15 = .ok (.aload_n 0, 1) := by decide +kernel
theorem dX9_passNumber_16 : decode cX9_passNumber 16 = .ok (.getfield 57, 3) := by decide +kernel
theorem dX9_passNumber_19 : decode cX9_passNumber 19 = .ok (.iload_n 1, 1) := by decide +kernel
theorem dX9_passNumber_20 : decode cX9_passNumber 20 = .ok (.if_icmp .lt 11, 3) := by decide +kernel
theorem dX9_passNumber_23 : decode cX9_passNumber 23 = .ok (.aload_n 0, 1) := by decide +kernel
theorem dX9_passNumber_24 : decode cX9_passNumber 24 = .ok (.getfield 57, 3) := by decide +kernel
theorem dX9_passNumber_27 : decode cX9_passNumber 27 = .ok (.iload_n 2, 1) := by decide +kernel
theorem dX9_passNumber_28 : decode cX9_passNumber 28 = .ok (.if_icmp .le 9, 3) := by decide +kernel
theorem dX9_passNumber_31 : decode cX9_passNumber 31 = .ok (.aload_n 0, 1) := by decide +kernel
theorem dX9_passNumber_32 : decode cX9_passNumber 32 = .ok (.iconst 2, 1) := by decide +kernel
theorem dX9_passNumber_33 : decode cX9_passNumber 33 = .ok (.invokevirtual 69, 3) := by decide +kernel
theorem dX9_passNumber_36 : decode cX9_passNumber 36 = .ok (.ireturn, 1) := by decide +kernel
theorem dX9_passNumber_37 : decode cX9_passNumber 37 = .ok (.aload_n 0, 1) := by decide +kernel
theorem dX9_passNumber_38 : decode cX9_passNumber 38 = .ok (.invokevirtual 30, 3) := by decide +kernel
theorem dX9_passNumber_41 : decode cX9_passNumber 41 = .ok (.iconst 1, 1) := by decide +kernel
theorem dX9_passNumber_42 : decode cX9_passNumber 42 = .ok (.ireturn, 1) := by decide +kernel
theorem dX9_fail_0 : decode cX9_fail 0 = .ok (.aload_n 0, 1) := by decide +kernel
theorem dX9_fail_1 : decode cX9_fail 1 = .ok (.iload_n 1, 1) := by decide +kernel
theorem dX9_fail_2 : decode cX9_fail 2 = .ok (.putfield 92, 3) := by decide +kernel
theorem dX9_fail_5 : decode cX9_fail 5 = .ok (.aload_n 0, 1) := by decide +kernel
theorem dX9_fail_6 : decode cX9_fail 6 = .ok (.aload_n 0, 1) := by decide +kernel
theorem dX9_fail_7 : decode cX9_fail 7 = .ok (.getfield 24, 3) := by decide +kernel
theorem dX9_fail_10 : decode cX9_fail 10 = .ok (.putfield 95, 3) := by decide +kernel
theorem dX9_fail_13 : decode cX9_fail 13 = .ok (.iconst 0, 1) := by decide +kernel
theorem dX9_fail_14 : decode cX9_fail 14 = .ok (.ireturn, 1) := by decide +kernel
theorem dX9_step_0 : decode cX9_step 0 = .ok (.aload_n 0, 1) := by decide +kernel
theorem dX9_step_1 : decode cX9_step 1 = .ok (.dup, 1) := by decide +kernel
theorem dX9_step_2 : decode cX9_step 2 = .ok (.getfield 24, 3) := by decide +kernel
theorem dX9_step_5 : decode cX9_step 5 = .ok (.aload_n 0, 1) := by decide +kernel
theorem dX9_step_6 : decode cX9_step 6 = .ok (.getfield 27, 3) := by decide +kernel
theorem dX9_step_9 : decode cX9_step 9 = .ok (.iadd, 1) := by decide +kernel
theorem dX9_step_10 : decode cX9_step 10 = .ok (.putfield 24, 3) := by decide +kernel
theorem dX9_step_13 : decode cX9_step 13 = .ok (.aload_n 0, 1) := by decide +kernel
theorem dX9_step_14 : decode cX9_step 14 = .ok (.iconst 1, 1) := by decide +kernel
theorem dX9_step_15 : decode cX9_step 15 = .ok (.putfield 27, 3) := by decide +kernel
theorem dX9_step_18 : decode cX9_step 18 = .ok (.aload_n 0, 1) := by decide +kernel
theorem dX9_step_19 : decode cX9_step 19 = .ok (.getfield 24, 3) := by decide +kernel
theorem dX9_step_22 : decode cX9_step 22 = .ok (.aload_n 0, 1) := by decide +kernel
theorem dX9_step_23 : decode cX9_step 23 = .ok (.getfield 15, 3) := by decide +kernel
theorem dX9_step_26 : decode cX9_step 26 = .ok (.if_icmp .lt 11, 3) := by decide +kernel
theorem dX9_step_29 : decode cX9_step 29 = .ok (.aload_n 0, 1) := by decide +kernel
theorem dX9_step_30 : decode cX9_step 30 = .ok (.iconst (-1), 1) := by decide +kernel
theorem dX9_step_31 : decode cX9_step 31 = .ok (.putfield 63, 3) := by decide +kernel
theorem dX9_step_34 : decode cX9_step 34 = .ok (.goto 34, 3) := by decide +kernel
theorem dX9_step_37 : decode cX9_step 37 = .ok (.aload_n 0, 1) := by decide +kernel
theorem dX9_step_38 : decode cX9_step 38 = .ok (.aload_n 0, 1) := by decide +kernel
theorem dX9_step_39 : decode cX9_step 39 = .ok (.getfield 24, 3) := by decide +kernel
theorem dX9_step_42 : decode cX9_step 42 = .ok (.invokevirtual 98, 3) := by decide +kernel
theorem dX9_step_45 : decode cX9_step 45 = .ok (.ifCond .eq 10, 3) := by decide +kernel
theorem dX9_step_48 : decode cX9_step 48 = .ok (.aload_n 0, 1) := by decide +kernel
theorem dX9_step_49 : decode cX9_step 49 = .ok (.invokevirtual 101, 3) := by decide +kernel
theorem dX9_step_52 : decode cX9_step 52 = .ok (.goto 16, 3) := by decide +kernel
theorem dX9_step_55 : decode cX9_step 55 = .ok (.aload_n 0, 1) := by decide +kernel
theorem dX9_step_56 : decode cX9_step 56 = .ok (.aload_n 0, 1) := by decide +kernel
theorem dX9_step_57 : decode cX9_step 57 = .ok (.getfield 9, 3) := by decide +kernel
theorem dX9_step_60 : decode cX9_step 60 = .ok (.aload_n 0, 1) := by decide +kernel
theorem dX9_step_61 : decode cX9_step 61 = .ok (.getfield 24, 3) := by decide +kernel
theorem dX9_step_64 : decode cX9_step 64 = .ok (.iaload, 1) := by decide +kernel
theorem dX9_step_65 : decode cX9_step 65 = .ok (.putfield 63, 3) := by decide +kernel
theorem dX9_step_68 : decode cX9_step 68 = .ok (.return_, 1) := by decide +kernel
theorem dX9_lookAtNumber_0 : decode cX9_lookAtNumber 0 = .ok (.aload_n 0, 1) := by decide +kernel
theorem dX9_lookAtNumber_1 : decode cX9_lookAtNumber 1 = .ok (.aload_n 0, 1) := by decide +kernel
theorem dX9_lookAtNumber_2 : decode cX9_lookAtNumber 2 = .ok (.getfield 9, 3) := by decide +kernel
theorem dX9_lookAtNumber_5 : decode cX9_lookAtNumber 5 = .ok (.aload_n 0, 1) := by decide +kernel
theorem dX9_lookAtNumber_6 : decode cX9_lookAtNumber 6 = .ok (.getfield 24, 3) := by decide +kernel
theorem dX9_lookAtNumber_9 : decode cX9_lookAtNumber 9 = .ok (.iaload, 1) := by decide +kernel
theorem dX9_lookAtNumber_10 : decode cX9_lookAtNumber 10 = .ok (.bipush 48, 2) := by decide +kernel
theorem dX9_lookAtNumber_12 : decode cX9_lookAtNumber 12 = .ok (.isub, 1) := by decide +kernel
theorem dX9_lookAtNumber_13 : decode cX9_lookAtNumber 13 = .ok (.putfield 57, 3) := by decide +kernel
theorem dX9_lookAtNumber_16 : decode cX9_lookAtNumber 16 = .ok (.aload_n 0, 1) := by decide +kernel
theorem dX9_lookAtNumber_17 : decode cX9_lookAtNumber 17 = .ok (.bipush (-2), 2) := by decide +kernel
theorem dX9_lookAtNumber_19 : decode cX9_lookAtNumber 19 = .ok (.putfield 63, 3) := by decide +kernel
theorem dX9_lookAtNumber_22 : decode cX9_lookAtNumber 22 = .ok (.aload_n 0, 1) := by decide +kernel
theorem dX9_lookAtNumber_23 : decode cX9_lookAtNumber 23 = .ok (.aload_n 0, 1) := by decide +kernel
theorem dX9_lookAtNumber_24 : decode cX9_lookAtNumber 24 = .ok (.getfield 24, 3) := by decide +kernel
theorem dX9_lookAtNumber_27 : decode cX9_lookAtNumber 27 = .ok (.iconst 1, 1) := by decide +kernel
theorem dX9_lookAtNumber_28 : decode cX9_lookAtNumber 28 = .ok (.iadd, 1) := by decide +kernel
theorem dX9_lookAtNumber_29 : decode cX9_lookAtNumber 29 = .ok (.invokevirtual 98, 3) := by decide +kernel
theorem dX9_lookAtNumber_32 : decode cX9_lookAtNumber 32 = .ok (.ifCond .ne 4, 3) := by decide +kernel
theorem dX9_lookAtNumber_35 : decode cX9_lookAtNumber 35 = .ok (.return_, 1) := by decide +kernel
theorem dX9_lookAtNumber_36 : decode cX9_lookAtNumber 36 = .ok (.aload_n 0, 1) := by decide +kernel
theorem dX9_lookAtNumber_37 : decode cX9_lookAtNumber 37 = .ok (.aload_n 0, 1) := by decide +kernel
theorem dX9_lookAtNumber_38 : decode cX9_lookAtNumber 38 = .ok (.getfield 57, 3) := by decide +kernel
theorem dX9_lookAtNumber_41 : decode cX9_lookAtNumber 41 = .ok (.bipush 10, 2) := by decide +kernel
theorem dX9_lookAtNumber_43 : decode cX9_lookAtNumber 43 = .ok (.imul, 1) := by decide +kernel
theorem dX9_lookAtNumber_44 : decode cX9_lookAtNumber 44 = .ok (.aload_n 0, 1) := by decide +kernel
theorem dX9_lookAtNumber_45 : decode cX9_lookAtNumber 45 = .ok (.getfield 9, 3) := by decide +kernel
theorem dX9_lookAtNumber_48 : decode cX9_lookAtNumber 48 = .ok (.aload_n 0, 1) := by decide +kernel
theorem dX9_lookAtNumber_49 : decode cX9_lookAtNumber 49 = .ok (.getfield 24, 3) := by decide +kernel
theorem dX9_lookAtNumber_52 : decode cX9_lookAtNumber 52 = .ok (.iconst 1, 1) := by decide +kernel
theorem dX9_lookAtNumber_53 : decode cX9_lookAtNumber 53 = .ok (.iadd, 1) := by decide +kernel
theorem dX9_lookAtNumber_54 : decode cX9_lookAtNumber 54 = .ok (.iaload, 1) := by decide +kernel
theorem dX9_lookAtNumber_55 : decode cX9_lookAtNumber 55 = .ok (.iadd, 1) := by decide +kernel
theorem dX9_lookAtNumber_56 : decode cX9_lookAtNumber 56 = .ok (.bipush 48, 2) := by decide +kernel
theorem dX9_lookAtNumber_58 : decode cX9_lookAtNumber 58 = .ok (.isub, 1) := by decide +kernel
theorem dX9_lookAtNumber_59 : decode cX9_lookAtNumber 59 = .ok (.putfield 57, 3) := by decide +kernel
theorem dX9_lookAtNumber_62 : decode cX9_lookAtNumber 62 = .ok (.aload_n 0, 1) := by decide +kernel
theorem dX9_lookAtNumber_63 : decode cX9_lookAtNumber 63 = .ok (.iconst 2, 1) := by decide +kernel
theorem dX9_lookAtNumber_64 : decode cX9_lookAtNumber 64 = .ok (.putfield 27, 3) := by decide +kernel
theorem dX9_lookAtNumber_67 : decode cX9_lookAtNumber 67 = .ok (.aload_n 0, 1) := by decide +kernel
theorem dX9_lookAtNumber_68 : decode cX9_lookAtNumber 68 = .ok (.aload_n 0, 1) := by decide +kernel
theorem dX9_lookAtNumber_69 : decode cX9_lookAtNumber 69 = .ok (.getfield 24, 3) := by decide +kernel
theorem dX9_lookAtNumber_72 : decode cX9_lookAtNumber 72 = .ok (.iconst 2, 1) := by decide +kernel
theorem dX9_lookAtNumber_73 : decode cX9_lookAtNumber 73 = .ok (.iadd, 1) := by decide +kernel
theorem dX9_lookAtNumber_74 : decode cX9_lookAtNumber 74 = .ok (.invokevirtual 98, 3) := by decide +kernel
theorem dX9_lookAtNumber_77 : decode cX9_lookAtNumber 77 = .ok (.ifCond .eq 9, 3) := by decide +kernel
theorem dX9_lookAtNumber_80 : decode cX9_lookAtNumber 80 = .ok (.aload_n 0, 1) := by decide +kernel
theorem dX9_lookAtNumber_81 : decode cX9_lookAtNumber 81 = .ok (.bipush (-3), 2) := by decide +kernel
theorem dX9_lookAtNumber_83 : decode cX9_lookAtNumber 83 = .ok (.putfield 63, 3) := by decide +kernel
theorem dX9_lookAtNumber_86 : decode cX9_lookAtNumber 86 = .ok (.return_, 1) := by decide +kernel
theorem dX9_isFigure_0 : decode cX9_isFigure 0 = .ok (.iload_n 1, 1) := by decide +kernel
theorem dX9_isFigure_1 : decode cX9_isFigure 1 = .ok (.aload_n 0, 1) := by decide +kernel
theorem dX9_isFigure_2 : decode cX9_isFigure 2 = .ok (.getfield 15, 3) := by decide +kernel
theorem dX9_isFigure_5 : decode cX9_isFigure 5 = .ok (.if_icmp .ge 29, 3) := by decide +kernel
theorem dX9_isFigure_8 : decode cX9_isFigure 8 = .ok (.aload_n 0, 1) := by decide +kernel
theorem dX9_isFigure_9 : decode cX9_isFigure 9 = .ok (.getfield 9, 3) := by decide +kernel
theorem dX9_isFigure_12 : decode cX9_isFigure 12 = .ok (.iload_n 1, 1) := by decide +kernel
theorem dX9_isFigure_13 : decode cX9_isFigure 13 = .ok (.iaload, 1) := by decide +kernel
theorem dX9_isFigure_14 : decode cX9_isFigure 14 = .ok (.bipush 48, 2) := by decide +kernel
theorem dX9_isFigure_16 : decode cX9_isFigure 16 = .ok (.if_icmp .lt 18, 3) := by decide +kernel
theorem dX9_isFigure_19 : decode cX9_isFigure 19 = .ok (.aload_n 0, 1) := by decide +kernel
theorem dX9_isFigure_20 : decode cX9_isFigure 20 = .ok (.getfield 9, 3) := by decide +kernel
theorem dX9_isFigure_23 : decode cX9_isFigure 23 = .ok (.iload_n 1, 1) := by decide +kernel
theorem dX9_isFigure_24 : decode cX9_isFigure 24 = .ok (.iaload, 1) := by decide +kernel
theorem dX9_isFigure_25 : decode cX9_isFigure 25 = .ok (.bipush 57, 2) := by decide +kernel
theorem dX9_isFigure_27 : decode cX9_isFigure 27 = .ok (.if_icmp .gt 7, 3) := by decide +kernel
theorem dX9_isFigure_30 : decode cX9_isFigure 30 = .ok (.iconst 1, 1) := by decide +kernel
theorem dX9_isFigure_31 : decode cX9_isFigure 31 = .ok (.goto 4, 3) := by decide +kernel
theorem dX9_isFigure_34 : decode cX9_isFigure 34 = .ok (.iconst 0, 1) := by decide +kernel
theorem dX9_isFigure_35 : decode cX9_isFigure 35 = .ok (.ireturn, 1) := by decide +kernel
theorem dX10_init_0 : decode cX10_init 0 = .ok (.aload_n 0, 1) := by decide +kernel
theorem dX10_init_1 : decode cX10_init 1 = .ok (.invokespecial 1, 3) := by decide +kernel
theorem dX10_init_4 : decode cX10_init 4 = .ok (.return_, 1) := by decide +kernel
theorem dX10_sees_0 : decode cX10_sees 0 = .ok (.iload_n 2, 1) := by decide +kernel
theorem dX10_sees_1 : decode cX10_sees 1 = .ok (.iload_n 2, 1) := by decide +kernel
theorem dX10_sees_2 : decode cX10_sees 2 = .ok (.iconst 1, 1) := by decide +kernel
theorem dX10_sees_3 : decode cX10_sees 3 = .ok (.ishl, 1) := by decide +kernel
theorem dX10_sees_4 : decode cX10_sees 4 = .ok (.ior, 1) := by decide +kernel
theorem dX10_sees_5 : decode cX10_sees 5 = .ok (.iload_n 2, 1) := by decide +kernel
theorem dX10_sees_6 : decode cX10_sees 6 = .ok (.iconst 1, 1) := by decide +kernel
theorem dX10_sees_7 : decode cX10_sees 7 = .ok (.ishr, 1) := by decide +kernel
theorem dX10_sees_8 : decode cX10_sees 8 = .ok (.ior, 1) := by decide +kernel
theorem dX10_sees_9 : decode cX10_sees 9 = .ok (.aload_n 1, 1) := by decide +kernel
theorem dX10_sees_10 : decode cX10_sees 10 = .ok (.invokevirtual 7, 3) := by decide +kernel
theorem dX10_sees_13 : decode cX10_sees 13 = .ok (.iand, 1) := by decide +kernel
theorem dX10_sees_14 : decode cX10_sees 14 = .ok (.aload_n 1, 1) := by decide +kernel
theorem dX10_sees_15 : decode cX10_sees 15 = .ok (.getfield 13, 3) := by decide +kernel
theorem dX10_sees_18 : decode cX10_sees 18 = .ok (.iconst (-1), 1) := by decide +kernel
theorem dX10_sees_19 : decode cX10_sees 19 = .ok (.ixor, 1) := by decide +kernel
theorem dX10_sees_20 : decode cX10_sees 20 = .ok (.iand, 1) := by decide +kernel
theorem dX10_sees_21 : decode cX10_sees 21 = .ok (.ireturn, 1) := by decide +kernel
theorem dX10_size_0 : decode cX10_size 0 = .ok (.aload_n 1, 1) := by decide +kernel
theorem dX10_size_1 : decode cX10_size 1 = .ok (.bipush 12, 2) := by decide +kernel
theorem dX10_size_3 : decode cX10_size 3 = .ok (.invokevirtual 17, 3) := by decide +kernel
theorem dX10_size_6 : decode cX10_size 6 = .ok (.iconst 0, 1) := by decide +kernel
theorem dX10_size_7 : decode cX10_size 7 = .ok (.aload_n 0, 1) := by decide +kernel
theorem dX10_size_8 : decode cX10_size 8 = .ok (.aload_n 1, 1) := by decide +kernel
theorem dX10_size_9 : decode cX10_size 9 = .ok (.invokespecial 23, 3) := by decide +kernel
theorem dX10_size_12 : decode cX10_size 12 = .ok (.isub, 1) := by decide +kernel
theorem dX10_size_13 : decode cX10_size 13 = .ok (.ireturn, 1) := by decide +kernel
theorem dX10_mark_0 : decode cX10_mark 0 = .ok (.aload_n 1, 1) := by decide +kernel
theorem dX10_mark_1 : decode cX10_mark 1 = .ok (.bipush 24, 2) := by decide +kernel
theorem dX10_mark_3 : decode cX10_mark 3 = .ok (.invokevirtual 17, 3) := by decide +kernel
theorem dX10_mark_6 : decode cX10_mark 6 = .ok (.aload_n 0, 1) := by decide +kernel
theorem dX10_mark_7 : decode cX10_mark 7 = .ok (.aload_n 1, 1) := by decide +kernel
theorem dX10_mark_8 : decode cX10_mark 8 = .ok (.invokespecial 27, 3) := by decide +kernel
theorem dX10_mark_11 : decode cX10_mark 11 = .ok (.iconst 2, 1) := by decide +kernel
theorem dX10_mark_12 : decode cX10_mark 12 = .ok (.imul, 1) := by decide +kernel
theorem dX10_mark_13 : decode cX10_mark 13 = .ok (.ireturn, 1) := by decide +kernel
theorem dX11_init_0 : decode cX11_init 0 = .ok (.aload_n 0, 1) := by decide +kernel
theorem dX11_init_1 : decode cX11_init 1 = .ok (.invokespecial 1, 3) := by decide +kernel
theorem dX11_init_4 : decode cX11_init 4 = .ok (.aload_n 0, 1) := by decide +kernel
theorem dX11_init_5 : decode cX11_init 5 = .ok (.bipush 8, 2) := by decide +kernel
theorem dX11_init_7 : decode cX11_init 7 = .ok (.anewarray 9, 3) := by decide +kernel
theorem dX11_init_10 : decode cX11_init 10 = .ok (.putfield 11, 3) := by decide +kernel
theorem dX11_init_13 : decode cX11_init 13 = .ok (.iconst 0, 1) := by decide +kernel
theorem dX11_init_14 : decode cX11_init 14 = .ok (.istore_n 1, 1) := by decide +kernel
theorem dX11_init_15 : decode cX11_init 15 = .ok (.iload_n 1, 1) := by decide +kernel
theorem dX11_init_16 : decode cX11_init 16 = .ok (.bipush 8, 2) := by decide +kernel
theorem dX11_init_18 : decode cX11_init 18 = .ok (.if_icmp .ge 22, 3) := by decide +kernel
theorem dX11_init_21 : decode cX11_init 21 = .ok (.aload_n 0, 1) := by decide +kernel
theorem dX11_init_22 : decode cX11_init 22 = .ok (.getfield 11, 3) := by decide +kernel
theorem dX11_init_25 : decode cX11_init 25 = .ok (.iload_n 1, 1) := by decide +kernel
theorem dX11_init_26 : decode cX11_init 26 = .ok (.new 9, 3) := by decide +kernel
theorem dX11_init_29 : decode cX11_init 29 = .ok (.dup, 1) := by decide +kernel
theorem dX11_init_30 : decode cX11_init 30 = .ok (.invokespecial 15, 3) := by decide +kernel
theorem dX11_init_33 : decode cX11_init 33 = .ok (.aastore, 1) := by decide +kernel
theorem dX11_init_34 : decode cX11_init 34 = .ok (.iinc 1 1, 3) := by decide +kernel
theorem dX11_init_37 : decode cX11_init 37 = .ok (.goto (-22), 3) := by decide +kernel
theorem dX11_init_40 : decode cX11_init 40 = .ok (.aload_n 0, 1) := by decide +kernel
theorem dX11_init_41 : decode cX11_init 41 = .ok (.bipush 6, 2) := by decide +kernel
theorem dX11_init_43 : decode cX11_init 43 = .ok (.anewarray 16, 3) := by decide +kernel
theorem dX11_init_46 : decode cX11_init 46 = .ok (.putfield 18, 3) := by decide +kernel
theorem dX11_init_49 : decode cX11_init 49 = .ok (.aload_n 0, 1) := by decide +kernel
theorem dX11_init_50 : decode cX11_init 50 = .ok (.getfield 18, 3) := by decide +kernel
theorem dX11_init_53 : decode cX11_init 53 = .ok (.iconst 1, 1) := by decide +kernel
theorem dX11_init_54 : decode cX11_init 54 = .ok (.new 22, 3) := by decide +kernel
theorem dX11_init_57 : decode cX11_init 57 = .ok (.dup, 1) := by decide +kernel
theorem dX11_init_58 : decode cX11_init 58 = .ok (.invokespecial 24, 3) := by decide +kernel
theorem dX11_init_61 : decode cX11_init 61 = .ok (.aastore, 1) := by decide +kernel
theorem dX11_init_62 : decode cX11_init 62 = .ok (.aload_n 0, 1) := by decide +kernel
theorem dX11_init_63 : decode cX11_init 63 = .ok (.getfield 18, 3) := by decide +kernel
theorem dX11_init_66 : decode cX11_init 66 = .ok (.iconst 2, 1) := by decide +kernel
theorem dX11_init_67 : decode cX11_init 67 = .ok (.new 25, 3) := by decide +kernel
theorem dX11_init_70 : decode cX11_init 70 = .ok (.dup, 1) := by decide +kernel
theorem dX11_init_71 : decode cX11_init 71 = .ok (.invokespecial 27, 3) := by decide +kernel
theorem dX11_init_74 : decode cX11_init 74 = .ok (.aastore, 1) := by decide +kernel
theorem dX11_init_75 : decode cX11_init 75 = .ok (.aload_n 0, 1) := by decide +kernel
theorem dX11_init_76 : decode cX11_init 76 = .ok (.getfield 18, 3) := by decide +kernel
theorem dX11_init_79 : decode cX11_init 79 = .ok (.iconst 3, 1) := by decide +kernel
theorem dX11_init_80 : decode cX11_init 80 = .ok (.new 28, 3) := by decide +kernel
theorem dX11_init_83 : decode cX11_init 83 = .ok (.dup, 1) := by decide +kernel
theorem dX11_init_84 : decode cX11_init 84 = .ok (.invokespecial 30, 3) := by decide +kernel
theorem dX11_init_87 : decode cX11_init 87 = .ok (.aastore, 1) := by decide +kernel
theorem dX11_init_88 : decode cX11_init 88 = .ok (.aload_n 0, 1) := by decide +kernel
theorem dX11_init_89 : decode cX11_init 89 = .ok (.getfield 18, 3) := by decide +kernel
theorem dX11_init_92 : decode cX11_init 92 = .ok (.iconst 4, 1) := by decide +kernel
theorem dX11_init_93 : decode cX11_init 93 = .ok (.new 31, 3) := by decide +kernel
theorem dX11_init_96 : decode cX11_init 96 = .ok (.dup, 1) := by decide +kernel
theorem dX11_init_97 : decode cX11_init 97 = .ok (.invokespecial 33, 3) := by decide +kernel
theorem dX11_init_100 : decode cX11_init 100 = .ok (.aastore, 1) := by decide +kernel
theorem dX11_init_101 : decode cX11_init 101 = .ok (.aload_n 0, 1) := by decide +kernel
theorem dX11_init_102 : decode cX11_init 102 = .ok (.getfield 18, 3) := by decide +kernel
theorem dX11_init_105 : decode cX11_init 105 = .ok (.iconst 5, 1) := by decide +kernel
theorem dX11_init_106 : decode cX11_init 106 = .ok (.new 34, 3) := by decide +kernel
theorem dX11_init_109 : decode cX11_init 109 = .ok (.dup, 1) := by decide +kernel
theorem dX11_init_110 : decode cX11_init 110 = .ok (.invokespecial 36, 3) := by decide +kernel
theorem dX11_init_113 : decode cX11_init 113 = .ok (.aastore, 1) := by decide +kernel
theorem dX11_init_114 : decode cX11_init 114 = .ok (.aload_n 0, 1) := by decide +kernel
theorem dX11_init_115 : decode cX11_init 115 = .ok (.new 37, 3) := by decide +kernel
theorem dX11_init_118 : decode cX11_init 118 = .ok (.dup, 1) := by decide +kernel
theorem dX11_init_119 : decode cX11_init 119 = .ok (.invokespecial 39, 3) := by decide +kernel
theorem dX11_init_122 : decode cX11_init 122 = .ok (.putfield 40, 3) := by decide +kernel
theorem dX11_init_125 : decode cX11_init 125 = .ok (.aload_n 0, 1) := by decide +kernel
theorem dX11_init_126 : decode cX11_init 126 = .ok (.new 44, 3) := by decide +kernel
theorem dX11_init_129 : decode cX11_init 129 = .ok (.dup, 1) := by decide +kernel
theorem dX11_init_130 : decode cX11_init 130 = .ok (.aload_n 0, 1) := by decide +kernel
theorem dX11_init_131 : decode cX11_init 131 = .ok (.getfield 18, 3) := by decide +kernel
theorem dX11_init_134 : decode cX11_init 134 = .ok (.invokespecial 46, 3) := by decide +kernel
theorem dX11_init_137 : decode cX11_init 137 = .ok (.putfield 49, 3) := by decide +kernel
theorem dX11_init_140 : decode cX11_init 140 = .ok (.aload_n 0, 1) := by decide +kernel
theorem dX11_init_141 : decode cX11_init 141 = .ok (.new 44, 3) := by decide +kernel
theorem dX11_init_144 : decode cX11_init 144 = .ok (.dup, 1) := by decide +kernel
theorem dX11_init_145 : decode cX11_init 145 = .ok (.aload_n 0, 1) := by decide +kernel
theorem dX11_init_146 : decode cX11_init 146 = .ok (.getfield 18, 3) := by decide +kernel
theorem dX11_init_149 : decode cX11_init 149 = .ok (.invokespecial 46, 3) := by decide +kernel
theorem dX11_init_152 : decode cX11_init 152 = .ok (.putfield 53, 3) := by decide +kernel
theorem dX11_init_155 : decode cX11_init 155 = .ok (.aload_n 0, 1) := by decide +kernel
theorem dX11_init_156 : decode cX11_init 156 = .ok (.iconst 2, 1) := by decide +kernel
theorem dX11_init_157 : decode cX11_init 157 = .ok (.anewarray 44, 3) := by decide +kernel
theorem dX11_init_160 : decode cX11_init 160 = .ok (.putfield 56, 3) := by decide +kernel
theorem dX11_init_163 : decode cX11_init 163 = .ok (.iconst 0, 1) := by decide +kernel
theorem dX11_init_164 : decode cX11_init 164 = .ok (.istore_n 1, 1) := by decide +kernel
theorem dX11_init_165 : decode cX11_init 165 = .ok (.iload_n 1, 1) := by decide +kernel
theorem dX11_init_166 : decode cX11_init 166 = .ok (.iconst 2, 1) := by decide +kernel
theorem dX11_init_167 : decode cX11_init 167 = .ok (.if_icmp .ge 26, 3) := by decide +kernel
theorem dX11_init_170 : decode cX11_init 170 = .ok (.aload_n 0, 1) := by decide +kernel
theorem dX11_init_171 : decode cX11_init 171 = .ok (.getfield 56, 3) := by decide +kernel
theorem dX11_init_174 : decode cX11_init 174 = .ok (.iload_n 1, 1) := by decide +kernel
theorem dX11_init_175 : decode cX11_init 175 = .ok (.new 44, 3) := by decide +kernel
theorem dX11_init_178 : decode cX11_init 178 = .ok (.dup, 1) := by decide +kernel
theorem dX11_init_179 : decode cX11_init 179 = .ok (.aload_n 0, 1) := by decide +kernel
theorem dX11_init_180 : decode cX11_init 180 = .ok (.getfield 18, 3) := by decide +kernel
theorem dX11_init_183 : decode cX11_init 183 = .ok (.invokespecial 46, 3) := by decide +kernel
theorem dX11_init_186 : decode cX11_init 186 = .ok (.aastore, 1) := by decide +kernel
theorem dX11_init_187 : decode cX11_init 187 = .ok (.iinc 1 1, 3) := by decide +kernel
theorem dX11_init_190 : decode cX11_init 190 = .ok (.goto (-25), 3) := by decide +kernel
theorem dX11_init_193 : decode cX11_init 193 = .ok (.aload_n 0, 1) := by decide +kernel
theorem dX11_init_194 : decode cX11_init 194 = .ok (.new 60, 3) := by decide +kernel
theorem dX11_init_197 : decode cX11_init 197 = .ok (.dup, 1) := by decide +kernel
theorem dX11_init_198 : decode cX11_init 198 = .ok (.aload_n 0, 1) := by decide +kernel
theorem dX11_init_199 : decode cX11_init 199 = .ok (.getfield 49, 3) := by decide +kernel
theorem dX11_init_202 : decode cX11_init 202 = .ok (.aload_n 0, 1) := by decide +kernel
theorem dX11_init_203 : decode cX11_init 203 = .ok (.getfield 18, 3) := by decide +kernel
theorem dX11_init_206 : decode cX11_init 206 = .ok (.invokespecial 62, 3) := by decide +kernel
theorem dX11_init_209 : decode cX11_init 209 = .ok (.putfield 65, 3) := by decide +kernel
theorem dX11_init_212 : decode cX11_init 212 = .ok (.aload_n 0, 1) := by decide +kernel
theorem dX11_init_213 : decode cX11_init 213 = .ok (.new 69, 3) := by decide +kernel
theorem dX11_init_216 : decode cX11_init 216 = .ok (.dup, 1) := by decide +kernel
theorem dX11_init_217 : decode cX11_init 217 = .ok (.invokespecial 71, 3) := by decide +kernel
theorem dX11_init_220 : decode cX11_init 220 = .ok (.putfield 72, 3) := by decide +kernel
theorem dX11_init_223 : decode cX11_init 223 = .ok (.aload_n 0, 1) := by decide +kernel
theorem dX11_init_224 : decode cX11_init 224 = .ok (.bipush 24, 2) := by decide +kernel
theorem dX11_init_226 : decode cX11_init 226 = .ok (.bipush 22, 2) := by decide +kernel
theorem dX11_init_228 : decode cX11_init 228 = .ok (.multianewarray 76 2, 4) := by decide +kernel
theorem dX11_init_232 : decode cX11_init 232 = .ok (.putfield 78, 3) := by decide +kernel
theorem dX11_init_235 : decode cX11_init 235 = .ok (.return_, 1) := by decide +kernel
theorem dX11_row_0 : decode cX11_row 0 = .ok (.aload_n 0, 1) := by decide +kernel
theorem dX11_row_1 : decode cX11_row 1 = .ok (.iload_n 1, 1) := by decide +kernel
theorem dX11_row_2 : decode cX11_row 2 = .ok (.invokevirtual 81, 3) := by decide +kernel
theorem dX11_row_5 : decode cX11_row 5 = .ok (.astore 4, 2) := by decide +kernel
theorem dX11_row_7 : decode cX11_row 7 = .ok (.aload 4, 2) := by decide +kernel
theorem dX11_row_9 : decode cX11_row 9 = .ok (.ifnull 18, 3) := by decide +kernel
theorem dX11_row_12 : decode cX11_row 12 = .ok (.iload_n 2, 1) := by decide +kernel
theorem dX11_row_13 : decode cX11_row 13 = .ok (.ifCond .lt 14, 3) := by decide +kernel
theorem dX11_row_16 : decode cX11_row 16 = .ok (.iload_n 2, 1) := by decide +kernel
theorem dX11_row_17 : decode cX11_row 17 = .ok (.iconst 3, 1) := by decide +kernel
theorem dX11_row_18 : decode cX11_row 18 = .ok (.if_icmp .ge 9, 3) := by decide +kernel
theorem dX11_row_21 : decode cX11_row 21 = .ok (.iload_n 3, 1) := by decide +kernel
theorem dX11_row_22 : decode cX11_row 22 = .ok (.bipush 40, 2) := by decide +kernel
theorem dX11_row_24 : decode cX11_row 24 = .ok (.if_icmp .le 6, 3) := by decide +kernel
theorem dX11_row_27 : decode cX11_row 27 = .ok (.ldc 85, 2) := by decide +kernel
theorem dX11_row_29 : decode cX11_row 29 = .ok (.ireturn, 1) := by decide +kernel
theorem dX11_row_30 : decode cX11_row 30 = .ok (.iload_n 3, 1) := by decide +kernel
theorem dX11_row_31 : decode cX11_row 31 = .ok (.ifCond .ge 9, 3) := by decide +kernel
theorem dX11_row_34 : decode cX11_row 34 = .ok (.aload_n 0, 1) := by decide +kernel
theorem dX11_row_35 : decode cX11_row 35 = .ok (.iconst 4, 1) := by decide +kernel
theorem dX11_row_36 : decode cX11_row 36 = .ok (.invokevirtual 86, 3) := by decide +kernel
theorem dX11_row_39 : decode cX11_row 39 = .ok (.ireturn, 1) := by decide +kernel
theorem dX11_row_40 : decode cX11_row 40 = .ok (.aload 4, 2) := by decide +kernel
theorem dX11_row_42 : decode cX11_row 42 = .ok (.iload_n 2, 1) := by decide +kernel
theorem dX11_row_43 : decode cX11_row 43 = .ok (.iload_n 3, 1) := by decide +kernel
theorem dX11_row_44 : decode cX11_row 44 = .ok (.invokevirtual 90, 3) := by decide +kernel
theorem dX11_row_47 : decode cX11_row 47 = .ok (.aload_n 0, 1) := by decide +kernel
theorem dX11_row_48 : decode cX11_row 48 = .ok (.iload_n 3, 1) := by decide +kernel
theorem dX11_row_49 : decode cX11_row 49 = .ok (.invokevirtual 94, 3) := by decide +kernel
theorem dX11_row_52 : decode cX11_row 52 = .ok (.ireturn, 1) := by decide +kernel
theorem dX11_set_0 : decode cX11_set 0 = .ok (.aload_n 0, 1) := by decide +kernel
theorem dX11_set_1 : decode cX11_set 1 = .ok (.iload_n 1, 1) := by decide +kernel
theorem dX11_set_2 : decode cX11_set 2 = .ok (.invokevirtual 81, 3) := by decide +kernel
theorem dX11_set_5 : decode cX11_set 5 = .ok (.astore 4, 2) := by decide +kernel
theorem dX11_set_7 : decode cX11_set 7 = .ok (.aload 4, 2) := by decide +kernel
theorem dX11_set_9 : decode cX11_set 9 = .ok (.ifnonnull 6, 3) := by decide +kernel
theorem dX11_set_12 : decode cX11_set 12 = .ok (.ldc 85, 2) := by decide +kernel
theorem dX11_set_14 : decode cX11_set 14 = .ok (.ireturn, 1) := by decide +kernel
theorem dX11_set_15 : decode cX11_set 15 = .ok (.aload 4, 2) := by decide +kernel
theorem dX11_set_17 : decode cX11_set 17 = .ok (.invokevirtual 97, 3) := by decide +kernel
theorem dX11_set_20 : decode cX11_set 20 = .ok (.ifCond .eq 9, 3) := by decide +kernel
theorem dX11_set_23 : decode cX11_set 23 = .ok (.aload_n 0, 1) := by decide +kernel
theorem dX11_set_24 : decode cX11_set 24 = .ok (.iconst 1, 1) := by decide +kernel
theorem dX11_set_25 : decode cX11_set 25 = .ok (.invokevirtual 86, 3) := by decide +kernel
theorem dX11_set_28 : decode cX11_set 28 = .ok (.ireturn, 1) := by decide +kernel
theorem dX11_set_29 : decode cX11_set 29 = .ok (.aload 4, 2) := by decide +kernel
theorem dX11_set_31 : decode cX11_set 31 = .ok (.iload_n 2, 1) := by decide +kernel
theorem dX11_set_32 : decode cX11_set 32 = .ok (.iconst 1, 1) := by decide +kernel
theorem dX11_set_33 : decode cX11_set 33 = .ok (.invokevirtual 101, 3) := by decide +kernel
theorem dX11_set_36 : decode cX11_set 36 = .ok (.ifCond .ne 9, 3) := by decide +kernel
theorem dX11_set_39 : decode cX11_set 39 = .ok (.aload_n 0, 1) := by decide +kernel
theorem dX11_set_40 : decode cX11_set 40 = .ok (.iconst 2, 1) := by decide +kernel
theorem dX11_set_41 : decode cX11_set 41 = .ok (.invokevirtual 86, 3) := by decide +kernel
theorem dX11_set_44 : decode cX11_set 44 = .ok (.ireturn, 1) := by decide +kernel
theorem dX11_set_45 : decode cX11_set 45 = .ok (.aload_n 0, 1) := by decide +kernel
theorem dX11_set_46 : decode cX11_set 46 = .ok (.aload 4, 2) := by decide +kernel
theorem dX11_set_48 : decode cX11_set 48 = .ok (.iload_n 2, 1) := by decide +kernel
theorem dX11_set_49 : decode cX11_set 49 = .ok (.iload_n 3, 1) := by decide +kernel
theorem dX11_set_50 : decode cX11_set 50 = .ok (.invokevirtual 105, 3) := by decide +kernel
theorem dX11_set_53 : decode cX11_set 53 = .ok (.invokevirtual 94, 3) := by decide +kernel
theorem dX11_set_56 : decode cX11_set 56 = .ok (.ireturn, 1) := by decide +kernel
theorem dX11_copy_0 : decode cX11_copy 0 = .ok (.aload_n 0, 1) := by decide +kernel
theorem dX11_copy_1 : decode cX11_copy 1 = .ok (.iload_n 1, 1) := by decide +kernel
theorem dX11_copy_2 : decode cX11_copy 2 = .ok (.invokevirtual 81, 3) := by decide +kernel
theorem dX11_copy_5 : decode cX11_copy 5 = .ok (.astore 6, 2) := by decide +kernel
theorem dX11_copy_7 : decode cX11_copy 7 = .ok (.aload_n 0, 1) := by decide +kernel
theorem dX11_copy_8 : decode cX11_copy 8 = .ok (.iload_n 3, 1) := by decide +kernel
theorem dX11_copy_9 : decode cX11_copy 9 = .ok (.invokevirtual 81, 3) := by decide +kernel
theorem dX11_copy_12 : decode cX11_copy 12 = .ok (.astore 7, 2) := by decide +kernel
theorem dX11_copy_14 : decode cX11_copy 14 = .ok (.aload 6, 2) := by decide +kernel
theorem dX11_copy_16 : decode cX11_copy 16 = .ok (.ifnull 8, 3) := by decide +kernel
theorem dX11_copy_19 : decode cX11_copy 19 = .ok (.aload 7, 2) := by decide +kernel
theorem dX11_copy_21 : decode cX11_copy 21 = .ok (.ifnonnull 6, 3) := by decide +kernel
theorem dX11_copy_24 : decode cX11_copy 24 = .ok (.ldc 85, 2) := by decide +kernel
theorem dX11_copy_26 : decode cX11_copy 26 = .ok (.ireturn, 1) := by decide +kernel
theorem dX11_copy_27 : decode cX11_copy 27 = .ok (.aload 6, 2) := by decide +kernel
theorem dX11_copy_29 : decode cX11_copy 29 = .ok (.invokevirtual 97, 3) := by decide +kernel
theorem dX11_copy_32 : decode cX11_copy 32 = .ok (.ifCond .ne 11, 3) := by decide +kernel
theorem dX11_copy_35 : decode cX11_copy 35 = .ok (.aload 7, 2) := by decide +kernel
theorem dX11_copy_37 : decode cX11_copy 37 = .ok (.invokevirtual 97, 3) := by decide +kernel
theorem dX11_copy_40 : decode cX11_copy 40 = .ok (.ifCond .eq 9, 3) := by decide +kernel
theorem dX11_copy_43 : decode cX11_copy 43 = .ok (.aload_n 0, 1) := by decide +kernel
theorem dX11_copy_44 : decode cX11_copy 44 = .ok (.iconst 1, 1) := by decide +kernel
theorem dX11_copy_45 : decode cX11_copy 45 = .ok (.invokevirtual 86, 3) := by decide +kernel
theorem dX11_copy_48 : decode cX11_copy 48 = .ok (.ireturn, 1) := by decide +kernel
theorem dX11_copy_49 : decode cX11_copy 49 = .ok (.aload 6, 2) := by decide +kernel
theorem dX11_copy_51 : decode cX11_copy 51 = .ok (.getfield 109, 3) := by decide +kernel
theorem dX11_copy_54 : decode cX11_copy 54 = .ok (.aload 7, 2) := by decide +kernel
theorem dX11_copy_56 : decode cX11_copy 56 = .ok (.getfield 109, 3) := by decide +kernel
theorem dX11_copy_59 : decode cX11_copy 59 = .ok (.if_icmp .eq 9, 3) := by decide +kernel
theorem dX11_copy_62 : decode cX11_copy 62 = .ok (.aload_n 0, 1) := by decide +kernel
theorem dX11_copy_63 : decode cX11_copy 63 = .ok (.iconst 5, 1) := by decide +kernel
theorem dX11_copy_64 : decode cX11_copy 64 = .ok (.invokevirtual 86, 3) := by decide +kernel
theorem dX11_copy_67 : decode cX11_copy 67 = .ok (.ireturn, 1) := by decide +kernel
theorem dX11_copy_68 : decode cX11_copy 68 = .ok (.aload 6, 2) := by decide +kernel
theorem dX11_copy_70 : decode cX11_copy 70 = .ok (.iload_n 2, 1) := by decide +kernel
theorem dX11_copy_71 : decode cX11_copy 71 = .ok (.iload 5, 2) := by decide +kernel
theorem dX11_copy_73 : decode cX11_copy 73 = .ok (.invokevirtual 101, 3) := by decide +kernel
theorem dX11_copy_76 : decode cX11_copy 76 = .ok (.ifCond .eq 15, 3) := by decide +kernel
theorem dX11_copy_79 : decode cX11_copy 79 = .ok (.aload 7, 2) := by decide +kernel
theorem dX11_copy_81 : decode cX11_copy 81 = .ok (.iload 4, 2) := by decide +kernel
theorem dX11_copy_83 : decode cX11_copy 83 = .ok (.iload 5, 2) := by decide +kernel
theorem dX11_copy_85 : decode cX11_copy 85 = .ok (.invokevirtual 101, 3) := by decide +kernel
theorem dX11_copy_88 : decode cX11_copy 88 = .ok (.ifCond .ne 9, 3) := by decide +kernel
theorem dX11_copy_91 : decode cX11_copy 91 = .ok (.aload_n 0, 1) := by decide +kernel
theorem dX11_copy_92 : decode cX11_copy 92 = .ok (.iconst 2, 1) := by decide +kernel
theorem dX11_copy_93 : decode cX11_copy 93 = .ok (.invokevirtual 86, 3) := by decide +kernel
theorem dX11_copy_96 : decode cX11_copy 96 = .ok (.ireturn, 1) := by decide +kernel
theorem dX11_copy_97 : decode cX11_copy 97 = .ok (.aload 6, 2) := by decide +kernel
theorem dX11_copy_99 : decode cX11_copy 99 = .ok (.getfield 113, 3) := by decide +kernel
theorem dX11_copy_102 : decode cX11_copy 102 = .ok (.iload_n 2, 1) := by decide +kernel
theorem dX11_copy_103 : decode cX11_copy 103 = .ok (.aload 7, 2) := by decide +kernel
theorem dX11_copy_105 : decode cX11_copy 105 = .ok (.getfield 113, 3) := by decide +kernel
theorem dX11_copy_108 : decode cX11_copy 108 = .ok (.iload 4, 2) := by decide +kernel
theorem dX11_copy_110 : decode cX11_copy 110 = .ok (.iload 5, 2) := by decide +kernel
theorem dX11_copy_112 : decode cX11_copy 112 = .ok (.invokestatic 117, 3) := by decide +kernel
theorem dX11_copy_115 : decode cX11_copy 115 = .ok (.aload_n 0, 1) := by decide +kernel
theorem dX11_copy_116 : decode cX11_copy 116 = .ok (.iload 5, 2) := by decide +kernel
theorem dX11_copy_118 : decode cX11_copy 118 = .ok (.invokevirtual 94, 3) := by decide +kernel
theorem dX11_copy_121 : decode cX11_copy 121 = .ok (.ireturn, 1) := by decide +kernel
theorem dX11_drop_0 : decode cX11_drop 0 = .ok (.aload_n 0, 1) := by decide +kernel
theorem dX11_drop_1 : decode cX11_drop 1 = .ok (.iload_n 1, 1) := by decide +kernel
theorem dX11_drop_2 : decode cX11_drop 2 = .ok (.invokevirtual 81, 3) := by decide +kernel
theorem dX11_drop_5 : decode cX11_drop 5 = .ok (.astore_n 2, 1) := by decide +kernel
theorem dX11_drop_6 : decode cX11_drop 6 = .ok (.aload_n 2, 1) := by decide +kernel
theorem dX11_drop_7 : decode cX11_drop 7 = .ok (.ifnonnull 6, 3) := by decide +kernel
theorem dX11_drop_10 : decode cX11_drop 10 = .ok (.ldc 85, 2) := by decide +kernel
theorem dX11_drop_12 : decode cX11_drop 12 = .ok (.ireturn, 1) := by decide +kernel
theorem dX11_drop_13 : decode cX11_drop 13 = .ok (.aload_n 2, 1) := by decide +kernel
theorem dX11_drop_14 : decode cX11_drop 14 = .ok (.invokevirtual 97, 3) := by decide +kernel
theorem dX11_drop_17 : decode cX11_drop 17 = .ok (.ifCond .eq 9, 3) := by decide +kernel
theorem dX11_drop_20 : decode cX11_drop 20 = .ok (.aload_n 0, 1) := by decide +kernel
theorem dX11_drop_21 : decode cX11_drop 21 = .ok (.iconst 1, 1) := by decide +kernel
theorem dX11_drop_22 : decode cX11_drop 22 = .ok (.invokevirtual 86, 3) := by decide +kernel
theorem dX11_drop_25 : decode cX11_drop 25 = .ok (.ireturn, 1) := by decide +kernel
theorem dX11_drop_26 : decode cX11_drop 26 = .ok (.aload_n 2, 1) := by decide +kernel
theorem dX11_drop_27 : decode cX11_drop 27 = .ok (.getfield 123, 3) := by decide +kernel
theorem dX11_drop_30 : decode cX11_drop 30 = .ok (.istore_n 3, 1) := by decide +kernel
theorem dX11_drop_31 : decode cX11_drop 31 = .ok (.aload_n 2, 1) := by decide +kernel
theorem dX11_drop_32 : decode cX11_drop 32 = .ok (.invokevirtual 126, 3) := by decide +kernel
theorem dX11_drop_35 : decode cX11_drop 35 = .ok (.aload_n 0, 1) := by decide +kernel
theorem dX11_drop_36 : decode cX11_drop 36 = .ok (.iload_n 3, 1) := by decide +kernel
theorem dX11_drop_37 : decode cX11_drop 37 = .ok (.invokevirtual 94, 3) := by decide +kernel
theorem dX11_drop_40 : decode cX11_drop 40 = .ok (.ireturn, 1) := by decide +kernel
theorem dX11_feed_0 : decode cX11_feed 0 = .ok (.iload_n 1, 1) := by decide +kernel
theorem dX11_feed_1 : decode cX11_feed 1 = .ok (.ifCond .lt 10, 3) := by decide +kernel
theorem dX11_feed_4 : decode cX11_feed 4 = .ok (.iload_n 1, 1) := by decide +kernel
theorem dX11_feed_5 : decode cX11_feed 5 = .ok (.sipush 255, 3) := by decide +kernel
theorem dX11_feed_8 : decode cX11_feed 8 = .ok (.if_icmp .le 6, 3) := by decide +kernel
theorem dX11_feed_11 : decode cX11_feed 11 = .ok (.ldc 85, 2) := by decide +kernel
theorem dX11_feed_13 : decode cX11_feed 13 = .ok (.ireturn, 1) := by decide +kernel
theorem dX11_feed_14 : decode cX11_feed 14 = .ok (.aload_n 0, 1) := by decide +kernel
theorem dX11_feed_15 : decode cX11_feed 15 = .ok (.getfield 40, 3) := by decide +kernel
theorem dX11_feed_18 : decode cX11_feed 18 = .ok (.iload_n 1, 1) := by decide +kernel
theorem dX11_feed_19 : decode cX11_feed 19 = .ok (.invokevirtual 129, 3) := by decide +kernel
theorem dX11_feed_22 : decode cX11_feed 22 = .ok (.ifCond .eq 13, 3) := by decide +kernel
theorem dX11_feed_25 : decode cX11_feed 25 = .ok (.aload_n 0, 1) := by decide +kernel
theorem dX11_feed_26 : decode cX11_feed 26 = .ok (.getfield 40, 3) := by decide +kernel
theorem dX11_feed_29 : decode cX11_feed 29 = .ok (.getfield 133, 3) := by decide +kernel
theorem dX11_feed_32 : decode cX11_feed 32 = .ok (.goto 5, 3) := by decide +kernel
theorem dX11_feed_35 : decode cX11_feed 35 = .ok (.ldc 136, 2) := by decide +kernel
theorem dX11_feed_37 : decode cX11_feed 37 = .ok (.ireturn, 1) := by decide +kernel
theorem dX11_paper_0 : decode cX11_paper 0 = .ok (.aload_n 0, 1) := by decide +kernel
theorem dX11_paper_1 : decode cX11_paper 1 = .ok (.getfield 40, 3) := by decide +kernel
theorem dX11_paper_4 : decode cX11_paper 4 = .ok (.aload_n 0, 1) := by decide +kernel
theorem dX11_paper_5 : decode cX11_paper 5 = .ok (.getfield 53, 3) := by decide +kernel
theorem dX11_paper_8 : decode cX11_paper 8 = .ok (.invokevirtual 137, 3) := by decide +kernel
theorem dX11_paper_11 : decode cX11_paper 11 = .ok (.istore_n 1, 1) := by decide +kernel
theorem dX11_paper_12 : decode cX11_paper 12 = .ok (.aload_n 0, 1) := by decide +kernel
theorem dX11_paper_13 : decode cX11_paper 13 = .ok (.getfield 40, 3) := by decide +kernel
theorem dX11_paper_16 : decode cX11_paper 16 = .ok (.iconst 0, 1) := by decide +kernel
theorem dX11_paper_17 : decode cX11_paper 17 = .ok (.putfield 133, 3) := by decide +kernel
theorem dX11_paper_20 : decode cX11_paper 20 = .ok (.iload_n 1, 1) := by decide +kernel
theorem dX11_paper_21 : decode cX11_paper 21 = .ok (.ifCond .ne 25, 3) := by decide +kernel
theorem dX11_paper_24 : decode cX11_paper 24 = .ok (.aload_n 0, 1) := by decide +kernel
theorem dX11_paper_25 : decode cX11_paper 25 = .ok (.aload_n 0, 1) := by decide +kernel
theorem dX11_paper_26 : decode cX11_paper 26 = .ok (.getfield 40, 3) := by decide +kernel
theorem dX11_paper_29 : decode cX11_paper 29 = .ok (.getfield 141, 3) := by decide +kernel
theorem dX11_paper_32 : decode cX11_paper 32 = .ok (.putfield 144, 3) := by decide +kernel
theorem dX11_paper_35 : decode cX11_paper 35 = .ok (.ldc 147, 2) := by decide +kernel
theorem dX11_paper_37 : decode cX11_paper 37 = .ok (.aload_n 0, 1) := by decide +kernel
theorem dX11_paper_38 : decode cX11_paper 38 = .ok (.getfield 40, 3) := by decide +kernel
theorem dX11_paper_41 : decode cX11_paper 41 = .ok (.getfield 148, 3) := by decide +kernel
theorem dX11_paper_44 : decode cX11_paper 44 = .ok (.isub, 1) := by decide +kernel
theorem dX11_paper_45 : decode cX11_paper 45 = .ok (.ireturn, 1) := by decide +kernel
theorem dX11_paper_46 : decode cX11_paper 46 = .ok (.aload_n 0, 1) := by decide +kernel
theorem dX11_paper_47 : decode cX11_paper 47 = .ok (.getfield 49, 3) := by decide +kernel
theorem dX11_paper_50 : decode cX11_paper 50 = .ok (.aload_n 0, 1) := by decide +kernel
theorem dX11_paper_51 : decode cX11_paper 51 = .ok (.getfield 53, 3) := by decide +kernel
theorem dX11_paper_54 : decode cX11_paper 54 = .ok (.invokevirtual 151, 3) := by decide +kernel
theorem dX11_paper_57 : decode cX11_paper 57 = .ok (.aload_n 0, 1) := by decide +kernel
theorem dX11_paper_58 : decode cX11_paper 58 = .ok (.invokevirtual 155, 3) := by decide +kernel
theorem dX11_paper_61 : decode cX11_paper 61 = .ok (.aload_n 0, 1) := by decide +kernel
theorem dX11_paper_62 : decode cX11_paper 62 = .ok (.getfield 49, 3) := by decide +kernel
theorem dX11_paper_65 : decode cX11_paper 65 = .ok (.getfield 158, 3) := by decide +kernel
theorem dX11_paper_68 : decode cX11_paper 68 = .ok (.ireturn, 1) := by decide +kernel
theorem dX11_fault_0 : decode cX11_fault 0 = .ok (.aload_n 0, 1) := by decide +kernel
theorem dX11_fault_1 : decode cX11_fault 1 = .ok (.getfield 144, 3) := by decide +kernel
theorem dX11_fault_4 : decode cX11_fault 4 = .ok (.ireturn, 1) := by decide +kernel
theorem dX11_days_0 : decode cX11_days 0 = .ok (.aload_n 0, 1) := by decide +kernel
theorem dX11_days_1 : decode cX11_days 1 = .ok (.invokevirtual 161, 3) := by decide +kernel
theorem dX11_days_4 : decode cX11_days 4 = .ok (.ifCond .eq 6, 3) := by decide +kernel
theorem dX11_days_7 : decode cX11_days 7 = .ok (.ldc 164, 2) := by decide +kernel
theorem dX11_days_9 : decode cX11_days 9 = .ok (.ireturn, 1) := by decide +kernel
theorem dX11_days_10 : decode cX11_days 10 = .ok (.iload_n 1, 1) := by decide +kernel
theorem dX11_days_11 : decode cX11_days 11 = .ok (.iconst 1, 1) := by decide +kernel
theorem dX11_days_12 : decode cX11_days 12 = .ok (.if_icmp .lt 9, 3) := by decide +kernel
theorem dX11_days_15 : decode cX11_days 15 = .ok (.iload_n 1, 1) := by decide +kernel
theorem dX11_days_16 : decode cX11_days 16 = .ok (.bipush 24, 2) := by decide +kernel
theorem dX11_days_18 : decode cX11_days 18 = .ok (.if_icmp .le 6, 3) := by decide +kernel
theorem dX11_days_21 : decode cX11_days 21 = .ok (.ldc 85, 2) := by decide +kernel
theorem dX11_days_23 : decode cX11_days 23 = .ok (.ireturn, 1) := by decide +kernel
theorem dX11_days_24 : decode cX11_days 24 = .ok (.aload_n 0, 1) := by decide +kernel
theorem dX11_days_25 : decode cX11_days 25 = .ok (.getfield 49, 3) := by decide +kernel
theorem dX11_days_28 : decode cX11_days 28 = .ok (.getfield 165, 3) := by decide +kernel
theorem dX11_days_31 : decode cX11_days 31 = .ok (.iload_n 1, 1) := by decide +kernel
theorem dX11_days_32 : decode cX11_days 32 = .ok (.iadd, 1) := by decide +kernel
theorem dX11_days_33 : decode cX11_days 33 = .ok (.sipush 9999, 3) := by decide +kernel
theorem dX11_days_36 : decode cX11_days 36 = .ok (.if_icmp .le 6, 3) := by decide +kernel
theorem dX11_days_39 : decode cX11_days 39 = .ok (.ldc 136, 2) := by decide +kernel
theorem dX11_days_41 : decode cX11_days 41 = .ok (.ireturn, 1) := by decide +kernel
theorem dX11_days_42 : decode cX11_days 42 = .ok (.iconst 0, 1) := by decide +kernel
theorem dX11_days_43 : decode cX11_days 43 = .ok (.istore_n 2, 1) := by decide +kernel
theorem dX11_days_44 : decode cX11_days 44 = .ok (.iload_n 2, 1) := by decide +kernel
theorem dX11_days_45 : decode cX11_days 45 = .ok (.iload_n 1, 1) := by decide +kernel
theorem dX11_days_46 : decode cX11_days 46 = .ok (.if_icmp .ge 20, 3) := by decide +kernel
theorem dX11_days_49 : decode cX11_days 49 = .ok (.aload_n 0, 1) := by decide +kernel
theorem dX11_days_50 : decode cX11_days 50 = .ok (.invokevirtual 168, 3) := by decide +kernel
theorem dX11_days_53 : decode cX11_days 53 = .ok (.aload_n 0, 1) := by decide +kernel
theorem dX11_days_54 : decode cX11_days 54 = .ok (.getfield 49, 3) := by decide +kernel
theorem dX11_days_57 : decode cX11_days 57 = .ok (.invokevirtual 171, 3) := by decide +kernel
theorem dX11_days_60 : decode cX11_days 60 = .ok (.iinc 2 1, 3) := by decide +kernel
theorem dX11_days_63 : decode cX11_days 63 = .ok (.goto (-19), 3) := by decide +kernel
theorem dX11_days_66 : decode cX11_days 66 = .ok (.aload_n 0, 1) := by decide +kernel
theorem dX11_days_67 : decode cX11_days 67 = .ok (.getfield 49, 3) := by decide +kernel
theorem dX11_days_70 : decode cX11_days 70 = .ok (.invokevirtual 174, 3) := by decide +kernel
theorem dX11_days_73 : decode cX11_days 73 = .ok (.ireturn, 1) := by decide +kernel
theorem dX11_move_0 : decode cX11_move 0 = .ok (.aload_n 0, 1) := by decide +kernel
theorem dX11_move_1 : decode cX11_move 1 = .ok (.getfield 49, 3) := by decide +kernel
theorem dX11_move_4 : decode cX11_move 4 = .ok (.iload_n 1, 1) := by decide +kernel
theorem dX11_move_5 : decode cX11_move 5 = .ok (.invokevirtual 178, 3) := by decide +kernel
theorem dX11_move_8 : decode cX11_move 8 = .ok (.ifCond .eq 10, 3) := by decide +kernel
theorem dX11_move_11 : decode cX11_move 11 = .ok (.iload_n 2, 1) := by decide +kernel
theorem dX11_move_12 : decode cX11_move 12 = .ok (.invokestatic 181, 3) := by decide +kernel
theorem dX11_move_15 : decode cX11_move 15 = .ok (.ifCond .ne 6, 3) := by decide +kernel
theorem dX11_move_18 : decode cX11_move 18 = .ok (.ldc 85, 2) := by decide +kernel
theorem dX11_move_20 : decode cX11_move 20 = .ok (.ireturn, 1) := by decide +kernel
theorem dX11_move_21 : decode cX11_move 21 = .ok (.aload_n 0, 1) := by decide +kernel
theorem dX11_move_22 : decode cX11_move 22 = .ok (.getfield 49, 3) := by decide +kernel
theorem dX11_move_25 : decode cX11_move 25 = .ok (.getfield 184, 3) := by decide +kernel
theorem dX11_move_28 : decode cX11_move 28 = .ok (.iload_n 1, 1) := by decide +kernel
theorem dX11_move_29 : decode cX11_move 29 = .ok (.iaload, 1) := by decide +kernel
theorem dX11_move_30 : decode cX11_move 30 = .ok (.iload_n 2, 1) := by decide +kernel
theorem dX11_move_31 : decode cX11_move 31 = .ok (.iconst 1, 1) := by decide +kernel
theorem dX11_move_32 : decode cX11_move 32 = .ok (.if_icmp .ne 7, 3) := by decide +kernel
theorem dX11_move_35 : decode cX11_move 35 = .ok (.iconst 1, 1) := by decide +kernel
theorem dX11_move_36 : decode cX11_move 36 = .ok (.goto 4, 3) := by decide +kernel
theorem dX11_move_39 : decode cX11_move 39 = .ok (.iconst (-1), 1) := by decide +kernel
theorem dX11_move_40 : decode cX11_move 40 = .ok (.iadd, 1) := by decide +kernel
theorem dX11_move_41 : decode cX11_move 41 = .ok (.istore_n 3, 1) := by decide +kernel
theorem dX11_move_42 : decode cX11_move 42 = .ok (.aload_n 0, 1) := by decide +kernel
theorem dX11_move_43 : decode cX11_move 43 = .ok (.getfield 49, 3) := by decide +kernel
theorem dX11_move_46 : decode cX11_move 46 = .ok (.iload_n 3, 1) := by decide +kernel
theorem dX11_move_47 : decode cX11_move 47 = .ok (.invokevirtual 187, 3) := by decide +kernel
theorem dX11_move_50 : decode cX11_move 50 = .ok (.ifCond .ne 6, 3) := by decide +kernel
theorem dX11_move_53 : decode cX11_move 53 = .ok (.ldc 164, 2) := by decide +kernel
theorem dX11_move_55 : decode cX11_move 55 = .ok (.ireturn, 1) := by decide +kernel
theorem dX11_move_56 : decode cX11_move 56 = .ok (.aload_n 0, 1) := by decide +kernel
theorem dX11_move_57 : decode cX11_move 57 = .ok (.invokevirtual 168, 3) := by decide +kernel
theorem dX11_move_60 : decode cX11_move 60 = .ok (.aload_n 0, 1) := by decide +kernel
theorem dX11_move_61 : decode cX11_move 61 = .ok (.getfield 49, 3) := by decide +kernel
theorem dX11_move_64 : decode cX11_move 64 = .ok (.getfield 184, 3) := by decide +kernel
theorem dX11_move_67 : decode cX11_move 67 = .ok (.iload_n 1, 1) := by decide +kernel
theorem dX11_move_68 : decode cX11_move 68 = .ok (.iload_n 3, 1) := by decide +kernel
theorem dX11_move_69 : decode cX11_move 69 = .ok (.iastore, 1) := by decide +kernel
theorem dX11_move_70 : decode cX11_move 70 = .ok (.iload_n 3, 1) := by decide +kernel
theorem dX11_move_71 : decode cX11_move 71 = .ok (.ireturn, 1) := by decide +kernel
theorem dX11_fade_0 : decode cX11_fade 0 = .ok (.aload_n 0, 1) := by decide +kernel
theorem dX11_fade_1 : decode cX11_fade 1 = .ok (.getfield 49, 3) := by decide +kernel
theorem dX11_fade_4 : decode cX11_fade 4 = .ok (.iload_n 1, 1) := by decide +kernel
theorem dX11_fade_5 : decode cX11_fade 5 = .ok (.invokevirtual 190, 3) := by decide +kernel
theorem dX11_fade_8 : decode cX11_fade 8 = .ok (.ifCond .eq 10, 3) := by decide +kernel
theorem dX11_fade_11 : decode cX11_fade 11 = .ok (.iload_n 2, 1) := by decide +kernel
theorem dX11_fade_12 : decode cX11_fade 12 = .ok (.invokestatic 181, 3) := by decide +kernel
theorem dX11_fade_15 : decode cX11_fade 15 = .ok (.ifCond .ne 6, 3) := by decide +kernel
theorem dX11_fade_18 : decode cX11_fade 18 = .ok (.ldc 85, 2) := by decide +kernel
theorem dX11_fade_20 : decode cX11_fade 20 = .ok (.ireturn, 1) := by decide +kernel
theorem dX11_fade_21 : decode cX11_fade 21 = .ok (.aload_n 0, 1) := by decide +kernel
theorem dX11_fade_22 : decode cX11_fade 22 = .ok (.getfield 49, 3) := by decide +kernel
theorem dX11_fade_25 : decode cX11_fade 25 = .ok (.getfield 193, 3) := by decide +kernel
theorem dX11_fade_28 : decode cX11_fade 28 = .ok (.iload_n 1, 1) := by decide +kernel
theorem dX11_fade_29 : decode cX11_fade 29 = .ok (.invokestatic 196, 3) := by decide +kernel
theorem dX11_fade_32 : decode cX11_fade 32 = .ok (.iload_n 2, 1) := by decide +kernel
theorem dX11_fade_33 : decode cX11_fade 33 = .ok (.if_icmp .ne 6, 3) := by decide +kernel
theorem dX11_fade_36 : decode cX11_fade 36 = .ok (.ldc 164, 2) := by decide +kernel
theorem dX11_fade_38 : decode cX11_fade 38 = .ok (.ireturn, 1) := by decide +kernel
theorem dX11_fade_39 : decode cX11_fade 39 = .ok (.aload_n 0, 1) := by decide +kernel
theorem dX11_fade_40 : decode cX11_fade 40 = .ok (.invokevirtual 168, 3) := by decide +kernel
theorem dX11_fade_43 : decode cX11_fade 43 = .ok (.aload_n 0, 1) := by decide +kernel
theorem dX11_fade_44 : decode cX11_fade 44 = .ok (.getfield 49, 3) := by decide +kernel
theorem dX11_fade_47 : decode cX11_fade 47 = .ok (.dup, 1) := by decide +kernel
theorem dX11_fade_48 : decode cX11_fade 48 = .ok (.getfield 193, 3) := by decide +kernel
theorem dX11_fade_51 : decode cX11_fade 51 = .ok (.iconst 1, 1) := by decide +kernel
theorem dX11_fade_52 : decode cX11_fade 52 = .ok (.iload_n 1, 1) := by decide +kernel
theorem dX11_fade_53 : decode cX11_fade 53 = .ok (.ishl, 1) := by decide +kernel
theorem dX11_fade_54 : decode cX11_fade 54 = .ok (.ixor, 1) := by decide +kernel
theorem dX11_fade_55 : decode cX11_fade 55 = .ok (.putfield 193, 3) := by decide +kernel
theorem dX11_fade_58 : decode cX11_fade 58 = .ok (.aload_n 0, 1) := by decide +kernel
theorem dX11_fade_59 : decode cX11_fade 59 = .ok (.getfield 49, 3) := by decide +kernel
theorem dX11_fade_62 : decode cX11_fade 62 = .ok (.getfield 193, 3) := by decide +kernel
theorem dX11_fade_65 : decode cX11_fade 65 = .ok (.ireturn, 1) := by decide +kernel
theorem dX11_put_0 : decode cX11_put 0 = .ok (.aload_n 0, 1) := by decide +kernel
theorem dX11_put_1 : decode cX11_put 1 = .ok (.getfield 49, 3) := by decide +kernel
theorem dX11_put_4 : decode cX11_put 4 = .ok (.iload_n 1, 1) := by decide +kernel
theorem dX11_put_5 : decode cX11_put 5 = .ok (.invokevirtual 199, 3) := by decide +kernel
theorem dX11_put_8 : decode cX11_put 8 = .ok (.ifCond .eq 14, 3) := by decide +kernel
theorem dX11_put_11 : decode cX11_put 11 = .ok (.aload_n 0, 1) := by decide +kernel
theorem dX11_put_12 : decode cX11_put 12 = .ok (.getfield 49, 3) := by decide +kernel
theorem dX11_put_15 : decode cX11_put 15 = .ok (.iload_n 2, 1) := by decide +kernel
theorem dX11_put_16 : decode cX11_put 16 = .ok (.invokevirtual 202, 3) := by decide +kernel
theorem dX11_put_19 : decode cX11_put 19 = .ok (.ifCond .ne 6, 3) := by decide +kernel
theorem dX11_put_22 : decode cX11_put 22 = .ok (.ldc 85, 2) := by decide +kernel
theorem dX11_put_24 : decode cX11_put 24 = .ok (.ireturn, 1) := by decide +kernel
theorem dX11_put_25 : decode cX11_put 25 = .ok (.aload_n 0, 1) := by decide +kernel
theorem dX11_put_26 : decode cX11_put 26 = .ok (.invokevirtual 168, 3) := by decide +kernel
theorem dX11_put_29 : decode cX11_put 29 = .ok (.aload_n 0, 1) := by decide +kernel
theorem dX11_put_30 : decode cX11_put 30 = .ok (.getfield 49, 3) := by decide +kernel
theorem dX11_put_33 : decode cX11_put 33 = .ok (.getfield 205, 3) := by decide +kernel
theorem dX11_put_36 : decode cX11_put 36 = .ok (.iload_n 1, 1) := by decide +kernel
theorem dX11_put_37 : decode cX11_put 37 = .ok (.iload_n 2, 1) := by decide +kernel
theorem dX11_put_38 : decode cX11_put 38 = .ok (.iastore, 1) := by decide +kernel
theorem dX11_put_39 : decode cX11_put 39 = .ok (.aload_n 0, 1) := by decide +kernel
theorem dX11_put_40 : decode cX11_put 40 = .ok (.getfield 49, 3) := by decide +kernel
theorem dX11_put_43 : decode cX11_put 43 = .ok (.getfield 208, 3) := by decide +kernel
theorem dX11_put_46 : decode cX11_put 46 = .ok (.iload_n 1, 1) := by decide +kernel
theorem dX11_put_47 : decode cX11_put 47 = .ok (.dup2, 1) := by decide +kernel
theorem dX11_put_48 : decode cX11_put 48 = .ok (.iaload, 1) := by decide +kernel
theorem dX11_put_49 : decode cX11_put 49 = .ok (.aload_n 0, 1) := by decide +kernel
theorem dX11_put_50 : decode cX11_put 50 = .ok (.getfield 49, 3) := by decide +kernel
theorem dX11_put_53 : decode cX11_put 53 = .ok (.iload_n 1, 1) := by decide +kernel
theorem dX11_put_54 : decode cX11_put 54 = .ok (.invokevirtual 211, 3) := by decide +kernel
theorem dX11_put_57 : decode cX11_put 57 = .ok (.ior, 1) := by decide +kernel
theorem dX11_put_58 : decode cX11_put 58 = .ok (.iastore, 1) := by decide +kernel
theorem dX11_put_59 : decode cX11_put 59 = .ok (.aload_n 0, 1) := by decide +kernel
theorem dX11_put_60 : decode cX11_put 60 = .ok (.getfield 49, 3) := by decide +kernel
theorem dX11_put_63 : decode cX11_put 63 = .ok (.getfield 208, 3) := by decide +kernel
theorem dX11_put_66 : decode cX11_put 66 = .ok (.iload_n 1, 1) := by decide +kernel
theorem dX11_put_67 : decode cX11_put 67 = .ok (.iaload, 1) := by decide +kernel
theorem dX11_put_68 : decode cX11_put 68 = .ok (.ireturn, 1) := by decide +kernel
theorem dX11_undo_0 : decode cX11_undo 0 = .ok (.aload_n 0, 1) := by decide +kernel
theorem dX11_undo_1 : decode cX11_undo 1 = .ok (.getfield 214, 3) := by decide +kernel
theorem dX11_undo_4 : decode cX11_undo 4 = .ok (.ifCond .ne 6, 3) := by decide +kernel
theorem dX11_undo_7 : decode cX11_undo 7 = .ok (.ldc 164, 2) := by decide +kernel
theorem dX11_undo_9 : decode cX11_undo 9 = .ok (.ireturn, 1) := by decide +kernel
theorem dX11_undo_10 : decode cX11_undo 10 = .ok (.aload_n 0, 1) := by decide +kernel
theorem dX11_undo_11 : decode cX11_undo 11 = .ok (.aload_n 0, 1) := by decide +kernel
theorem dX11_undo_12 : decode cX11_undo 12 = .ok (.getfield 217, 3) := by decide +kernel
theorem dX11_undo_15 : decode cX11_undo 15 = .ok (.ifCond .ne 8, 3) := by decide +kernel
theorem dX11_undo_18 : decode cX11_undo 18 = .ok (.bipush 23, 2) := by decide +kernel
theorem dX11_undo_20 : decode cX11_undo 20 = .ok (.goto 9, 3) := by decide +kernel
theorem dX11_undo_23 : decode cX11_undo 23 = .ok (.aload_n 0, 1) := by decide +kernel
theorem dX11_undo_24 : decode cX11_undo 24 = .ok (.getfield 217, 3) := by decide +kernel
theorem dX11_undo_27 : decode cX11_undo 27 = .ok (.iconst 1, 1) := by decide +kernel
theorem dX11_undo_28 : decode cX11_undo 28 = .ok (.isub, 1) := by decide +kernel
theorem dX11_undo_29 : decode cX11_undo 29 = .ok (.putfield 217, 3) := by decide +kernel
theorem dX11_undo_32 : decode cX11_undo 32 = .ok (.aload_n 0, 1) := by decide +kernel
theorem dX11_undo_33 : decode cX11_undo 33 = .ok (.dup, 1) := by decide +kernel
theorem dX11_undo_34 : decode cX11_undo 34 = .ok (.getfield 214, 3) := by decide +kernel
theorem dX11_undo_37 : decode cX11_undo 37 = .ok (.iconst 1, 1) := by decide +kernel
theorem dX11_undo_38 : decode cX11_undo 38 = .ok (.isub, 1) := by decide +kernel
theorem dX11_undo_39 : decode cX11_undo 39 = .ok (.putfield 214, 3) := by decide +kernel
theorem dX11_undo_42 : decode cX11_undo 42 = .ok (.aload_n 0, 1) := by decide +kernel
theorem dX11_undo_43 : decode cX11_undo 43 = .ok (.getfield 49, 3) := by decide +kernel
theorem dX11_undo_46 : decode cX11_undo 46 = .ok (.aload_n 0, 1) := by decide +kernel
theorem dX11_undo_47 : decode cX11_undo 47 = .ok (.getfield 78, 3) := by decide +kernel
theorem dX11_undo_50 : decode cX11_undo 50 = .ok (.aload_n 0, 1) := by decide +kernel
theorem dX11_undo_51 : decode cX11_undo 51 = .ok (.getfield 217, 3) := by decide +kernel
theorem dX11_undo_54 : decode cX11_undo 54 = .ok (.aaload, 1) := by decide +kernel
theorem dX11_undo_55 : decode cX11_undo 55 = .ok (.invokevirtual 220, 3) := by decide +kernel
theorem dX11_undo_58 : decode cX11_undo 58 = .ok (.aload_n 0, 1) := by decide +kernel
theorem dX11_undo_59 : decode cX11_undo 59 = .ok (.getfield 214, 3) := by decide +kernel
theorem dX11_undo_62 : decode cX11_undo 62 = .ok (.ireturn, 1) := by decide +kernel
theorem dX11_cell_0 : decode cX11_cell 0 = .ok (.aload_n 0, 1) := by decide +kernel
theorem dX11_cell_1 : decode cX11_cell 1 = .ok (.getfield 49, 3) := by decide +kernel
theorem dX11_cell_4 : decode cX11_cell 4 = .ok (.iload_n 1, 1) := by decide +kernel
theorem dX11_cell_5 : decode cX11_cell 5 = .ok (.invokevirtual 190, 3) := by decide +kernel
theorem dX11_cell_8 : decode cX11_cell 8 = .ok (.ifCond .ne 6, 3) := by decide +kernel
theorem dX11_cell_11 : decode cX11_cell 11 = .ok (.ldc 85, 2) := by decide +kernel
theorem dX11_cell_13 : decode cX11_cell 13 = .ok (.ireturn, 1) := by decide +kernel
theorem dX11_cell_14 : decode cX11_cell 14 = .ok (.iload_n 2, 1) := by decide +kernel
theorem dX11_cell_15 : decode cX11_cell 15 = .ok (.tableswitch 69 0 3 #[29, 39, 51, 60], 29) := by decide +kernel
theorem dX11_cell_44 : decode cX11_cell 44 = .ok (.aload_n 0, 1) := by decide +kernel
theorem dX11_cell_45 : decode cX11_cell 45 = .ok (.getfield 49, 3) := by decide +kernel
theorem dX11_cell_48 : decode cX11_cell 48 = .ok (.getfield 224, 3) := by decide +kernel
theorem dX11_cell_51 : decode cX11_cell 51 = .ok (.iload_n 1, 1) := by decide +kernel
theorem dX11_cell_52 : decode cX11_cell 52 = .ok (.iaload, 1) := by decide +kernel
theorem dX11_cell_53 : decode cX11_cell 53 = .ok (.ireturn, 1) := by decide +kernel
theorem dX11_cell_54 : decode cX11_cell 54 = .ok (.aload_n 0, 1) := by decide +kernel
theorem dX11_cell_55 : decode cX11_cell 55 = .ok (.getfield 49, 3) := by decide +kernel
theorem dX11_cell_58 : decode cX11_cell 58 = .ok (.getfield 193, 3) := by decide +kernel
theorem dX11_cell_61 : decode cX11_cell 61 = .ok (.iload_n 1, 1) := by decide +kernel
theorem dX11_cell_62 : decode cX11_cell 62 = .ok (.invokestatic 196, 3) := by decide +kernel
theorem dX11_cell_65 : decode cX11_cell 65 = .ok (.ireturn, 1) := by decide +kernel
theorem dX11_cell_66 : decode cX11_cell 66 = .ok (.aload_n 0, 1) := by decide +kernel
theorem dX11_cell_67 : decode cX11_cell 67 = .ok (.getfield 49, 3) := by decide +kernel
theorem dX11_cell_70 : decode cX11_cell 70 = .ok (.iload_n 1, 1) := by decide +kernel
theorem dX11_cell_71 : decode cX11_cell 71 = .ok (.invokevirtual 227, 3) := by decide +kernel
theorem dX11_cell_74 : decode cX11_cell 74 = .ok (.ireturn, 1) := by decide +kernel
theorem dX11_cell_75 : decode cX11_cell 75 = .ok (.aload_n 0, 1) := by decide +kernel
theorem dX11_cell_76 : decode cX11_cell 76 = .ok (.getfield 49, 3) := by decide +kernel
theorem dX11_cell_79 : decode cX11_cell 79 = .ok (.iload_n 1, 1) := by decide +kernel
theorem dX11_cell_80 : decode cX11_cell 80 = .ok (.invokevirtual 230, 3) := by decide +kernel
theorem dX11_cell_83 : decode cX11_cell 83 = .ok (.ireturn, 1) := by decide +kernel
theorem dX11_cell_84 : decode cX11_cell 84 = .ok (.ldc 85, 2) := by decide +kernel
theorem dX11_cell_86 : decode cX11_cell 86 = .ok (.ireturn, 1) := by decide +kernel
theorem dX11_house_0 : decode cX11_house 0 = .ok (.aload_n 0, 1) := by decide +kernel
theorem dX11_house_1 : decode cX11_house 1 = .ok (.getfield 49, 3) := by decide +kernel
theorem dX11_house_4 : decode cX11_house 4 = .ok (.iload_n 1, 1) := by decide +kernel
theorem dX11_house_5 : decode cX11_house 5 = .ok (.invokevirtual 202, 3) := by decide +kernel
theorem dX11_house_8 : decode cX11_house 8 = .ok (.ifCond .ne 6, 3) := by decide +kernel
theorem dX11_house_11 : decode cX11_house 11 = .ok (.ldc 85, 2) := by decide +kernel
theorem dX11_house_13 : decode cX11_house 13 = .ok (.ireturn, 1) := by decide +kernel
theorem dX11_house_14 : decode cX11_house 14 = .ok (.iload_n 2, 1) := by decide +kernel
theorem dX11_house_15 : decode cX11_house 15 = .ok (.tableswitch 52 0 2 #[25, 34, 43], 25) := by decide +kernel
theorem dX11_house_40 : decode cX11_house 40 = .ok (.aload_n 0, 1) := by decide +kernel
theorem dX11_house_41 : decode cX11_house 41 = .ok (.getfield 49, 3) := by decide +kernel
theorem dX11_house_44 : decode cX11_house 44 = .ok (.iload_n 1, 1) := by decide +kernel
theorem dX11_house_45 : decode cX11_house 45 = .ok (.invokevirtual 233, 3) := by decide +kernel
theorem dX11_house_48 : decode cX11_house 48 = .ok (.ireturn, 1) := by decide +kernel
theorem dX11_house_49 : decode cX11_house 49 = .ok (.aload_n 0, 1) := by decide +kernel
theorem dX11_house_50 : decode cX11_house 50 = .ok (.getfield 49, 3) := by decide +kernel
theorem dX11_house_53 : decode cX11_house 53 = .ok (.iload_n 1, 1) := by decide +kernel
theorem dX11_house_54 : decode cX11_house 54 = .ok (.invokevirtual 236, 3) := by decide +kernel
theorem dX11_house_57 : decode cX11_house 57 = .ok (.ireturn, 1) := by decide +kernel
theorem dX11_house_58 : decode cX11_house 58 = .ok (.aload_n 0, 1) := by decide +kernel
theorem dX11_house_59 : decode cX11_house 59 = .ok (.getfield 49, 3) := by decide +kernel
theorem dX11_house_62 : decode cX11_house 62 = .ok (.iload_n 1, 1) := by decide +kernel
theorem dX11_house_63 : decode cX11_house 63 = .ok (.invokevirtual 239, 3) := by decide +kernel
theorem dX11_house_66 : decode cX11_house 66 = .ok (.ireturn, 1) := by decide +kernel
theorem dX11_house_67 : decode cX11_house 67 = .ok (.ldc 85, 2) := by decide +kernel
theorem dX11_house_69 : decode cX11_house 69 = .ok (.ireturn, 1) := by decide +kernel
theorem dX11_folk_0 : decode cX11_folk 0 = .ok (.aload_n 0, 1) := by decide +kernel
theorem dX11_folk_1 : decode cX11_folk 1 = .ok (.getfield 49, 3) := by decide +kernel
theorem dX11_folk_4 : decode cX11_folk 4 = .ok (.iload_n 1, 1) := by decide +kernel
theorem dX11_folk_5 : decode cX11_folk 5 = .ok (.invokevirtual 199, 3) := by decide +kernel
theorem dX11_folk_8 : decode cX11_folk 8 = .ok (.ifCond .ne 6, 3) := by decide +kernel
theorem dX11_folk_11 : decode cX11_folk 11 = .ok (.ldc 85, 2) := by decide +kernel
theorem dX11_folk_13 : decode cX11_folk 13 = .ok (.ireturn, 1) := by decide +kernel
theorem dX11_folk_14 : decode cX11_folk 14 = .ok (.iload_n 2, 1) := by decide +kernel
theorem dX11_folk_15 : decode cX11_folk 15 = .ok (.tableswitch 81 0 4 #[33, 43, 53, 63, 72], 33) := by decide +kernel
theorem dX11_folk_48 : decode cX11_folk 48 = .ok (.aload_n 0, 1) := by decide +kernel
theorem dX11_folk_49 : decode cX11_folk 49 = .ok (.getfield 49, 3) := by decide +kernel
theorem dX11_folk_52 : decode cX11_folk 52 = .ok (.getfield 205, 3) := by decide +kernel
theorem dX11_folk_55 : decode cX11_folk 55 = .ok (.iload_n 1, 1) := by decide +kernel
theorem dX11_folk_56 : decode cX11_folk 56 = .ok (.iaload, 1) := by decide +kernel
theorem dX11_folk_57 : decode cX11_folk 57 = .ok (.ireturn, 1) := by decide +kernel
theorem dX11_folk_58 : decode cX11_folk 58 = .ok (.aload_n 0, 1) := by decide +kernel
theorem dX11_folk_59 : decode cX11_folk 59 = .ok (.getfield 49, 3) := by decide +kernel
theorem dX11_folk_62 : decode cX11_folk 62 = .ok (.getfield 242, 3) := by decide +kernel
theorem dX11_folk_65 : decode cX11_folk 65 = .ok (.iload_n 1, 1) := by decide +kernel
theorem dX11_folk_66 : decode cX11_folk 66 = .ok (.iaload, 1) := by decide +kernel
theorem dX11_folk_67 : decode cX11_folk 67 = .ok (.ireturn, 1) := by decide +kernel
theorem dX11_folk_68 : decode cX11_folk 68 = .ok (.aload_n 0, 1) := by decide +kernel
theorem dX11_folk_69 : decode cX11_folk 69 = .ok (.getfield 49, 3) := by decide +kernel
theorem dX11_folk_72 : decode cX11_folk 72 = .ok (.getfield 208, 3) := by decide +kernel
theorem dX11_folk_75 : decode cX11_folk 75 = .ok (.iload_n 1, 1) := by decide +kernel
theorem dX11_folk_76 : decode cX11_folk 76 = .ok (.iaload, 1) := by decide +kernel
theorem dX11_folk_77 : decode cX11_folk 77 = .ok (.ireturn, 1) := by decide +kernel
theorem dX11_folk_78 : decode cX11_folk 78 = .ok (.aload_n 0, 1) := by decide +kernel
theorem dX11_folk_79 : decode cX11_folk 79 = .ok (.getfield 49, 3) := by decide +kernel
theorem dX11_folk_82 : decode cX11_folk 82 = .ok (.iload_n 1, 1) := by decide +kernel
theorem dX11_folk_83 : decode cX11_folk 83 = .ok (.invokevirtual 211, 3) := by decide +kernel
theorem dX11_folk_86 : decode cX11_folk 86 = .ok (.ireturn, 1) := by decide +kernel
theorem dX11_folk_87 : decode cX11_folk 87 = .ok (.aload_n 0, 1) := by decide +kernel
theorem dX11_folk_88 : decode cX11_folk 88 = .ok (.getfield 49, 3) := by decide +kernel
theorem dX11_folk_91 : decode cX11_folk 91 = .ok (.iload_n 1, 1) := by decide +kernel
theorem dX11_folk_92 : decode cX11_folk 92 = .ok (.invokevirtual 245, 3) := by decide +kernel
theorem dX11_folk_95 : decode cX11_folk 95 = .ok (.ireturn, 1) := by decide +kernel
theorem dX11_folk_96 : decode cX11_folk 96 = .ok (.ldc 85, 2) := by decide +kernel
theorem dX11_folk_98 : decode cX11_folk 98 = .ok (.ireturn, 1) := by decide +kernel
theorem dX11_ahead_0 : decode cX11_ahead 0 = .ok (.aload_n 0, 1) := by decide +kernel
theorem dX11_ahead_1 : decode cX11_ahead 1 = .ok (.getfield 49, 3) := by decide +kernel
theorem dX11_ahead_4 : decode cX11_ahead 4 = .ok (.iload_n 1, 1) := by decide +kernel
theorem dX11_ahead_5 : decode cX11_ahead 5 = .ok (.invokevirtual 199, 3) := by decide +kernel
theorem dX11_ahead_8 : decode cX11_ahead 8 = .ok (.ifCond .eq 20, 3) := by decide +kernel
theorem dX11_ahead_11 : decode cX11_ahead 11 = .ok (.iload_n 2, 1) := by decide +kernel
theorem dX11_ahead_12 : decode cX11_ahead 12 = .ok (.ifCond .lt 16, 3) := by decide +kernel
theorem dX11_ahead_15 : decode cX11_ahead 15 = .ok (.iload_n 2, 1) := by decide +kernel
theorem dX11_ahead_16 : decode cX11_ahead 16 = .ok (.bipush 60, 2) := by decide +kernel
theorem dX11_ahead_18 : decode cX11_ahead 18 = .ok (.if_icmp .gt 10, 3) := by decide +kernel
theorem dX11_ahead_21 : decode cX11_ahead 21 = .ok (.iload_n 3, 1) := by decide +kernel
theorem dX11_ahead_22 : decode cX11_ahead 22 = .ok (.invokestatic 181, 3) := by decide +kernel
theorem dX11_ahead_25 : decode cX11_ahead 25 = .ok (.ifCond .ne 6, 3) := by decide +kernel
theorem dX11_ahead_28 : decode cX11_ahead 28 = .ok (.ldc 85, 2) := by decide +kernel
theorem dX11_ahead_30 : decode cX11_ahead 30 = .ok (.ireturn, 1) := by decide +kernel
theorem dX11_ahead_31 : decode cX11_ahead 31 = .ok (.aload_n 0, 1) := by decide +kernel
theorem dX11_ahead_32 : decode cX11_ahead 32 = .ok (.getfield 65, 3) := by decide +kernel
theorem dX11_ahead_35 : decode cX11_ahead 35 = .ok (.iload_n 1, 1) := by decide +kernel
theorem dX11_ahead_36 : decode cX11_ahead 36 = .ok (.iload_n 2, 1) := by decide +kernel
theorem dX11_ahead_37 : decode cX11_ahead 37 = .ok (.iload_n 3, 1) := by decide +kernel
theorem dX11_ahead_38 : decode cX11_ahead 38 = .ok (.invokevirtual 248, 3) := by decide +kernel
theorem dX11_ahead_41 : decode cX11_ahead 41 = .ok (.ireturn, 1) := by decide +kernel
theorem dX11_all_0 : decode cX11_all 0 = .ok (.aload_n 0, 1) := by decide +kernel
theorem dX11_all_1 : decode cX11_all 1 = .ok (.getfield 49, 3) := by decide +kernel
theorem dX11_all_4 : decode cX11_all 4 = .ok (.iload_n 1, 1) := by decide +kernel
theorem dX11_all_5 : decode cX11_all 5 = .ok (.invokevirtual 199, 3) := by decide +kernel
theorem dX11_all_8 : decode cX11_all 8 = .ok (.ifCond .ne 6, 3) := by decide +kernel
theorem dX11_all_11 : decode cX11_all 11 = .ok (.ldc 85, 2) := by decide +kernel
theorem dX11_all_13 : decode cX11_all 13 = .ok (.ireturn, 1) := by decide +kernel
theorem dX11_all_14 : decode cX11_all 14 = .ok (.aload_n 0, 1) := by decide +kernel
theorem dX11_all_15 : decode cX11_all 15 = .ok (.getfield 65, 3) := by decide +kernel
theorem dX11_all_18 : decode cX11_all 18 = .ok (.iload_n 1, 1) := by decide +kernel
theorem dX11_all_19 : decode cX11_all 19 = .ok (.invokevirtual 252, 3) := by decide +kernel
theorem dX11_all_22 : decode cX11_all 22 = .ok (.ireturn, 1) := by decide +kernel
theorem dX11_first_0 : decode cX11_first 0 = .ok (.aload_n 0, 1) := by decide +kernel
theorem dX11_first_1 : decode cX11_first 1 = .ok (.invokevirtual 161, 3) := by decide +kernel
theorem dX11_first_4 : decode cX11_first 4 = .ok (.ifCond .eq 6, 3) := by decide +kernel
theorem dX11_first_7 : decode cX11_first 7 = .ok (.ldc 164, 2) := by decide +kernel
theorem dX11_first_9 : decode cX11_first 9 = .ok (.ireturn, 1) := by decide +kernel
theorem dX11_first_10 : decode cX11_first 10 = .ok (.iload_n 1, 1) := by decide +kernel
theorem dX11_first_11 : decode cX11_first 11 = .ok (.invokestatic 181, 3) := by decide +kernel
theorem dX11_first_14 : decode cX11_first 14 = .ok (.ifCond .ne 6, 3) := by decide +kernel
theorem dX11_first_17 : decode cX11_first 17 = .ok (.ldc 85, 2) := by decide +kernel
theorem dX11_first_19 : decode cX11_first 19 = .ok (.ireturn, 1) := by decide +kernel
theorem dX11_first_20 : decode cX11_first 20 = .ok (.aload_n 0, 1) := by decide +kernel
theorem dX11_first_21 : decode cX11_first 21 = .ok (.getfield 65, 3) := by decide +kernel
theorem dX11_first_24 : decode cX11_first 24 = .ok (.iload_n 1, 1) := by decide +kernel
theorem dX11_first_25 : decode cX11_first 25 = .ok (.invokevirtual 255, 3) := by decide +kernel
theorem dX11_first_28 : decode cX11_first 28 = .ok (.ireturn, 1) := by decide +kernel
theorem dX11_both_0 : decode cX11_both 0 = .ok (.aload_n 0, 1) := by decide +kernel
theorem dX11_both_1 : decode cX11_both 1 = .ok (.getfield 49, 3) := by decide +kernel
theorem dX11_both_4 : decode cX11_both 4 = .ok (.iload_n 1, 1) := by decide +kernel
theorem dX11_both_5 : decode cX11_both 5 = .ok (.invokevirtual 199, 3) := by decide +kernel
theorem dX11_both_8 : decode cX11_both 8 = .ok (.ifCond .eq 26, 3) := by decide +kernel
theorem dX11_both_11 : decode cX11_both 11 = .ok (.aload_n 0, 1) := by decide +kernel
theorem dX11_both_12 : decode cX11_both 12 = .ok (.getfield 49, 3) := by decide +kernel
theorem dX11_both_15 : decode cX11_both 15 = .ok (.iload_n 2, 1) := by decide +kernel
theorem dX11_both_16 : decode cX11_both 16 = .ok (.invokevirtual 199, 3) := by decide +kernel
theorem dX11_both_19 : decode cX11_both 19 = .ok (.ifCond .eq 15, 3) := by decide +kernel
theorem dX11_both_22 : decode cX11_both 22 = .ok (.iload_n 1, 1) := by decide +kernel
theorem dX11_both_23 : decode cX11_both 23 = .ok (.iload_n 2, 1) := by decide +kernel
theorem dX11_both_24 : decode cX11_both 24 = .ok (.if_icmp .eq 10, 3) := by decide +kernel
theorem dX11_both_27 : decode cX11_both 27 = .ok (.iload_n 3, 1) := by decide +kernel
theorem dX11_both_28 : decode cX11_both 28 = .ok (.invokestatic 181, 3) := by decide +kernel
theorem dX11_both_31 : decode cX11_both 31 = .ok (.ifCond .ne 6, 3) := by decide +kernel
theorem dX11_both_34 : decode cX11_both 34 = .ok (.ldc 85, 2) := by decide +kernel
theorem dX11_both_36 : decode cX11_both 36 = .ok (.ireturn, 1) := by decide +kernel
theorem dX11_both_37 : decode cX11_both 37 = .ok (.aload_n 0, 1) := by decide +kernel
theorem dX11_both_38 : decode cX11_both 38 = .ok (.getfield 49, 3) := by decide +kernel
theorem dX11_both_41 : decode cX11_both 41 = .ok (.getfield 208, 3) := by decide +kernel
theorem dX11_both_44 : decode cX11_both 44 = .ok (.iload_n 1, 1) := by decide +kernel
theorem dX11_both_45 : decode cX11_both 45 = .ok (.iaload, 1) := by decide +kernel
theorem dX11_both_46 : decode cX11_both 46 = .ok (.istore 4, 2) := by decide +kernel
theorem dX11_both_48 : decode cX11_both 48 = .ok (.aload_n 0, 1) := by decide +kernel
theorem dX11_both_49 : decode cX11_both 49 = .ok (.getfield 49, 3) := by decide +kernel
theorem dX11_both_52 : decode cX11_both 52 = .ok (.getfield 208, 3) := by decide +kernel
theorem dX11_both_55 : decode cX11_both 55 = .ok (.iload_n 2, 1) := by decide +kernel
theorem dX11_both_56 : decode cX11_both 56 = .ok (.iaload, 1) := by decide +kernel
theorem dX11_both_57 : decode cX11_both 57 = .ok (.istore 5, 2) := by decide +kernel
theorem dX11_both_59 : decode cX11_both 59 = .ok (.iload_n 3, 1) := by decide +kernel
theorem dX11_both_60 : decode cX11_both 60 = .ok (.ifCond .ne 11, 3) := by decide +kernel
theorem dX11_both_63 : decode cX11_both 63 = .ok (.iload 4, 2) := by decide +kernel
theorem dX11_both_65 : decode cX11_both 65 = .ok (.iload 5, 2) := by decide +kernel
theorem dX11_both_67 : decode cX11_both 67 = .ok (.iand, 1) := by decide +kernel
theorem dX11_both_68 : decode cX11_both 68 = .ok (.goto 18, 3) := by decide +kernel
theorem dX11_both_71 : decode cX11_both 71 = .ok (.iload 4, 2) := by decide +kernel
theorem dX11_both_73 : decode cX11_both 73 = .ok (.iconst 1, 1) := by decide +kernel
theorem dX11_both_74 : decode cX11_both 74 = .ok (.ishl, 1) := by decide +kernel
theorem dX11_both_75 : decode cX11_both 75 = .ok (.iload 5, 2) := by decide +kernel
theorem dX11_both_77 : decode cX11_both 77 = .ok (.iand, 1) := by decide +kernel
theorem dX11_both_78 : decode cX11_both 78 = .ok (.iload 4, 2) := by decide +kernel
theorem dX11_both_80 : decode cX11_both 80 = .ok (.iconst (-1), 1) := by decide +kernel
theorem dX11_both_81 : decode cX11_both 81 = .ok (.ixor, 1) := by decide +kernel
theorem dX11_both_82 : decode cX11_both 82 = .ok (.iand, 1) := by decide +kernel
theorem dX11_both_83 : decode cX11_both 83 = .ok (.invokestatic 258, 3) := by decide +kernel
theorem dX11_both_86 : decode cX11_both 86 = .ok (.ireturn, 1) := by decide +kernel
theorem dX11_together_0 : decode cX11_together 0 = .ok (.aload_n 0, 1) := by decide +kernel
theorem dX11_together_1 : decode cX11_together 1 = .ok (.invokevirtual 161, 3) := by decide +kernel
theorem dX11_together_4 : decode cX11_together 4 = .ok (.ifCond .eq 6, 3) := by decide +kernel
theorem dX11_together_7 : decode cX11_together 7 = .ok (.ldc 164, 2) := by decide +kernel
theorem dX11_together_9 : decode cX11_together 9 = .ok (.ireturn, 1) := by decide +kernel
theorem dX11_together_10 : decode cX11_together 10 = .ok (.iload_n 1, 1) := by decide +kernel
theorem dX11_together_11 : decode cX11_together 11 = .ok (.invokestatic 181, 3) := by decide +kernel
theorem dX11_together_14 : decode cX11_together 14 = .ok (.ifCond .ne 6, 3) := by decide +kernel
theorem dX11_together_17 : decode cX11_together 17 = .ok (.ldc 85, 2) := by decide +kernel
theorem dX11_together_19 : decode cX11_together 19 = .ok (.ireturn, 1) := by decide +kernel
theorem dX11_together_20 : decode cX11_together 20 = .ok (.aload_n 0, 1) := by decide +kernel
theorem dX11_together_21 : decode cX11_together 21 = .ok (.getfield 49, 3) := by decide +kernel
theorem dX11_together_24 : decode cX11_together 24 = .ok (.invokevirtual 263, 3) := by decide +kernel
theorem dX11_together_27 : decode cX11_together 27 = .ok (.istore_n 2, 1) := by decide +kernel
theorem dX11_together_28 : decode cX11_together 28 = .ok (.iload_n 2, 1) := by decide +kernel
theorem dX11_together_29 : decode cX11_together 29 = .ok (.ifCond .ne 7, 3) := by decide +kernel
theorem dX11_together_32 : decode cX11_together 32 = .ok (.ldc_w 266, 3) := by decide +kernel
theorem dX11_together_35 : decode cX11_together 35 = .ok (.ireturn, 1) := by decide +kernel
theorem dX11_together_36 : decode cX11_together 36 = .ok (.iload_n 1, 1) := by decide +kernel
theorem dX11_together_37 : decode cX11_together 37 = .ok (.ifCond .ne 10, 3) := by decide +kernel
theorem dX11_together_40 : decode cX11_together 40 = .ok (.iload_n 2, 1) := by decide +kernel
theorem dX11_together_41 : decode cX11_together 41 = .ok (.invokestatic 258, 3) := by decide +kernel
theorem dX11_together_44 : decode cX11_together 44 = .ok (.goto 4, 3) := by decide +kernel
theorem dX11_together_47 : decode cX11_together 47 = .ok (.iload_n 2, 1) := by decide +kernel
theorem dX11_together_48 : decode cX11_together 48 = .ok (.ireturn, 1) := by decide +kernel
theorem dX11_beyond_0 : decode cX11_beyond 0 = .ok (.aload_n 0, 1) := by decide +kernel
theorem dX11_beyond_1 : decode cX11_beyond 1 = .ok (.getfield 49, 3) := by decide +kernel
theorem dX11_beyond_4 : decode cX11_beyond 4 = .ok (.iload_n 1, 1) := by decide +kernel
theorem dX11_beyond_5 : decode cX11_beyond 5 = .ok (.invokevirtual 199, 3) := by decide +kernel
theorem dX11_beyond_8 : decode cX11_beyond 8 = .ok (.ifCond .eq 13, 3) := by decide +kernel
theorem dX11_beyond_11 : decode cX11_beyond 11 = .ok (.iload_n 2, 1) := by decide +kernel
theorem dX11_beyond_12 : decode cX11_beyond 12 = .ok (.ifCond .lt 9, 3) := by decide +kernel
theorem dX11_beyond_15 : decode cX11_beyond 15 = .ok (.iload_n 2, 1) := by decide +kernel
theorem dX11_beyond_16 : decode cX11_beyond 16 = .ok (.bipush 99, 2) := by decide +kernel
theorem dX11_beyond_18 : decode cX11_beyond 18 = .ok (.if_icmp .le 6, 3) := by decide +kernel
theorem dX11_beyond_21 : decode cX11_beyond 21 = .ok (.ldc 85, 2) := by decide +kernel
theorem dX11_beyond_23 : decode cX11_beyond 23 = .ok (.ireturn, 1) := by decide +kernel
theorem dX11_beyond_24 : decode cX11_beyond 24 = .ok (.aload_n 0, 1) := by decide +kernel
theorem dX11_beyond_25 : decode cX11_beyond 25 = .ok (.getfield 49, 3) := by decide +kernel
theorem dX11_beyond_28 : decode cX11_beyond 28 = .ok (.iload_n 1, 1) := by decide +kernel
theorem dX11_beyond_29 : decode cX11_beyond 29 = .ok (.iload_n 2, 1) := by decide +kernel
theorem dX11_beyond_30 : decode cX11_beyond 30 = .ok (.invokevirtual 267, 3) := by decide +kernel
theorem dX11_beyond_33 : decode cX11_beyond 33 = .ok (.ireturn, 1) := by decide +kernel
theorem dX11_piece_0 : decode cX11_piece 0 = .ok (.aload_n 0, 1) := by decide +kernel
theorem dX11_piece_1 : decode cX11_piece 1 = .ok (.invokevirtual 161, 3) := by decide +kernel
theorem dX11_piece_4 : decode cX11_piece 4 = .ok (.ifCond .eq 6, 3) := by decide +kernel
theorem dX11_piece_7 : decode cX11_piece 7 = .ok (.ldc 164, 2) := by decide +kernel
theorem dX11_piece_9 : decode cX11_piece 9 = .ok (.ireturn, 1) := by decide +kernel
theorem dX11_piece_10 : decode cX11_piece 10 = .ok (.aload_n 0, 1) := by decide +kernel
theorem dX11_piece_11 : decode cX11_piece 11 = .ok (.iload_n 1, 1) := by decide +kernel
theorem dX11_piece_12 : decode cX11_piece 12 = .ok (.invokevirtual 81, 3) := by decide +kernel
theorem dX11_piece_15 : decode cX11_piece 15 = .ok (.astore 5, 2) := by decide +kernel
theorem dX11_piece_17 : decode cX11_piece 17 = .ok (.aload 5, 2) := by decide +kernel
theorem dX11_piece_19 : decode cX11_piece 19 = .ok (.ifnull 22, 3) := by decide +kernel
theorem dX11_piece_22 : decode cX11_piece 22 = .ok (.iload_n 3, 1) := by decide +kernel
theorem dX11_piece_23 : decode cX11_piece 23 = .ok (.iconst 1, 1) := by decide +kernel
theorem dX11_piece_24 : decode cX11_piece 24 = .ok (.if_icmp .lt 17, 3) := by decide +kernel
theorem dX11_piece_27 : decode cX11_piece 27 = .ok (.iload_n 3, 1) := by decide +kernel
theorem dX11_piece_28 : decode cX11_piece 28 = .ok (.bipush 12, 2) := by decide +kernel
theorem dX11_piece_30 : decode cX11_piece 30 = .ok (.if_icmp .gt 11, 3) := by decide +kernel
theorem dX11_piece_33 : decode cX11_piece 33 = .ok (.iload 4, 2) := by decide +kernel
theorem dX11_piece_35 : decode cX11_piece 35 = .ok (.invokestatic 181, 3) := by decide +kernel
theorem dX11_piece_38 : decode cX11_piece 38 = .ok (.ifCond .ne 6, 3) := by decide +kernel
theorem dX11_piece_41 : decode cX11_piece 41 = .ok (.ldc 85, 2) := by decide +kernel
theorem dX11_piece_43 : decode cX11_piece 43 = .ok (.ireturn, 1) := by decide +kernel
theorem dX11_piece_44 : decode cX11_piece 44 = .ok (.aload 5, 2) := by decide +kernel
theorem dX11_piece_46 : decode cX11_piece 46 = .ok (.invokevirtual 97, 3) := by decide +kernel
theorem dX11_piece_49 : decode cX11_piece 49 = .ok (.ifCond .eq 9, 3) := by decide +kernel
theorem dX11_piece_52 : decode cX11_piece 52 = .ok (.aload_n 0, 1) := by decide +kernel
theorem dX11_piece_53 : decode cX11_piece 53 = .ok (.iconst 1, 1) := by decide +kernel
theorem dX11_piece_54 : decode cX11_piece 54 = .ok (.invokevirtual 86, 3) := by decide +kernel
theorem dX11_piece_57 : decode cX11_piece 57 = .ok (.ireturn, 1) := by decide +kernel
theorem dX11_piece_58 : decode cX11_piece 58 = .ok (.aload 5, 2) := by decide +kernel
theorem dX11_piece_60 : decode cX11_piece 60 = .ok (.iload_n 2, 1) := by decide +kernel
theorem dX11_piece_61 : decode cX11_piece 61 = .ok (.iload_n 3, 1) := by decide +kernel
theorem dX11_piece_62 : decode cX11_piece 62 = .ok (.invokevirtual 101, 3) := by decide +kernel
theorem dX11_piece_65 : decode cX11_piece 65 = .ok (.ifCond .ne 9, 3) := by decide +kernel
theorem dX11_piece_68 : decode cX11_piece 68 = .ok (.aload_n 0, 1) := by decide +kernel
theorem dX11_piece_69 : decode cX11_piece 69 = .ok (.iconst 2, 1) := by decide +kernel
theorem dX11_piece_70 : decode cX11_piece 70 = .ok (.invokevirtual 86, 3) := by decide +kernel
theorem dX11_piece_73 : decode cX11_piece 73 = .ok (.ireturn, 1) := by decide +kernel
theorem dX11_piece_74 : decode cX11_piece 74 = .ok (.aload_n 0, 1) := by decide +kernel
theorem dX11_piece_75 : decode cX11_piece 75 = .ok (.iload 4, 2) := by decide +kernel
theorem dX11_piece_77 : decode cX11_piece 77 = .ok (.ifCond .ne 17, 3) := by decide +kernel
theorem dX11_piece_80 : decode cX11_piece 80 = .ok (.aload_n 0, 1) := by decide +kernel
theorem dX11_piece_81 : decode cX11_piece 81 = .ok (.getfield 49, 3) := by decide +kernel
theorem dX11_piece_84 : decode cX11_piece 84 = .ok (.aload 5, 2) := by decide +kernel
theorem dX11_piece_86 : decode cX11_piece 86 = .ok (.iload_n 2, 1) := by decide +kernel
theorem dX11_piece_87 : decode cX11_piece 87 = .ok (.iload_n 3, 1) := by decide +kernel
theorem dX11_piece_88 : decode cX11_piece 88 = .ok (.invokevirtual 270, 3) := by decide +kernel
theorem dX11_piece_91 : decode cX11_piece 91 = .ok (.goto 14, 3) := by decide +kernel
theorem dX11_piece_94 : decode cX11_piece 94 = .ok (.aload_n 0, 1) := by decide +kernel
theorem dX11_piece_95 : decode cX11_piece 95 = .ok (.getfield 49, 3) := by decide +kernel
theorem dX11_piece_98 : decode cX11_piece 98 = .ok (.aload 5, 2) := by decide +kernel
theorem dX11_piece_100 : decode cX11_piece 100 = .ok (.iload_n 2, 1) := by decide +kernel
theorem dX11_piece_101 : decode cX11_piece 101 = .ok (.iload_n 3, 1) := by decide +kernel
theorem dX11_piece_102 : decode cX11_piece 102 = .ok (.invokevirtual 274, 3) := by decide +kernel
theorem dX11_piece_105 : decode cX11_piece 105 = .ok (.invokevirtual 94, 3) := by decide +kernel
theorem dX11_piece_108 : decode cX11_piece 108 = .ok (.ireturn, 1) := by decide +kernel
theorem dX11_room_0 : decode cX11_room 0 = .ok (.aload_n 0, 1) := by decide +kernel
theorem dX11_room_1 : decode cX11_room 1 = .ok (.invokevirtual 161, 3) := by decide +kernel
theorem dX11_room_4 : decode cX11_room 4 = .ok (.ifCond .eq 6, 3) := by decide +kernel
theorem dX11_room_7 : decode cX11_room 7 = .ok (.ldc 164, 2) := by decide +kernel
theorem dX11_room_9 : decode cX11_room 9 = .ok (.ireturn, 1) := by decide +kernel
theorem dX11_room_10 : decode cX11_room 10 = .ok (.iload_n 1, 1) := by decide +kernel
theorem dX11_room_11 : decode cX11_room 11 = .ok (.iconst 1, 1) := by decide +kernel
theorem dX11_room_12 : decode cX11_room 12 = .ok (.if_icmp .lt 9, 3) := by decide +kernel
theorem dX11_room_15 : decode cX11_room 15 = .ok (.iload_n 1, 1) := by decide +kernel
theorem dX11_room_16 : decode cX11_room 16 = .ok (.bipush 8, 2) := by decide +kernel
theorem dX11_room_18 : decode cX11_room 18 = .ok (.if_icmp .le 6, 3) := by decide +kernel
theorem dX11_room_21 : decode cX11_room 21 = .ok (.ldc 85, 2) := by decide +kernel
theorem dX11_room_23 : decode cX11_room 23 = .ok (.ireturn, 1) := by decide +kernel
theorem dX11_room_24 : decode cX11_room 24 = .ok (.aload_n 0, 1) := by decide +kernel
theorem dX11_room_25 : decode cX11_room 25 = .ok (.getfield 65, 3) := by decide +kernel
theorem dX11_room_28 : decode cX11_room 28 = .ok (.iload_n 1, 1) := by decide +kernel
theorem dX11_room_29 : decode cX11_room 29 = .ok (.invokevirtual 277, 3) := by decide +kernel
theorem dX11_room_32 : decode cX11_room 32 = .ok (.ireturn, 1) := by decide +kernel
theorem dX11_rent_0 : decode cX11_rent 0 = .ok (.aload_n 0, 1) := by decide +kernel
theorem dX11_rent_1 : decode cX11_rent 1 = .ok (.getfield 49, 3) := by decide +kernel
theorem dX11_rent_4 : decode cX11_rent 4 = .ok (.iload_n 1, 1) := by decide +kernel
theorem dX11_rent_5 : decode cX11_rent 5 = .ok (.invokevirtual 202, 3) := by decide +kernel
theorem dX11_rent_8 : decode cX11_rent 8 = .ok (.ifCond .eq 14, 3) := by decide +kernel
theorem dX11_rent_11 : decode cX11_rent 11 = .ok (.iload_n 2, 1) := by decide +kernel
theorem dX11_rent_12 : decode cX11_rent 12 = .ok (.ifCond .lt 10, 3) := by decide +kernel
theorem dX11_rent_15 : decode cX11_rent 15 = .ok (.iload_n 2, 1) := by decide +kernel
theorem dX11_rent_16 : decode cX11_rent 16 = .ok (.sipush 999, 3) := by decide +kernel
theorem dX11_rent_19 : decode cX11_rent 19 = .ok (.if_icmp .le 6, 3) := by decide +kernel
theorem dX11_rent_22 : decode cX11_rent 22 = .ok (.ldc 85, 2) := by decide +kernel
theorem dX11_rent_24 : decode cX11_rent 24 = .ok (.ireturn, 1) := by decide +kernel
theorem dX11_rent_25 : decode cX11_rent 25 = .ok (.aload_n 0, 1) := by decide +kernel
theorem dX11_rent_26 : decode cX11_rent 26 = .ok (.getfield 49, 3) := by decide +kernel
theorem dX11_rent_29 : decode cX11_rent 29 = .ok (.iload_n 1, 1) := by decide +kernel
theorem dX11_rent_30 : decode cX11_rent 30 = .ok (.iload_n 2, 1) := by decide +kernel
theorem dX11_rent_31 : decode cX11_rent 31 = .ok (.invokevirtual 280, 3) := by decide +kernel
theorem dX11_rent_34 : decode cX11_rent 34 = .ok (.ireturn, 1) := by decide +kernel
theorem dX11_fits_0 : decode cX11_fits 0 = .ok (.aload_n 0, 1) := by decide +kernel
theorem dX11_fits_1 : decode cX11_fits 1 = .ok (.iload_n 2, 1) := by decide +kernel
theorem dX11_fits_2 : decode cX11_fits 2 = .ok (.invokevirtual 81, 3) := by decide +kernel
theorem dX11_fits_5 : decode cX11_fits 5 = .ok (.astore 6, 2) := by decide +kernel
theorem dX11_fits_7 : decode cX11_fits 7 = .ok (.aload_n 0, 1) := by decide +kernel
theorem dX11_fits_8 : decode cX11_fits 8 = .ok (.getfield 49, 3) := by decide +kernel
theorem dX11_fits_11 : decode cX11_fits 11 = .ok (.iload_n 1, 1) := by decide +kernel
theorem dX11_fits_12 : decode cX11_fits 12 = .ok (.invokevirtual 199, 3) := by decide +kernel
theorem dX11_fits_15 : decode cX11_fits 15 = .ok (.ifCond .eq 32, 3) := by decide +kernel
theorem dX11_fits_18 : decode cX11_fits 18 = .ok (.aload 6, 2) := by decide +kernel
theorem dX11_fits_20 : decode cX11_fits 20 = .ok (.ifnull 27, 3) := by decide +kernel
theorem dX11_fits_23 : decode cX11_fits 23 = .ok (.iload 4, 2) := by decide +kernel
theorem dX11_fits_25 : decode cX11_fits 25 = .ok (.iconst 1, 1) := by decide +kernel
theorem dX11_fits_26 : decode cX11_fits 26 = .ok (.if_icmp .lt 21, 3) := by decide +kernel
theorem dX11_fits_29 : decode cX11_fits 29 = .ok (.iload 4, 2) := by decide +kernel
theorem dX11_fits_31 : decode cX11_fits 31 = .ok (.bipush 12, 2) := by decide +kernel
theorem dX11_fits_33 : decode cX11_fits 33 = .ok (.if_icmp .gt 14, 3) := by decide +kernel
theorem dX11_fits_36 : decode cX11_fits 36 = .ok (.iload 5, 2) := by decide +kernel
theorem dX11_fits_38 : decode cX11_fits 38 = .ok (.ifCond .lt 9, 3) := by decide +kernel
theorem dX11_fits_41 : decode cX11_fits 41 = .ok (.iload 5, 2) := by decide +kernel
theorem dX11_fits_43 : decode cX11_fits 43 = .ok (.iconst 3, 1) := by decide +kernel
theorem dX11_fits_44 : decode cX11_fits 44 = .ok (.if_icmp .le 6, 3) := by decide +kernel
theorem dX11_fits_47 : decode cX11_fits 47 = .ok (.ldc 85, 2) := by decide +kernel
theorem dX11_fits_49 : decode cX11_fits 49 = .ok (.ireturn, 1) := by decide +kernel
theorem dX11_fits_50 : decode cX11_fits 50 = .ok (.aload 6, 2) := by decide +kernel
theorem dX11_fits_52 : decode cX11_fits 52 = .ok (.invokevirtual 97, 3) := by decide +kernel
theorem dX11_fits_55 : decode cX11_fits 55 = .ok (.ifCond .eq 9, 3) := by decide +kernel
theorem dX11_fits_58 : decode cX11_fits 58 = .ok (.aload_n 0, 1) := by decide +kernel
theorem dX11_fits_59 : decode cX11_fits 59 = .ok (.iconst 1, 1) := by decide +kernel
theorem dX11_fits_60 : decode cX11_fits 60 = .ok (.invokevirtual 86, 3) := by decide +kernel
theorem dX11_fits_63 : decode cX11_fits 63 = .ok (.ireturn, 1) := by decide +kernel
theorem dX11_fits_64 : decode cX11_fits 64 = .ok (.aload 6, 2) := by decide +kernel
theorem dX11_fits_66 : decode cX11_fits 66 = .ok (.iload_n 3, 1) := by decide +kernel
theorem dX11_fits_67 : decode cX11_fits 67 = .ok (.iload 4, 2) := by decide +kernel
theorem dX11_fits_69 : decode cX11_fits 69 = .ok (.invokevirtual 101, 3) := by decide +kernel
theorem dX11_fits_72 : decode cX11_fits 72 = .ok (.ifCond .ne 9, 3) := by decide +kernel
theorem dX11_fits_75 : decode cX11_fits 75 = .ok (.aload_n 0, 1) := by decide +kernel
theorem dX11_fits_76 : decode cX11_fits 76 = .ok (.iconst 2, 1) := by decide +kernel
theorem dX11_fits_77 : decode cX11_fits 77 = .ok (.invokevirtual 86, 3) := by decide +kernel
theorem dX11_fits_80 : decode cX11_fits 80 = .ok (.ireturn, 1) := by decide +kernel
theorem dX11_fits_81 : decode cX11_fits 81 = .ok (.aload_n 0, 1) := by decide +kernel
theorem dX11_fits_82 : decode cX11_fits 82 = .ok (.aload_n 0, 1) := by decide +kernel
theorem dX11_fits_83 : decode cX11_fits 83 = .ok (.getfield 65, 3) := by decide +kernel
theorem dX11_fits_86 : decode cX11_fits 86 = .ok (.iload_n 1, 1) := by decide +kernel
theorem dX11_fits_87 : decode cX11_fits 87 = .ok (.aload 6, 2) := by decide +kernel
theorem dX11_fits_89 : decode cX11_fits 89 = .ok (.iload_n 3, 1) := by decide +kernel
theorem dX11_fits_90 : decode cX11_fits 90 = .ok (.iload 4, 2) := by decide +kernel
theorem dX11_fits_92 : decode cX11_fits 92 = .ok (.iload 5, 2) := by decide +kernel
theorem dX11_fits_94 : decode cX11_fits 94 = .ok (.invokevirtual 283, 3) := by decide +kernel
theorem dX11_fits_97 : decode cX11_fits 97 = .ok (.invokevirtual 94, 3) := by decide +kernel
theorem dX11_fits_100 : decode cX11_fits 100 = .ok (.ireturn, 1) := by decide +kernel
theorem dX11_settled_0 : decode cX11_settled 0 = .ok (.aload_n 0, 1) := by decide +kernel
theorem dX11_settled_1 : decode cX11_settled 1 = .ok (.getfield 49, 3) := by decide +kernel
theorem dX11_settled_4 : decode cX11_settled 4 = .ok (.iload_n 1, 1) := by decide +kernel
theorem dX11_settled_5 : decode cX11_settled 5 = .ok (.invokevirtual 199, 3) := by decide +kernel
theorem dX11_settled_8 : decode cX11_settled 8 = .ok (.ifCond .eq 24, 3) := by decide +kernel
theorem dX11_settled_11 : decode cX11_settled 11 = .ok (.aload_n 0, 1) := by decide +kernel
theorem dX11_settled_12 : decode cX11_settled 12 = .ok (.getfield 49, 3) := by decide +kernel
theorem dX11_settled_15 : decode cX11_settled 15 = .ok (.iload_n 2, 1) := by decide +kernel
theorem dX11_settled_16 : decode cX11_settled 16 = .ok (.invokevirtual 190, 3) := by decide +kernel
theorem dX11_settled_19 : decode cX11_settled 19 = .ok (.ifCond .eq 13, 3) := by decide +kernel
theorem dX11_settled_22 : decode cX11_settled 22 = .ok (.iload_n 3, 1) := by decide +kernel
theorem dX11_settled_23 : decode cX11_settled 23 = .ok (.ifCond .lt 9, 3) := by decide +kernel
theorem dX11_settled_26 : decode cX11_settled 26 = .ok (.iload_n 3, 1) := by decide +kernel
theorem dX11_settled_27 : decode cX11_settled 27 = .ok (.bipush 20, 2) := by decide +kernel
theorem dX11_settled_29 : decode cX11_settled 29 = .ok (.if_icmp .le 6, 3) := by decide +kernel
theorem dX11_settled_32 : decode cX11_settled 32 = .ok (.ldc 85, 2) := by decide +kernel
theorem dX11_settled_34 : decode cX11_settled 34 = .ok (.ireturn, 1) := by decide +kernel
theorem dX11_settled_35 : decode cX11_settled 35 = .ok (.iload 4, 2) := by decide +kernel
theorem dX11_settled_37 : decode cX11_settled 37 = .ok (.ifCond .lt 18, 3) := by decide +kernel
theorem dX11_settled_40 : decode cX11_settled 40 = .ok (.iload 4, 2) := by decide +kernel
theorem dX11_settled_42 : decode cX11_settled 42 = .ok (.bipush 10, 2) := by decide +kernel
theorem dX11_settled_44 : decode cX11_settled 44 = .ok (.if_icmp .gt 11, 3) := by decide +kernel
theorem dX11_settled_47 : decode cX11_settled 47 = .ok (.iload 5, 2) := by decide +kernel
theorem dX11_settled_49 : decode cX11_settled 49 = .ok (.invokestatic 181, 3) := by decide +kernel
theorem dX11_settled_52 : decode cX11_settled 52 = .ok (.ifCond .ne 6, 3) := by decide +kernel
theorem dX11_settled_55 : decode cX11_settled 55 = .ok (.ldc 85, 2) := by decide +kernel
theorem dX11_settled_57 : decode cX11_settled 57 = .ok (.ireturn, 1) := by decide +kernel
theorem dX11_settled_58 : decode cX11_settled 58 = .ok (.aload_n 0, 1) := by decide +kernel
theorem dX11_settled_59 : decode cX11_settled 59 = .ok (.getfield 65, 3) := by decide +kernel
theorem dX11_settled_62 : decode cX11_settled 62 = .ok (.iload_n 1, 1) := by decide +kernel
theorem dX11_settled_63 : decode cX11_settled 63 = .ok (.iload_n 2, 1) := by decide +kernel
theorem dX11_settled_64 : decode cX11_settled 64 = .ok (.iload_n 3, 1) := by decide +kernel
theorem dX11_settled_65 : decode cX11_settled 65 = .ok (.iload 4, 2) := by decide +kernel
theorem dX11_settled_67 : decode cX11_settled 67 = .ok (.invokevirtual 287, 3) := by decide +kernel
theorem dX11_settled_70 : decode cX11_settled 70 = .ok (.istore 6, 2) := by decide +kernel
theorem dX11_settled_72 : decode cX11_settled 72 = .ok (.aload_n 0, 1) := by decide +kernel
theorem dX11_settled_73 : decode cX11_settled 73 = .ok (.getfield 65, 3) := by decide +kernel
theorem dX11_settled_76 : decode cX11_settled 76 = .ok (.invokevirtual 291, 3) := by decide +kernel
theorem dX11_settled_79 : decode cX11_settled 79 = .ok (.istore 7, 2) := by decide +kernel
theorem dX11_settled_81 : decode cX11_settled 81 = .ok (.iload 6, 2) := by decide +kernel
theorem dX11_settled_83 : decode cX11_settled 83 = .ok (.iload 7, 2) := by decide +kernel
theorem dX11_settled_85 : decode cX11_settled 85 = .ok (.invokestatic 294, 3) := by decide +kernel
theorem dX11_settled_88 : decode cX11_settled 88 = .ok (.istore 8, 2) := by decide +kernel
theorem dX11_settled_90 : decode cX11_settled 90 = .ok (.iload 8, 2) := by decide +kernel
theorem dX11_settled_92 : decode cX11_settled 92 = .ok (.iconst 1, 1) := by decide +kernel
theorem dX11_settled_93 : decode cX11_settled 93 = .ok (.if_icmp .ge 7, 3) := by decide +kernel
theorem dX11_settled_96 : decode cX11_settled 96 = .ok (.ldc_w 266, 3) := by decide +kernel
theorem dX11_settled_99 : decode cX11_settled 99 = .ok (.ireturn, 1) := by decide +kernel
theorem dX11_settled_100 : decode cX11_settled 100 = .ok (.iload 5, 2) := by decide +kernel
theorem dX11_settled_102 : decode cX11_settled 102 = .ok (.ifCond .ne 11, 3) := by decide +kernel
theorem dX11_settled_105 : decode cX11_settled 105 = .ok (.iload 6, 2) := by decide +kernel
theorem dX11_settled_107 : decode cX11_settled 107 = .ok (.iload 8, 2) := by decide +kernel
theorem dX11_settled_109 : decode cX11_settled 109 = .ok (.idiv, 1) := by decide +kernel
theorem dX11_settled_110 : decode cX11_settled 110 = .ok (.goto 8, 3) := by decide +kernel
theorem dX11_settled_113 : decode cX11_settled 113 = .ok (.iload 7, 2) := by decide +kernel
theorem dX11_settled_115 : decode cX11_settled 115 = .ok (.iload 8, 2) := by decide +kernel
theorem dX11_settled_117 : decode cX11_settled 117 = .ok (.idiv, 1) := by decide +kernel
theorem dX11_settled_118 : decode cX11_settled 118 = .ok (.ireturn, 1) := by decide +kernel
theorem dX11_drawn_0 : decode cX11_drawn 0 = .ok (.aload_n 0, 1) := by decide +kernel
theorem dX11_drawn_1 : decode cX11_drawn 1 = .ok (.invokevirtual 161, 3) := by decide +kernel
theorem dX11_drawn_4 : decode cX11_drawn 4 = .ok (.ifCond .eq 6, 3) := by decide +kernel
theorem dX11_drawn_7 : decode cX11_drawn 7 = .ok (.ldc 164, 2) := by decide +kernel
theorem dX11_drawn_9 : decode cX11_drawn 9 = .ok (.ireturn, 1) := by decide +kernel
theorem dX11_drawn_10 : decode cX11_drawn 10 = .ok (.iload_n 1, 1) := by decide +kernel
theorem dX11_drawn_11 : decode cX11_drawn 11 = .ok (.ifCond .lt 28, 3) := by decide +kernel
theorem dX11_drawn_14 : decode cX11_drawn 14 = .ok (.iload_n 1, 1) := by decide +kernel
theorem dX11_drawn_15 : decode cX11_drawn 15 = .ok (.bipush 60, 2) := by decide +kernel
theorem dX11_drawn_17 : decode cX11_drawn 17 = .ok (.if_icmp .gt 22, 3) := by decide +kernel
theorem dX11_drawn_20 : decode cX11_drawn 20 = .ok (.iload_n 2, 1) := by decide +kernel
theorem dX11_drawn_21 : decode cX11_drawn 21 = .ok (.iconst 1, 1) := by decide +kernel
theorem dX11_drawn_22 : decode cX11_drawn 22 = .ok (.if_icmp .lt 17, 3) := by decide +kernel
theorem dX11_drawn_25 : decode cX11_drawn 25 = .ok (.iload_n 2, 1) := by decide +kernel
theorem dX11_drawn_26 : decode cX11_drawn 26 = .ok (.ldc_w 297, 3) := by decide +kernel
theorem dX11_drawn_29 : decode cX11_drawn 29 = .ok (.if_icmp .gt 10, 3) := by decide +kernel
theorem dX11_drawn_32 : decode cX11_drawn 32 = .ok (.iload_n 3, 1) := by decide +kernel
theorem dX11_drawn_33 : decode cX11_drawn 33 = .ok (.invokestatic 181, 3) := by decide +kernel
theorem dX11_drawn_36 : decode cX11_drawn 36 = .ok (.ifCond .ne 6, 3) := by decide +kernel
theorem dX11_drawn_39 : decode cX11_drawn 39 = .ok (.ldc 85, 2) := by decide +kernel
theorem dX11_drawn_41 : decode cX11_drawn 41 = .ok (.ireturn, 1) := by decide +kernel
theorem dX11_drawn_42 : decode cX11_drawn 42 = .ok (.aload_n 0, 1) := by decide +kernel
theorem dX11_drawn_43 : decode cX11_drawn 43 = .ok (.getfield 65, 3) := by decide +kernel
theorem dX11_drawn_46 : decode cX11_drawn 46 = .ok (.iload_n 1, 1) := by decide +kernel
theorem dX11_drawn_47 : decode cX11_drawn 47 = .ok (.iload_n 2, 1) := by decide +kernel
theorem dX11_drawn_48 : decode cX11_drawn 48 = .ok (.iload_n 3, 1) := by decide +kernel
theorem dX11_drawn_49 : decode cX11_drawn 49 = .ok (.invokevirtual 298, 3) := by decide +kernel
theorem dX11_drawn_52 : decode cX11_drawn 52 = .ok (.ireturn, 1) := by decide +kernel
theorem dX11_image_0 : decode cX11_image 0 = .ok (.aload_n 0, 1) := by decide +kernel
theorem dX11_image_1 : decode cX11_image 1 = .ok (.iload_n 1, 1) := by decide +kernel
theorem dX11_image_2 : decode cX11_image 2 = .ok (.invokevirtual 301, 3) := by decide +kernel
theorem dX11_image_5 : decode cX11_image 5 = .ok (.astore_n 2, 1) := by decide +kernel
theorem dX11_image_6 : decode cX11_image 6 = .ok (.aload_n 2, 1) := by decide +kernel
theorem dX11_image_7 : decode cX11_image 7 = .ok (.ifnonnull 6, 3) := by decide +kernel
theorem dX11_image_10 : decode cX11_image 10 = .ok (.ldc 85, 2) := by decide +kernel
theorem dX11_image_12 : decode cX11_image 12 = .ok (.ireturn, 1) := by decide +kernel
theorem dX11_image_13 : decode cX11_image 13 = .ok (.aload_n 0, 1) := by decide +kernel
theorem dX11_image_14 : decode cX11_image 14 = .ok (.invokevirtual 161, 3) := by decide +kernel
theorem dX11_image_17 : decode cX11_image 17 = .ok (.ifCond .eq 6, 3) := by decide +kernel
theorem dX11_image_20 : decode cX11_image 20 = .ok (.ldc 164, 2) := by decide +kernel
theorem dX11_image_22 : decode cX11_image 22 = .ok (.ireturn, 1) := by decide +kernel
theorem dX11_image_23 : decode cX11_image 23 = .ok (.aload_n 2, 1) := by decide +kernel
theorem dX11_image_24 : decode cX11_image 24 = .ok (.aload_n 0, 1) := by decide +kernel
theorem dX11_image_25 : decode cX11_image 25 = .ok (.getfield 49, 3) := by decide +kernel
theorem dX11_image_28 : decode cX11_image 28 = .ok (.invokevirtual 151, 3) := by decide +kernel
theorem dX11_image_31 : decode cX11_image 31 = .ok (.iconst 1, 1) := by decide +kernel
theorem dX11_image_32 : decode cX11_image 32 = .ok (.ireturn, 1) := by decide +kernel
theorem dX11_restore_0 : decode cX11_restore 0 = .ok (.aload_n 0, 1) := by decide +kernel
theorem dX11_restore_1 : decode cX11_restore 1 = .ok (.iload_n 1, 1) := by decide +kernel
theorem dX11_restore_2 : decode cX11_restore 2 = .ok (.invokevirtual 301, 3) := by decide +kernel
theorem dX11_restore_5 : decode cX11_restore 5 = .ok (.astore_n 2, 1) := by decide +kernel
theorem dX11_restore_6 : decode cX11_restore 6 = .ok (.aload_n 2, 1) := by decide +kernel
theorem dX11_restore_7 : decode cX11_restore 7 = .ok (.ifnonnull 6, 3) := by decide +kernel
theorem dX11_restore_10 : decode cX11_restore 10 = .ok (.ldc 85, 2) := by decide +kernel
theorem dX11_restore_12 : decode cX11_restore 12 = .ok (.ireturn, 1) := by decide +kernel
theorem dX11_restore_13 : decode cX11_restore 13 = .ok (.aload_n 2, 1) := by decide +kernel
theorem dX11_restore_14 : decode cX11_restore 14 = .ok (.getfield 158, 3) := by decide +kernel
theorem dX11_restore_17 : decode cX11_restore 17 = .ok (.ifCond .ne 6, 3) := by decide +kernel
theorem dX11_restore_20 : decode cX11_restore 20 = .ok (.ldc 164, 2) := by decide +kernel
theorem dX11_restore_22 : decode cX11_restore 22 = .ok (.ireturn, 1) := by decide +kernel
theorem dX11_restore_23 : decode cX11_restore 23 = .ok (.aload_n 0, 1) := by decide +kernel
theorem dX11_restore_24 : decode cX11_restore 24 = .ok (.getfield 49, 3) := by decide +kernel
theorem dX11_restore_27 : decode cX11_restore 27 = .ok (.aload_n 2, 1) := by decide +kernel
theorem dX11_restore_28 : decode cX11_restore 28 = .ok (.invokevirtual 151, 3) := by decide +kernel
theorem dX11_restore_31 : decode cX11_restore 31 = .ok (.aload_n 0, 1) := by decide +kernel
theorem dX11_restore_32 : decode cX11_restore 32 = .ok (.invokevirtual 155, 3) := by decide +kernel
theorem dX11_restore_35 : decode cX11_restore 35 = .ok (.iconst 1, 1) := by decide +kernel
theorem dX11_restore_36 : decode cX11_restore 36 = .ok (.ireturn, 1) := by decide +kernel
theorem dX11_kind_0 : decode cX11_kind 0 = .ok (.aload_n 0, 1) := by decide +kernel
theorem dX11_kind_1 : decode cX11_kind 1 = .ok (.getfield 49, 3) := by decide +kernel
theorem dX11_kind_4 : decode cX11_kind 4 = .ok (.iload_n 1, 1) := by decide +kernel
theorem dX11_kind_5 : decode cX11_kind 5 = .ok (.invokevirtual 199, 3) := by decide +kernel
theorem dX11_kind_8 : decode cX11_kind 8 = .ok (.ifCond .eq 15, 3) := by decide +kernel
theorem dX11_kind_11 : decode cX11_kind 11 = .ok (.aload_n 0, 1) := by decide +kernel
theorem dX11_kind_12 : decode cX11_kind 12 = .ok (.getfield 49, 3) := by decide +kernel
theorem dX11_kind_15 : decode cX11_kind 15 = .ok (.getfield 305, 3) := by decide +kernel
theorem dX11_kind_18 : decode cX11_kind 18 = .ok (.iload_n 1, 1) := by decide +kernel
theorem dX11_kind_19 : decode cX11_kind 19 = .ok (.iaload, 1) := by decide +kernel
theorem dX11_kind_20 : decode cX11_kind 20 = .ok (.goto 5, 3) := by decide +kernel
theorem dX11_kind_23 : decode cX11_kind 23 = .ok (.ldc 85, 2) := by decide +kernel
theorem dX11_kind_25 : decode cX11_kind 25 = .ok (.ireturn, 1) := by decide +kernel
theorem dX11_as_0 : decode cX11_as 0 = .ok (.aload_n 0, 1) := by decide +kernel
theorem dX11_as_1 : decode cX11_as 1 = .ok (.getfield 49, 3) := by decide +kernel
theorem dX11_as_4 : decode cX11_as 4 = .ok (.iload_n 1, 1) := by decide +kernel
theorem dX11_as_5 : decode cX11_as 5 = .ok (.invokevirtual 199, 3) := by decide +kernel
theorem dX11_as_8 : decode cX11_as 8 = .ok (.ifCond .eq 13, 3) := by decide +kernel
theorem dX11_as_11 : decode cX11_as 11 = .ok (.iload_n 2, 1) := by decide +kernel
theorem dX11_as_12 : decode cX11_as 12 = .ok (.ifCond .lt 9, 3) := by decide +kernel
theorem dX11_as_15 : decode cX11_as 15 = .ok (.iload_n 2, 1) := by decide +kernel
theorem dX11_as_16 : decode cX11_as 16 = .ok (.bipush 6, 2) := by decide +kernel
theorem dX11_as_18 : decode cX11_as 18 = .ok (.if_icmp .lt 6, 3) := by decide +kernel
theorem dX11_as_21 : decode cX11_as 21 = .ok (.ldc 85, 2) := by decide +kernel
theorem dX11_as_23 : decode cX11_as 23 = .ok (.ireturn, 1) := by decide +kernel
theorem dX11_as_24 : decode cX11_as 24 = .ok (.aload_n 0, 1) := by decide +kernel
theorem dX11_as_25 : decode cX11_as 25 = .ok (.getfield 49, 3) := by decide +kernel
theorem dX11_as_28 : decode cX11_as 28 = .ok (.iload_n 1, 1) := by decide +kernel
theorem dX11_as_29 : decode cX11_as 29 = .ok (.invokevirtual 308, 3) := by decide +kernel
theorem dX11_as_32 : decode cX11_as 32 = .ok (.iload_n 2, 1) := by decide +kernel
theorem dX11_as_33 : decode cX11_as 33 = .ok (.invokestatic 312, 3) := by decide +kernel
theorem dX11_as_36 : decode cX11_as 36 = .ok (.ifCond .ne 9, 3) := by decide +kernel
theorem dX11_as_39 : decode cX11_as 39 = .ok (.aload_n 0, 1) := by decide +kernel
theorem dX11_as_40 : decode cX11_as 40 = .ok (.iconst 3, 1) := by decide +kernel
theorem dX11_as_41 : decode cX11_as 41 = .ok (.invokevirtual 86, 3) := by decide +kernel
theorem dX11_as_44 : decode cX11_as 44 = .ok (.ireturn, 1) := by decide +kernel
theorem dX11_as_45 : decode cX11_as 45 = .ok (.aload_n 0, 1) := by decide +kernel
theorem dX11_as_46 : decode cX11_as 46 = .ok (.iload_n 1, 1) := by decide +kernel
theorem dX11_as_47 : decode cX11_as 47 = .ok (.invokevirtual 94, 3) := by decide +kernel
theorem dX11_as_50 : decode cX11_as 50 = .ok (.ireturn, 1) := by decide +kernel
theorem dX11_ask_0 : decode cX11_ask 0 = .ok (.aload_n 0, 1) := by decide +kernel
theorem dX11_ask_1 : decode cX11_ask 1 = .ok (.getfield 49, 3) := by decide +kernel
theorem dX11_ask_4 : decode cX11_ask 4 = .ok (.iload_n 1, 1) := by decide +kernel
theorem dX11_ask_5 : decode cX11_ask 5 = .ok (.invokevirtual 199, 3) := by decide +kernel
theorem dX11_ask_8 : decode cX11_ask 8 = .ok (.ifCond .eq 10, 3) := by decide +kernel
theorem dX11_ask_11 : decode cX11_ask 11 = .ok (.iload_n 2, 1) := by decide +kernel
theorem dX11_ask_12 : decode cX11_ask 12 = .ok (.invokestatic 181, 3) := by decide +kernel
theorem dX11_ask_15 : decode cX11_ask 15 = .ok (.ifCond .ne 6, 3) := by decide +kernel
theorem dX11_ask_18 : decode cX11_ask 18 = .ok (.ldc 85, 2) := by decide +kernel
theorem dX11_ask_20 : decode cX11_ask 20 = .ok (.ireturn, 1) := by decide +kernel
theorem dX11_ask_21 : decode cX11_ask 21 = .ok (.aload_n 0, 1) := by decide +kernel
