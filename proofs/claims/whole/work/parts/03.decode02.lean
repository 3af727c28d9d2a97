theorem dX11_ask_22 : decode cX11_ask 22 = .ok (.getfield 49, 3) := by decide +kernel
theorem dX11_ask_25 : decode cX11_ask 25 = .ok (.iload_n 1, 1) := by decide +kernel
theorem dX11_ask_26 : decode cX11_ask 26 = .ok (.invokevirtual 308, 3) := by decide +kernel
theorem dX11_ask_29 : decode cX11_ask 29 = .ok (.astore_n 3, 1) := by decide +kernel
theorem dX11_ask_30 : decode cX11_ask 30 = .ok (.aload_n 3, 1) := by decide +kernel
theorem dX11_ask_31 : decode cX11_ask 31 = .ok (.ifnonnull 6, 3) := by decide +kernel
theorem dX11_ask_34 : decode cX11_ask 34 = .ok (.ldc 85, 2) := by decide +kernel
theorem dX11_ask_36 : decode cX11_ask 36 = .ok (.ireturn, 1) := by decide +kernel
theorem dX11_ask_37 : decode cX11_ask 37 = .ok (.aload_n 0, 1) := by decide +kernel
theorem dX11_ask_38 : decode cX11_ask 38 = .ok (.getfield 72, 3) := by decide +kernel
theorem dX11_ask_41 : decode cX11_ask 41 = .ok (.iload_n 1, 1) := by decide +kernel
theorem dX11_ask_42 : decode cX11_ask 42 = .ok (.aload_n 0, 1) := by decide +kernel
theorem dX11_ask_43 : decode cX11_ask 43 = .ok (.getfield 49, 3) := by decide +kernel
theorem dX11_ask_46 : decode cX11_ask 46 = .ok (.getfield 205, 3) := by decide +kernel
theorem dX11_ask_49 : decode cX11_ask 49 = .ok (.iload_n 1, 1) := by decide +kernel
theorem dX11_ask_50 : decode cX11_ask 50 = .ok (.iaload, 1) := by decide +kernel
theorem dX11_ask_51 : decode cX11_ask 51 = .ok (.aload_n 0, 1) := by decide +kernel
theorem dX11_ask_52 : decode cX11_ask 52 = .ok (.getfield 49, 3) := by decide +kernel
theorem dX11_ask_55 : decode cX11_ask 55 = .ok (.getfield 208, 3) := by decide +kernel
theorem dX11_ask_58 : decode cX11_ask 58 = .ok (.iload_n 1, 1) := by decide +kernel
theorem dX11_ask_59 : decode cX11_ask 59 = .ok (.iaload, 1) := by decide +kernel
theorem dX11_ask_60 : decode cX11_ask 60 = .ok (.invokestatic 258, 3) := by decide +kernel
theorem dX11_ask_63 : decode cX11_ask 63 = .ok (.invokevirtual 316, 3) := by decide +kernel
theorem dX11_ask_66 : decode cX11_ask 66 = .ok (.iload_n 2, 1) := by decide +kernel
theorem dX11_ask_67 : decode cX11_ask 67 = .ok (.ifCond .ne 14, 3) := by decide +kernel
theorem dX11_ask_70 : decode cX11_ask 70 = .ok (.aload_n 3, 1) := by decide +kernel
theorem dX11_ask_71 : decode cX11_ask 71 = .ok (.aload_n 0, 1) := by decide +kernel
theorem dX11_ask_72 : decode cX11_ask 72 = .ok (.getfield 72, 3) := by decide +kernel
theorem dX11_ask_75 : decode cX11_ask 75 = .ok (.invokevirtual 320, 3) := by decide +kernel
theorem dX11_ask_78 : decode cX11_ask 78 = .ok (.goto 11, 3) := by decide +kernel
theorem dX11_ask_81 : decode cX11_ask 81 = .ok (.aload_n 3, 1) := by decide +kernel
theorem dX11_ask_82 : decode cX11_ask 82 = .ok (.aload_n 0, 1) := by decide +kernel
theorem dX11_ask_83 : decode cX11_ask 83 = .ok (.getfield 72, 3) := by decide +kernel
theorem dX11_ask_86 : decode cX11_ask 86 = .ok (.invokevirtual 323, 3) := by decide +kernel
theorem dX11_ask_89 : decode cX11_ask 89 = .ok (.ireturn, 1) := by decide +kernel
theorem dX11_trace_0 : decode cX11_trace 0 = .ok (.iload_n 1, 1) := by decide +kernel
theorem dX11_trace_1 : decode cX11_trace 1 = .ok (.ifCond .lt 26, 3) := by decide +kernel
theorem dX11_trace_4 : decode cX11_trace 4 = .ok (.iload_n 1, 1) := by decide +kernel
theorem dX11_trace_5 : decode cX11_trace 5 = .ok (.aload_n 0, 1) := by decide +kernel
theorem dX11_trace_6 : decode cX11_trace 6 = .ok (.getfield 72, 3) := by decide +kernel
theorem dX11_trace_9 : decode cX11_trace 9 = .ok (.getfield 326, 3) := by decide +kernel
theorem dX11_trace_12 : decode cX11_trace 12 = .ok (.if_icmp .ge 15, 3) := by decide +kernel
theorem dX11_trace_15 : decode cX11_trace 15 = .ok (.aload_n 0, 1) := by decide +kernel
theorem dX11_trace_16 : decode cX11_trace 16 = .ok (.getfield 72, 3) := by decide +kernel
theorem dX11_trace_19 : decode cX11_trace 19 = .ok (.getfield 329, 3) := by decide +kernel
theorem dX11_trace_22 : decode cX11_trace 22 = .ok (.iload_n 1, 1) := by decide +kernel
theorem dX11_trace_23 : decode cX11_trace 23 = .ok (.iaload, 1) := by decide +kernel
theorem dX11_trace_24 : decode cX11_trace 24 = .ok (.goto 6, 3) := by decide +kernel
theorem dX11_trace_27 : decode cX11_trace 27 = .ok (.ldc_w 266, 3) := by decide +kernel
theorem dX11_trace_30 : decode cX11_trace 30 = .ok (.ireturn, 1) := by decide +kernel
theorem dX11_count_0 : decode cX11_count 0 = .ok (.iload_n 1, 1) := by decide +kernel
theorem dX11_count_1 : decode cX11_count 1 = .ok (.tableswitch 129 0 9 #[55, 60, 68, 76, 84, 92, 100, 108, 116, 121], 55) := by decide +kernel
theorem dX11_count_56 : decode cX11_count 56 = .ok (.aload_n 0, 1) := by decide +kernel
theorem dX11_count_57 : decode cX11_count 57 = .ok (.invokevirtual 332, 3) := by decide +kernel
theorem dX11_count_60 : decode cX11_count 60 = .ok (.ireturn, 1) := by decide +kernel
theorem dX11_count_61 : decode cX11_count 61 = .ok (.aload_n 0, 1) := by decide +kernel
theorem dX11_count_62 : decode cX11_count 62 = .ok (.getfield 49, 3) := by decide +kernel
theorem dX11_count_65 : decode cX11_count 65 = .ok (.getfield 158, 3) := by decide +kernel
theorem dX11_count_68 : decode cX11_count 68 = .ok (.ireturn, 1) := by decide +kernel
theorem dX11_count_69 : decode cX11_count 69 = .ok (.aload_n 0, 1) := by decide +kernel
theorem dX11_count_70 : decode cX11_count 70 = .ok (.getfield 49, 3) := by decide +kernel
theorem dX11_count_73 : decode cX11_count 73 = .ok (.getfield 335, 3) := by decide +kernel
theorem dX11_count_76 : decode cX11_count 76 = .ok (.ireturn, 1) := by decide +kernel
theorem dX11_count_77 : decode cX11_count 77 = .ok (.aload_n 0, 1) := by decide +kernel
theorem dX11_count_78 : decode cX11_count 78 = .ok (.getfield 49, 3) := by decide +kernel
theorem dX11_count_81 : decode cX11_count 81 = .ok (.getfield 338, 3) := by decide +kernel
theorem dX11_count_84 : decode cX11_count 84 = .ok (.ireturn, 1) := by decide +kernel
theorem dX11_count_85 : decode cX11_count 85 = .ok (.aload_n 0, 1) := by decide +kernel
theorem dX11_count_86 : decode cX11_count 86 = .ok (.getfield 49, 3) := by decide +kernel
theorem dX11_count_89 : decode cX11_count 89 = .ok (.getfield 165, 3) := by decide +kernel
theorem dX11_count_92 : decode cX11_count 92 = .ok (.ireturn, 1) := by decide +kernel
theorem dX11_count_93 : decode cX11_count 93 = .ok (.aload_n 0, 1) := by decide +kernel
theorem dX11_count_94 : decode cX11_count 94 = .ok (.getfield 49, 3) := by decide +kernel
theorem dX11_count_97 : decode cX11_count 97 = .ok (.getfield 341, 3) := by decide +kernel
theorem dX11_count_100 : decode cX11_count 100 = .ok (.ireturn, 1) := by decide +kernel
theorem dX11_count_101 : decode cX11_count 101 = .ok (.aload_n 0, 1) := by decide +kernel
theorem dX11_count_102 : decode cX11_count 102 = .ok (.getfield 49, 3) := by decide +kernel
theorem dX11_count_105 : decode cX11_count 105 = .ok (.getfield 193, 3) := by decide +kernel
theorem dX11_count_108 : decode cX11_count 108 = .ok (.ireturn, 1) := by decide +kernel
theorem dX11_count_109 : decode cX11_count 109 = .ok (.aload_n 0, 1) := by decide +kernel
theorem dX11_count_110 : decode cX11_count 110 = .ok (.getfield 49, 3) := by decide +kernel
theorem dX11_count_113 : decode cX11_count 113 = .ok (.invokevirtual 174, 3) := by decide +kernel
theorem dX11_count_116 : decode cX11_count 116 = .ok (.ireturn, 1) := by decide +kernel
theorem dX11_count_117 : decode cX11_count 117 = .ok (.aload_n 0, 1) := by decide +kernel
theorem dX11_count_118 : decode cX11_count 118 = .ok (.getfield 214, 3) := by decide +kernel
theorem dX11_count_121 : decode cX11_count 121 = .ok (.ireturn, 1) := by decide +kernel
theorem dX11_count_122 : decode cX11_count 122 = .ok (.aload_n 0, 1) := by decide +kernel
theorem dX11_count_123 : decode cX11_count 123 = .ok (.getfield 40, 3) := by decide +kernel
theorem dX11_count_126 : decode cX11_count 126 = .ok (.getfield 133, 3) := by decide +kernel
theorem dX11_count_129 : decode cX11_count 129 = .ok (.ireturn, 1) := by decide +kernel
theorem dX11_count_130 : decode cX11_count 130 = .ok (.ldc 85, 2) := by decide +kernel
theorem dX11_count_132 : decode cX11_count 132 = .ok (.ireturn, 1) := by decide +kernel
theorem dX11_status_0 : decode cX11_status 0 = .ok (.aload_n 0, 1) := by decide +kernel
theorem dX11_status_1 : decode cX11_status 1 = .ok (.getfield 344, 3) := by decide +kernel
theorem dX11_status_4 : decode cX11_status 4 = .ok (.ireturn, 1) := by decide +kernel
theorem dX11_found_0 : decode cX11_found 0 = .ok (.aload_n 0, 1) := by decide +kernel
theorem dX11_found_1 : decode cX11_found 1 = .ok (.iload_n 1, 1) := by decide +kernel
theorem dX11_found_2 : decode cX11_found 2 = .ok (.putfield 344, 3) := by decide +kernel
theorem dX11_found_5 : decode cX11_found 5 = .ok (.ldc_w 347, 3) := by decide +kernel
theorem dX11_found_8 : decode cX11_found 8 = .ok (.iload_n 1, 1) := by decide +kernel
theorem dX11_found_9 : decode cX11_found 9 = .ok (.isub, 1) := by decide +kernel
theorem dX11_found_10 : decode cX11_found 10 = .ok (.ireturn, 1) := by decide +kernel
theorem dX11_sound_0 : decode cX11_sound 0 = .ok (.aload_n 0, 1) := by decide +kernel
theorem dX11_sound_1 : decode cX11_sound 1 = .ok (.iconst 0, 1) := by decide +kernel
theorem dX11_sound_2 : decode cX11_sound 2 = .ok (.putfield 344, 3) := by decide +kernel
theorem dX11_sound_5 : decode cX11_sound 5 = .ok (.iload_n 1, 1) := by decide +kernel
theorem dX11_sound_6 : decode cX11_sound 6 = .ok (.ireturn, 1) := by decide +kernel
theorem dX11_noPaper_0 : decode cX11_noPaper 0 = .ok (.aload_n 0, 1) := by decide +kernel
theorem dX11_noPaper_1 : decode cX11_noPaper 1 = .ok (.getfield 49, 3) := by decide +kernel
theorem dX11_noPaper_4 : decode cX11_noPaper 4 = .ok (.getfield 158, 3) := by decide +kernel
theorem dX11_noPaper_7 : decode cX11_noPaper 7 = .ok (.ifCond .ne 7, 3) := by decide +kernel
theorem dX11_noPaper_10 : decode cX11_noPaper 10 = .ok (.iconst 1, 1) := by decide +kernel
theorem dX11_noPaper_11 : decode cX11_noPaper 11 = .ok (.goto 4, 3) := by decide +kernel
theorem dX11_noPaper_14 : decode cX11_noPaper 14 = .ok (.iconst 0, 1) := by decide +kernel
theorem dX11_noPaper_15 : decode cX11_noPaper 15 = .ok (.ireturn, 1) := by decide +kernel
theorem dX11_rowAt_0 : decode cX11_rowAt 0 = .ok (.iload_n 1, 1) := by decide +kernel
theorem dX11_rowAt_1 : decode cX11_rowAt 1 = .ok (.ifCond .lt 21, 3) := by decide +kernel
theorem dX11_rowAt_4 : decode cX11_rowAt 4 = .ok (.iload_n 1, 1) := by decide +kernel
theorem dX11_rowAt_5 : decode cX11_rowAt 5 = .ok (.aload_n 0, 1) := by decide +kernel
theorem dX11_rowAt_6 : decode cX11_rowAt 6 = .ok (.getfield 11, 3) := by decide +kernel
theorem dX11_rowAt_9 : decode cX11_rowAt 9 = .ok (.arraylength, 1) := by decide +kernel
theorem dX11_rowAt_10 : decode cX11_rowAt 10 = .ok (.if_icmp .ge 12, 3) := by decide +kernel
theorem dX11_rowAt_13 : decode cX11_rowAt 13 = .ok (.aload_n 0, 1) := by decide +kernel
theorem dX11_rowAt_14 : decode cX11_rowAt 14 = .ok (.getfield 11, 3) := by decide +kernel
theorem dX11_rowAt_17 : decode cX11_rowAt 17 = .ok (.iload_n 1, 1) := by decide +kernel
theorem dX11_rowAt_18 : decode cX11_rowAt 18 = .ok (.aaload, 1) := by decide +kernel
theorem dX11_rowAt_19 : decode cX11_rowAt 19 = .ok (.goto 4, 3) := by decide +kernel
theorem dX11_rowAt_22 : decode cX11_rowAt 22 = .ok (.aconst_null, 1) := by decide +kernel
theorem dX11_rowAt_23 : decode cX11_rowAt 23 = .ok (.areturn, 1) := by decide +kernel
theorem dX11_imageAt_0 : decode cX11_imageAt 0 = .ok (.iload_n 1, 1) := by decide +kernel
theorem dX11_imageAt_1 : decode cX11_imageAt 1 = .ok (.ifCond .lt 21, 3) := by decide +kernel
theorem dX11_imageAt_4 : decode cX11_imageAt 4 = .ok (.iload_n 1, 1) := by decide +kernel
theorem dX11_imageAt_5 : decode cX11_imageAt 5 = .ok (.aload_n 0, 1) := by decide +kernel
theorem dX11_imageAt_6 : decode cX11_imageAt 6 = .ok (.getfield 56, 3) := by decide +kernel
theorem dX11_imageAt_9 : decode cX11_imageAt 9 = .ok (.arraylength, 1) := by decide +kernel
theorem dX11_imageAt_10 : decode cX11_imageAt 10 = .ok (.if_icmp .ge 12, 3) := by decide +kernel
theorem dX11_imageAt_13 : decode cX11_imageAt 13 = .ok (.aload_n 0, 1) := by decide +kernel
theorem dX11_imageAt_14 : decode cX11_imageAt 14 = .ok (.getfield 56, 3) := by decide +kernel
theorem dX11_imageAt_17 : decode cX11_imageAt 17 = .ok (.iload_n 1, 1) := by decide +kernel
theorem dX11_imageAt_18 : decode cX11_imageAt 18 = .ok (.aaload, 1) := by decide +kernel
theorem dX11_imageAt_19 : decode cX11_imageAt 19 = .ok (.goto 4, 3) := by decide +kernel
theorem dX11_imageAt_22 : decode cX11_imageAt 22 = .ok (.aconst_null, 1) := by decide +kernel
theorem dX11_imageAt_23 : decode cX11_imageAt 23 = .ok (.areturn, 1) := by decide +kernel
theorem dX11_rowsThere_0 : decode cX11_rowsThere 0 = .ok (.iconst 0, 1) := by decide +kernel
theorem dX11_rowsThere_1 : decode cX11_rowsThere 1 = .ok (.istore_n 1, 1) := by decide +kernel
theorem dX11_rowsThere_2 : decode cX11_rowsThere 2 = .ok (.iconst 0, 1) := by decide +kernel
theorem dX11_rowsThere_3 : decode cX11_rowsThere 3 = .ok (.istore_n 2, 1) := by decide +kernel
theorem dX11_rowsThere_4 : decode cX11_rowsThere 4 = .ok (.iload_n 2, 1) := by decide +kernel
theorem dX11_rowsThere_5 : decode cX11_rowsThere 5 = .ok (.aload_n 0, 1) := by decide +kernel
theorem dX11_rowsThere_6 : decode cX11_rowsThere 6 = .ok (.getfield 11, 3) := by decide +kernel
theorem dX11_rowsThere_9 : decode cX11_rowsThere 9 = .ok (.arraylength, 1) := by decide +kernel
theorem dX11_rowsThere_10 : decode cX11_rowsThere 10 = .ok (.if_icmp .ge 30, 3) := by decide +kernel
theorem dX11_rowsThere_13 : decode cX11_rowsThere 13 = .ok (.aload_n 0, 1) := by decide +kernel
theorem dX11_rowsThere_14 : decode cX11_rowsThere 14 = .ok (.getfield 11, 3) := by decide +kernel
theorem dX11_rowsThere_17 : decode cX11_rowsThere 17 = .ok (.iload_n 2, 1) := by decide +kernel
theorem dX11_rowsThere_18 : decode cX11_rowsThere 18 = .ok (.aaload, 1) := by decide +kernel
theorem dX11_rowsThere_19 : decode cX11_rowsThere 19 = .ok (.astore_n 3, 1) := by decide +kernel
theorem dX11_rowsThere_20 : decode cX11_rowsThere 20 = .ok (.aload_n 3, 1) := by decide +kernel
theorem dX11_rowsThere_21 : decode cX11_rowsThere 21 = .ok (.ifnull 13, 3) := by decide +kernel
theorem dX11_rowsThere_24 : decode cX11_rowsThere 24 = .ok (.aload_n 3, 1) := by decide +kernel
theorem dX11_rowsThere_25 : decode cX11_rowsThere 25 = .ok (.invokevirtual 97, 3) := by decide +kernel
theorem dX11_rowsThere_28 : decode cX11_rowsThere 28 = .ok (.ifCond .ne 6, 3) := by decide +kernel
theorem dX11_rowsThere_31 : decode cX11_rowsThere 31 = .ok (.iinc 1 1, 3) := by decide +kernel
theorem dX11_rowsThere_34 : decode cX11_rowsThere 34 = .ok (.iinc 2 1, 3) := by decide +kernel
theorem dX11_rowsThere_37 : decode cX11_rowsThere 37 = .ok (.goto (-33), 3) := by decide +kernel
theorem dX11_rowsThere_40 : decode cX11_rowsThere 40 = .ok (.iload_n 1, 1) := by decide +kernel
theorem dX11_rowsThere_41 : decode cX11_rowsThere 41 = .ok (.ireturn, 1) := by decide +kernel
theorem dX11_keepAct_0 : decode cX11_keepAct 0 = .ok (.aload_n 0, 1) := by decide +kernel
theorem dX11_keepAct_1 : decode cX11_keepAct 1 = .ok (.getfield 49, 3) := by decide +kernel
theorem dX11_keepAct_4 : decode cX11_keepAct 4 = .ok (.aload_n 0, 1) := by decide +kernel
theorem dX11_keepAct_5 : decode cX11_keepAct 5 = .ok (.getfield 78, 3) := by decide +kernel
theorem dX11_keepAct_8 : decode cX11_keepAct 8 = .ok (.aload_n 0, 1) := by decide +kernel
theorem dX11_keepAct_9 : decode cX11_keepAct 9 = .ok (.getfield 217, 3) := by decide +kernel
theorem dX11_keepAct_12 : decode cX11_keepAct 12 = .ok (.aaload, 1) := by decide +kernel
theorem dX11_keepAct_13 : decode cX11_keepAct 13 = .ok (.invokevirtual 348, 3) := by decide +kernel
theorem dX11_keepAct_16 : decode cX11_keepAct 16 = .ok (.aload_n 0, 1) := by decide +kernel
theorem dX11_keepAct_17 : decode cX11_keepAct 17 = .ok (.aload_n 0, 1) := by decide +kernel
theorem dX11_keepAct_18 : decode cX11_keepAct 18 = .ok (.getfield 217, 3) := by decide +kernel
theorem dX11_keepAct_21 : decode cX11_keepAct 21 = .ok (.bipush 23, 2) := by decide +kernel
theorem dX11_keepAct_23 : decode cX11_keepAct 23 = .ok (.if_icmp .ne 7, 3) := by decide +kernel
theorem dX11_keepAct_26 : decode cX11_keepAct 26 = .ok (.iconst 0, 1) := by decide +kernel
theorem dX11_keepAct_27 : decode cX11_keepAct 27 = .ok (.goto 9, 3) := by decide +kernel
theorem dX11_keepAct_30 : decode cX11_keepAct 30 = .ok (.aload_n 0, 1) := by decide +kernel
theorem dX11_keepAct_31 : decode cX11_keepAct 31 = .ok (.getfield 217, 3) := by decide +kernel
theorem dX11_keepAct_34 : decode cX11_keepAct 34 = .ok (.iconst 1, 1) := by decide +kernel
theorem dX11_keepAct_35 : decode cX11_keepAct 35 = .ok (.iadd, 1) := by decide +kernel
theorem dX11_keepAct_36 : decode cX11_keepAct 36 = .ok (.putfield 217, 3) := by decide +kernel
theorem dX11_keepAct_39 : decode cX11_keepAct 39 = .ok (.aload_n 0, 1) := by decide +kernel
theorem dX11_keepAct_40 : decode cX11_keepAct 40 = .ok (.getfield 214, 3) := by decide +kernel
theorem dX11_keepAct_43 : decode cX11_keepAct 43 = .ok (.bipush 24, 2) := by decide +kernel
theorem dX11_keepAct_45 : decode cX11_keepAct 45 = .ok (.if_icmp .ge 13, 3) := by decide +kernel
theorem dX11_keepAct_48 : decode cX11_keepAct 48 = .ok (.aload_n 0, 1) := by decide +kernel
theorem dX11_keepAct_49 : decode cX11_keepAct 49 = .ok (.dup, 1) := by decide +kernel
theorem dX11_keepAct_50 : decode cX11_keepAct 50 = .ok (.getfield 214, 3) := by decide +kernel
theorem dX11_keepAct_53 : decode cX11_keepAct 53 = .ok (.iconst 1, 1) := by decide +kernel
theorem dX11_keepAct_54 : decode cX11_keepAct 54 = .ok (.iadd, 1) := by decide +kernel
theorem dX11_keepAct_55 : decode cX11_keepAct 55 = .ok (.putfield 214, 3) := by decide +kernel
theorem dX11_keepAct_58 : decode cX11_keepAct 58 = .ok (.return_, 1) := by decide +kernel
theorem dX11_forgetActs_0 : decode cX11_forgetActs 0 = .ok (.aload_n 0, 1) := by decide +kernel
theorem dX11_forgetActs_1 : decode cX11_forgetActs 1 = .ok (.iconst 0, 1) := by decide +kernel
theorem dX11_forgetActs_2 : decode cX11_forgetActs 2 = .ok (.putfield 214, 3) := by decide +kernel
theorem dX11_forgetActs_5 : decode cX11_forgetActs 5 = .ok (.aload_n 0, 1) := by decide +kernel
theorem dX11_forgetActs_6 : decode cX11_forgetActs 6 = .ok (.iconst 0, 1) := by decide +kernel
theorem dX11_forgetActs_7 : decode cX11_forgetActs 7 = .ok (.putfield 217, 3) := by decide +kernel
theorem dX11_forgetActs_10 : decode cX11_forgetActs 10 = .ok (.return_, 1) := by decide +kernel
theorem dX11_isBit_0 : decode cX11_isBit 0 = .ok (.iload_n 0, 1) := by decide +kernel
theorem dX11_isBit_1 : decode cX11_isBit 1 = .ok (.ifCond .eq 8, 3) := by decide +kernel
theorem dX11_isBit_4 : decode cX11_isBit 4 = .ok (.iload_n 0, 1) := by decide +kernel
theorem dX11_isBit_5 : decode cX11_isBit 5 = .ok (.iconst 1, 1) := by decide +kernel
theorem dX11_isBit_6 : decode cX11_isBit 6 = .ok (.if_icmp .ne 7, 3) := by decide +kernel
theorem dX11_isBit_9 : decode cX11_isBit 9 = .ok (.iconst 1, 1) := by decide +kernel
theorem dX11_isBit_10 : decode cX11_isBit 10 = .ok (.goto 4, 3) := by decide +kernel
theorem dX11_isBit_13 : decode cX11_isBit 13 = .ok (.iconst 0, 1) := by decide +kernel
theorem dX11_isBit_14 : decode cX11_isBit 14 = .ok (.ireturn, 1) := by decide +kernel
theorem dX11_bitOf_0 : decode cX11_bitOf 0 = .ok (.iload_n 0, 1) := by decide +kernel
theorem dX11_bitOf_1 : decode cX11_bitOf 1 = .ok (.iload_n 1, 1) := by decide +kernel
theorem dX11_bitOf_2 : decode cX11_bitOf 2 = .ok (.ishr, 1) := by decide +kernel
theorem dX11_bitOf_3 : decode cX11_bitOf 3 = .ok (.iconst 1, 1) := by decide +kernel
theorem dX11_bitOf_4 : decode cX11_bitOf 4 = .ok (.iand, 1) := by decide +kernel
theorem dX11_bitOf_5 : decode cX11_bitOf 5 = .ok (.ireturn, 1) := by decide +kernel
theorem dX11_commonDivisor_0 : decode cX11_commonDivisor 0 = .ok (.iload_n 0, 1) := by decide +kernel
theorem dX11_commonDivisor_1 : decode cX11_commonDivisor 1 = .ok (.istore_n 2, 1) := by decide +kernel
theorem dX11_commonDivisor_2 : decode cX11_commonDivisor 2 = .ok (.iload_n 1, 1) := by decide +kernel
theorem dX11_commonDivisor_3 : decode cX11_commonDivisor 3 = .ok (.istore_n 3, 1) := by decide +kernel
theorem dX11_commonDivisor_4 : decode cX11_commonDivisor 4 = .ok (.iconst 0, 1) := by decide +kernel
theorem dX11_commonDivisor_5 : decode cX11_commonDivisor 5 = .ok (.istore 4, 2) := by decide +kernel
theorem dX11_commonDivisor_7 : decode cX11_commonDivisor 7 = .ok (.iload 4, 2) := by decide +kernel
theorem dX11_commonDivisor_9 : decode cX11_commonDivisor 9 = .ok (.bipush 64, 2) := by decide +kernel
theorem dX11_commonDivisor_11 : decode cX11_commonDivisor 11 = .ok (.if_icmp .ge 23, 3) := by decide +kernel
theorem dX11_commonDivisor_14 : decode cX11_commonDivisor 14 = .ok (.iload_n 3, 1) := by decide +kernel
theorem dX11_commonDivisor_15 : decode cX11_commonDivisor 15 = .ok (.ifCond .eq 19, 3) := by decide +kernel
theorem dX11_commonDivisor_18 : decode cX11_commonDivisor 18 = .ok (.iload_n 2, 1) := by decide +kernel
theorem dX11_commonDivisor_19 : decode cX11_commonDivisor 19 = .ok (.iload_n 3, 1) := by decide +kernel
theorem dX11_commonDivisor_20 : decode cX11_commonDivisor 20 = .ok (.irem, 1) := by decide +kernel
theorem dX11_commonDivisor_21 : decode cX11_commonDivisor 21 = .ok (.istore 5, 2) := by decide +kernel
theorem dX11_commonDivisor_23 : decode cX11_commonDivisor 23 = .ok (.iload_n 3, 1) := by decide +kernel
theorem dX11_commonDivisor_24 : decode cX11_commonDivisor 24 = .ok (.istore_n 2, 1) := by decide +kernel
theorem dX11_commonDivisor_25 : decode cX11_commonDivisor 25 = .ok (.iload 5, 2) := by decide +kernel
theorem dX11_commonDivisor_27 : decode cX11_commonDivisor 27 = .ok (.istore_n 3, 1) := by decide +kernel
theorem dX11_commonDivisor_28 : decode cX11_commonDivisor 28 = .ok (.iinc 4 1, 3) := by decide +kernel
theorem dX11_commonDivisor_31 : decode cX11_commonDivisor 31 = .ok (.goto (-24), 3) := by decide +kernel
theorem dX11_commonDivisor_34 : decode cX11_commonDivisor 34 = .ok (.iload_n 2, 1) := by decide +kernel
theorem dX11_commonDivisor_35 : decode cX11_commonDivisor 35 = .ok (.ireturn, 1) := by decide +kernel
theorem dX11_isOfKind_0 : decode cX11_isOfKind 0 = .ok (.iload_n 1, 1) := by decide +kernel
theorem dX11_isOfKind_1 : decode cX11_isOfKind 1 = .ok (.tableswitch 74 0 5 #[39, 49, 54, 59, 64, 69], 39) := by decide +kernel
theorem dX11_isOfKind_40 : decode cX11_isOfKind 40 = .ok (.aload_n 0, 1) := by decide +kernel
theorem dX11_isOfKind_41 : decode cX11_isOfKind 41 = .ok (.ifnull 7, 3) := by decide +kernel
theorem dX11_isOfKind_44 : decode cX11_isOfKind 44 = .ok (.iconst 1, 1) := by decide +kernel
theorem dX11_isOfKind_45 : decode cX11_isOfKind 45 = .ok (.goto 4, 3) := by decide +kernel
theorem dX11_isOfKind_48 : decode cX11_isOfKind 48 = .ok (.iconst 0, 1) := by decide +kernel
theorem dX11_isOfKind_49 : decode cX11_isOfKind 49 = .ok (.ireturn, 1) := by decide +kernel
theorem dX11_isOfKind_50 : decode cX11_isOfKind 50 = .ok (.aload_n 0, 1) := by decide +kernel
theorem dX11_isOfKind_51 : decode cX11_isOfKind 51 = .ok (.instanceof 22, 3) := by decide +kernel
theorem dX11_isOfKind_54 : decode cX11_isOfKind 54 = .ok (.ireturn, 1) := by decide +kernel
theorem dX11_isOfKind_55 : decode cX11_isOfKind 55 = .ok (.aload_n 0, 1) := by decide +kernel
theorem dX11_isOfKind_56 : decode cX11_isOfKind 56 = .ok (.instanceof 25, 3) := by decide +kernel
theorem dX11_isOfKind_59 : decode cX11_isOfKind 59 = .ok (.ireturn, 1) := by decide +kernel
theorem dX11_isOfKind_60 : decode cX11_isOfKind 60 = .ok (.aload_n 0, 1) := by decide +kernel
theorem dX11_isOfKind_61 : decode cX11_isOfKind 61 = .ok (.instanceof 28, 3) := by decide +kernel
theorem dX11_isOfKind_64 : decode cX11_isOfKind 64 = .ok (.ireturn, 1) := by decide +kernel
theorem dX11_isOfKind_65 : decode cX11_isOfKind 65 = .ok (.aload_n 0, 1) := by decide +kernel
theorem dX11_isOfKind_66 : decode cX11_isOfKind 66 = .ok (.instanceof 31, 3) := by decide +kernel
theorem dX11_isOfKind_69 : decode cX11_isOfKind 69 = .ok (.ireturn, 1) := by decide +kernel
theorem dX11_isOfKind_70 : decode cX11_isOfKind 70 = .ok (.aload_n 0, 1) := by decide +kernel
theorem dX11_isOfKind_71 : decode cX11_isOfKind 71 = .ok (.instanceof 34, 3) := by decide +kernel
theorem dX11_isOfKind_74 : decode cX11_isOfKind 74 = .ok (.ireturn, 1) := by decide +kernel
theorem dX11_isOfKind_75 : decode cX11_isOfKind 75 = .ok (.iconst 0, 1) := by decide +kernel
theorem dX11_isOfKind_76 : decode cX11_isOfKind 76 = .ok (.ireturn, 1) := by decide +kernel
theorem dX12_init_0 : decode cX12_init 0 = .ok (.aload_n 0, 1) := by decide +kernel
theorem dX12_init_1 : decode cX12_init 1 = .ok (.invokespecial 1, 3) := by decide +kernel
theorem dX12_init_4 : decode cX12_init 4 = .ok (.aload_n 0, 1) := by decide +kernel
theorem dX12_init_5 : decode cX12_init 5 = .ok (.bipush 8, 2) := by decide +kernel
theorem dX12_init_7 : decode cX12_init 7 = .ok (.newarray .int, 2) := by decide +kernel
theorem dX12_init_9 : decode cX12_init 9 = .ok (.putfield 7, 3) := by decide +kernel
theorem dX12_init_12 : decode cX12_init 12 = .ok (.aload_n 0, 1) := by decide +kernel
theorem dX12_init_13 : decode cX12_init 13 = .ok (.bipush 8, 2) := by decide +kernel
theorem dX12_init_15 : decode cX12_init 15 = .ok (.newarray .int, 2) := by decide +kernel
theorem dX12_init_17 : decode cX12_init 17 = .ok (.putfield 13, 3) := by decide +kernel
theorem dX12_init_20 : decode cX12_init 20 = .ok (.aload_n 0, 1) := by decide +kernel
theorem dX12_init_21 : decode cX12_init 21 = .ok (.sipush 320, 3) := by decide +kernel
theorem dX12_init_24 : decode cX12_init 24 = .ok (.newarray .int, 2) := by decide +kernel
theorem dX12_init_26 : decode cX12_init 26 = .ok (.putfield 16, 3) := by decide +kernel
theorem dX12_init_29 : decode cX12_init 29 = .ok (.aload_n 0, 1) := by decide +kernel
theorem dX12_init_30 : decode cX12_init 30 = .ok (.bipush 40, 2) := by decide +kernel
theorem dX12_init_32 : decode cX12_init 32 = .ok (.newarray .int, 2) := by decide +kernel
theorem dX12_init_34 : decode cX12_init 34 = .ok (.putfield 19, 3) := by decide +kernel
theorem dX12_init_37 : decode cX12_init 37 = .ok (.aload_n 0, 1) := by decide +kernel
theorem dX12_init_38 : decode cX12_init 38 = .ok (.bipush 90, 2) := by decide +kernel
theorem dX12_init_40 : decode cX12_init 40 = .ok (.newarray .byte, 2) := by decide +kernel
theorem dX12_init_42 : decode cX12_init 42 = .ok (.putfield 22, 3) := by decide +kernel
theorem dX12_init_45 : decode cX12_init 45 = .ok (.aload_n 0, 1) := by decide +kernel
theorem dX12_init_46 : decode cX12_init 46 = .ok (.bipush 33, 2) := by decide +kernel
theorem dX12_init_48 : decode cX12_init 48 = .ok (.newarray .int, 2) := by decide +kernel
theorem dX12_init_50 : decode cX12_init 50 = .ok (.putfield 26, 3) := by decide +kernel
theorem dX12_init_53 : decode cX12_init 53 = .ok (.aload_n 0, 1) := by decide +kernel
theorem dX12_init_54 : decode cX12_init 54 = .ok (.bipush 33, 2) := by decide +kernel
theorem dX12_init_56 : decode cX12_init 56 = .ok (.newarray .int, 2) := by decide +kernel
theorem dX12_init_58 : decode cX12_init 58 = .ok (.putfield 29, 3) := by decide +kernel
theorem dX12_init_61 : decode cX12_init 61 = .ok (.aload_n 0, 1) := by decide +kernel
theorem dX12_init_62 : decode cX12_init 62 = .ok (.bipush 22, 2) := by decide +kernel
theorem dX12_init_64 : decode cX12_init 64 = .ok (.newarray .int, 2) := by decide +kernel
theorem dX12_init_66 : decode cX12_init 66 = .ok (.putfield 32, 3) := by decide +kernel
theorem dX12_init_69 : decode cX12_init 69 = .ok (.aload_n 0, 1) := by decide +kernel
theorem dX12_init_70 : decode cX12_init 70 = .ok (.bipush 22, 2) := by decide +kernel
theorem dX12_init_72 : decode cX12_init 72 = .ok (.newarray .int, 2) := by decide +kernel
theorem dX12_init_74 : decode cX12_init 74 = .ok (.putfield 35, 3) := by decide +kernel
theorem dX12_init_77 : decode cX12_init 77 = .ok (.aload_n 0, 1) := by decide +kernel
theorem dX12_init_78 : decode cX12_init 78 = .ok (.bipush 22, 2) := by decide +kernel
theorem dX12_init_80 : decode cX12_init 80 = .ok (.newarray .int, 2) := by decide +kernel
theorem dX12_init_82 : decode cX12_init 82 = .ok (.putfield 38, 3) := by decide +kernel
theorem dX12_init_85 : decode cX12_init 85 = .ok (.aload_n 0, 1) := by decide +kernel
theorem dX12_init_86 : decode cX12_init 86 = .ok (.sipush 528, 3) := by decide +kernel
theorem dX12_init_89 : decode cX12_init 89 = .ok (.newarray .int, 2) := by decide +kernel
theorem dX12_init_91 : decode cX12_init 91 = .ok (.putfield 41, 3) := by decide +kernel
theorem dX12_init_94 : decode cX12_init 94 = .ok (.aload_n 0, 1) := by decide +kernel
theorem dX12_init_95 : decode cX12_init 95 = .ok (.bipush 66, 2) := by decide +kernel
theorem dX12_init_97 : decode cX12_init 97 = .ok (.newarray .int, 2) := by decide +kernel
theorem dX12_init_99 : decode cX12_init 99 = .ok (.putfield 44, 3) := by decide +kernel
theorem dX12_init_102 : decode cX12_init 102 = .ok (.aload_n 0, 1) := by decide +kernel
theorem dX12_init_103 : decode cX12_init 103 = .ok (.bipush 44, 2) := by decide +kernel
theorem dX12_init_105 : decode cX12_init 105 = .ok (.newarray .int, 2) := by decide +kernel
theorem dX12_init_107 : decode cX12_init 107 = .ok (.putfield 47, 3) := by decide +kernel
theorem dX12_init_110 : decode cX12_init 110 = .ok (.aload_n 0, 1) := by decide +kernel
theorem dX12_init_111 : decode cX12_init 111 = .ok (.iconst 2, 1) := by decide +kernel
theorem dX12_init_112 : decode cX12_init 112 = .ok (.newarray .boolean, 2) := by decide +kernel
theorem dX12_init_114 : decode cX12_init 114 = .ok (.putfield 50, 3) := by decide +kernel
theorem dX12_init_117 : decode cX12_init 117 = .ok (.aload_n 0, 1) := by decide +kernel
theorem dX12_init_118 : decode cX12_init 118 = .ok (.sipush 150, 3) := by decide +kernel
theorem dX12_init_121 : decode cX12_init 121 = .ok (.newarray .int, 2) := by decide +kernel
theorem dX12_init_123 : decode cX12_init 123 = .ok (.putfield 54, 3) := by decide +kernel
theorem dX12_init_126 : decode cX12_init 126 = .ok (.aload_n 0, 1) := by decide +kernel
theorem dX12_init_127 : decode cX12_init 127 = .ok (.bipush 16, 2) := by decide +kernel
theorem dX12_init_129 : decode cX12_init 129 = .ok (.newarray .int, 2) := by decide +kernel
theorem dX12_init_131 : decode cX12_init 131 = .ok (.putfield 57, 3) := by decide +kernel
theorem dX12_init_134 : decode cX12_init 134 = .ok (.iconst 0, 1) := by decide +kernel
theorem dX12_init_135 : decode cX12_init 135 = .ok (.istore_n 1, 1) := by decide +kernel
theorem dX12_init_136 : decode cX12_init 136 = .ok (.iload_n 1, 1) := by decide +kernel
theorem dX12_init_137 : decode cX12_init 137 = .ok (.bipush 8, 2) := by decide +kernel
theorem dX12_init_139 : decode cX12_init 139 = .ok (.if_icmp .ge 17, 3) := by decide +kernel
theorem dX12_init_142 : decode cX12_init 142 = .ok (.aload_n 0, 1) := by decide +kernel
theorem dX12_init_143 : decode cX12_init 143 = .ok (.getfield 7, 3) := by decide +kernel
theorem dX12_init_146 : decode cX12_init 146 = .ok (.iload_n 1, 1) := by decide +kernel
theorem dX12_init_147 : decode cX12_init 147 = .ok (.ldc 60, 2) := by decide +kernel
theorem dX12_init_149 : decode cX12_init 149 = .ok (.iastore, 1) := by decide +kernel
theorem dX12_init_150 : decode cX12_init 150 = .ok (.iinc 1 1, 3) := by decide +kernel
theorem dX12_init_153 : decode cX12_init 153 = .ok (.goto (-17), 3) := by decide +kernel
theorem dX12_init_156 : decode cX12_init 156 = .ok (.return_, 1) := by decide +kernel
theorem dX12_in_0 : decode cX12_in 0 = .ok (.iload_n 0, 1) := by decide +kernel
theorem dX12_in_1 : decode cX12_in 1 = .ok (.iload_n 1, 1) := by decide +kernel
theorem dX12_in_2 : decode cX12_in 2 = .ok (.if_icmp .lt 12, 3) := by decide +kernel
theorem dX12_in_5 : decode cX12_in 5 = .ok (.iload_n 0, 1) := by decide +kernel
theorem dX12_in_6 : decode cX12_in 6 = .ok (.iload_n 2, 1) := by decide +kernel
theorem dX12_in_7 : decode cX12_in 7 = .ok (.if_icmp .gt 7, 3) := by decide +kernel
theorem dX12_in_10 : decode cX12_in 10 = .ok (.iconst 1, 1) := by decide +kernel
theorem dX12_in_11 : decode cX12_in 11 = .ok (.goto 4, 3) := by decide +kernel
theorem dX12_in_14 : decode cX12_in 14 = .ok (.iconst 0, 1) := by decide +kernel
theorem dX12_in_15 : decode cX12_in 15 = .ok (.ireturn, 1) := by decide +kernel
theorem dX12_has_0 : decode cX12_has 0 = .ok (.iload_n 0, 1) := by decide +kernel
theorem dX12_has_1 : decode cX12_has 1 = .ok (.iload_n 1, 1) := by decide +kernel
theorem dX12_has_2 : decode cX12_has 2 = .ok (.ishr, 1) := by decide +kernel
theorem dX12_has_3 : decode cX12_has 3 = .ok (.iconst 1, 1) := by decide +kernel
theorem dX12_has_4 : decode cX12_has 4 = .ok (.iand, 1) := by decide +kernel
theorem dX12_has_5 : decode cX12_has 5 = .ok (.iconst 1, 1) := by decide +kernel
theorem dX12_has_6 : decode cX12_has 6 = .ok (.if_icmp .ne 7, 3) := by decide +kernel
theorem dX12_has_9 : decode cX12_has 9 = .ok (.iconst 1, 1) := by decide +kernel
theorem dX12_has_10 : decode cX12_has 10 = .ok (.goto 4, 3) := by decide +kernel
theorem dX12_has_13 : decode cX12_has 13 = .ok (.iconst 0, 1) := by decide +kernel
theorem dX12_has_14 : decode cX12_has 14 = .ok (.ireturn, 1) := by decide +kernel
theorem dX12_bitsOf_0 : decode cX12_bitsOf 0 = .ok (.iconst 0, 1) := by decide +kernel
theorem dX12_bitsOf_1 : decode cX12_bitsOf 1 = .ok (.istore_n 1, 1) := by decide +kernel
theorem dX12_bitsOf_2 : decode cX12_bitsOf 2 = .ok (.iconst 0, 1) := by decide +kernel
theorem dX12_bitsOf_3 : decode cX12_bitsOf 3 = .ok (.istore_n 2, 1) := by decide +kernel
theorem dX12_bitsOf_4 : decode cX12_bitsOf 4 = .ok (.iload_n 2, 1) := by decide +kernel
theorem dX12_bitsOf_5 : decode cX12_bitsOf 5 = .ok (.bipush 24, 2) := by decide +kernel
theorem dX12_bitsOf_7 : decode cX12_bitsOf 7 = .ok (.if_icmp .ge 17, 3) := by decide +kernel
theorem dX12_bitsOf_10 : decode cX12_bitsOf 10 = .ok (.iload_n 1, 1) := by decide +kernel
theorem dX12_bitsOf_11 : decode cX12_bitsOf 11 = .ok (.iload_n 0, 1) := by decide +kernel
theorem dX12_bitsOf_12 : decode cX12_bitsOf 12 = .ok (.iload_n 2, 1) := by decide +kernel
theorem dX12_bitsOf_13 : decode cX12_bitsOf 13 = .ok (.ishr, 1) := by decide +kernel
theorem dX12_bitsOf_14 : decode cX12_bitsOf 14 = .ok (.iconst 1, 1) := by decide +kernel
theorem dX12_bitsOf_15 : decode cX12_bitsOf 15 = .ok (.iand, 1) := by decide +kernel
theorem dX12_bitsOf_16 : decode cX12_bitsOf 16 = .ok (.iadd, 1) := by decide +kernel
theorem dX12_bitsOf_17 : decode cX12_bitsOf 17 = .ok (.istore_n 1, 1) := by decide +kernel
theorem dX12_bitsOf_18 : decode cX12_bitsOf 18 = .ok (.iinc 2 1, 3) := by decide +kernel
theorem dX12_bitsOf_21 : decode cX12_bitsOf 21 = .ok (.goto (-17), 3) := by decide +kernel
theorem dX12_bitsOf_24 : decode cX12_bitsOf 24 = .ok (.iload_n 1, 1) := by decide +kernel
theorem dX12_bitsOf_25 : decode cX12_bitsOf 25 = .ok (.ireturn, 1) := by decide +kernel
theorem dX12_isRow_0 : decode cX12_isRow 0 = .ok (.iload_n 0, 1) := by decide +kernel
theorem dX12_isRow_1 : decode cX12_isRow 1 = .ok (.iconst 0, 1) := by decide +kernel
theorem dX12_isRow_2 : decode cX12_isRow 2 = .ok (.bipush 7, 2) := by decide +kernel
theorem dX12_isRow_4 : decode cX12_isRow 4 = .ok (.invokestatic 61, 3) := by decide +kernel
theorem dX12_isRow_7 : decode cX12_isRow 7 = .ok (.ireturn, 1) := by decide +kernel
theorem dX12_found_0 : decode cX12_found 0 = .ok (.aload_n 0, 1) := by decide +kernel
theorem dX12_found_1 : decode cX12_found 1 = .ok (.iload_n 1, 1) := by decide +kernel
theorem dX12_found_2 : decode cX12_found 2 = .ok (.putfield 65, 3) := by decide +kernel
theorem dX12_found_5 : decode cX12_found 5 = .ok (.ldc 69, 2) := by decide +kernel
theorem dX12_found_7 : decode cX12_found 7 = .ok (.iload_n 1, 1) := by decide +kernel
theorem dX12_found_8 : decode cX12_found 8 = .ok (.isub, 1) := by decide +kernel
theorem dX12_found_9 : decode cX12_found 9 = .ok (.ireturn, 1) := by decide +kernel
theorem dX12_well_0 : decode cX12_well 0 = .ok (.aload_n 0, 1) := by decide +kernel
theorem dX12_well_1 : decode cX12_well 1 = .ok (.iconst 0, 1) := by decide +kernel
theorem dX12_well_2 : decode cX12_well 2 = .ok (.putfield 65, 3) := by decide +kernel
theorem dX12_well_5 : decode cX12_well 5 = .ok (.iload_n 1, 1) := by decide +kernel
theorem dX12_well_6 : decode cX12_well 6 = .ok (.ireturn, 1) := by decide +kernel
theorem dX12_row_0 : decode cX12_row 0 = .ok (.iload_n 1, 1) := by decide +kernel
theorem dX12_row_1 : decode cX12_row 1 = .ok (.invokestatic 70, 3) := by decide +kernel
theorem dX12_row_4 : decode cX12_row 4 = .ok (.ifCond .eq 18, 3) := by decide +kernel
theorem dX12_row_7 : decode cX12_row 7 = .ok (.iload_n 2, 1) := by decide +kernel
theorem dX12_row_8 : decode cX12_row 8 = .ok (.iconst 0, 1) := by decide +kernel
theorem dX12_row_9 : decode cX12_row 9 = .ok (.iconst 2, 1) := by decide +kernel
theorem dX12_row_10 : decode cX12_row 10 = .ok (.invokestatic 61, 3) := by decide +kernel
theorem dX12_row_13 : decode cX12_row 13 = .ok (.ifCond .eq 9, 3) := by decide +kernel
theorem dX12_row_16 : decode cX12_row 16 = .ok (.iload_n 3, 1) := by decide +kernel
theorem dX12_row_17 : decode cX12_row 17 = .ok (.bipush 40, 2) := by decide +kernel
theorem dX12_row_19 : decode cX12_row 19 = .ok (.if_icmp .le 6, 3) := by decide +kernel
theorem dX12_row_22 : decode cX12_row 22 = .ok (.ldc 74, 2) := by decide +kernel
theorem dX12_row_24 : decode cX12_row 24 = .ok (.ireturn, 1) := by decide +kernel
theorem dX12_row_25 : decode cX12_row 25 = .ok (.iload_n 3, 1) := by decide +kernel
theorem dX12_row_26 : decode cX12_row 26 = .ok (.ifCond .ge 9, 3) := by decide +kernel
theorem dX12_row_29 : decode cX12_row 29 = .ok (.aload_n 0, 1) := by decide +kernel
theorem dX12_row_30 : decode cX12_row 30 = .ok (.iconst 4, 1) := by decide +kernel
theorem dX12_row_31 : decode cX12_row 31 = .ok (.invokevirtual 75, 3) := by decide +kernel
theorem dX12_row_34 : decode cX12_row 34 = .ok (.ireturn, 1) := by decide +kernel
theorem dX12_row_35 : decode cX12_row 35 = .ok (.aload_n 0, 1) := by decide +kernel
theorem dX12_row_36 : decode cX12_row 36 = .ok (.getfield 7, 3) := by decide +kernel
theorem dX12_row_39 : decode cX12_row 39 = .ok (.iload_n 1, 1) := by decide +kernel
theorem dX12_row_40 : decode cX12_row 40 = .ok (.iload_n 2, 1) := by decide +kernel
theorem dX12_row_41 : decode cX12_row 41 = .ok (.iastore, 1) := by decide +kernel
theorem dX12_row_42 : decode cX12_row 42 = .ok (.aload_n 0, 1) := by decide +kernel
theorem dX12_row_43 : decode cX12_row 43 = .ok (.getfield 13, 3) := by decide +kernel
theorem dX12_row_46 : decode cX12_row 46 = .ok (.iload_n 1, 1) := by decide +kernel
theorem dX12_row_47 : decode cX12_row 47 = .ok (.iload_n 3, 1) := by decide +kernel
theorem dX12_row_48 : decode cX12_row 48 = .ok (.iastore, 1) := by decide +kernel
theorem dX12_row_49 : decode cX12_row 49 = .ok (.iconst 0, 1) := by decide +kernel
theorem dX12_row_50 : decode cX12_row 50 = .ok (.istore 4, 2) := by decide +kernel
theorem dX12_row_52 : decode cX12_row 52 = .ok (.iload 4, 2) := by decide +kernel
theorem dX12_row_54 : decode cX12_row 54 = .ok (.bipush 40, 2) := by decide +kernel
theorem dX12_row_56 : decode cX12_row 56 = .ok (.if_icmp .ge 22, 3) := by decide +kernel
theorem dX12_row_59 : decode cX12_row 59 = .ok (.aload_n 0, 1) := by decide +kernel
theorem dX12_row_60 : decode cX12_row 60 = .ok (.getfield 16, 3) := by decide +kernel
theorem dX12_row_63 : decode cX12_row 63 = .ok (.bipush 40, 2) := by decide +kernel
theorem dX12_row_65 : decode cX12_row 65 = .ok (.iload_n 1, 1) := by decide +kernel
theorem dX12_row_66 : decode cX12_row 66 = .ok (.imul, 1) := by decide +kernel
theorem dX12_row_67 : decode cX12_row 67 = .ok (.iload 4, 2) := by decide +kernel
theorem dX12_row_69 : decode cX12_row 69 = .ok (.iadd, 1) := by decide +kernel
theorem dX12_row_70 : decode cX12_row 70 = .ok (.iconst 0, 1) := by decide +kernel
theorem dX12_row_71 : decode cX12_row 71 = .ok (.iastore, 1) := by decide +kernel
theorem dX12_row_72 : decode cX12_row 72 = .ok (.iinc 4 1, 3) := by decide +kernel
theorem dX12_row_75 : decode cX12_row 75 = .ok (.goto (-23), 3) := by decide +kernel
theorem dX12_row_78 : decode cX12_row 78 = .ok (.aload_n 0, 1) := by decide +kernel
theorem dX12_row_79 : decode cX12_row 79 = .ok (.iload_n 3, 1) := by decide +kernel
theorem dX12_row_80 : decode cX12_row 80 = .ok (.invokevirtual 79, 3) := by decide +kernel
theorem dX12_row_83 : decode cX12_row 83 = .ok (.ireturn, 1) := by decide +kernel
theorem dX12_set_0 : decode cX12_set 0 = .ok (.iload_n 1, 1) := by decide +kernel
theorem dX12_set_1 : decode cX12_set 1 = .ok (.invokestatic 70, 3) := by decide +kernel
theorem dX12_set_4 : decode cX12_set 4 = .ok (.ifCond .ne 6, 3) := by decide +kernel
theorem dX12_set_7 : decode cX12_set 7 = .ok (.ldc 74, 2) := by decide +kernel
theorem dX12_set_9 : decode cX12_set 9 = .ok (.ireturn, 1) := by decide +kernel
theorem dX12_set_10 : decode cX12_set 10 = .ok (.aload_n 0, 1) := by decide +kernel
theorem dX12_set_11 : decode cX12_set 11 = .ok (.getfield 7, 3) := by decide +kernel
theorem dX12_set_14 : decode cX12_set 14 = .ok (.iload_n 1, 1) := by decide +kernel
theorem dX12_set_15 : decode cX12_set 15 = .ok (.iaload, 1) := by decide +kernel
theorem dX12_set_16 : decode cX12_set 16 = .ok (.ldc 60, 2) := by decide +kernel
theorem dX12_set_18 : decode cX12_set 18 = .ok (.if_icmp .ne 9, 3) := by decide +kernel
theorem dX12_set_21 : decode cX12_set 21 = .ok (.aload_n 0, 1) := by decide +kernel
theorem dX12_set_22 : decode cX12_set 22 = .ok (.iconst 1, 1) := by decide +kernel
theorem dX12_set_23 : decode cX12_set 23 = .ok (.invokevirtual 75, 3) := by decide +kernel
theorem dX12_set_26 : decode cX12_set 26 = .ok (.ireturn, 1) := by decide +kernel
theorem dX12_set_27 : decode cX12_set 27 = .ok (.iload_n 2, 1) := by decide +kernel
theorem dX12_set_28 : decode cX12_set 28 = .ok (.iconst 0, 1) := by decide +kernel
theorem dX12_set_29 : decode cX12_set 29 = .ok (.aload_n 0, 1) := by decide +kernel
theorem dX12_set_30 : decode cX12_set 30 = .ok (.getfield 13, 3) := by decide +kernel
theorem dX12_set_33 : decode cX12_set 33 = .ok (.iload_n 1, 1) := by decide +kernel
theorem dX12_set_34 : decode cX12_set 34 = .ok (.iaload, 1) := by decide +kernel
theorem dX12_set_35 : decode cX12_set 35 = .ok (.iconst 1, 1) := by decide +kernel
theorem dX12_set_36 : decode cX12_set 36 = .ok (.isub, 1) := by decide +kernel
theorem dX12_set_37 : decode cX12_set 37 = .ok (.invokestatic 61, 3) := by decide +kernel
theorem dX12_set_40 : decode cX12_set 40 = .ok (.ifCond .ne 9, 3) := by decide +kernel
theorem dX12_set_43 : decode cX12_set 43 = .ok (.aload_n 0, 1) := by decide +kernel
theorem dX12_set_44 : decode cX12_set 44 = .ok (.iconst 2, 1) := by decide +kernel
theorem dX12_set_45 : decode cX12_set 45 = .ok (.invokevirtual 75, 3) := by decide +kernel
theorem dX12_set_48 : decode cX12_set 48 = .ok (.ireturn, 1) := by decide +kernel
theorem dX12_set_49 : decode cX12_set 49 = .ok (.aload_n 0, 1) := by decide +kernel
theorem dX12_set_50 : decode cX12_set 50 = .ok (.getfield 16, 3) := by decide +kernel
theorem dX12_set_53 : decode cX12_set 53 = .ok (.bipush 40, 2) := by decide +kernel
theorem dX12_set_55 : decode cX12_set 55 = .ok (.iload_n 1, 1) := by decide +kernel
theorem dX12_set_56 : decode cX12_set 56 = .ok (.imul, 1) := by decide +kernel
theorem dX12_set_57 : decode cX12_set 57 = .ok (.iload_n 2, 1) := by decide +kernel
theorem dX12_set_58 : decode cX12_set 58 = .ok (.iadd, 1) := by decide +kernel
theorem dX12_set_59 : decode cX12_set 59 = .ok (.aload_n 0, 1) := by decide +kernel
theorem dX12_set_60 : decode cX12_set 60 = .ok (.getfield 7, 3) := by decide +kernel
theorem dX12_set_63 : decode cX12_set 63 = .ok (.iload_n 1, 1) := by decide +kernel
theorem dX12_set_64 : decode cX12_set 64 = .ok (.iaload, 1) := by decide +kernel
theorem dX12_set_65 : decode cX12_set 65 = .ok (.ifCond .ne 8, 3) := by decide +kernel
theorem dX12_set_68 : decode cX12_set 68 = .ok (.iload_n 3, 1) := by decide +kernel
theorem dX12_set_69 : decode cX12_set 69 = .ok (.i2b, 1) := by decide +kernel
theorem dX12_set_70 : decode cX12_set 70 = .ok (.goto 19, 3) := by decide +kernel
theorem dX12_set_73 : decode cX12_set 73 = .ok (.aload_n 0, 1) := by decide +kernel
theorem dX12_set_74 : decode cX12_set 74 = .ok (.getfield 7, 3) := by decide +kernel
theorem dX12_set_77 : decode cX12_set 77 = .ok (.iload_n 1, 1) := by decide +kernel
theorem dX12_set_78 : decode cX12_set 78 = .ok (.iaload, 1) := by decide +kernel
theorem dX12_set_79 : decode cX12_set 79 = .ok (.iconst 1, 1) := by decide +kernel
theorem dX12_set_80 : decode cX12_set 80 = .ok (.if_icmp .ne 8, 3) := by decide +kernel
theorem dX12_set_83 : decode cX12_set 83 = .ok (.iload_n 3, 1) := by decide +kernel
theorem dX12_set_84 : decode cX12_set 84 = .ok (.i2s, 1) := by decide +kernel
theorem dX12_set_85 : decode cX12_set 85 = .ok (.goto 4, 3) := by decide +kernel
theorem dX12_set_88 : decode cX12_set 88 = .ok (.iload_n 3, 1) := by decide +kernel
theorem dX12_set_89 : decode cX12_set 89 = .ok (.iastore, 1) := by decide +kernel
theorem dX12_set_90 : decode cX12_set 90 = .ok (.aload_n 0, 1) := by decide +kernel
theorem dX12_set_91 : decode cX12_set 91 = .ok (.aload_n 0, 1) := by decide +kernel
theorem dX12_set_92 : decode cX12_set 92 = .ok (.getfield 16, 3) := by decide +kernel
theorem dX12_set_95 : decode cX12_set 95 = .ok (.bipush 40, 2) := by decide +kernel
theorem dX12_set_97 : decode cX12_set 97 = .ok (.iload_n 1, 1) := by decide +kernel
theorem dX12_set_98 : decode cX12_set 98 = .ok (.imul, 1) := by decide +kernel
theorem dX12_set_99 : decode cX12_set 99 = .ok (.iload_n 2, 1) := by decide +kernel
theorem dX12_set_100 : decode cX12_set 100 = .ok (.iadd, 1) := by decide +kernel
theorem dX12_set_101 : decode cX12_set 101 = .ok (.iaload, 1) := by decide +kernel
theorem dX12_set_102 : decode cX12_set 102 = .ok (.invokevirtual 79, 3) := by decide +kernel
theorem dX12_set_105 : decode cX12_set 105 = .ok (.ireturn, 1) := by decide +kernel
theorem dX12_isIn_0 : decode cX12_isIn 0 = .ok (.iload_n 2, 1) := by decide +kernel
theorem dX12_isIn_1 : decode cX12_isIn 1 = .ok (.ifCond .lt 33, 3) := by decide +kernel
theorem dX12_isIn_4 : decode cX12_isIn 4 = .ok (.iload_n 3, 1) := by decide +kernel
theorem dX12_isIn_5 : decode cX12_isIn 5 = .ok (.ifCond .lt 29, 3) := by decide +kernel
theorem dX12_isIn_8 : decode cX12_isIn 8 = .ok (.iload_n 2, 1) := by decide +kernel
theorem dX12_isIn_9 : decode cX12_isIn 9 = .ok (.aload_n 0, 1) := by decide +kernel
theorem dX12_isIn_10 : decode cX12_isIn 10 = .ok (.getfield 13, 3) := by decide +kernel
theorem dX12_isIn_13 : decode cX12_isIn 13 = .ok (.iload_n 1, 1) := by decide +kernel
theorem dX12_isIn_14 : decode cX12_isIn 14 = .ok (.iaload, 1) := by decide +kernel
theorem dX12_isIn_15 : decode cX12_isIn 15 = .ok (.if_icmp .gt 19, 3) := by decide +kernel
theorem dX12_isIn_18 : decode cX12_isIn 18 = .ok (.iload_n 3, 1) := by decide +kernel
theorem dX12_isIn_19 : decode cX12_isIn 19 = .ok (.aload_n 0, 1) := by decide +kernel
theorem dX12_isIn_20 : decode cX12_isIn 20 = .ok (.getfield 13, 3) := by decide +kernel
theorem dX12_isIn_23 : decode cX12_isIn 23 = .ok (.iload_n 1, 1) := by decide +kernel
theorem dX12_isIn_24 : decode cX12_isIn 24 = .ok (.iaload, 1) := by decide +kernel
theorem dX12_isIn_25 : decode cX12_isIn 25 = .ok (.iload_n 2, 1) := by decide +kernel
theorem dX12_isIn_26 : decode cX12_isIn 26 = .ok (.isub, 1) := by decide +kernel
theorem dX12_isIn_27 : decode cX12_isIn 27 = .ok (.if_icmp .gt 7, 3) := by decide +kernel
theorem dX12_isIn_30 : decode cX12_isIn 30 = .ok (.iconst 1, 1) := by decide +kernel
theorem dX12_isIn_31 : decode cX12_isIn 31 = .ok (.goto 4, 3) := by decide +kernel
theorem dX12_isIn_34 : decode cX12_isIn 34 = .ok (.iconst 0, 1) := by decide +kernel
theorem dX12_isIn_35 : decode cX12_isIn 35 = .ok (.ireturn, 1) := by decide +kernel
theorem dX12_copy_0 : decode cX12_copy 0 = .ok (.iload_n 1, 1) := by decide +kernel
theorem dX12_copy_1 : decode cX12_copy 1 = .ok (.invokestatic 70, 3) := by decide +kernel
theorem dX12_copy_4 : decode cX12_copy 4 = .ok (.ifCond .eq 10, 3) := by decide +kernel
theorem dX12_copy_7 : decode cX12_copy 7 = .ok (.iload_n 3, 1) := by decide +kernel
theorem dX12_copy_8 : decode cX12_copy 8 = .ok (.invokestatic 70, 3) := by decide +kernel
theorem dX12_copy_11 : decode cX12_copy 11 = .ok (.ifCond .ne 6, 3) := by decide +kernel
theorem dX12_copy_14 : decode cX12_copy 14 = .ok (.ldc 74, 2) := by decide +kernel
theorem dX12_copy_16 : decode cX12_copy 16 = .ok (.ireturn, 1) := by decide +kernel
theorem dX12_copy_17 : decode cX12_copy 17 = .ok (.aload_n 0, 1) := by decide +kernel
theorem dX12_copy_18 : decode cX12_copy 18 = .ok (.getfield 7, 3) := by decide +kernel
theorem dX12_copy_21 : decode cX12_copy 21 = .ok (.iload_n 1, 1) := by decide +kernel
theorem dX12_copy_22 : decode cX12_copy 22 = .ok (.iaload, 1) := by decide +kernel
theorem dX12_copy_23 : decode cX12_copy 23 = .ok (.ldc 60, 2) := by decide +kernel
theorem dX12_copy_25 : decode cX12_copy 25 = .ok (.if_icmp .eq 14, 3) := by decide +kernel
theorem dX12_copy_28 : decode cX12_copy 28 = .ok (.aload_n 0, 1) := by decide +kernel
theorem dX12_copy_29 : decode cX12_copy 29 = .ok (.getfield 7, 3) := by decide +kernel
theorem dX12_copy_32 : decode cX12_copy 32 = .ok (.iload_n 3, 1) := by decide +kernel
theorem dX12_copy_33 : decode cX12_copy 33 = .ok (.iaload, 1) := by decide +kernel
theorem dX12_copy_34 : decode cX12_copy 34 = .ok (.ldc 60, 2) := by decide +kernel
theorem dX12_copy_36 : decode cX12_copy 36 = .ok (.if_icmp .ne 9, 3) := by decide +kernel
theorem dX12_copy_39 : decode cX12_copy 39 = .ok (.aload_n 0, 1) := by decide +kernel
theorem dX12_copy_40 : decode cX12_copy 40 = .ok (.iconst 1, 1) := by decide +kernel
theorem dX12_copy_41 : decode cX12_copy 41 = .ok (.invokevirtual 75, 3) := by decide +kernel
theorem dX12_copy_44 : decode cX12_copy 44 = .ok (.ireturn, 1) := by decide +kernel
theorem dX12_copy_45 : decode cX12_copy 45 = .ok (.aload_n 0, 1) := by decide +kernel
theorem dX12_copy_46 : decode cX12_copy 46 = .ok (.getfield 7, 3) := by decide +kernel
theorem dX12_copy_49 : decode cX12_copy 49 = .ok (.iload_n 1, 1) := by decide +kernel
theorem dX12_copy_50 : decode cX12_copy 50 = .ok (.iaload, 1) := by decide +kernel
theorem dX12_copy_51 : decode cX12_copy 51 = .ok (.aload_n 0, 1) := by decide +kernel
theorem dX12_copy_52 : decode cX12_copy 52 = .ok (.getfield 7, 3) := by decide +kernel
theorem dX12_copy_55 : decode cX12_copy 55 = .ok (.iload_n 3, 1) := by decide +kernel
theorem dX12_copy_56 : decode cX12_copy 56 = .ok (.iaload, 1) := by decide +kernel
theorem dX12_copy_57 : decode cX12_copy 57 = .ok (.if_icmp .eq 9, 3) := by decide +kernel
theorem dX12_copy_60 : decode cX12_copy 60 = .ok (.aload_n 0, 1) := by decide +kernel
theorem dX12_copy_61 : decode cX12_copy 61 = .ok (.iconst 5, 1) := by decide +kernel
theorem dX12_copy_62 : decode cX12_copy 62 = .ok (.invokevirtual 75, 3) := by decide +kernel
theorem dX12_copy_65 : decode cX12_copy 65 = .ok (.ireturn, 1) := by decide +kernel
theorem dX12_copy_66 : decode cX12_copy 66 = .ok (.aload_n 0, 1) := by decide +kernel
theorem dX12_copy_67 : decode cX12_copy 67 = .ok (.iload_n 1, 1) := by decide +kernel
theorem dX12_copy_68 : decode cX12_copy 68 = .ok (.iload_n 2, 1) := by decide +kernel
theorem dX12_copy_69 : decode cX12_copy 69 = .ok (.iload 5, 2) := by decide +kernel
theorem dX12_copy_71 : decode cX12_copy 71 = .ok (.invokevirtual 82, 3) := by decide +kernel
theorem dX12_copy_74 : decode cX12_copy 74 = .ok (.ifCond .eq 15, 3) := by decide +kernel
theorem dX12_copy_77 : decode cX12_copy 77 = .ok (.aload_n 0, 1) := by decide +kernel
theorem dX12_copy_78 : decode cX12_copy 78 = .ok (.iload_n 3, 1) := by decide +kernel
theorem dX12_copy_79 : decode cX12_copy 79 = .ok (.iload 4, 2) := by decide +kernel
theorem dX12_copy_81 : decode cX12_copy 81 = .ok (.iload 5, 2) := by decide +kernel
theorem dX12_copy_83 : decode cX12_copy 83 = .ok (.invokevirtual 82, 3) := by decide +kernel
theorem dX12_copy_86 : decode cX12_copy 86 = .ok (.ifCond .ne 9, 3) := by decide +kernel
theorem dX12_copy_89 : decode cX12_copy 89 = .ok (.aload_n 0, 1) := by decide +kernel
theorem dX12_copy_90 : decode cX12_copy 90 = .ok (.iconst 2, 1) := by decide +kernel
theorem dX12_copy_91 : decode cX12_copy 91 = .ok (.invokevirtual 75, 3) := by decide +kernel
theorem dX12_copy_94 : decode cX12_copy 94 = .ok (.ireturn, 1) := by decide +kernel
theorem dX12_copy_95 : decode cX12_copy 95 = .ok (.iconst 0, 1) := by decide +kernel
theorem dX12_copy_96 : decode cX12_copy 96 = .ok (.istore 6, 2) := by decide +kernel
theorem dX12_copy_98 : decode cX12_copy 98 = .ok (.iload 6, 2) := by decide +kernel
theorem dX12_copy_100 : decode cX12_copy 100 = .ok (.iload 5, 2) := by decide +kernel
theorem dX12_copy_102 : decode cX12_copy 102 = .ok (.if_icmp .ge 30, 3) := by decide +kernel
theorem dX12_copy_105 : decode cX12_copy 105 = .ok (.aload_n 0, 1) := by decide +kernel
theorem dX12_copy_106 : decode cX12_copy 106 = .ok (.getfield 19, 3) := by decide +kernel
theorem dX12_copy_109 : decode cX12_copy 109 = .ok (.iload 6, 2) := by decide +kernel
theorem dX12_copy_111 : decode cX12_copy 111 = .ok (.aload_n 0, 1) := by decide +kernel
theorem dX12_copy_112 : decode cX12_copy 112 = .ok (.getfield 16, 3) := by decide +kernel
theorem dX12_copy_115 : decode cX12_copy 115 = .ok (.bipush 40, 2) := by decide +kernel
theorem dX12_copy_117 : decode cX12_copy 117 = .ok (.iload_n 1, 1) := by decide +kernel
theorem dX12_copy_118 : decode cX12_copy 118 = .ok (.imul, 1) := by decide +kernel
theorem dX12_copy_119 : decode cX12_copy 119 = .ok (.iload_n 2, 1) := by decide +kernel
theorem dX12_copy_120 : decode cX12_copy 120 = .ok (.iadd, 1) := by decide +kernel
theorem dX12_copy_121 : decode cX12_copy 121 = .ok (.iload 6, 2) := by decide +kernel
theorem dX12_copy_123 : decode cX12_copy 123 = .ok (.iadd, 1) := by decide +kernel
theorem dX12_copy_124 : decode cX12_copy 124 = .ok (.iaload, 1) := by decide +kernel
theorem dX12_copy_125 : decode cX12_copy 125 = .ok (.iastore, 1) := by decide +kernel
theorem dX12_copy_126 : decode cX12_copy 126 = .ok (.iinc 6 1, 3) := by decide +kernel
theorem dX12_copy_129 : decode cX12_copy 129 = .ok (.goto (-31), 3) := by decide +kernel
theorem dX12_copy_132 : decode cX12_copy 132 = .ok (.iconst 0, 1) := by decide +kernel
theorem dX12_copy_133 : decode cX12_copy 133 = .ok (.istore 6, 2) := by decide +kernel
theorem dX12_copy_135 : decode cX12_copy 135 = .ok (.iload 6, 2) := by decide +kernel
theorem dX12_copy_137 : decode cX12_copy 137 = .ok (.iload 5, 2) := by decide +kernel
theorem dX12_copy_139 : decode cX12_copy 139 = .ok (.if_icmp .ge 31, 3) := by decide +kernel
theorem dX12_copy_142 : decode cX12_copy 142 = .ok (.aload_n 0, 1) := by decide +kernel
theorem dX12_copy_143 : decode cX12_copy 143 = .ok (.getfield 16, 3) := by decide +kernel
theorem dX12_copy_146 : decode cX12_copy 146 = .ok (.bipush 40, 2) := by decide +kernel
theorem dX12_copy_148 : decode cX12_copy 148 = .ok (.iload_n 3, 1) := by decide +kernel
theorem dX12_copy_149 : decode cX12_copy 149 = .ok (.imul, 1) := by decide +kernel
theorem dX12_copy_150 : decode cX12_copy 150 = .ok (.iload 4, 2) := by decide +kernel
theorem dX12_copy_152 : decode cX12_copy 152 = .ok (.iadd, 1) := by decide +kernel
theorem dX12_copy_153 : decode cX12_copy 153 = .ok (.iload 6, 2) := by decide +kernel
theorem dX12_copy_155 : decode cX12_copy 155 = .ok (.iadd, 1) := by decide +kernel
theorem dX12_copy_156 : decode cX12_copy 156 = .ok (.aload_n 0, 1) := by decide +kernel
theorem dX12_copy_157 : decode cX12_copy 157 = .ok (.getfield 19, 3) := by decide +kernel
theorem dX12_copy_160 : decode cX12_copy 160 = .ok (.iload 6, 2) := by decide +kernel
theorem dX12_copy_162 : decode cX12_copy 162 = .ok (.iaload, 1) := by decide +kernel
theorem dX12_copy_163 : decode cX12_copy 163 = .ok (.iastore, 1) := by decide +kernel
theorem dX12_copy_164 : decode cX12_copy 164 = .ok (.iinc 6 1, 3) := by decide +kernel
theorem dX12_copy_167 : decode cX12_copy 167 = .ok (.goto (-32), 3) := by decide +kernel
theorem dX12_copy_170 : decode cX12_copy 170 = .ok (.aload_n 0, 1) := by decide +kernel
theorem dX12_copy_171 : decode cX12_copy 171 = .ok (.iload 5, 2) := by decide +kernel
theorem dX12_copy_173 : decode cX12_copy 173 = .ok (.invokevirtual 79, 3) := by decide +kernel
theorem dX12_copy_176 : decode cX12_copy 176 = .ok (.ireturn, 1) := by decide +kernel
theorem dX12_drop_0 : decode cX12_drop 0 = .ok (.iload_n 1, 1) := by decide +kernel
theorem dX12_drop_1 : decode cX12_drop 1 = .ok (.invokestatic 70, 3) := by decide +kernel
theorem dX12_drop_4 : decode cX12_drop 4 = .ok (.ifCond .ne 6, 3) := by decide +kernel
theorem dX12_drop_7 : decode cX12_drop 7 = .ok (.ldc 74, 2) := by decide +kernel
theorem dX12_drop_9 : decode cX12_drop 9 = .ok (.ireturn, 1) := by decide +kernel
theorem dX12_drop_10 : decode cX12_drop 10 = .ok (.aload_n 0, 1) := by decide +kernel
theorem dX12_drop_11 : decode cX12_drop 11 = .ok (.getfield 7, 3) := by decide +kernel
theorem dX12_drop_14 : decode cX12_drop 14 = .ok (.iload_n 1, 1) := by decide +kernel
theorem dX12_drop_15 : decode cX12_drop 15 = .ok (.iaload, 1) := by decide +kernel
theorem dX12_drop_16 : decode cX12_drop 16 = .ok (.ldc 60, 2) := by decide +kernel
theorem dX12_drop_18 : decode cX12_drop 18 = .ok (.if_icmp .ne 9, 3) := by decide +kernel
theorem dX12_drop_21 : decode cX12_drop 21 = .ok (.aload_n 0, 1) := by decide +kernel
theorem dX12_drop_22 : decode cX12_drop 22 = .ok (.iconst 1, 1) := by decide +kernel
theorem dX12_drop_23 : decode cX12_drop 23 = .ok (.invokevirtual 75, 3) := by decide +kernel
theorem dX12_drop_26 : decode cX12_drop 26 = .ok (.ireturn, 1) := by decide +kernel
theorem dX12_drop_27 : decode cX12_drop 27 = .ok (.aload_n 0, 1) := by decide +kernel
theorem dX12_drop_28 : decode cX12_drop 28 = .ok (.getfield 7, 3) := by decide +kernel
theorem dX12_drop_31 : decode cX12_drop 31 = .ok (.iload_n 1, 1) := by decide +kernel
theorem dX12_drop_32 : decode cX12_drop 32 = .ok (.ldc 60, 2) := by decide +kernel
theorem dX12_drop_34 : decode cX12_drop 34 = .ok (.iastore, 1) := by decide +kernel
theorem dX12_drop_35 : decode cX12_drop 35 = .ok (.aload_n 0, 1) := by decide +kernel
theorem dX12_drop_36 : decode cX12_drop 36 = .ok (.aload_n 0, 1) := by decide +kernel
theorem dX12_drop_37 : decode cX12_drop 37 = .ok (.getfield 13, 3) := by decide +kernel
theorem dX12_drop_40 : decode cX12_drop 40 = .ok (.iload_n 1, 1) := by decide +kernel
theorem dX12_drop_41 : decode cX12_drop 41 = .ok (.iaload, 1) := by decide +kernel
theorem dX12_drop_42 : decode cX12_drop 42 = .ok (.invokevirtual 79, 3) := by decide +kernel
theorem dX12_drop_45 : decode cX12_drop 45 = .ok (.ireturn, 1) := by decide +kernel
theorem dX12_status_0 : decode cX12_status 0 = .ok (.aload_n 0, 1) := by decide +kernel
theorem dX12_status_1 : decode cX12_status 1 = .ok (.getfield 65, 3) := by decide +kernel
theorem dX12_status_4 : decode cX12_status 4 = .ok (.ireturn, 1) := by decide +kernel
theorem dX12_feed_0 : decode cX12_feed 0 = .ok (.iload_n 1, 1) := by decide +kernel
theorem dX12_feed_1 : decode cX12_feed 1 = .ok (.iconst 0, 1) := by decide +kernel
theorem dX12_feed_2 : decode cX12_feed 2 = .ok (.sipush 255, 3) := by decide +kernel
theorem dX12_feed_5 : decode cX12_feed 5 = .ok (.invokestatic 61, 3) := by decide +kernel
theorem dX12_feed_8 : decode cX12_feed 8 = .ok (.ifCond .ne 6, 3) := by decide +kernel
theorem dX12_feed_11 : decode cX12_feed 11 = .ok (.ldc 74, 2) := by decide +kernel
theorem dX12_feed_13 : decode cX12_feed 13 = .ok (.ireturn, 1) := by decide +kernel
theorem dX12_feed_14 : decode cX12_feed 14 = .ok (.aload_n 0, 1) := by decide +kernel
theorem dX12_feed_15 : decode cX12_feed 15 = .ok (.getfield 85, 3) := by decide +kernel
theorem dX12_feed_18 : decode cX12_feed 18 = .ok (.bipush 90, 2) := by decide +kernel
theorem dX12_feed_20 : decode cX12_feed 20 = .ok (.if_icmp .ne 6, 3) := by decide +kernel
theorem dX12_feed_23 : decode cX12_feed 23 = .ok (.ldc 88, 2) := by decide +kernel
theorem dX12_feed_25 : decode cX12_feed 25 = .ok (.ireturn, 1) := by decide +kernel
theorem dX12_feed_26 : decode cX12_feed 26 = .ok (.aload_n 0, 1) := by decide +kernel
theorem dX12_feed_27 : decode cX12_feed 27 = .ok (.getfield 22, 3) := by decide +kernel
theorem dX12_feed_30 : decode cX12_feed 30 = .ok (.aload_n 0, 1) := by decide +kernel
theorem dX12_feed_31 : decode cX12_feed 31 = .ok (.getfield 85, 3) := by decide +kernel
theorem dX12_feed_34 : decode cX12_feed 34 = .ok (.iload_n 1, 1) := by decide +kernel
theorem dX12_feed_35 : decode cX12_feed 35 = .ok (.i2b, 1) := by decide +kernel
theorem dX12_feed_36 : decode cX12_feed 36 = .ok (.bastore, 1) := by decide +kernel
theorem dX12_feed_37 : decode cX12_feed 37 = .ok (.aload_n 0, 1) := by decide +kernel
theorem dX12_feed_38 : decode cX12_feed 38 = .ok (.dup, 1) := by decide +kernel
theorem dX12_feed_39 : decode cX12_feed 39 = .ok (.getfield 85, 3) := by decide +kernel
theorem dX12_feed_42 : decode cX12_feed 42 = .ok (.iconst 1, 1) := by decide +kernel
theorem dX12_feed_43 : decode cX12_feed 43 = .ok (.iadd, 1) := by decide +kernel
theorem dX12_feed_44 : decode cX12_feed 44 = .ok (.putfield 85, 3) := by decide +kernel
theorem dX12_feed_47 : decode cX12_feed 47 = .ok (.aload_n 0, 1) := by decide +kernel
theorem dX12_feed_48 : decode cX12_feed 48 = .ok (.getfield 85, 3) := by decide +kernel
theorem dX12_feed_51 : decode cX12_feed 51 = .ok (.ireturn, 1) := by decide +kernel
theorem dX12_here_0 : decode cX12_here 0 = .ok (.aload_n 0, 1) := by decide +kernel
theorem dX12_here_1 : decode cX12_here 1 = .ok (.getfield 89, 3) := by decide +kernel
theorem dX12_here_4 : decode cX12_here 4 = .ok (.aload_n 0, 1) := by decide +kernel
theorem dX12_here_5 : decode cX12_here 5 = .ok (.getfield 85, 3) := by decide +kernel
theorem dX12_here_8 : decode cX12_here 8 = .ok (.if_icmp .ge 19, 3) := by decide +kernel
theorem dX12_here_11 : decode cX12_here 11 = .ok (.aload_n 0, 1) := by decide +kernel
theorem dX12_here_12 : decode cX12_here 12 = .ok (.getfield 22, 3) := by decide +kernel
theorem dX12_here_15 : decode cX12_here 15 = .ok (.aload_n 0, 1) := by decide +kernel
theorem dX12_here_16 : decode cX12_here 16 = .ok (.getfield 89, 3) := by decide +kernel
theorem dX12_here_19 : decode cX12_here 19 = .ok (.baload, 1) := by decide +kernel
theorem dX12_here_20 : decode cX12_here 20 = .ok (.sipush 255, 3) := by decide +kernel
theorem dX12_here_23 : decode cX12_here 23 = .ok (.iand, 1) := by decide +kernel
theorem dX12_here_24 : decode cX12_here 24 = .ok (.goto 5, 3) := by decide +kernel
theorem dX12_here_27 : decode cX12_here 27 = .ok (.ldc 60, 2) := by decide +kernel
theorem dX12_here_29 : decode cX12_here 29 = .ok (.ireturn, 1) := by decide +kernel
theorem dX12_step_0 : decode cX12_step 0 = .ok (.aload_n 0, 1) := by decide +kernel
theorem dX12_step_1 : decode cX12_step 1 = .ok (.aload_n 0, 1) := by decide +kernel
theorem dX12_step_2 : decode cX12_step 2 = .ok (.getfield 89, 3) := by decide +kernel
theorem dX12_step_5 : decode cX12_step 5 = .ok (.putfield 92, 3) := by decide +kernel
theorem dX12_step_8 : decode cX12_step 8 = .ok (.aload_n 0, 1) := by decide +kernel
theorem dX12_step_9 : decode cX12_step 9 = .ok (.iconst 0, 1) := by decide +kernel
theorem dX12_step_10 : decode cX12_step 10 = .ok (.putfield 95, 3) := by decide +kernel
theorem dX12_step_13 : decode cX12_step 13 = .ok (.aload_n 0, 1) := by decide +kernel
theorem dX12_step_14 : decode cX12_step 14 = .ok (.invokevirtual 98, 3) := by decide +kernel
theorem dX12_step_17 : decode cX12_step 17 = .ok (.istore_n 1, 1) := by decide +kernel
theorem dX12_step_18 : decode cX12_step 18 = .ok (.iload_n 1, 1) := by decide +kernel
theorem dX12_step_19 : decode cX12_step 19 = .ok (.ldc 60, 2) := by decide +kernel
theorem dX12_step_21 : decode cX12_step 21 = .ok (.if_icmp .ne 9, 3) := by decide +kernel
theorem dX12_step_24 : decode cX12_step 24 = .ok (.aload_n 0, 1) := by decide +kernel
theorem dX12_step_25 : decode cX12_step 25 = .ok (.iconst 5, 1) := by decide +kernel
theorem dX12_step_26 : decode cX12_step 26 = .ok (.putfield 102, 3) := by decide +kernel
theorem dX12_step_29 : decode cX12_step 29 = .ok (.return_, 1) := by decide +kernel
theorem dX12_step_30 : decode cX12_step 30 = .ok (.iload_n 1, 1) := by decide +kernel
theorem dX12_step_31 : decode cX12_step 31 = .ok (.bipush 48, 2) := by decide +kernel
theorem dX12_step_33 : decode cX12_step 33 = .ok (.bipush 57, 2) := by decide +kernel
theorem dX12_step_35 : decode cX12_step 35 = .ok (.invokestatic 61, 3) := by decide +kernel
theorem dX12_step_38 : decode cX12_step 38 = .ok (.ifCond .eq 82, 3) := by decide +kernel
theorem dX12_step_41 : decode cX12_step 41 = .ok (.iconst 0, 1) := by decide +kernel
theorem dX12_step_42 : decode cX12_step 42 = .ok (.istore_n 2, 1) := by decide +kernel
theorem dX12_step_43 : decode cX12_step 43 = .ok (.aload_n 0, 1) := by decide +kernel
theorem dX12_step_44 : decode cX12_step 44 = .ok (.invokevirtual 98, 3) := by decide +kernel
theorem dX12_step_47 : decode cX12_step 47 = .ok (.bipush 48, 2) := by decide +kernel
theorem dX12_step_49 : decode cX12_step 49 = .ok (.bipush 57, 2) := by decide +kernel
theorem dX12_step_51 : decode cX12_step 51 = .ok (.invokestatic 61, 3) := by decide +kernel
theorem dX12_step_54 : decode cX12_step 54 = .ok (.ifCond .eq 50, 3) := by decide +kernel
theorem dX12_step_57 : decode cX12_step 57 = .ok (.aload_n 0, 1) := by decide +kernel
theorem dX12_step_58 : decode cX12_step 58 = .ok (.iload_n 2, 1) := by decide +kernel
theorem dX12_step_59 : decode cX12_step 59 = .ok (.iconst 2, 1) := by decide +kernel
theorem dX12_step_60 : decode cX12_step 60 = .ok (.if_icmp .ge 21, 3) := by decide +kernel
theorem dX12_step_63 : decode cX12_step 63 = .ok (.bipush 10, 2) := by decide +kernel
theorem dX12_step_65 : decode cX12_step 65 = .ok (.aload_n 0, 1) := by decide +kernel
theorem dX12_step_66 : decode cX12_step 66 = .ok (.getfield 95, 3) := by decide +kernel
theorem dX12_step_69 : decode cX12_step 69 = .ok (.imul, 1) := by decide +kernel
theorem dX12_step_70 : decode cX12_step 70 = .ok (.aload_n 0, 1) := by decide +kernel
theorem dX12_step_71 : decode cX12_step 71 = .ok (.invokevirtual 98, 3) := by decide +kernel
theorem dX12_step_74 : decode cX12_step 74 = .ok (.iadd, 1) := by decide +kernel
theorem dX12_step_75 : decode cX12_step 75 = .ok (.bipush 48, 2) := by decide +kernel
theorem dX12_step_77 : decode cX12_step 77 = .ok (.isub, 1) := by decide +kernel
theorem dX12_step_78 : decode cX12_step 78 = .ok (.goto 7, 3) := by decide +kernel
theorem dX12_step_81 : decode cX12_step 81 = .ok (.aload_n 0, 1) := by decide +kernel
theorem dX12_step_82 : decode cX12_step 82 = .ok (.getfield 95, 3) := by decide +kernel
theorem dX12_step_85 : decode cX12_step 85 = .ok (.putfield 95, 3) := by decide +kernel
theorem dX12_step_88 : decode cX12_step 88 = .ok (.iinc 2 1, 3) := by decide +kernel
theorem dX12_step_91 : decode cX12_step 91 = .ok (.aload_n 0, 1) := by decide +kernel
theorem dX12_step_92 : decode cX12_step 92 = .ok (.dup, 1) := by decide +kernel
theorem dX12_step_93 : decode cX12_step 93 = .ok (.getfield 89, 3) := by decide +kernel
theorem dX12_step_96 : decode cX12_step 96 = .ok (.iconst 1, 1) := by decide +kernel
theorem dX12_step_97 : decode cX12_step 97 = .ok (.iadd, 1) := by decide +kernel
theorem dX12_step_98 : decode cX12_step 98 = .ok (.putfield 89, 3) := by decide +kernel
theorem dX12_step_101 : decode cX12_step 101 = .ok (.goto (-58), 3) := by decide +kernel
theorem dX12_step_104 : decode cX12_step 104 = .ok (.aload_n 0, 1) := by decide +kernel
theorem dX12_step_105 : decode cX12_step 105 = .ok (.iload_n 2, 1) := by decide +kernel
theorem dX12_step_106 : decode cX12_step 106 = .ok (.iconst 2, 1) := by decide +kernel
theorem dX12_step_107 : decode cX12_step 107 = .ok (.if_icmp .le 8, 3) := by decide +kernel
theorem dX12_step_110 : decode cX12_step 110 = .ok (.bipush 6, 2) := by decide +kernel
theorem dX12_step_112 : decode cX12_step 112 = .ok (.goto 4, 3) := by decide +kernel
theorem dX12_step_115 : decode cX12_step 115 = .ok (.iconst 2, 1) := by decide +kernel
theorem dX12_step_116 : decode cX12_step 116 = .ok (.putfield 102, 3) := by decide +kernel
theorem dX12_step_119 : decode cX12_step 119 = .ok (.return_, 1) := by decide +kernel
theorem dX12_step_120 : decode cX12_step 120 = .ok (.aload_n 0, 1) := by decide +kernel
theorem dX12_step_121 : decode cX12_step 121 = .ok (.dup, 1) := by decide +kernel
theorem dX12_step_122 : decode cX12_step 122 = .ok (.getfield 89, 3) := by decide +kernel
theorem dX12_step_125 : decode cX12_step 125 = .ok (.iconst 1, 1) := by decide +kernel
theorem dX12_step_126 : decode cX12_step 126 = .ok (.iadd, 1) := by decide +kernel
theorem dX12_step_127 : decode cX12_step 127 = .ok (.putfield 89, 3) := by decide +kernel
theorem dX12_step_130 : decode cX12_step 130 = .ok (.aload_n 0, 1) := by decide +kernel
theorem dX12_step_131 : decode cX12_step 131 = .ok (.iload_n 1, 1) := by decide +kernel
theorem dX12_step_132 : decode cX12_step 132 = .ok (.bipush 97, 2) := by decide +kernel
theorem dX12_step_134 : decode cX12_step 134 = .ok (.bipush 122, 2) := by decide +kernel
theorem dX12_step_136 : decode cX12_step 136 = .ok (.invokestatic 61, 3) := by decide +kernel
theorem dX12_step_139 : decode cX12_step 139 = .ok (.ifCond .eq 7, 3) := by decide +kernel
theorem dX12_step_142 : decode cX12_step 142 = .ok (.iconst 1, 1) := by decide +kernel
theorem dX12_step_143 : decode cX12_step 143 = .ok (.goto 25, 3) := by decide +kernel
theorem dX12_step_146 : decode cX12_step 146 = .ok (.iload_n 1, 1) := by decide +kernel
theorem dX12_step_147 : decode cX12_step 147 = .ok (.bipush 44, 2) := by decide +kernel
theorem dX12_step_149 : decode cX12_step 149 = .ok (.if_icmp .ne 7, 3) := by decide +kernel
theorem dX12_step_152 : decode cX12_step 152 = .ok (.iconst 3, 1) := by decide +kernel
theorem dX12_step_153 : decode cX12_step 153 = .ok (.goto 15, 3) := by decide +kernel
theorem dX12_step_156 : decode cX12_step 156 = .ok (.iload_n 1, 1) := by decide +kernel
theorem dX12_step_157 : decode cX12_step 157 = .ok (.bipush 59, 2) := by decide +kernel
theorem dX12_step_159 : decode cX12_step 159 = .ok (.if_icmp .ne 7, 3) := by decide +kernel
theorem dX12_step_162 : decode cX12_step 162 = .ok (.iconst 4, 1) := by decide +kernel
theorem dX12_step_163 : decode cX12_step 163 = .ok (.goto 5, 3) := by decide +kernel
theorem dX12_step_166 : decode cX12_step 166 = .ok (.bipush 6, 2) := by decide +kernel
theorem dX12_step_168 : decode cX12_step 168 = .ok (.putfield 102, 3) := by decide +kernel
theorem dX12_step_171 : decode cX12_step 171 = .ok (.aload_n 0, 1) := by decide +kernel
theorem dX12_step_172 : decode cX12_step 172 = .ok (.aload_n 0, 1) := by decide +kernel
theorem dX12_step_173 : decode cX12_step 173 = .ok (.getfield 102, 3) := by decide +kernel
theorem dX12_step_176 : decode cX12_step 176 = .ok (.iconst 1, 1) := by decide +kernel
theorem dX12_step_177 : decode cX12_step 177 = .ok (.if_icmp .ne 7, 3) := by decide +kernel
theorem dX12_step_180 : decode cX12_step 180 = .ok (.iload_n 1, 1) := by decide +kernel
theorem dX12_step_181 : decode cX12_step 181 = .ok (.goto 4, 3) := by decide +kernel
theorem dX12_step_184 : decode cX12_step 184 = .ok (.iconst 0, 1) := by decide +kernel
theorem dX12_step_185 : decode cX12_step 185 = .ok (.putfield 95, 3) := by decide +kernel
theorem dX12_step_188 : decode cX12_step 188 = .ok (.return_, 1) := by decide +kernel
theorem dX12_due_0 : decode cX12_due 0 = .ok (.aload_n 0, 1) := by decide +kernel
theorem dX12_due_1 : decode cX12_due 1 = .ok (.getfield 105, 3) := by decide +kernel
theorem dX12_due_4 : decode cX12_due 4 = .ok (.ifCond .eq 4, 3) := by decide +kernel
theorem dX12_due_7 : decode cX12_due 7 = .ok (.return_, 1) := by decide +kernel
theorem dX12_due_8 : decode cX12_due 8 = .ok (.iload_n 1, 1) := by decide +kernel
theorem dX12_due_9 : decode cX12_due 9 = .ok (.ifCond .eq 10, 3) := by decide +kernel
theorem dX12_due_12 : decode cX12_due 12 = .ok (.aload_n 0, 1) := by decide +kernel
theorem dX12_due_13 : decode cX12_due 13 = .ok (.invokevirtual 108, 3) := by decide +kernel
theorem dX12_due_16 : decode cX12_due 16 = .ok (.goto 8, 3) := by decide +kernel
theorem dX12_due_19 : decode cX12_due 19 = .ok (.aload_n 0, 1) := by decide +kernel
theorem dX12_due_20 : decode cX12_due 20 = .ok (.iload_n 2, 1) := by decide +kernel
theorem dX12_due_21 : decode cX12_due 21 = .ok (.putfield 105, 3) := by decide +kernel
theorem dX12_due_24 : decode cX12_due 24 = .ok (.return_, 1) := by decide +kernel
theorem dX12_number_0 : decode cX12_number 0 = .ok (.aload_n 0, 1) := by decide +kernel
theorem dX12_number_1 : decode cX12_number 1 = .ok (.getfield 95, 3) := by decide +kernel
theorem dX12_number_4 : decode cX12_number 4 = .ok (.istore_n 3, 1) := by decide +kernel
theorem dX12_number_5 : decode cX12_number 5 = .ok (.aload_n 0, 1) := by decide +kernel
theorem dX12_number_6 : decode cX12_number 6 = .ok (.getfield 105, 3) := by decide +kernel
theorem dX12_number_9 : decode cX12_number 9 = .ok (.ifCond .ne 27, 3) := by decide +kernel
theorem dX12_number_12 : decode cX12_number 12 = .ok (.aload_n 0, 1) := by decide +kernel
theorem dX12_number_13 : decode cX12_number 13 = .ok (.getfield 102, 3) := by decide +kernel
theorem dX12_number_16 : decode cX12_number 16 = .ok (.iconst 2, 1) := by decide +kernel
theorem dX12_number_17 : decode cX12_number 17 = .ok (.if_icmp .ne 19, 3) := by decide +kernel
theorem dX12_number_20 : decode cX12_number 20 = .ok (.iload_n 3, 1) := by decide +kernel
theorem dX12_number_21 : decode cX12_number 21 = .ok (.iload_n 1, 1) := by decide +kernel
theorem dX12_number_22 : decode cX12_number 22 = .ok (.iload_n 2, 1) := by decide +kernel
theorem dX12_number_23 : decode cX12_number 23 = .ok (.invokestatic 61, 3) := by decide +kernel
theorem dX12_number_26 : decode cX12_number 26 = .ok (.ifCond .ne 10, 3) := by decide +kernel
theorem dX12_number_29 : decode cX12_number 29 = .ok (.aload_n 0, 1) := by decide +kernel
theorem dX12_number_30 : decode cX12_number 30 = .ok (.iconst 2, 1) := by decide +kernel
theorem dX12_number_31 : decode cX12_number 31 = .ok (.putfield 105, 3) := by decide +kernel
theorem dX12_number_34 : decode cX12_number 34 = .ok (.iload_n 1, 1) := by decide +kernel
theorem dX12_number_35 : decode cX12_number 35 = .ok (.ireturn, 1) := by decide +kernel
theorem dX12_number_36 : decode cX12_number 36 = .ok (.aload_n 0, 1) := by decide +kernel
theorem dX12_number_37 : decode cX12_number 37 = .ok (.aload_n 0, 1) := by decide +kernel
theorem dX12_number_38 : decode cX12_number 38 = .ok (.getfield 102, 3) := by decide +kernel
theorem dX12_number_41 : decode cX12_number 41 = .ok (.iconst 2, 1) := by decide +kernel
theorem dX12_number_42 : decode cX12_number 42 = .ok (.if_icmp .ne 7, 3) := by decide +kernel
theorem dX12_number_45 : decode cX12_number 45 = .ok (.iconst 1, 1) := by decide +kernel
theorem dX12_number_46 : decode cX12_number 46 = .ok (.goto 4, 3) := by decide +kernel
theorem dX12_number_49 : decode cX12_number 49 = .ok (.iconst 0, 1) := by decide +kernel
theorem dX12_number_50 : decode cX12_number 50 = .ok (.iconst 1, 1) := by decide +kernel
theorem dX12_number_51 : decode cX12_number 51 = .ok (.invokevirtual 111, 3) := by decide +kernel
theorem dX12_number_54 : decode cX12_number 54 = .ok (.iload_n 3, 1) := by decide +kernel
theorem dX12_number_55 : decode cX12_number 55 = .ok (.ireturn, 1) := by decide +kernel
theorem dX12_isLetter_0 : decode cX12_isLetter 0 = .ok (.aload_n 0, 1) := by decide +kernel
theorem dX12_isLetter_1 : decode cX12_isLetter 1 = .ok (.getfield 102, 3) := by decide +kernel
theorem dX12_isLetter_4 : decode cX12_isLetter 4 = .ok (.iconst 1, 1) := by decide +kernel
theorem dX12_isLetter_5 : decode cX12_isLetter 5 = .ok (.if_icmp .ne 15, 3) := by decide +kernel
theorem dX12_isLetter_8 : decode cX12_isLetter 8 = .ok (.aload_n 0, 1) := by decide +kernel
theorem dX12_isLetter_9 : decode cX12_isLetter 9 = .ok (.getfield 95, 3) := by decide +kernel
theorem dX12_isLetter_12 : decode cX12_isLetter 12 = .ok (.iload_n 1, 1) := by decide +kernel
theorem dX12_isLetter_13 : decode cX12_isLetter 13 = .ok (.if_icmp .ne 7, 3) := by decide +kernel
theorem dX12_isLetter_16 : decode cX12_isLetter 16 = .ok (.iconst 1, 1) := by decide +kernel
theorem dX12_isLetter_17 : decode cX12_isLetter 17 = .ok (.goto 4, 3) := by decide +kernel
theorem dX12_isLetter_20 : decode cX12_isLetter 20 = .ok (.iconst 0, 1) := by decide +kernel
theorem dX12_isLetter_21 : decode cX12_isLetter 21 = .ok (.ireturn, 1) := by decide +kernel
theorem dX12_picture_0 : decode cX12_picture 0 = .ok (.aload_n 0, 1) := by decide +kernel
theorem dX12_picture_1 : decode cX12_picture 1 = .ok (.aload_n 0, 1) := by decide +kernel
theorem dX12_picture_2 : decode cX12_picture 2 = .ok (.bipush 112, 2) := by decide +kernel
theorem dX12_picture_4 : decode cX12_picture 4 = .ok (.invokevirtual 115, 3) := by decide +kernel
theorem dX12_picture_7 : decode cX12_picture 7 = .ok (.iconst 1, 1) := by decide +kernel
theorem dX12_picture_8 : decode cX12_picture 8 = .ok (.invokevirtual 111, 3) := by decide +kernel
theorem dX12_picture_11 : decode cX12_picture 11 = .ok (.aload_n 0, 1) := by decide +kernel
theorem dX12_picture_12 : decode cX12_picture 12 = .ok (.getfield 105, 3) := by decide +kernel
theorem dX12_picture_15 : decode cX12_picture 15 = .ok (.ifCond .ne 79, 3) := by decide +kernel
theorem dX12_picture_18 : decode cX12_picture 18 = .ok (.aload_n 0, 1) := by decide +kernel
theorem dX12_picture_19 : decode cX12_picture 19 = .ok (.getfield 102, 3) := by decide +kernel
theorem dX12_picture_22 : decode cX12_picture 22 = .ok (.iconst 1, 1) := by decide +kernel
theorem dX12_picture_23 : decode cX12_picture 23 = .ok (.if_icmp .ne 71, 3) := by decide +kernel
theorem dX12_picture_26 : decode cX12_picture 26 = .ok (.aload_n 0, 1) := by decide +kernel
theorem dX12_picture_27 : decode cX12_picture 27 = .ok (.getfield 95, 3) := by decide +kernel
theorem dX12_picture_30 : decode cX12_picture 30 = .ok (.bipush 97, 2) := by decide +kernel
theorem dX12_picture_32 : decode cX12_picture 32 = .ok (.bipush 106, 2) := by decide +kernel
theorem dX12_picture_34 : decode cX12_picture 34 = .ok (.invokestatic 61, 3) := by decide +kernel
theorem dX12_picture_37 : decode cX12_picture 37 = .ok (.ifCond .eq 57, 3) := by decide +kernel
theorem dX12_picture_40 : decode cX12_picture 40 = .ok (.aload_n 0, 1) := by decide +kernel
theorem dX12_picture_41 : decode cX12_picture 41 = .ok (.getfield 26, 3) := by decide +kernel
theorem dX12_picture_44 : decode cX12_picture 44 = .ok (.iconst 0, 1) := by decide +kernel
theorem dX12_picture_45 : decode cX12_picture 45 = .ok (.iaload, 1) := by decide +kernel
theorem dX12_picture_46 : decode cX12_picture 46 = .ok (.bipush 24, 2) := by decide +kernel
theorem dX12_picture_48 : decode cX12_picture 48 = .ok (.if_icmp .ne 9, 3) := by decide +kernel
theorem dX12_picture_51 : decode cX12_picture 51 = .ok (.aload_n 0, 1) := by decide +kernel
theorem dX12_picture_52 : decode cX12_picture 52 = .ok (.iconst 3, 1) := by decide +kernel
theorem dX12_picture_53 : decode cX12_picture 53 = .ok (.putfield 105, 3) := by decide +kernel
theorem dX12_picture_56 : decode cX12_picture 56 = .ok (.return_, 1) := by decide +kernel
theorem dX12_picture_57 : decode cX12_picture 57 = .ok (.aload_n 0, 1) := by decide +kernel
theorem dX12_picture_58 : decode cX12_picture 58 = .ok (.getfield 26, 3) := by decide +kernel
theorem dX12_picture_61 : decode cX12_picture 61 = .ok (.iconst 4, 1) := by decide +kernel
theorem dX12_picture_62 : decode cX12_picture 62 = .ok (.aload_n 0, 1) := by decide +kernel
theorem dX12_picture_63 : decode cX12_picture 63 = .ok (.getfield 26, 3) := by decide +kernel
theorem dX12_picture_66 : decode cX12_picture 66 = .ok (.iconst 0, 1) := by decide +kernel
theorem dX12_picture_67 : decode cX12_picture 67 = .ok (.iaload, 1) := by decide +kernel
theorem dX12_picture_68 : decode cX12_picture 68 = .ok (.iadd, 1) := by decide +kernel
theorem dX12_picture_69 : decode cX12_picture 69 = .ok (.aload_n 0, 1) := by decide +kernel
theorem dX12_picture_70 : decode cX12_picture 70 = .ok (.getfield 95, 3) := by decide +kernel
theorem dX12_picture_73 : decode cX12_picture 73 = .ok (.bipush 97, 2) := by decide +kernel
theorem dX12_picture_75 : decode cX12_picture 75 = .ok (.isub, 1) := by decide +kernel
theorem dX12_picture_76 : decode cX12_picture 76 = .ok (.iastore, 1) := by decide +kernel
theorem dX12_picture_77 : decode cX12_picture 77 = .ok (.aload_n 0, 1) := by decide +kernel
theorem dX12_picture_78 : decode cX12_picture 78 = .ok (.getfield 26, 3) := by decide +kernel
theorem dX12_picture_81 : decode cX12_picture 81 = .ok (.iconst 0, 1) := by decide +kernel
theorem dX12_picture_82 : decode cX12_picture 82 = .ok (.dup2, 1) := by decide +kernel
theorem dX12_picture_83 : decode cX12_picture 83 = .ok (.iaload, 1) := by decide +kernel
theorem dX12_picture_84 : decode cX12_picture 84 = .ok (.iconst 1, 1) := by decide +kernel
theorem dX12_picture_85 : decode cX12_picture 85 = .ok (.iadd, 1) := by decide +kernel
theorem dX12_picture_86 : decode cX12_picture 86 = .ok (.iastore, 1) := by decide +kernel
theorem dX12_picture_87 : decode cX12_picture 87 = .ok (.aload_n 0, 1) := by decide +kernel
theorem dX12_picture_88 : decode cX12_picture 88 = .ok (.invokevirtual 108, 3) := by decide +kernel
theorem dX12_picture_91 : decode cX12_picture 91 = .ok (.goto (-80), 3) := by decide +kernel
theorem dX12_picture_94 : decode cX12_picture 94 = .ok (.aload_n 0, 1) := by decide +kernel
theorem dX12_picture_95 : decode cX12_picture 95 = .ok (.aload_n 0, 1) := by decide +kernel
theorem dX12_picture_96 : decode cX12_picture 96 = .ok (.getfield 102, 3) := by decide +kernel
theorem dX12_picture_99 : decode cX12_picture 99 = .ok (.iconst 4, 1) := by decide +kernel
theorem dX12_picture_100 : decode cX12_picture 100 = .ok (.if_icmp .ne 18, 3) := by decide +kernel
theorem dX12_picture_103 : decode cX12_picture 103 = .ok (.aload_n 0, 1) := by decide +kernel
theorem dX12_picture_104 : decode cX12_picture 104 = .ok (.getfield 26, 3) := by decide +kernel
theorem dX12_picture_107 : decode cX12_picture 107 = .ok (.iconst 0, 1) := by decide +kernel
theorem dX12_picture_108 : decode cX12_picture 108 = .ok (.iaload, 1) := by decide +kernel
theorem dX12_picture_109 : decode cX12_picture 109 = .ok (.bipush 6, 2) := by decide +kernel
theorem dX12_picture_111 : decode cX12_picture 111 = .ok (.if_icmp .lt 7, 3) := by decide +kernel
theorem dX12_picture_114 : decode cX12_picture 114 = .ok (.iconst 1, 1) := by decide +kernel
theorem dX12_picture_115 : decode cX12_picture 115 = .ok (.goto 4, 3) := by decide +kernel
theorem dX12_picture_118 : decode cX12_picture 118 = .ok (.iconst 0, 1) := by decide +kernel
theorem dX12_picture_119 : decode cX12_picture 119 = .ok (.iconst 1, 1) := by decide +kernel
theorem dX12_picture_120 : decode cX12_picture 120 = .ok (.invokevirtual 111, 3) := by decide +kernel
theorem dX12_picture_123 : decode cX12_picture 123 = .ok (.return_, 1) := by decide +kernel
theorem dX12_wall_0 : decode cX12_wall 0 = .ok (.aload_n 0, 1) := by decide +kernel
theorem dX12_wall_1 : decode cX12_wall 1 = .ok (.getfield 26, 3) := by decide +kernel
theorem dX12_wall_4 : decode cX12_wall 4 = .ok (.iconst 2, 1) := by decide +kernel
theorem dX12_wall_5 : decode cX12_wall 5 = .ok (.iaload, 1) := by decide +kernel
theorem dX12_wall_6 : decode cX12_wall 6 = .ok (.iconst 5, 1) := by decide +kernel
theorem dX12_wall_7 : decode cX12_wall 7 = .ok (.if_icmp .ne 9, 3) := by decide +kernel
theorem dX12_wall_10 : decode cX12_wall 10 = .ok (.aload_n 0, 1) := by decide +kernel
theorem dX12_wall_11 : decode cX12_wall 11 = .ok (.iconst 3, 1) := by decide +kernel
theorem dX12_wall_12 : decode cX12_wall 12 = .ok (.putfield 105, 3) := by decide +kernel
theorem dX12_wall_15 : decode cX12_wall 15 = .ok (.return_, 1) := by decide +kernel
theorem dX12_wall_16 : decode cX12_wall 16 = .ok (.aload_n 0, 1) := by decide +kernel
theorem dX12_wall_17 : decode cX12_wall 17 = .ok (.invokevirtual 108, 3) := by decide +kernel
theorem dX12_wall_20 : decode cX12_wall 20 = .ok (.aload_n 0, 1) := by decide +kernel
theorem dX12_wall_21 : decode cX12_wall 21 = .ok (.getfield 26, 3) := by decide +kernel
theorem dX12_wall_24 : decode cX12_wall 24 = .ok (.iconst 2, 1) := by decide +kernel
theorem dX12_wall_25 : decode cX12_wall 25 = .ok (.iaload, 1) := by decide +kernel
theorem dX12_wall_26 : decode cX12_wall 26 = .ok (.ifCond .ne 7, 3) := by decide +kernel
theorem dX12_wall_29 : decode cX12_wall 29 = .ok (.iconst 1, 1) := by decide +kernel
theorem dX12_wall_30 : decode cX12_wall 30 = .ok (.goto 20, 3) := by decide +kernel
theorem dX12_wall_33 : decode cX12_wall 33 = .ok (.aload_n 0, 1) := by decide +kernel
theorem dX12_wall_34 : decode cX12_wall 34 = .ok (.getfield 32, 3) := by decide +kernel
theorem dX12_wall_37 : decode cX12_wall 37 = .ok (.iconst 1, 1) := by decide +kernel
theorem dX12_wall_38 : decode cX12_wall 38 = .ok (.aload_n 0, 1) := by decide +kernel
theorem dX12_wall_39 : decode cX12_wall 39 = .ok (.getfield 26, 3) := by decide +kernel
theorem dX12_wall_42 : decode cX12_wall 42 = .ok (.iconst 2, 1) := by decide +kernel
theorem dX12_wall_43 : decode cX12_wall 43 = .ok (.iaload, 1) := by decide +kernel
theorem dX12_wall_44 : decode cX12_wall 44 = .ok (.iadd, 1) := by decide +kernel
theorem dX12_wall_45 : decode cX12_wall 45 = .ok (.iconst 1, 1) := by decide +kernel
theorem dX12_wall_46 : decode cX12_wall 46 = .ok (.isub, 1) := by decide +kernel
theorem dX12_wall_47 : decode cX12_wall 47 = .ok (.iaload, 1) := by decide +kernel
theorem dX12_wall_48 : decode cX12_wall 48 = .ok (.iconst 1, 1) := by decide +kernel
theorem dX12_wall_49 : decode cX12_wall 49 = .ok (.iadd, 1) := by decide +kernel
theorem dX12_wall_50 : decode cX12_wall 50 = .ok (.istore_n 1, 1) := by decide +kernel
theorem dX12_wall_51 : decode cX12_wall 51 = .ok (.aload_n 0, 1) := by decide +kernel
theorem dX12_wall_52 : decode cX12_wall 52 = .ok (.getfield 32, 3) := by decide +kernel
theorem dX12_wall_55 : decode cX12_wall 55 = .ok (.iconst 1, 1) := by decide +kernel
theorem dX12_wall_56 : decode cX12_wall 56 = .ok (.aload_n 0, 1) := by decide +kernel
theorem dX12_wall_57 : decode cX12_wall 57 = .ok (.getfield 26, 3) := by decide +kernel
theorem dX12_wall_60 : decode cX12_wall 60 = .ok (.iconst 2, 1) := by decide +kernel
theorem dX12_wall_61 : decode cX12_wall 61 = .ok (.iaload, 1) := by decide +kernel
theorem dX12_wall_62 : decode cX12_wall 62 = .ok (.iadd, 1) := by decide +kernel
theorem dX12_wall_63 : decode cX12_wall 63 = .ok (.aload_n 0, 1) := by decide +kernel
theorem dX12_wall_64 : decode cX12_wall 64 = .ok (.iload_n 1, 1) := by decide +kernel
theorem dX12_wall_65 : decode cX12_wall 65 = .ok (.aload_n 0, 1) := by decide +kernel
theorem dX12_wall_66 : decode cX12_wall 66 = .ok (.getfield 26, 3) := by decide +kernel
theorem dX12_wall_69 : decode cX12_wall 69 = .ok (.iconst 0, 1) := by decide +kernel
theorem dX12_wall_70 : decode cX12_wall 70 = .ok (.iaload, 1) := by decide +kernel
theorem dX12_wall_71 : decode cX12_wall 71 = .ok (.iconst 1, 1) := by decide +kernel
theorem dX12_wall_72 : decode cX12_wall 72 = .ok (.isub, 1) := by decide +kernel
theorem dX12_wall_73 : decode cX12_wall 73 = .ok (.invokevirtual 118, 3) := by decide +kernel
theorem dX12_wall_76 : decode cX12_wall 76 = .ok (.iastore, 1) := by decide +kernel
theorem dX12_wall_77 : decode cX12_wall 77 = .ok (.aload_n 0, 1) := by decide +kernel
theorem dX12_wall_78 : decode cX12_wall 78 = .ok (.aload_n 0, 1) := by decide +kernel
theorem dX12_wall_79 : decode cX12_wall 79 = .ok (.getfield 102, 3) := by decide +kernel
theorem dX12_wall_82 : decode cX12_wall 82 = .ok (.iconst 4, 1) := by decide +kernel
theorem dX12_wall_83 : decode cX12_wall 83 = .ok (.if_icmp .ne 7, 3) := by decide +kernel
theorem dX12_wall_86 : decode cX12_wall 86 = .ok (.iconst 1, 1) := by decide +kernel
theorem dX12_wall_87 : decode cX12_wall 87 = .ok (.goto 4, 3) := by decide +kernel
theorem dX12_wall_90 : decode cX12_wall 90 = .ok (.iconst 0, 1) := by decide +kernel
theorem dX12_wall_91 : decode cX12_wall 91 = .ok (.iconst 1, 1) := by decide +kernel
theorem dX12_wall_92 : decode cX12_wall 92 = .ok (.invokevirtual 111, 3) := by decide +kernel
theorem dX12_wall_95 : decode cX12_wall 95 = .ok (.aload_n 0, 1) := by decide +kernel
theorem dX12_wall_96 : decode cX12_wall 96 = .ok (.getfield 26, 3) := by decide +kernel
theorem dX12_wall_99 : decode cX12_wall 99 = .ok (.iconst 2, 1) := by decide +kernel
theorem dX12_wall_100 : decode cX12_wall 100 = .ok (.dup2, 1) := by decide +kernel
theorem dX12_wall_101 : decode cX12_wall 101 = .ok (.iaload, 1) := by decide +kernel
theorem dX12_wall_102 : decode cX12_wall 102 = .ok (.iconst 1, 1) := by decide +kernel
theorem dX12_wall_103 : decode cX12_wall 103 = .ok (.iadd, 1) := by decide +kernel
theorem dX12_wall_104 : decode cX12_wall 104 = .ok (.iastore, 1) := by decide +kernel
theorem dX12_wall_105 : decode cX12_wall 105 = .ok (.return_, 1) := by decide +kernel
theorem dX12_kindBy_0 : decode cX12_kindBy 0 = .ok (.iload_n 0, 1) := by decide +kernel
theorem dX12_kindBy_1 : decode cX12_kindBy 1 = .ok (.lookupswitch 61 #[(98, 59), (100, 53), (108, 51), (111, 57), (115, 55)], 51) := by decide +kernel
theorem dX12_kindBy_52 : decode cX12_kindBy 52 = .ok (.iconst 1, 1) := by decide +kernel
theorem dX12_kindBy_53 : decode cX12_kindBy 53 = .ok (.ireturn, 1) := by decide +kernel
theorem dX12_kindBy_54 : decode cX12_kindBy 54 = .ok (.iconst 2, 1) := by decide +kernel
theorem dX12_kindBy_55 : decode cX12_kindBy 55 = .ok (.ireturn, 1) := by decide +kernel
theorem dX12_kindBy_56 : decode cX12_kindBy 56 = .ok (.iconst 3, 1) := by decide +kernel
theorem dX12_kindBy_57 : decode cX12_kindBy 57 = .ok (.ireturn, 1) := by decide +kernel
theorem dX12_kindBy_58 : decode cX12_kindBy 58 = .ok (.iconst 4, 1) := by decide +kernel
theorem dX12_kindBy_59 : decode cX12_kindBy 59 = .ok (.ireturn, 1) := by decide +kernel
theorem dX12_kindBy_60 : decode cX12_kindBy 60 = .ok (.iconst 5, 1) := by decide +kernel
theorem dX12_kindBy_61 : decode cX12_kindBy 61 = .ok (.ireturn, 1) := by decide +kernel
theorem dX12_kindBy_62 : decode cX12_kindBy 62 = .ok (.iconst 0, 1) := by decide +kernel
theorem dX12_kindBy_63 : decode cX12_kindBy 63 = .ok (.ireturn, 1) := by decide +kernel
theorem dX12_one_0 : decode cX12_one 0 = .ok (.aload_n 0, 1) := by decide +kernel
theorem dX12_one_1 : decode cX12_one 1 = .ok (.getfield 26, 3) := by decide +kernel
theorem dX12_one_4 : decode cX12_one 4 = .ok (.iconst 3, 1) := by decide +kernel
theorem dX12_one_5 : decode cX12_one 5 = .ok (.iaload, 1) := by decide +kernel
theorem dX12_one_6 : decode cX12_one 6 = .ok (.iconst 5, 1) := by decide +kernel
theorem dX12_one_7 : decode cX12_one 7 = .ok (.if_icmp .ne 9, 3) := by decide +kernel
theorem dX12_one_10 : decode cX12_one 10 = .ok (.aload_n 0, 1) := by decide +kernel
theorem dX12_one_11 : decode cX12_one 11 = .ok (.iconst 3, 1) := by decide +kernel
theorem dX12_one_12 : decode cX12_one 12 = .ok (.putfield 105, 3) := by decide +kernel
theorem dX12_one_15 : decode cX12_one 15 = .ok (.return_, 1) := by decide +kernel
theorem dX12_one_16 : decode cX12_one 16 = .ok (.aload_n 0, 1) := by decide +kernel
theorem dX12_one_17 : decode cX12_one 17 = .ok (.getfield 26, 3) := by decide +kernel
theorem dX12_one_20 : decode cX12_one 20 = .ok (.bipush 28, 2) := by decide +kernel
theorem dX12_one_22 : decode cX12_one 22 = .ok (.aload_n 0, 1) := by decide +kernel
theorem dX12_one_23 : decode cX12_one 23 = .ok (.getfield 26, 3) := by decide +kernel
theorem dX12_one_26 : decode cX12_one 26 = .ok (.iconst 3, 1) := by decide +kernel
theorem dX12_one_27 : decode cX12_one 27 = .ok (.iaload, 1) := by decide +kernel
theorem dX12_one_28 : decode cX12_one 28 = .ok (.iadd, 1) := by decide +kernel
theorem dX12_one_29 : decode cX12_one 29 = .ok (.aload_n 0, 1) := by decide +kernel
theorem dX12_one_30 : decode cX12_one 30 = .ok (.getfield 95, 3) := by decide +kernel
theorem dX12_one_33 : decode cX12_one 33 = .ok (.invokestatic 122, 3) := by decide +kernel
theorem dX12_one_36 : decode cX12_one 36 = .ok (.iastore, 1) := by decide +kernel
theorem dX12_one_37 : decode cX12_one 37 = .ok (.aload_n 0, 1) := by decide +kernel
theorem dX12_one_38 : decode cX12_one 38 = .ok (.invokevirtual 108, 3) := by decide +kernel
theorem dX12_one_41 : decode cX12_one 41 = .ok (.aload_n 0, 1) := by decide +kernel
theorem dX12_one_42 : decode cX12_one 42 = .ok (.getfield 32, 3) := by decide +kernel
theorem dX12_one_45 : decode cX12_one 45 = .ok (.bipush 7, 2) := by decide +kernel
theorem dX12_one_47 : decode cX12_one 47 = .ok (.aload_n 0, 1) := by decide +kernel
theorem dX12_one_48 : decode cX12_one 48 = .ok (.getfield 26, 3) := by decide +kernel
theorem dX12_one_51 : decode cX12_one 51 = .ok (.iconst 3, 1) := by decide +kernel
theorem dX12_one_52 : decode cX12_one 52 = .ok (.iaload, 1) := by decide +kernel
theorem dX12_one_53 : decode cX12_one 53 = .ok (.iadd, 1) := by decide +kernel
theorem dX12_one_54 : decode cX12_one 54 = .ok (.aload_n 0, 1) := by decide +kernel
theorem dX12_one_55 : decode cX12_one 55 = .ok (.iconst 0, 1) := by decide +kernel
theorem dX12_one_56 : decode cX12_one 56 = .ok (.aload_n 0, 1) := by decide +kernel
theorem dX12_one_57 : decode cX12_one 57 = .ok (.getfield 26, 3) := by decide +kernel
theorem dX12_one_60 : decode cX12_one 60 = .ok (.iconst 2, 1) := by decide +kernel
theorem dX12_one_61 : decode cX12_one 61 = .ok (.iaload, 1) := by decide +kernel
theorem dX12_one_62 : decode cX12_one 62 = .ok (.invokevirtual 118, 3) := by decide +kernel
theorem dX12_one_65 : decode cX12_one 65 = .ok (.iastore, 1) := by decide +kernel
theorem dX12_one_66 : decode cX12_one 66 = .ok (.aload_n 0, 1) := by decide +kernel
theorem dX12_one_67 : decode cX12_one 67 = .ok (.aload_n 0, 1) := by decide +kernel
theorem dX12_one_68 : decode cX12_one 68 = .ok (.getfield 102, 3) := by decide +kernel
theorem dX12_one_71 : decode cX12_one 71 = .ok (.iconst 3, 1) := by decide +kernel
theorem dX12_one_72 : decode cX12_one 72 = .ok (.if_icmp .ne 7, 3) := by decide +kernel
theorem dX12_one_75 : decode cX12_one 75 = .ok (.iconst 1, 1) := by decide +kernel
theorem dX12_one_76 : decode cX12_one 76 = .ok (.goto 4, 3) := by decide +kernel
theorem dX12_one_79 : decode cX12_one 79 = .ok (.iconst 0, 1) := by decide +kernel
theorem dX12_one_80 : decode cX12_one 80 = .ok (.iconst 1, 1) := by decide +kernel
theorem dX12_one_81 : decode cX12_one 81 = .ok (.invokevirtual 111, 3) := by decide +kernel
theorem dX12_one_84 : decode cX12_one 84 = .ok (.aload_n 0, 1) := by decide +kernel
theorem dX12_one_85 : decode cX12_one 85 = .ok (.getfield 32, 3) := by decide +kernel
theorem dX12_one_88 : decode cX12_one 88 = .ok (.bipush 12, 2) := by decide +kernel
theorem dX12_one_90 : decode cX12_one 90 = .ok (.aload_n 0, 1) := by decide +kernel
theorem dX12_one_91 : decode cX12_one 91 = .ok (.getfield 26, 3) := by decide +kernel
theorem dX12_one_94 : decode cX12_one 94 = .ok (.iconst 3, 1) := by decide +kernel
theorem dX12_one_95 : decode cX12_one 95 = .ok (.iaload, 1) := by decide +kernel
theorem dX12_one_96 : decode cX12_one 96 = .ok (.iadd, 1) := by decide +kernel
theorem dX12_one_97 : decode cX12_one 97 = .ok (.aload_n 0, 1) := by decide +kernel
theorem dX12_one_98 : decode cX12_one 98 = .ok (.iconst 0, 1) := by decide +kernel
theorem dX12_one_99 : decode cX12_one 99 = .ok (.iconst 1, 1) := by decide +kernel
theorem dX12_one_100 : decode cX12_one 100 = .ok (.invokevirtual 118, 3) := by decide +kernel
theorem dX12_one_103 : decode cX12_one 103 = .ok (.iastore, 1) := by decide +kernel
theorem dX12_one_104 : decode cX12_one 104 = .ok (.aload_n 0, 1) := by decide +kernel
theorem dX12_one_105 : decode cX12_one 105 = .ok (.aload_n 0, 1) := by decide +kernel
theorem dX12_one_106 : decode cX12_one 106 = .ok (.getfield 102, 3) := by decide +kernel
theorem dX12_one_109 : decode cX12_one 109 = .ok (.iconst 4, 1) := by decide +kernel
theorem dX12_one_110 : decode cX12_one 110 = .ok (.if_icmp .ne 7, 3) := by decide +kernel
theorem dX12_one_113 : decode cX12_one 113 = .ok (.iconst 1, 1) := by decide +kernel
theorem dX12_one_114 : decode cX12_one 114 = .ok (.goto 4, 3) := by decide +kernel
theorem dX12_one_117 : decode cX12_one 117 = .ok (.iconst 0, 1) := by decide +kernel
theorem dX12_one_118 : decode cX12_one 118 = .ok (.iconst 1, 1) := by decide +kernel
theorem dX12_one_119 : decode cX12_one 119 = .ok (.invokevirtual 111, 3) := by decide +kernel
theorem dX12_one_122 : decode cX12_one 122 = .ok (.aload_n 0, 1) := by decide +kernel
theorem dX12_one_123 : decode cX12_one 123 = .ok (.getfield 26, 3) := by decide +kernel
theorem dX12_one_126 : decode cX12_one 126 = .ok (.iconst 3, 1) := by decide +kernel
theorem dX12_one_127 : decode cX12_one 127 = .ok (.dup2, 1) := by decide +kernel
theorem dX12_one_128 : decode cX12_one 128 = .ok (.iaload, 1) := by decide +kernel
theorem dX12_one_129 : decode cX12_one 129 = .ok (.iconst 1, 1) := by decide +kernel
theorem dX12_one_130 : decode cX12_one 130 = .ok (.iadd, 1) := by decide +kernel
theorem dX12_one_131 : decode cX12_one 131 = .ok (.iastore, 1) := by decide +kernel
theorem dX12_one_132 : decode cX12_one 132 = .ok (.return_, 1) := by decide +kernel
theorem dX12_read_0 : decode cX12_read 0 = .ok (.aload_n 0, 1) := by decide +kernel
theorem dX12_read_1 : decode cX12_read 1 = .ok (.iconst 0, 1) := by decide +kernel
theorem dX12_read_2 : decode cX12_read 2 = .ok (.putfield 89, 3) := by decide +kernel
theorem dX12_read_5 : decode cX12_read 5 = .ok (.aload_n 0, 1) := by decide +kernel
theorem dX12_read_6 : decode cX12_read 6 = .ok (.iconst 0, 1) := by decide +kernel
theorem dX12_read_7 : decode cX12_read 7 = .ok (.putfield 105, 3) := by decide +kernel
theorem dX12_read_10 : decode cX12_read 10 = .ok (.iconst 0, 1) := by decide +kernel
theorem dX12_read_11 : decode cX12_read 11 = .ok (.istore_n 1, 1) := by decide +kernel
theorem dX12_read_12 : decode cX12_read 12 = .ok (.iload_n 1, 1) := by decide +kernel
theorem dX12_read_13 : decode cX12_read 13 = .ok (.bipush 33, 2) := by decide +kernel
theorem dX12_read_15 : decode cX12_read 15 = .ok (.if_icmp .ge 16, 3) := by decide +kernel
theorem dX12_read_18 : decode cX12_read 18 = .ok (.aload_n 0, 1) := by decide +kernel
theorem dX12_read_19 : decode cX12_read 19 = .ok (.getfield 26, 3) := by decide +kernel
theorem dX12_read_22 : decode cX12_read 22 = .ok (.iload_n 1, 1) := by decide +kernel
theorem dX12_read_23 : decode cX12_read 23 = .ok (.iconst 0, 1) := by decide +kernel
theorem dX12_read_24 : decode cX12_read 24 = .ok (.iastore, 1) := by decide +kernel
theorem dX12_read_25 : decode cX12_read 25 = .ok (.iinc 1 1, 3) := by decide +kernel
theorem dX12_read_28 : decode cX12_read 28 = .ok (.goto (-16), 3) := by decide +kernel
theorem dX12_read_31 : decode cX12_read 31 = .ok (.iconst 0, 1) := by decide +kernel
theorem dX12_read_32 : decode cX12_read 32 = .ok (.istore_n 1, 1) := by decide +kernel
theorem dX12_read_33 : decode cX12_read 33 = .ok (.iload_n 1, 1) := by decide +kernel
theorem dX12_read_34 : decode cX12_read 34 = .ok (.bipush 22, 2) := by decide +kernel
theorem dX12_read_36 : decode cX12_read 36 = .ok (.if_icmp .ge 16, 3) := by decide +kernel
theorem dX12_read_39 : decode cX12_read 39 = .ok (.aload_n 0, 1) := by decide +kernel
theorem dX12_read_40 : decode cX12_read 40 = .ok (.getfield 32, 3) := by decide +kernel
theorem dX12_read_43 : decode cX12_read 43 = .ok (.iload_n 1, 1) := by decide +kernel
theorem dX12_read_44 : decode cX12_read 44 = .ok (.iconst 0, 1) := by decide +kernel
theorem dX12_read_45 : decode cX12_read 45 = .ok (.iastore, 1) := by decide +kernel
theorem dX12_read_46 : decode cX12_read 46 = .ok (.iinc 1 1, 3) := by decide +kernel
theorem dX12_read_49 : decode cX12_read 49 = .ok (.goto (-16), 3) := by decide +kernel
theorem dX12_read_52 : decode cX12_read 52 = .ok (.aload_n 0, 1) := by decide +kernel
theorem dX12_read_53 : decode cX12_read 53 = .ok (.invokevirtual 108, 3) := by decide +kernel
theorem dX12_read_56 : decode cX12_read 56 = .ok (.aload_n 0, 1) := by decide +kernel
theorem dX12_read_57 : decode cX12_read 57 = .ok (.aload_n 0, 1) := by decide +kernel
theorem dX12_read_58 : decode cX12_read 58 = .ok (.bipush 113, 2) := by decide +kernel
theorem dX12_read_60 : decode cX12_read 60 = .ok (.invokevirtual 115, 3) := by decide +kernel
theorem dX12_read_63 : decode cX12_read 63 = .ok (.iconst 1, 1) := by decide +kernel
theorem dX12_read_64 : decode cX12_read 64 = .ok (.invokevirtual 111, 3) := by decide +kernel
theorem dX12_read_67 : decode cX12_read 67 = .ok (.aload_n 0, 1) := by decide +kernel
theorem dX12_read_68 : decode cX12_read 68 = .ok (.getfield 26, 3) := by decide +kernel
theorem dX12_read_71 : decode cX12_read 71 = .ok (.iconst 1, 1) := by decide +kernel
theorem dX12_read_72 : decode cX12_read 72 = .ok (.aload_n 0, 1) := by decide +kernel
theorem dX12_read_73 : decode cX12_read 73 = .ok (.iconst 0, 1) := by decide +kernel
theorem dX12_read_74 : decode cX12_read 74 = .ok (.bipush 24, 2) := by decide +kernel
theorem dX12_read_76 : decode cX12_read 76 = .ok (.invokevirtual 118, 3) := by decide +kernel
theorem dX12_read_79 : decode cX12_read 79 = .ok (.iastore, 1) := by decide +kernel
theorem dX12_read_80 : decode cX12_read 80 = .ok (.aload_n 0, 1) := by decide +kernel
theorem dX12_read_81 : decode cX12_read 81 = .ok (.aload_n 0, 1) := by decide +kernel
theorem dX12_read_82 : decode cX12_read 82 = .ok (.getfield 102, 3) := by decide +kernel
theorem dX12_read_85 : decode cX12_read 85 = .ok (.iconst 4, 1) := by decide +kernel
theorem dX12_read_86 : decode cX12_read 86 = .ok (.if_icmp .ne 7, 3) := by decide +kernel
theorem dX12_read_89 : decode cX12_read 89 = .ok (.iconst 1, 1) := by decide +kernel
theorem dX12_read_90 : decode cX12_read 90 = .ok (.goto 4, 3) := by decide +kernel
theorem dX12_read_93 : decode cX12_read 93 = .ok (.iconst 0, 1) := by decide +kernel
theorem dX12_read_94 : decode cX12_read 94 = .ok (.iconst 1, 1) := by decide +kernel
theorem dX12_read_95 : decode cX12_read 95 = .ok (.invokevirtual 111, 3) := by decide +kernel
theorem dX12_read_98 : decode cX12_read 98 = .ok (.aload_n 0, 1) := by decide +kernel
theorem dX12_read_99 : decode cX12_read 99 = .ok (.getfield 105, 3) := by decide +kernel
theorem dX12_read_102 : decode cX12_read 102 = .ok (.ifCond .ne 7, 3) := by decide +kernel
theorem dX12_read_105 : decode cX12_read 105 = .ok (.aload_n 0, 1) := by decide +kernel
theorem dX12_read_106 : decode cX12_read 106 = .ok (.invokevirtual 125, 3) := by decide +kernel
theorem dX12_read_109 : decode cX12_read 109 = .ok (.aload_n 0, 1) := by decide +kernel
theorem dX12_read_110 : decode cX12_read 110 = .ok (.getfield 105, 3) := by decide +kernel
theorem dX12_read_113 : decode cX12_read 113 = .ok (.ifCond .ne 19, 3) := by decide +kernel
theorem dX12_read_116 : decode cX12_read 116 = .ok (.aload_n 0, 1) := by decide +kernel
theorem dX12_read_117 : decode cX12_read 117 = .ok (.bipush 120, 2) := by decide +kernel
theorem dX12_read_119 : decode cX12_read 119 = .ok (.invokevirtual 115, 3) := by decide +kernel
theorem dX12_read_122 : decode cX12_read 122 = .ok (.ifCond .eq 10, 3) := by decide +kernel
theorem dX12_read_125 : decode cX12_read 125 = .ok (.aload_n 0, 1) := by decide +kernel
theorem dX12_read_126 : decode cX12_read 126 = .ok (.invokevirtual 128, 3) := by decide +kernel
theorem dX12_read_129 : decode cX12_read 129 = .ok (.goto (-20), 3) := by decide +kernel
theorem dX12_read_132 : decode cX12_read 132 = .ok (.aload_n 0, 1) := by decide +kernel
theorem dX12_read_133 : decode cX12_read 133 = .ok (.getfield 105, 3) := by decide +kernel
theorem dX12_read_136 : decode cX12_read 136 = .ok (.ifCond .ne 28, 3) := by decide +kernel
theorem dX12_read_139 : decode cX12_read 139 = .ok (.aload_n 0, 1) := by decide +kernel
theorem dX12_read_140 : decode cX12_read 140 = .ok (.getfield 102, 3) := by decide +kernel
theorem dX12_read_143 : decode cX12_read 143 = .ok (.iconst 1, 1) := by decide +kernel
theorem dX12_read_144 : decode cX12_read 144 = .ok (.if_icmp .ne 20, 3) := by decide +kernel
theorem dX12_read_147 : decode cX12_read 147 = .ok (.aload_n 0, 1) := by decide +kernel
theorem dX12_read_148 : decode cX12_read 148 = .ok (.getfield 95, 3) := by decide +kernel
theorem dX12_read_151 : decode cX12_read 151 = .ok (.invokestatic 122, 3) := by decide +kernel
theorem dX12_read_154 : decode cX12_read 154 = .ok (.ifCond .eq 10, 3) := by decide +kernel
theorem dX12_read_157 : decode cX12_read 157 = .ok (.aload_n 0, 1) := by decide +kernel
theorem dX12_read_158 : decode cX12_read 158 = .ok (.invokevirtual 131, 3) := by decide +kernel
theorem dX12_read_161 : decode cX12_read 161 = .ok (.goto (-29), 3) := by decide +kernel
theorem dX12_read_164 : decode cX12_read 164 = .ok (.aload_n 0, 1) := by decide +kernel
theorem dX12_read_165 : decode cX12_read 165 = .ok (.getfield 105, 3) := by decide +kernel
theorem dX12_read_168 : decode cX12_read 168 = .ok (.ifCond .ne 16, 3) := by decide +kernel
theorem dX12_read_171 : decode cX12_read 171 = .ok (.aload_n 0, 1) := by decide +kernel
theorem dX12_read_172 : decode cX12_read 172 = .ok (.getfield 102, 3) := by decide +kernel
theorem dX12_read_175 : decode cX12_read 175 = .ok (.iconst 5, 1) := by decide +kernel
theorem dX12_read_176 : decode cX12_read 176 = .ok (.if_icmp .eq 8, 3) := by decide +kernel
theorem dX12_read_179 : decode cX12_read 179 = .ok (.aload_n 0, 1) := by decide +kernel
theorem dX12_read_180 : decode cX12_read 180 = .ok (.iconst 1, 1) := by decide +kernel
theorem dX12_read_181 : decode cX12_read 181 = .ok (.putfield 105, 3) := by decide +kernel
theorem dX12_read_184 : decode cX12_read 184 = .ok (.return_, 1) := by decide +kernel
theorem dX12_paper_0 : decode cX12_paper 0 = .ok (.aload_n 0, 1) := by decide +kernel
theorem dX12_paper_1 : decode cX12_paper 1 = .ok (.invokevirtual 134, 3) := by decide +kernel
theorem dX12_paper_4 : decode cX12_paper 4 = .ok (.aload_n 0, 1) := by decide +kernel
theorem dX12_paper_5 : decode cX12_paper 5 = .ok (.iconst 0, 1) := by decide +kernel
theorem dX12_paper_6 : decode cX12_paper 6 = .ok (.putfield 85, 3) := by decide +kernel
theorem dX12_paper_9 : decode cX12_paper 9 = .ok (.aload_n 0, 1) := by decide +kernel
theorem dX12_paper_10 : decode cX12_paper 10 = .ok (.getfield 105, 3) := by decide +kernel
theorem dX12_paper_13 : decode cX12_paper 13 = .ok (.ifCond .eq 19, 3) := by decide +kernel
theorem dX12_paper_16 : decode cX12_paper 16 = .ok (.aload_n 0, 1) := by decide +kernel
theorem dX12_paper_17 : decode cX12_paper 17 = .ok (.aload_n 0, 1) := by decide +kernel
theorem dX12_paper_18 : decode cX12_paper 18 = .ok (.getfield 105, 3) := by decide +kernel
theorem dX12_paper_21 : decode cX12_paper 21 = .ok (.putfield 137, 3) := by decide +kernel
theorem dX12_paper_24 : decode cX12_paper 24 = .ok (.ldc 140, 2) := by decide +kernel
theorem dX12_paper_26 : decode cX12_paper 26 = .ok (.aload_n 0, 1) := by decide +kernel
theorem dX12_paper_27 : decode cX12_paper 27 = .ok (.getfield 92, 3) := by decide +kernel
theorem dX12_paper_30 : decode cX12_paper 30 = .ok (.isub, 1) := by decide +kernel
theorem dX12_paper_31 : decode cX12_paper 31 = .ok (.ireturn, 1) := by decide +kernel
theorem dX12_paper_32 : decode cX12_paper 32 = .ok (.iconst 0, 1) := by decide +kernel
theorem dX12_paper_33 : decode cX12_paper 33 = .ok (.istore_n 1, 1) := by decide +kernel
theorem dX12_paper_34 : decode cX12_paper 34 = .ok (.iload_n 1, 1) := by decide +kernel
theorem dX12_paper_35 : decode cX12_paper 35 = .ok (.bipush 33, 2) := by decide +kernel
theorem dX12_paper_37 : decode cX12_paper 37 = .ok (.if_icmp .ge 21, 3) := by decide +kernel
theorem dX12_paper_40 : decode cX12_paper 40 = .ok (.aload_n 0, 1) := by decide +kernel
theorem dX12_paper_41 : decode cX12_paper 41 = .ok (.getfield 29, 3) := by decide +kernel
theorem dX12_paper_44 : decode cX12_paper 44 = .ok (.iload_n 1, 1) := by decide +kernel
theorem dX12_paper_45 : decode cX12_paper 45 = .ok (.aload_n 0, 1) := by decide +kernel
theorem dX12_paper_46 : decode cX12_paper 46 = .ok (.getfield 26, 3) := by decide +kernel
theorem dX12_paper_49 : decode cX12_paper 49 = .ok (.iload_n 1, 1) := by decide +kernel
theorem dX12_paper_50 : decode cX12_paper 50 = .ok (.iaload, 1) := by decide +kernel
theorem dX12_paper_51 : decode cX12_paper 51 = .ok (.iastore, 1) := by decide +kernel
theorem dX12_paper_52 : decode cX12_paper 52 = .ok (.iinc 1 1, 3) := by decide +kernel
theorem dX12_paper_55 : decode cX12_paper 55 = .ok (.goto (-21), 3) := by decide +kernel
theorem dX12_paper_58 : decode cX12_paper 58 = .ok (.iconst 0, 1) := by decide +kernel
theorem dX12_paper_59 : decode cX12_paper 59 = .ok (.istore_n 1, 1) := by decide +kernel
theorem dX12_paper_60 : decode cX12_paper 60 = .ok (.iload_n 1, 1) := by decide +kernel
theorem dX12_paper_61 : decode cX12_paper 61 = .ok (.bipush 22, 2) := by decide +kernel
theorem dX12_paper_63 : decode cX12_paper 63 = .ok (.if_icmp .ge 21, 3) := by decide +kernel
theorem dX12_paper_66 : decode cX12_paper 66 = .ok (.aload_n 0, 1) := by decide +kernel
theorem dX12_paper_67 : decode cX12_paper 67 = .ok (.getfield 35, 3) := by decide +kernel
theorem dX12_paper_70 : decode cX12_paper 70 = .ok (.iload_n 1, 1) := by decide +kernel
theorem dX12_paper_71 : decode cX12_paper 71 = .ok (.aload_n 0, 1) := by decide +kernel
theorem dX12_paper_72 : decode cX12_paper 72 = .ok (.getfield 32, 3) := by decide +kernel
theorem dX12_paper_75 : decode cX12_paper 75 = .ok (.iload_n 1, 1) := by decide +kernel
theorem dX12_paper_76 : decode cX12_paper 76 = .ok (.iaload, 1) := by decide +kernel
theorem dX12_paper_77 : decode cX12_paper 77 = .ok (.iastore, 1) := by decide +kernel
theorem dX12_paper_78 : decode cX12_paper 78 = .ok (.iinc 1 1, 3) := by decide +kernel
theorem dX12_paper_81 : decode cX12_paper 81 = .ok (.goto (-21), 3) := by decide +kernel
theorem dX12_paper_84 : decode cX12_paper 84 = .ok (.aload_n 0, 1) := by decide +kernel
theorem dX12_paper_85 : decode cX12_paper 85 = .ok (.iconst 1, 1) := by decide +kernel
theorem dX12_paper_86 : decode cX12_paper 86 = .ok (.putfield 141, 3) := by decide +kernel
theorem dX12_paper_89 : decode cX12_paper 89 = .ok (.aload_n 0, 1) := by decide +kernel
theorem dX12_paper_90 : decode cX12_paper 90 = .ok (.iconst 0, 1) := by decide +kernel
theorem dX12_paper_91 : decode cX12_paper 91 = .ok (.putfield 145, 3) := by decide +kernel
theorem dX12_paper_94 : decode cX12_paper 94 = .ok (.aload_n 0, 1) := by decide +kernel
theorem dX12_paper_95 : decode cX12_paper 95 = .ok (.getfield 29, 3) := by decide +kernel
theorem dX12_paper_98 : decode cX12_paper 98 = .ok (.iconst 0, 1) := by decide +kernel
theorem dX12_paper_99 : decode cX12_paper 99 = .ok (.iaload, 1) := by decide +kernel
theorem dX12_paper_100 : decode cX12_paper 100 = .ok (.ireturn, 1) := by decide +kernel
theorem dX12_fault_0 : decode cX12_fault 0 = .ok (.aload_n 0, 1) := by decide +kernel
theorem dX12_fault_1 : decode cX12_fault 1 = .ok (.getfield 137, 3) := by decide +kernel
theorem dX12_fault_4 : decode cX12_fault 4 = .ok (.ireturn, 1) := by decide +kernel
theorem dX12_isCell_0 : decode cX12_isCell 0 = .ok (.aload_n 0, 1) := by decide +kernel
theorem dX12_isCell_1 : decode cX12_isCell 1 = .ok (.getfield 141, 3) := by decide +kernel
theorem dX12_isCell_4 : decode cX12_isCell 4 = .ok (.ifCond .eq 23, 3) := by decide +kernel
theorem dX12_isCell_7 : decode cX12_isCell 7 = .ok (.iload_n 1, 1) := by decide +kernel
theorem dX12_isCell_8 : decode cX12_isCell 8 = .ok (.iconst 0, 1) := by decide +kernel
theorem dX12_isCell_9 : decode cX12_isCell 9 = .ok (.aload_n 0, 1) := by decide +kernel
theorem dX12_isCell_10 : decode cX12_isCell 10 = .ok (.getfield 29, 3) := by decide +kernel
theorem dX12_isCell_13 : decode cX12_isCell 13 = .ok (.iconst 0, 1) := by decide +kernel
theorem dX12_isCell_14 : decode cX12_isCell 14 = .ok (.iaload, 1) := by decide +kernel
theorem dX12_isCell_15 : decode cX12_isCell 15 = .ok (.iconst 1, 1) := by decide +kernel
theorem dX12_isCell_16 : decode cX12_isCell 16 = .ok (.isub, 1) := by decide +kernel
theorem dX12_isCell_17 : decode cX12_isCell 17 = .ok (.invokestatic 61, 3) := by decide +kernel
theorem dX12_isCell_20 : decode cX12_isCell 20 = .ok (.ifCond .eq 7, 3) := by decide +kernel
theorem dX12_isCell_23 : decode cX12_isCell 23 = .ok (.iconst 1, 1) := by decide +kernel
theorem dX12_isCell_24 : decode cX12_isCell 24 = .ok (.goto 4, 3) := by decide +kernel
theorem dX12_isCell_27 : decode cX12_isCell 27 = .ok (.iconst 0, 1) := by decide +kernel
theorem dX12_isCell_28 : decode cX12_isCell 28 = .ok (.ireturn, 1) := by decide +kernel
theorem dX12_isHouse_0 : decode cX12_isHouse 0 = .ok (.aload_n 0, 1) := by decide +kernel
theorem dX12_isHouse_1 : decode cX12_isHouse 1 = .ok (.getfield 141, 3) := by decide +kernel
theorem dX12_isHouse_4 : decode cX12_isHouse 4 = .ok (.ifCond .eq 21, 3) := by decide +kernel
theorem dX12_isHouse_7 : decode cX12_isHouse 7 = .ok (.iload_n 1, 1) := by decide +kernel
theorem dX12_isHouse_8 : decode cX12_isHouse 8 = .ok (.iconst 0, 1) := by decide +kernel
theorem dX12_isHouse_9 : decode cX12_isHouse 9 = .ok (.aload_n 0, 1) := by decide +kernel
theorem dX12_isHouse_10 : decode cX12_isHouse 10 = .ok (.getfield 29, 3) := by decide +kernel
theorem dX12_isHouse_13 : decode cX12_isHouse 13 = .ok (.iconst 2, 1) := by decide +kernel
theorem dX12_isHouse_14 : decode cX12_isHouse 14 = .ok (.iaload, 1) := by decide +kernel
theorem dX12_isHouse_15 : decode cX12_isHouse 15 = .ok (.invokestatic 61, 3) := by decide +kernel
theorem dX12_isHouse_18 : decode cX12_isHouse 18 = .ok (.ifCond .eq 7, 3) := by decide +kernel
theorem dX12_isHouse_21 : decode cX12_isHouse 21 = .ok (.iconst 1, 1) := by decide +kernel
theorem dX12_isHouse_22 : decode cX12_isHouse 22 = .ok (.goto 4, 3) := by decide +kernel
theorem dX12_isHouse_25 : decode cX12_isHouse 25 = .ok (.iconst 0, 1) := by decide +kernel
theorem dX12_isHouse_26 : decode cX12_isHouse 26 = .ok (.ireturn, 1) := by decide +kernel
theorem dX12_isOne_0 : decode cX12_isOne 0 = .ok (.aload_n 0, 1) := by decide +kernel
theorem dX12_isOne_1 : decode cX12_isOne 1 = .ok (.getfield 141, 3) := by decide +kernel
theorem dX12_isOne_4 : decode cX12_isOne 4 = .ok (.ifCond .eq 23, 3) := by decide +kernel
theorem dX12_isOne_7 : decode cX12_isOne 7 = .ok (.iload_n 1, 1) := by decide +kernel
theorem dX12_isOne_8 : decode cX12_isOne 8 = .ok (.iconst 0, 1) := by decide +kernel
theorem dX12_isOne_9 : decode cX12_isOne 9 = .ok (.aload_n 0, 1) := by decide +kernel
theorem dX12_isOne_10 : decode cX12_isOne 10 = .ok (.getfield 29, 3) := by decide +kernel
theorem dX12_isOne_13 : decode cX12_isOne 13 = .ok (.iconst 3, 1) := by decide +kernel
theorem dX12_isOne_14 : decode cX12_isOne 14 = .ok (.iaload, 1) := by decide +kernel
theorem dX12_isOne_15 : decode cX12_isOne 15 = .ok (.iconst 1, 1) := by decide +kernel
theorem dX12_isOne_16 : decode cX12_isOne 16 = .ok (.isub, 1) := by decide +kernel
theorem dX12_isOne_17 : decode cX12_isOne 17 = .ok (.invokestatic 61, 3) := by decide +kernel
theorem dX12_isOne_20 : decode cX12_isOne 20 = .ok (.ifCond .eq 7, 3) := by decide +kernel
theorem dX12_isOne_23 : decode cX12_isOne 23 = .ok (.iconst 1, 1) := by decide +kernel
theorem dX12_isOne_24 : decode cX12_isOne 24 = .ok (.goto 4, 3) := by decide +kernel
theorem dX12_isOne_27 : decode cX12_isOne 27 = .ok (.iconst 0, 1) := by decide +kernel
theorem dX12_isOne_28 : decode cX12_isOne 28 = .ok (.ireturn, 1) := by decide +kernel
theorem dX12_allCells_0 : decode cX12_allCells 0 = .ok (.iconst 1, 1) := by decide +kernel
theorem dX12_allCells_1 : decode cX12_allCells 1 = .ok (.aload_n 0, 1) := by decide +kernel
theorem dX12_allCells_2 : decode cX12_allCells 2 = .ok (.getfield 29, 3) := by decide +kernel
theorem dX12_allCells_5 : decode cX12_allCells 5 = .ok (.iconst 0, 1) := by decide +kernel
theorem dX12_allCells_6 : decode cX12_allCells 6 = .ok (.iaload, 1) := by decide +kernel
theorem dX12_allCells_7 : decode cX12_allCells 7 = .ok (.ishl, 1) := by decide +kernel
theorem dX12_allCells_8 : decode cX12_allCells 8 = .ok (.iconst 1, 1) := by decide +kernel
theorem dX12_allCells_9 : decode cX12_allCells 9 = .ok (.isub, 1) := by decide +kernel
theorem dX12_allCells_10 : decode cX12_allCells 10 = .ok (.ireturn, 1) := by decide +kernel
theorem dX12_firstOf_0 : decode cX12_firstOf 0 = .ok (.iload_n 2, 1) := by decide +kernel
theorem dX12_firstOf_1 : decode cX12_firstOf 1 = .ok (.ifCond .ne 7, 3) := by decide +kernel
theorem dX12_firstOf_4 : decode cX12_firstOf 4 = .ok (.iconst 0, 1) := by decide +kernel
theorem dX12_firstOf_5 : decode cX12_firstOf 5 = .ok (.goto 10, 3) := by decide +kernel
theorem dX12_firstOf_8 : decode cX12_firstOf 8 = .ok (.aload_n 1, 1) := by decide +kernel
theorem dX12_firstOf_9 : decode cX12_firstOf 9 = .ok (.iconst 1, 1) := by decide +kernel
theorem dX12_firstOf_10 : decode cX12_firstOf 10 = .ok (.iload_n 2, 1) := by decide +kernel
theorem dX12_firstOf_11 : decode cX12_firstOf 11 = .ok (.iadd, 1) := by decide +kernel
theorem dX12_firstOf_12 : decode cX12_firstOf 12 = .ok (.iconst 1, 1) := by decide +kernel
theorem dX12_firstOf_13 : decode cX12_firstOf 13 = .ok (.isub, 1) := by decide +kernel
theorem dX12_firstOf_14 : decode cX12_firstOf 14 = .ok (.iaload, 1) := by decide +kernel
theorem dX12_firstOf_15 : decode cX12_firstOf 15 = .ok (.ireturn, 1) := by decide +kernel
theorem dX12_endOf_0 : decode cX12_endOf 0 = .ok (.iload_n 2, 1) := by decide +kernel
theorem dX12_endOf_1 : decode cX12_endOf 1 = .ok (.aload_n 0, 1) := by decide +kernel
theorem dX12_endOf_2 : decode cX12_endOf 2 = .ok (.getfield 29, 3) := by decide +kernel
theorem dX12_endOf_5 : decode cX12_endOf 5 = .ok (.iconst 2, 1) := by decide +kernel
theorem dX12_endOf_6 : decode cX12_endOf 6 = .ok (.iaload, 1) := by decide +kernel
theorem dX12_endOf_7 : decode cX12_endOf 7 = .ok (.if_icmp .ne 12, 3) := by decide +kernel
theorem dX12_endOf_10 : decode cX12_endOf 10 = .ok (.aload_n 0, 1) := by decide +kernel
theorem dX12_endOf_11 : decode cX12_endOf 11 = .ok (.getfield 29, 3) := by decide +kernel
theorem dX12_endOf_14 : decode cX12_endOf 14 = .ok (.iconst 0, 1) := by decide +kernel
theorem dX12_endOf_15 : decode cX12_endOf 15 = .ok (.iaload, 1) := by decide +kernel
theorem dX12_endOf_16 : decode cX12_endOf 16 = .ok (.goto 8, 3) := by decide +kernel
theorem dX12_endOf_19 : decode cX12_endOf 19 = .ok (.aload_n 1, 1) := by decide +kernel
theorem dX12_endOf_20 : decode cX12_endOf 20 = .ok (.iconst 1, 1) := by decide +kernel
theorem dX12_endOf_21 : decode cX12_endOf 21 = .ok (.iload_n 2, 1) := by decide +kernel
theorem dX12_endOf_22 : decode cX12_endOf 22 = .ok (.iadd, 1) := by decide +kernel
theorem dX12_endOf_23 : decode cX12_endOf 23 = .ok (.iaload, 1) := by decide +kernel
theorem dX12_endOf_24 : decode cX12_endOf 24 = .ok (.ireturn, 1) := by decide +kernel
theorem dX12_sees_0 : decode cX12_sees 0 = .ok (.iconst 0, 1) := by decide +kernel
theorem dX12_sees_1 : decode cX12_sees 1 = .ok (.istore 4, 2) := by decide +kernel
theorem dX12_sees_3 : decode cX12_sees 3 = .ok (.aload_n 0, 1) := by decide +kernel
theorem dX12_sees_4 : decode cX12_sees 4 = .ok (.aload_n 1, 1) := by decide +kernel
theorem dX12_sees_5 : decode cX12_sees 5 = .ok (.iload_n 2, 1) := by decide +kernel
theorem dX12_sees_6 : decode cX12_sees 6 = .ok (.invokevirtual 148, 3) := by decide +kernel
theorem dX12_sees_9 : decode cX12_sees 9 = .ok (.istore 5, 2) := by decide +kernel
theorem dX12_sees_11 : decode cX12_sees 11 = .ok (.iload 5, 2) := by decide +kernel
theorem dX12_sees_13 : decode cX12_sees 13 = .ok (.aload_n 0, 1) := by decide +kernel
theorem dX12_sees_14 : decode cX12_sees 14 = .ok (.aload_n 1, 1) := by decide +kernel
theorem dX12_sees_15 : decode cX12_sees 15 = .ok (.iload_n 2, 1) := by decide +kernel
theorem dX12_sees_16 : decode cX12_sees 16 = .ok (.invokevirtual 152, 3) := by decide +kernel
theorem dX12_sees_19 : decode cX12_sees 19 = .ok (.if_icmp .ge 18, 3) := by decide +kernel
theorem dX12_sees_22 : decode cX12_sees 22 = .ok (.iload 4, 2) := by decide +kernel
theorem dX12_sees_24 : decode cX12_sees 24 = .ok (.iconst 1, 1) := by decide +kernel
theorem dX12_sees_25 : decode cX12_sees 25 = .ok (.iload 5, 2) := by decide +kernel
theorem dX12_sees_27 : decode cX12_sees 27 = .ok (.ishl, 1) := by decide +kernel
theorem dX12_sees_28 : decode cX12_sees 28 = .ok (.ior, 1) := by decide +kernel
theorem dX12_sees_29 : decode cX12_sees 29 = .ok (.istore 4, 2) := by decide +kernel
theorem dX12_sees_31 : decode cX12_sees 31 = .ok (.iinc 5 1, 3) := by decide +kernel
theorem dX12_sees_34 : decode cX12_sees 34 = .ok (.goto (-23), 3) := by decide +kernel
theorem dX12_sees_37 : decode cX12_sees 37 = .ok (.iload_n 3, 1) := by decide +kernel
theorem dX12_sees_38 : decode cX12_sees 38 = .ok (.iconst 2, 1) := by decide +kernel
theorem dX12_sees_39 : decode cX12_sees 39 = .ok (.if_icmp .ne 63, 3) := by decide +kernel
theorem dX12_sees_42 : decode cX12_sees 42 = .ok (.iload 4, 2) := by decide +kernel
theorem dX12_sees_44 : decode cX12_sees 44 = .ok (.aload_n 0, 1) := by decide +kernel
theorem dX12_sees_45 : decode cX12_sees 45 = .ok (.aload_n 1, 1) := by decide +kernel
theorem dX12_sees_46 : decode cX12_sees 46 = .ok (.iload_n 2, 1) := by decide +kernel
theorem dX12_sees_47 : decode cX12_sees 47 = .ok (.invokevirtual 148, 3) := by decide +kernel
theorem dX12_sees_50 : decode cX12_sees 50 = .ok (.ifCond .le 16, 3) := by decide +kernel
theorem dX12_sees_53 : decode cX12_sees 53 = .ok (.iconst 1, 1) := by decide +kernel
theorem dX12_sees_54 : decode cX12_sees 54 = .ok (.aload_n 0, 1) := by decide +kernel
theorem dX12_sees_55 : decode cX12_sees 55 = .ok (.aload_n 1, 1) := by decide +kernel
theorem dX12_sees_56 : decode cX12_sees 56 = .ok (.iload_n 2, 1) := by decide +kernel
theorem dX12_sees_57 : decode cX12_sees 57 = .ok (.invokevirtual 148, 3) := by decide +kernel
theorem dX12_sees_60 : decode cX12_sees 60 = .ok (.iconst 1, 1) := by decide +kernel
theorem dX12_sees_61 : decode cX12_sees 61 = .ok (.isub, 1) := by decide +kernel
theorem dX12_sees_62 : decode cX12_sees 62 = .ok (.ishl, 1) := by decide +kernel
theorem dX12_sees_63 : decode cX12_sees 63 = .ok (.goto 4, 3) := by decide +kernel
theorem dX12_sees_66 : decode cX12_sees 66 = .ok (.iconst 0, 1) := by decide +kernel
theorem dX12_sees_67 : decode cX12_sees 67 = .ok (.ior, 1) := by decide +kernel
theorem dX12_sees_68 : decode cX12_sees 68 = .ok (.istore 4, 2) := by decide +kernel
theorem dX12_sees_70 : decode cX12_sees 70 = .ok (.iload 4, 2) := by decide +kernel
theorem dX12_sees_72 : decode cX12_sees 72 = .ok (.aload_n 0, 1) := by decide +kernel
theorem dX12_sees_73 : decode cX12_sees 73 = .ok (.aload_n 1, 1) := by decide +kernel
theorem dX12_sees_74 : decode cX12_sees 74 = .ok (.iload_n 2, 1) := by decide +kernel
theorem dX12_sees_75 : decode cX12_sees 75 = .ok (.invokevirtual 152, 3) := by decide +kernel
theorem dX12_sees_78 : decode cX12_sees 78 = .ok (.aload_n 0, 1) := by decide +kernel
theorem dX12_sees_79 : decode cX12_sees 79 = .ok (.getfield 29, 3) := by decide +kernel
theorem dX12_sees_82 : decode cX12_sees 82 = .ok (.iconst 0, 1) := by decide +kernel
theorem dX12_sees_83 : decode cX12_sees 83 = .ok (.iaload, 1) := by decide +kernel
theorem dX12_sees_84 : decode cX12_sees 84 = .ok (.if_icmp .ge 14, 3) := by decide +kernel
theorem dX12_sees_87 : decode cX12_sees 87 = .ok (.iconst 1, 1) := by decide +kernel
theorem dX12_sees_88 : decode cX12_sees 88 = .ok (.aload_n 0, 1) := by decide +kernel
theorem dX12_sees_89 : decode cX12_sees 89 = .ok (.aload_n 1, 1) := by decide +kernel
theorem dX12_sees_90 : decode cX12_sees 90 = .ok (.iload_n 2, 1) := by decide +kernel
theorem dX12_sees_91 : decode cX12_sees 91 = .ok (.invokevirtual 152, 3) := by decide +kernel
theorem dX12_sees_94 : decode cX12_sees 94 = .ok (.ishl, 1) := by decide +kernel
theorem dX12_sees_95 : decode cX12_sees 95 = .ok (.goto 4, 3) := by decide +kernel
theorem dX12_sees_98 : decode cX12_sees 98 = .ok (.iconst 0, 1) := by decide +kernel
theorem dX12_sees_99 : decode cX12_sees 99 = .ok (.ior, 1) := by decide +kernel
theorem dX12_sees_100 : decode cX12_sees 100 = .ok (.istore 4, 2) := by decide +kernel
theorem dX12_sees_102 : decode cX12_sees 102 = .ok (.iconst 0, 1) := by decide +kernel
theorem dX12_sees_103 : decode cX12_sees 103 = .ok (.istore 5, 2) := by decide +kernel
theorem dX12_sees_105 : decode cX12_sees 105 = .ok (.iload 5, 2) := by decide +kernel
theorem dX12_sees_107 : decode cX12_sees 107 = .ok (.aload_n 0, 1) := by decide +kernel
theorem dX12_sees_108 : decode cX12_sees 108 = .ok (.getfield 29, 3) := by decide +kernel
theorem dX12_sees_111 : decode cX12_sees 111 = .ok (.iconst 0, 1) := by decide +kernel
theorem dX12_sees_112 : decode cX12_sees 112 = .ok (.iaload, 1) := by decide +kernel
theorem dX12_sees_113 : decode cX12_sees 113 = .ok (.if_icmp .ge 94, 3) := by decide +kernel
theorem dX12_sees_116 : decode cX12_sees 116 = .ok (.iload_n 3, 1) := by decide +kernel
theorem dX12_sees_117 : decode cX12_sees 117 = .ok (.iconst 3, 1) := by decide +kernel
theorem dX12_sees_118 : decode cX12_sees 118 = .ok (.if_icmp .ne 15, 3) := by decide +kernel
theorem dX12_sees_121 : decode cX12_sees 121 = .ok (.iload 5, 2) := by decide +kernel
theorem dX12_sees_123 : decode cX12_sees 123 = .ok (.iconst 2, 1) := by decide +kernel
theorem dX12_sees_124 : decode cX12_sees 124 = .ok (.irem, 1) := by decide +kernel
theorem dX12_sees_125 : decode cX12_sees 125 = .ok (.iconst 1, 1) := by decide +kernel
theorem dX12_sees_126 : decode cX12_sees 126 = .ok (.if_icmp .ne 7, 3) := by decide +kernel
theorem dX12_sees_129 : decode cX12_sees 129 = .ok (.iconst 1, 1) := by decide +kernel
theorem dX12_sees_130 : decode cX12_sees 130 = .ok (.goto 4, 3) := by decide +kernel
theorem dX12_sees_133 : decode cX12_sees 133 = .ok (.iconst 0, 1) := by decide +kernel
theorem dX12_sees_134 : decode cX12_sees 134 = .ok (.istore 6, 2) := by decide +kernel
theorem dX12_sees_136 : decode cX12_sees 136 = .ok (.iload 6, 2) := by decide +kernel
theorem dX12_sees_138 : decode cX12_sees 138 = .ok (.ifCond .ne 36, 3) := by decide +kernel
theorem dX12_sees_141 : decode cX12_sees 141 = .ok (.iload_n 3, 1) := by decide +kernel
theorem dX12_sees_142 : decode cX12_sees 142 = .ok (.iconst 4, 1) := by decide +kernel
theorem dX12_sees_143 : decode cX12_sees 143 = .ok (.if_icmp .lt 35, 3) := by decide +kernel
theorem dX12_sees_146 : decode cX12_sees 146 = .ok (.iload 5, 2) := by decide +kernel
theorem dX12_sees_148 : decode cX12_sees 148 = .ok (.ifCond .le 30, 3) := by decide +kernel
theorem dX12_sees_151 : decode cX12_sees 151 = .ok (.aload_n 0, 1) := by decide +kernel
theorem dX12_sees_152 : decode cX12_sees 152 = .ok (.getfield 29, 3) := by decide +kernel
theorem dX12_sees_155 : decode cX12_sees 155 = .ok (.iconst 4, 1) := by decide +kernel
theorem dX12_sees_156 : decode cX12_sees 156 = .ok (.iload 5, 2) := by decide +kernel
theorem dX12_sees_158 : decode cX12_sees 158 = .ok (.iadd, 1) := by decide +kernel
theorem dX12_sees_159 : decode cX12_sees 159 = .ok (.iaload, 1) := by decide +kernel
theorem dX12_sees_160 : decode cX12_sees 160 = .ok (.aload_n 0, 1) := by decide +kernel
theorem dX12_sees_161 : decode cX12_sees 161 = .ok (.getfield 29, 3) := by decide +kernel
theorem dX12_sees_164 : decode cX12_sees 164 = .ok (.iconst 4, 1) := by decide +kernel
theorem dX12_sees_165 : decode cX12_sees 165 = .ok (.iload 5, 2) := by decide +kernel
theorem dX12_sees_167 : decode cX12_sees 167 = .ok (.iadd, 1) := by decide +kernel
theorem dX12_sees_168 : decode cX12_sees 168 = .ok (.iconst 1, 1) := by decide +kernel
theorem dX12_sees_169 : decode cX12_sees 169 = .ok (.isub, 1) := by decide +kernel
theorem dX12_sees_170 : decode cX12_sees 170 = .ok (.iaload, 1) := by decide +kernel
theorem dX12_sees_171 : decode cX12_sees 171 = .ok (.if_icmp .gt 7, 3) := by decide +kernel
theorem dX12_sees_174 : decode cX12_sees 174 = .ok (.iconst 1, 1) := by decide +kernel
theorem dX12_sees_175 : decode cX12_sees 175 = .ok (.goto 4, 3) := by decide +kernel
theorem dX12_sees_178 : decode cX12_sees 178 = .ok (.iconst 0, 1) := by decide +kernel
theorem dX12_sees_179 : decode cX12_sees 179 = .ok (.istore 6, 2) := by decide +kernel
theorem dX12_sees_181 : decode cX12_sees 181 = .ok (.iload 4, 2) := by decide +kernel
theorem dX12_sees_183 : decode cX12_sees 183 = .ok (.iload 6, 2) := by decide +kernel
theorem dX12_sees_185 : decode cX12_sees 185 = .ok (.ifCond .eq 12, 3) := by decide +kernel
theorem dX12_sees_188 : decode cX12_sees 188 = .ok (.iconst 1, 1) := by decide +kernel
theorem dX12_sees_189 : decode cX12_sees 189 = .ok (.iload 5, 2) := by decide +kernel
theorem dX12_sees_191 : decode cX12_sees 191 = .ok (.ishl, 1) := by decide +kernel
theorem dX12_sees_192 : decode cX12_sees 192 = .ok (.iconst (-1), 1) := by decide +kernel
theorem dX12_sees_193 : decode cX12_sees 193 = .ok (.ixor, 1) := by decide +kernel
theorem dX12_sees_194 : decode cX12_sees 194 = .ok (.goto 4, 3) := by decide +kernel
theorem dX12_sees_197 : decode cX12_sees 197 = .ok (.iconst (-1), 1) := by decide +kernel
theorem dX12_sees_198 : decode cX12_sees 198 = .ok (.iand, 1) := by decide +kernel
theorem dX12_sees_199 : decode cX12_sees 199 = .ok (.istore 4, 2) := by decide +kernel
theorem dX12_sees_201 : decode cX12_sees 201 = .ok (.iinc 5 1, 3) := by decide +kernel
theorem dX12_sees_204 : decode cX12_sees 204 = .ok (.goto (-99), 3) := by decide +kernel
theorem dX12_sees_207 : decode cX12_sees 207 = .ok (.iload_n 3, 1) := by decide +kernel
theorem dX12_sees_208 : decode cX12_sees 208 = .ok (.iconst 5, 1) := by decide +kernel
theorem dX12_sees_209 : decode cX12_sees 209 = .ok (.if_icmp .ne 8, 3) := by decide +kernel
theorem dX12_sees_212 : decode cX12_sees 212 = .ok (.iload 4, 2) := by decide +kernel
theorem dX12_sees_214 : decode cX12_sees 214 = .ok (.goto 12, 3) := by decide +kernel
theorem dX12_sees_217 : decode cX12_sees 217 = .ok (.iload 4, 2) := by decide +kernel
theorem dX12_sees_219 : decode cX12_sees 219 = .ok (.aload_n 1, 1) := by decide +kernel
theorem dX12_sees_220 : decode cX12_sees 220 = .ok (.bipush 6, 2) := by decide +kernel
theorem dX12_sees_222 : decode cX12_sees 222 = .ok (.iaload, 1) := by decide +kernel
theorem dX12_sees_223 : decode cX12_sees 223 = .ok (.iconst (-1), 1) := by decide +kernel
theorem dX12_sees_224 : decode cX12_sees 224 = .ok (.ixor, 1) := by decide +kernel
theorem dX12_sees_225 : decode cX12_sees 225 = .ok (.iand, 1) := by decide +kernel
theorem dX12_sees_226 : decode cX12_sees 226 = .ok (.ireturn, 1) := by decide +kernel
theorem dX12_passBy_0 : decode cX12_passBy 0 = .ok (.iconst 0, 1) := by decide +kernel
theorem dX12_passBy_1 : decode cX12_passBy 1 = .ok (.istore 5, 2) := by decide +kernel
theorem dX12_passBy_3 : decode cX12_passBy 3 = .ok (.iload 5, 2) := by decide +kernel
theorem dX12_passBy_5 : decode cX12_passBy 5 = .ok (.aload_n 0, 1) := by decide +kernel
theorem dX12_passBy_6 : decode cX12_passBy 6 = .ok (.getfield 29, 3) := by decide +kernel
theorem dX12_passBy_9 : decode cX12_passBy 9 = .ok (.iconst 3, 1) := by decide +kernel
theorem dX12_passBy_10 : decode cX12_passBy 10 = .ok (.iaload, 1) := by decide +kernel
theorem dX12_passBy_11 : decode cX12_passBy 11 = .ok (.if_icmp .ge 166, 3) := by decide +kernel
theorem dX12_passBy_14 : decode cX12_passBy 14 = .ok (.aload_n 1, 1) := by decide +kernel
theorem dX12_passBy_15 : decode cX12_passBy 15 = .ok (.bipush 7, 2) := by decide +kernel
theorem dX12_passBy_17 : decode cX12_passBy 17 = .ok (.iload 5, 2) := by decide +kernel
theorem dX12_passBy_19 : decode cX12_passBy 19 = .ok (.iadd, 1) := by decide +kernel
theorem dX12_passBy_20 : decode cX12_passBy 20 = .ok (.iaload, 1) := by decide +kernel
theorem dX12_passBy_21 : decode cX12_passBy 21 = .ok (.istore 6, 2) := by decide +kernel
theorem dX12_passBy_23 : decode cX12_passBy 23 = .ok (.aload_n 1, 1) := by decide +kernel
theorem dX12_passBy_24 : decode cX12_passBy 24 = .ok (.bipush 12, 2) := by decide +kernel
theorem dX12_passBy_26 : decode cX12_passBy 26 = .ok (.iload 5, 2) := by decide +kernel
theorem dX12_passBy_28 : decode cX12_passBy 28 = .ok (.iadd, 1) := by decide +kernel
theorem dX12_passBy_29 : decode cX12_passBy 29 = .ok (.iaload, 1) := by decide +kernel
theorem dX12_passBy_30 : decode cX12_passBy 30 = .ok (.ifCond .ne 16, 3) := by decide +kernel
theorem dX12_passBy_33 : decode cX12_passBy 33 = .ok (.iload 6, 2) := by decide +kernel
theorem dX12_passBy_35 : decode cX12_passBy 35 = .ok (.ifCond .ne 7, 3) := by decide +kernel
theorem dX12_passBy_38 : decode cX12_passBy 38 = .ok (.iconst 1, 1) := by decide +kernel
theorem dX12_passBy_39 : decode cX12_passBy 39 = .ok (.goto 23, 3) := by decide +kernel
theorem dX12_passBy_42 : decode cX12_passBy 42 = .ok (.iconst 0, 1) := by decide +kernel
theorem dX12_passBy_43 : decode cX12_passBy 43 = .ok (.goto 19, 3) := by decide +kernel
theorem dX12_passBy_46 : decode cX12_passBy 46 = .ok (.iload 6, 2) := by decide +kernel
theorem dX12_passBy_48 : decode cX12_passBy 48 = .ok (.aload_n 0, 1) := by decide +kernel
theorem dX12_passBy_49 : decode cX12_passBy 49 = .ok (.getfield 29, 3) := by decide +kernel
theorem dX12_passBy_52 : decode cX12_passBy 52 = .ok (.iconst 2, 1) := by decide +kernel
theorem dX12_passBy_53 : decode cX12_passBy 53 = .ok (.iaload, 1) := by decide +kernel
theorem dX12_passBy_54 : decode cX12_passBy 54 = .ok (.if_icmp .ne 7, 3) := by decide +kernel
theorem dX12_passBy_57 : decode cX12_passBy 57 = .ok (.iconst 1, 1) := by decide +kernel
theorem dX12_passBy_58 : decode cX12_passBy 58 = .ok (.goto 4, 3) := by decide +kernel
theorem dX12_passBy_61 : decode cX12_passBy 61 = .ok (.iconst 0, 1) := by decide +kernel
theorem dX12_passBy_62 : decode cX12_passBy 62 = .ok (.istore 7, 2) := by decide +kernel
theorem dX12_passBy_64 : decode cX12_passBy 64 = .ok (.aload_n 1, 1) := by decide +kernel
theorem dX12_passBy_65 : decode cX12_passBy 65 = .ok (.bipush 12, 2) := by decide +kernel
theorem dX12_passBy_67 : decode cX12_passBy 67 = .ok (.iload 5, 2) := by decide +kernel
theorem dX12_passBy_69 : decode cX12_passBy 69 = .ok (.iadd, 1) := by decide +kernel
theorem dX12_passBy_70 : decode cX12_passBy 70 = .ok (.iload 7, 2) := by decide +kernel
theorem dX12_passBy_72 : decode cX12_passBy 72 = .ok (.ifCond .eq 15, 3) := by decide +kernel
theorem dX12_passBy_75 : decode cX12_passBy 75 = .ok (.iconst 1, 1) := by decide +kernel
theorem dX12_passBy_76 : decode cX12_passBy 76 = .ok (.aload_n 1, 1) := by decide +kernel
theorem dX12_passBy_77 : decode cX12_passBy 77 = .ok (.bipush 12, 2) := by decide +kernel
theorem dX12_passBy_79 : decode cX12_passBy 79 = .ok (.iload 5, 2) := by decide +kernel
theorem dX12_passBy_81 : decode cX12_passBy 81 = .ok (.iadd, 1) := by decide +kernel
theorem dX12_passBy_82 : decode cX12_passBy 82 = .ok (.iaload, 1) := by decide +kernel
theorem dX12_passBy_83 : decode cX12_passBy 83 = .ok (.isub, 1) := by decide +kernel
theorem dX12_passBy_84 : decode cX12_passBy 84 = .ok (.goto 10, 3) := by decide +kernel
theorem dX12_passBy_87 : decode cX12_passBy 87 = .ok (.aload_n 1, 1) := by decide +kernel
theorem dX12_passBy_88 : decode cX12_passBy 88 = .ok (.bipush 12, 2) := by decide +kernel
theorem dX12_passBy_90 : decode cX12_passBy 90 = .ok (.iload 5, 2) := by decide +kernel
theorem dX12_passBy_92 : decode cX12_passBy 92 = .ok (.iadd, 1) := by decide +kernel
theorem dX12_passBy_93 : decode cX12_passBy 93 = .ok (.iaload, 1) := by decide +kernel
theorem dX12_passBy_94 : decode cX12_passBy 94 = .ok (.iastore, 1) := by decide +kernel
theorem dX12_passBy_95 : decode cX12_passBy 95 = .ok (.aload_n 0, 1) := by decide +kernel
theorem dX12_passBy_96 : decode cX12_passBy 96 = .ok (.getfield 29, 3) := by decide +kernel
theorem dX12_passBy_99 : decode cX12_passBy 99 = .ok (.iconst 2, 1) := by decide +kernel
theorem dX12_passBy_100 : decode cX12_passBy 100 = .ok (.iaload, 1) := by decide +kernel
theorem dX12_passBy_101 : decode cX12_passBy 101 = .ok (.ifCond .le 28, 3) := by decide +kernel
theorem dX12_passBy_104 : decode cX12_passBy 104 = .ok (.aload_n 1, 1) := by decide +kernel
theorem dX12_passBy_105 : decode cX12_passBy 105 = .ok (.bipush 7, 2) := by decide +kernel
theorem dX12_passBy_107 : decode cX12_passBy 107 = .ok (.iload 5, 2) := by decide +kernel
theorem dX12_passBy_109 : decode cX12_passBy 109 = .ok (.iadd, 1) := by decide +kernel
theorem dX12_passBy_110 : decode cX12_passBy 110 = .ok (.dup2, 1) := by decide +kernel
theorem dX12_passBy_111 : decode cX12_passBy 111 = .ok (.iaload, 1) := by decide +kernel
theorem dX12_passBy_112 : decode cX12_passBy 112 = .ok (.aload_n 1, 1) := by decide +kernel
theorem dX12_passBy_113 : decode cX12_passBy 113 = .ok (.bipush 12, 2) := by decide +kernel
theorem dX12_passBy_115 : decode cX12_passBy 115 = .ok (.iload 5, 2) := by decide +kernel
theorem dX12_passBy_117 : decode cX12_passBy 117 = .ok (.iadd, 1) := by decide +kernel
theorem dX12_passBy_118 : decode cX12_passBy 118 = .ok (.iaload, 1) := by decide +kernel
theorem dX12_passBy_119 : decode cX12_passBy 119 = .ok (.ifCond .ne 7, 3) := by decide +kernel
theorem dX12_passBy_122 : decode cX12_passBy 122 = .ok (.iconst (-1), 1) := by decide +kernel
theorem dX12_passBy_123 : decode cX12_passBy 123 = .ok (.goto 4, 3) := by decide +kernel
theorem dX12_passBy_126 : decode cX12_passBy 126 = .ok (.iconst 1, 1) := by decide +kernel
theorem dX12_passBy_127 : decode cX12_passBy 127 = .ok (.iadd, 1) := by decide +kernel
theorem dX12_passBy_128 : decode cX12_passBy 128 = .ok (.iastore, 1) := by decide +kernel
theorem dX12_passBy_129 : decode cX12_passBy 129 = .ok (.aload_n 1, 1) := by decide +kernel
theorem dX12_passBy_130 : decode cX12_passBy 130 = .ok (.bipush 17, 2) := by decide +kernel
theorem dX12_passBy_132 : decode cX12_passBy 132 = .ok (.iload 5, 2) := by decide +kernel
theorem dX12_passBy_134 : decode cX12_passBy 134 = .ok (.iadd, 1) := by decide +kernel
theorem dX12_passBy_135 : decode cX12_passBy 135 = .ok (.dup2, 1) := by decide +kernel
theorem dX12_passBy_136 : decode cX12_passBy 136 = .ok (.iaload, 1) := by decide +kernel
theorem dX12_passBy_137 : decode cX12_passBy 137 = .ok (.aload_n 0, 1) := by decide +kernel
theorem dX12_passBy_138 : decode cX12_passBy 138 = .ok (.aload_n 1, 1) := by decide +kernel
theorem dX12_passBy_139 : decode cX12_passBy 139 = .ok (.aload_n 1, 1) := by decide +kernel
theorem dX12_passBy_140 : decode cX12_passBy 140 = .ok (.bipush 7, 2) := by decide +kernel
theorem dX12_passBy_142 : decode cX12_passBy 142 = .ok (.iload 5, 2) := by decide +kernel
theorem dX12_passBy_144 : decode cX12_passBy 144 = .ok (.iadd, 1) := by decide +kernel
theorem dX12_passBy_145 : decode cX12_passBy 145 = .ok (.iaload, 1) := by decide +kernel
theorem dX12_passBy_146 : decode cX12_passBy 146 = .ok (.iload 5, 2) := by decide +kernel
theorem dX12_passBy_148 : decode cX12_passBy 148 = .ok (.iload_n 2, 1) := by decide +kernel
theorem dX12_passBy_149 : decode cX12_passBy 149 = .ok (.if_icmp .ne 7, 3) := by decide +kernel
theorem dX12_passBy_152 : decode cX12_passBy 152 = .ok (.iload_n 3, 1) := by decide +kernel
theorem dX12_passBy_153 : decode cX12_passBy 153 = .ok (.goto 13, 3) := by decide +kernel
theorem dX12_passBy_156 : decode cX12_passBy 156 = .ok (.aload_n 0, 1) := by decide +kernel
theorem dX12_passBy_157 : decode cX12_passBy 157 = .ok (.getfield 29, 3) := by decide +kernel
theorem dX12_passBy_160 : decode cX12_passBy 160 = .ok (.bipush 28, 2) := by decide +kernel
theorem dX12_passBy_162 : decode cX12_passBy 162 = .ok (.iload 5, 2) := by decide +kernel
theorem dX12_passBy_164 : decode cX12_passBy 164 = .ok (.iadd, 1) := by decide +kernel
theorem dX12_passBy_165 : decode cX12_passBy 165 = .ok (.iaload, 1) := by decide +kernel
theorem dX12_passBy_166 : decode cX12_passBy 166 = .ok (.invokevirtual 155, 3) := by decide +kernel
theorem dX12_passBy_169 : decode cX12_passBy 169 = .ok (.ior, 1) := by decide +kernel
theorem dX12_passBy_170 : decode cX12_passBy 170 = .ok (.iastore, 1) := by decide +kernel
theorem dX12_passBy_171 : decode cX12_passBy 171 = .ok (.iinc 5 1, 3) := by decide +kernel
theorem dX12_passBy_174 : decode cX12_passBy 174 = .ok (.goto (-171), 3) := by decide +kernel
theorem dX12_passBy_177 : decode cX12_passBy 177 = .ok (.iload 4, 2) := by decide +kernel
theorem dX12_passBy_179 : decode cX12_passBy 179 = .ok (.ifCond .le 25, 3) := by decide +kernel
theorem dX12_passBy_182 : decode cX12_passBy 182 = .ok (.aload_n 1, 1) := by decide +kernel
theorem dX12_passBy_183 : decode cX12_passBy 183 = .ok (.bipush 6, 2) := by decide +kernel
theorem dX12_passBy_185 : decode cX12_passBy 185 = .ok (.dup2, 1) := by decide +kernel
theorem dX12_passBy_186 : decode cX12_passBy 186 = .ok (.iaload, 1) := by decide +kernel
theorem dX12_passBy_187 : decode cX12_passBy 187 = .ok (.iconst 1, 1) := by decide +kernel
