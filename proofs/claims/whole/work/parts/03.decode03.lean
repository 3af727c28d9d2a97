theorem dX12_passBy_188 : decode cX12_passBy 188 = .ok (.aload_n 1, 1) := by decide +kernel
theorem dX12_passBy_189 : decode cX12_passBy 189 = .ok (.iconst 0, 1) := by decide +kernel
theorem dX12_passBy_190 : decode cX12_passBy 190 = .ok (.iaload, 1) := by decide +kernel
theorem dX12_passBy_191 : decode cX12_passBy 191 = .ok (.iload 4, 2) := by decide +kernel
theorem dX12_passBy_193 : decode cX12_passBy 193 = .ok (.imul, 1) := by decide +kernel
theorem dX12_passBy_194 : decode cX12_passBy 194 = .ok (.aload_n 0, 1) := by decide +kernel
theorem dX12_passBy_195 : decode cX12_passBy 195 = .ok (.getfield 29, 3) := by decide +kernel
theorem dX12_passBy_198 : decode cX12_passBy 198 = .ok (.iconst 0, 1) := by decide +kernel
theorem dX12_passBy_199 : decode cX12_passBy 199 = .ok (.iaload, 1) := by decide +kernel
theorem dX12_passBy_200 : decode cX12_passBy 200 = .ok (.irem, 1) := by decide +kernel
theorem dX12_passBy_201 : decode cX12_passBy 201 = .ok (.ishl, 1) := by decide +kernel
theorem dX12_passBy_202 : decode cX12_passBy 202 = .ok (.ior, 1) := by decide +kernel
theorem dX12_passBy_203 : decode cX12_passBy 203 = .ok (.iastore, 1) := by decide +kernel
theorem dX12_passBy_204 : decode cX12_passBy 204 = .ok (.aload_n 1, 1) := by decide +kernel
theorem dX12_passBy_205 : decode cX12_passBy 205 = .ok (.iconst 0, 1) := by decide +kernel
theorem dX12_passBy_206 : decode cX12_passBy 206 = .ok (.dup2, 1) := by decide +kernel
theorem dX12_passBy_207 : decode cX12_passBy 207 = .ok (.iaload, 1) := by decide +kernel
theorem dX12_passBy_208 : decode cX12_passBy 208 = .ok (.iconst 1, 1) := by decide +kernel
theorem dX12_passBy_209 : decode cX12_passBy 209 = .ok (.iadd, 1) := by decide +kernel
theorem dX12_passBy_210 : decode cX12_passBy 210 = .ok (.iastore, 1) := by decide +kernel
theorem dX12_passBy_211 : decode cX12_passBy 211 = .ok (.return_, 1) := by decide +kernel
theorem dX12_pass_0 : decode cX12_pass 0 = .ok (.aload_n 0, 1) := by decide +kernel
theorem dX12_pass_1 : decode cX12_pass 1 = .ok (.aload_n 1, 1) := by decide +kernel
theorem dX12_pass_2 : decode cX12_pass 2 = .ok (.ldc 60, 2) := by decide +kernel
theorem dX12_pass_4 : decode cX12_pass 4 = .ok (.iconst 0, 1) := by decide +kernel
theorem dX12_pass_5 : decode cX12_pass 5 = .ok (.aload_n 0, 1) := by decide +kernel
theorem dX12_pass_6 : decode cX12_pass 6 = .ok (.getfield 29, 3) := by decide +kernel
theorem dX12_pass_9 : decode cX12_pass 9 = .ok (.iconst 1, 1) := by decide +kernel
theorem dX12_pass_10 : decode cX12_pass 10 = .ok (.iaload, 1) := by decide +kernel
theorem dX12_pass_11 : decode cX12_pass 11 = .ok (.invokevirtual 159, 3) := by decide +kernel
theorem dX12_pass_14 : decode cX12_pass 14 = .ok (.return_, 1) := by decide +kernel
theorem dX12_know_0 : decode cX12_know 0 = .ok (.aload_n 0, 1) := by decide +kernel
theorem dX12_know_1 : decode cX12_know 1 = .ok (.getfield 145, 3) := by decide +kernel
theorem dX12_know_4 : decode cX12_know 4 = .ok (.bipush 24, 2) := by decide +kernel
theorem dX12_know_6 : decode cX12_know 6 = .ok (.if_icmp .ne 43, 3) := by decide +kernel
theorem dX12_know_9 : decode cX12_know 9 = .ok (.iconst 0, 1) := by decide +kernel
theorem dX12_know_10 : decode cX12_know 10 = .ok (.istore_n 1, 1) := by decide +kernel
theorem dX12_know_11 : decode cX12_know 11 = .ok (.iload_n 1, 1) := by decide +kernel
theorem dX12_know_12 : decode cX12_know 12 = .ok (.sipush 506, 3) := by decide +kernel
theorem dX12_know_15 : decode cX12_know 15 = .ok (.if_icmp .ge 24, 3) := by decide +kernel
theorem dX12_know_18 : decode cX12_know 18 = .ok (.aload_n 0, 1) := by decide +kernel
theorem dX12_know_19 : decode cX12_know 19 = .ok (.getfield 41, 3) := by decide +kernel
theorem dX12_know_22 : decode cX12_know 22 = .ok (.iload_n 1, 1) := by decide +kernel
theorem dX12_know_23 : decode cX12_know 23 = .ok (.aload_n 0, 1) := by decide +kernel
theorem dX12_know_24 : decode cX12_know 24 = .ok (.getfield 41, 3) := by decide +kernel
theorem dX12_know_27 : decode cX12_know 27 = .ok (.bipush 22, 2) := by decide +kernel
theorem dX12_know_29 : decode cX12_know 29 = .ok (.iload_n 1, 1) := by decide +kernel
theorem dX12_know_30 : decode cX12_know 30 = .ok (.iadd, 1) := by decide +kernel
theorem dX12_know_31 : decode cX12_know 31 = .ok (.iaload, 1) := by decide +kernel
theorem dX12_know_32 : decode cX12_know 32 = .ok (.iastore, 1) := by decide +kernel
theorem dX12_know_33 : decode cX12_know 33 = .ok (.iinc 1 1, 3) := by decide +kernel
theorem dX12_know_36 : decode cX12_know 36 = .ok (.goto (-25), 3) := by decide +kernel
theorem dX12_know_39 : decode cX12_know 39 = .ok (.aload_n 0, 1) := by decide +kernel
theorem dX12_know_40 : decode cX12_know 40 = .ok (.dup, 1) := by decide +kernel
theorem dX12_know_41 : decode cX12_know 41 = .ok (.getfield 145, 3) := by decide +kernel
theorem dX12_know_44 : decode cX12_know 44 = .ok (.iconst 1, 1) := by decide +kernel
theorem dX12_know_45 : decode cX12_know 45 = .ok (.isub, 1) := by decide +kernel
theorem dX12_know_46 : decode cX12_know 46 = .ok (.putfield 145, 3) := by decide +kernel
theorem dX12_know_49 : decode cX12_know 49 = .ok (.iconst 0, 1) := by decide +kernel
theorem dX12_know_50 : decode cX12_know 50 = .ok (.istore_n 1, 1) := by decide +kernel
theorem dX12_know_51 : decode cX12_know 51 = .ok (.iload_n 1, 1) := by decide +kernel
theorem dX12_know_52 : decode cX12_know 52 = .ok (.bipush 22, 2) := by decide +kernel
theorem dX12_know_54 : decode cX12_know 54 = .ok (.if_icmp .ge 29, 3) := by decide +kernel
theorem dX12_know_57 : decode cX12_know 57 = .ok (.aload_n 0, 1) := by decide +kernel
theorem dX12_know_58 : decode cX12_know 58 = .ok (.getfield 41, 3) := by decide +kernel
theorem dX12_know_61 : decode cX12_know 61 = .ok (.bipush 22, 2) := by decide +kernel
theorem dX12_know_63 : decode cX12_know 63 = .ok (.aload_n 0, 1) := by decide +kernel
theorem dX12_know_64 : decode cX12_know 64 = .ok (.getfield 145, 3) := by decide +kernel
theorem dX12_know_67 : decode cX12_know 67 = .ok (.imul, 1) := by decide +kernel
theorem dX12_know_68 : decode cX12_know 68 = .ok (.iload_n 1, 1) := by decide +kernel
theorem dX12_know_69 : decode cX12_know 69 = .ok (.iadd, 1) := by decide +kernel
theorem dX12_know_70 : decode cX12_know 70 = .ok (.aload_n 0, 1) := by decide +kernel
theorem dX12_know_71 : decode cX12_know 71 = .ok (.getfield 35, 3) := by decide +kernel
theorem dX12_know_74 : decode cX12_know 74 = .ok (.iload_n 1, 1) := by decide +kernel
theorem dX12_know_75 : decode cX12_know 75 = .ok (.iaload, 1) := by decide +kernel
theorem dX12_know_76 : decode cX12_know 76 = .ok (.iastore, 1) := by decide +kernel
theorem dX12_know_77 : decode cX12_know 77 = .ok (.iinc 1 1, 3) := by decide +kernel
theorem dX12_know_80 : decode cX12_know 80 = .ok (.goto (-29), 3) := by decide +kernel
theorem dX12_know_83 : decode cX12_know 83 = .ok (.aload_n 0, 1) := by decide +kernel
theorem dX12_know_84 : decode cX12_know 84 = .ok (.dup, 1) := by decide +kernel
theorem dX12_know_85 : decode cX12_know 85 = .ok (.getfield 145, 3) := by decide +kernel
theorem dX12_know_88 : decode cX12_know 88 = .ok (.iconst 1, 1) := by decide +kernel
theorem dX12_know_89 : decode cX12_know 89 = .ok (.iadd, 1) := by decide +kernel
theorem dX12_know_90 : decode cX12_know 90 = .ok (.putfield 145, 3) := by decide +kernel
theorem dX12_know_93 : decode cX12_know 93 = .ok (.return_, 1) := by decide +kernel
theorem dX12_anybody_0 : decode cX12_anybody 0 = .ok (.iconst 0, 1) := by decide +kernel
theorem dX12_anybody_1 : decode cX12_anybody 1 = .ok (.istore_n 1, 1) := by decide +kernel
theorem dX12_anybody_2 : decode cX12_anybody 2 = .ok (.iconst 0, 1) := by decide +kernel
theorem dX12_anybody_3 : decode cX12_anybody 3 = .ok (.istore_n 2, 1) := by decide +kernel
theorem dX12_anybody_4 : decode cX12_anybody 4 = .ok (.iload_n 2, 1) := by decide +kernel
theorem dX12_anybody_5 : decode cX12_anybody 5 = .ok (.aload_n 0, 1) := by decide +kernel
theorem dX12_anybody_6 : decode cX12_anybody 6 = .ok (.getfield 29, 3) := by decide +kernel
theorem dX12_anybody_9 : decode cX12_anybody 9 = .ok (.iconst 3, 1) := by decide +kernel
theorem dX12_anybody_10 : decode cX12_anybody 10 = .ok (.iaload, 1) := by decide +kernel
theorem dX12_anybody_11 : decode cX12_anybody 11 = .ok (.if_icmp .ge 21, 3) := by decide +kernel
theorem dX12_anybody_14 : decode cX12_anybody 14 = .ok (.iload_n 1, 1) := by decide +kernel
theorem dX12_anybody_15 : decode cX12_anybody 15 = .ok (.aload_n 0, 1) := by decide +kernel
theorem dX12_anybody_16 : decode cX12_anybody 16 = .ok (.getfield 35, 3) := by decide +kernel
theorem dX12_anybody_19 : decode cX12_anybody 19 = .ok (.bipush 17, 2) := by decide +kernel
theorem dX12_anybody_21 : decode cX12_anybody 21 = .ok (.iload_n 2, 1) := by decide +kernel
theorem dX12_anybody_22 : decode cX12_anybody 22 = .ok (.iadd, 1) := by decide +kernel
theorem dX12_anybody_23 : decode cX12_anybody 23 = .ok (.iaload, 1) := by decide +kernel
theorem dX12_anybody_24 : decode cX12_anybody 24 = .ok (.ior, 1) := by decide +kernel
theorem dX12_anybody_25 : decode cX12_anybody 25 = .ok (.istore_n 1, 1) := by decide +kernel
theorem dX12_anybody_26 : decode cX12_anybody 26 = .ok (.iinc 2 1, 3) := by decide +kernel
theorem dX12_anybody_29 : decode cX12_anybody 29 = .ok (.goto (-25), 3) := by decide +kernel
theorem dX12_anybody_32 : decode cX12_anybody 32 = .ok (.iload_n 1, 1) := by decide +kernel
theorem dX12_anybody_33 : decode cX12_anybody 33 = .ok (.ireturn, 1) := by decide +kernel
theorem dX12_days_0 : decode cX12_days 0 = .ok (.aload_n 0, 1) := by decide +kernel
theorem dX12_days_1 : decode cX12_days 1 = .ok (.getfield 141, 3) := by decide +kernel
theorem dX12_days_4 : decode cX12_days 4 = .ok (.ifCond .ne 6, 3) := by decide +kernel
theorem dX12_days_7 : decode cX12_days 7 = .ok (.ldc 163, 2) := by decide +kernel
theorem dX12_days_9 : decode cX12_days 9 = .ok (.ireturn, 1) := by decide +kernel
theorem dX12_days_10 : decode cX12_days 10 = .ok (.iload_n 1, 1) := by decide +kernel
theorem dX12_days_11 : decode cX12_days 11 = .ok (.iconst 1, 1) := by decide +kernel
theorem dX12_days_12 : decode cX12_days 12 = .ok (.bipush 24, 2) := by decide +kernel
theorem dX12_days_14 : decode cX12_days 14 = .ok (.invokestatic 61, 3) := by decide +kernel
theorem dX12_days_17 : decode cX12_days 17 = .ok (.ifCond .ne 6, 3) := by decide +kernel
theorem dX12_days_20 : decode cX12_days 20 = .ok (.ldc 74, 2) := by decide +kernel
theorem dX12_days_22 : decode cX12_days 22 = .ok (.ireturn, 1) := by decide +kernel
theorem dX12_days_23 : decode cX12_days 23 = .ok (.aload_n 0, 1) := by decide +kernel
theorem dX12_days_24 : decode cX12_days 24 = .ok (.getfield 35, 3) := by decide +kernel
theorem dX12_days_27 : decode cX12_days 27 = .ok (.iconst 0, 1) := by decide +kernel
theorem dX12_days_28 : decode cX12_days 28 = .ok (.iaload, 1) := by decide +kernel
theorem dX12_days_29 : decode cX12_days 29 = .ok (.iload_n 1, 1) := by decide +kernel
theorem dX12_days_30 : decode cX12_days 30 = .ok (.iadd, 1) := by decide +kernel
theorem dX12_days_31 : decode cX12_days 31 = .ok (.sipush 9999, 3) := by decide +kernel
theorem dX12_days_34 : decode cX12_days 34 = .ok (.if_icmp .le 6, 3) := by decide +kernel
theorem dX12_days_37 : decode cX12_days 37 = .ok (.ldc 88, 2) := by decide +kernel
theorem dX12_days_39 : decode cX12_days 39 = .ok (.ireturn, 1) := by decide +kernel
theorem dX12_days_40 : decode cX12_days 40 = .ok (.iconst 0, 1) := by decide +kernel
theorem dX12_days_41 : decode cX12_days 41 = .ok (.istore_n 2, 1) := by decide +kernel
theorem dX12_days_42 : decode cX12_days 42 = .ok (.iload_n 2, 1) := by decide +kernel
theorem dX12_days_43 : decode cX12_days 43 = .ok (.iload_n 1, 1) := by decide +kernel
theorem dX12_days_44 : decode cX12_days 44 = .ok (.if_icmp .ge 21, 3) := by decide +kernel
theorem dX12_days_47 : decode cX12_days 47 = .ok (.aload_n 0, 1) := by decide +kernel
theorem dX12_days_48 : decode cX12_days 48 = .ok (.invokevirtual 164, 3) := by decide +kernel
theorem dX12_days_51 : decode cX12_days 51 = .ok (.aload_n 0, 1) := by decide +kernel
theorem dX12_days_52 : decode cX12_days 52 = .ok (.aload_n 0, 1) := by decide +kernel
theorem dX12_days_53 : decode cX12_days 53 = .ok (.getfield 35, 3) := by decide +kernel
theorem dX12_days_56 : decode cX12_days 56 = .ok (.invokevirtual 167, 3) := by decide +kernel
theorem dX12_days_59 : decode cX12_days 59 = .ok (.iinc 2 1, 3) := by decide +kernel
theorem dX12_days_62 : decode cX12_days 62 = .ok (.goto (-20), 3) := by decide +kernel
theorem dX12_days_65 : decode cX12_days 65 = .ok (.aload_n 0, 1) := by decide +kernel
theorem dX12_days_66 : decode cX12_days 66 = .ok (.invokevirtual 171, 3) := by decide +kernel
theorem dX12_days_69 : decode cX12_days 69 = .ok (.ireturn, 1) := by decide +kernel
theorem dX12_mayMove_0 : decode cX12_mayMove 0 = .ok (.aload_n 1, 1) := by decide +kernel
theorem dX12_mayMove_1 : decode cX12_mayMove 1 = .ok (.iconst 1, 1) := by decide +kernel
theorem dX12_mayMove_2 : decode cX12_mayMove 2 = .ok (.iload_n 2, 1) := by decide +kernel
theorem dX12_mayMove_3 : decode cX12_mayMove 3 = .ok (.iadd, 1) := by decide +kernel
theorem dX12_mayMove_4 : decode cX12_mayMove 4 = .ok (.iaload, 1) := by decide +kernel
theorem dX12_mayMove_5 : decode cX12_mayMove 5 = .ok (.iload_n 3, 1) := by decide +kernel
theorem dX12_mayMove_6 : decode cX12_mayMove 6 = .ok (.iadd, 1) := by decide +kernel
theorem dX12_mayMove_7 : decode cX12_mayMove 7 = .ok (.istore 4, 2) := by decide +kernel
theorem dX12_mayMove_9 : decode cX12_mayMove 9 = .ok (.iload 4, 2) := by decide +kernel
theorem dX12_mayMove_11 : decode cX12_mayMove 11 = .ok (.iconst 1, 1) := by decide +kernel
theorem dX12_mayMove_12 : decode cX12_mayMove 12 = .ok (.aload_n 0, 1) := by decide +kernel
theorem dX12_mayMove_13 : decode cX12_mayMove 13 = .ok (.getfield 29, 3) := by decide +kernel
theorem dX12_mayMove_16 : decode cX12_mayMove 16 = .ok (.iconst 0, 1) := by decide +kernel
theorem dX12_mayMove_17 : decode cX12_mayMove 17 = .ok (.iaload, 1) := by decide +kernel
theorem dX12_mayMove_18 : decode cX12_mayMove 18 = .ok (.iconst 1, 1) := by decide +kernel
theorem dX12_mayMove_19 : decode cX12_mayMove 19 = .ok (.isub, 1) := by decide +kernel
theorem dX12_mayMove_20 : decode cX12_mayMove 20 = .ok (.invokestatic 61, 3) := by decide +kernel
theorem dX12_mayMove_23 : decode cX12_mayMove 23 = .ok (.istore 5, 2) := by decide +kernel
theorem dX12_mayMove_25 : decode cX12_mayMove 25 = .ok (.iconst 0, 1) := by decide +kernel
theorem dX12_mayMove_26 : decode cX12_mayMove 26 = .ok (.istore 6, 2) := by decide +kernel
theorem dX12_mayMove_28 : decode cX12_mayMove 28 = .ok (.iload 6, 2) := by decide +kernel
theorem dX12_mayMove_30 : decode cX12_mayMove 30 = .ok (.aload_n 0, 1) := by decide +kernel
theorem dX12_mayMove_31 : decode cX12_mayMove 31 = .ok (.getfield 29, 3) := by decide +kernel
theorem dX12_mayMove_34 : decode cX12_mayMove 34 = .ok (.iconst 2, 1) := by decide +kernel
theorem dX12_mayMove_35 : decode cX12_mayMove 35 = .ok (.iaload, 1) := by decide +kernel
theorem dX12_mayMove_36 : decode cX12_mayMove 36 = .ok (.if_icmp .ge 38, 3) := by decide +kernel
theorem dX12_mayMove_39 : decode cX12_mayMove 39 = .ok (.iload 5, 2) := by decide +kernel
theorem dX12_mayMove_41 : decode cX12_mayMove 41 = .ok (.ifCond .eq 24, 3) := by decide +kernel
theorem dX12_mayMove_44 : decode cX12_mayMove 44 = .ok (.iload 6, 2) := by decide +kernel
theorem dX12_mayMove_46 : decode cX12_mayMove 46 = .ok (.iload_n 2, 1) := by decide +kernel
theorem dX12_mayMove_47 : decode cX12_mayMove 47 = .ok (.if_icmp .eq 14, 3) := by decide +kernel
theorem dX12_mayMove_50 : decode cX12_mayMove 50 = .ok (.aload_n 1, 1) := by decide +kernel
theorem dX12_mayMove_51 : decode cX12_mayMove 51 = .ok (.iconst 1, 1) := by decide +kernel
theorem dX12_mayMove_52 : decode cX12_mayMove 52 = .ok (.iload 6, 2) := by decide +kernel
theorem dX12_mayMove_54 : decode cX12_mayMove 54 = .ok (.iadd, 1) := by decide +kernel
theorem dX12_mayMove_55 : decode cX12_mayMove 55 = .ok (.iaload, 1) := by decide +kernel
theorem dX12_mayMove_56 : decode cX12_mayMove 56 = .ok (.iload 4, 2) := by decide +kernel
theorem dX12_mayMove_58 : decode cX12_mayMove 58 = .ok (.if_icmp .eq 7, 3) := by decide +kernel
theorem dX12_mayMove_61 : decode cX12_mayMove 61 = .ok (.iconst 1, 1) := by decide +kernel
theorem dX12_mayMove_62 : decode cX12_mayMove 62 = .ok (.goto 4, 3) := by decide +kernel
theorem dX12_mayMove_65 : decode cX12_mayMove 65 = .ok (.iconst 0, 1) := by decide +kernel
theorem dX12_mayMove_66 : decode cX12_mayMove 66 = .ok (.istore 5, 2) := by decide +kernel
theorem dX12_mayMove_68 : decode cX12_mayMove 68 = .ok (.iinc 6 1, 3) := by decide +kernel
theorem dX12_mayMove_71 : decode cX12_mayMove 71 = .ok (.goto (-43), 3) := by decide +kernel
theorem dX12_mayMove_74 : decode cX12_mayMove 74 = .ok (.iload 5, 2) := by decide +kernel
theorem dX12_mayMove_76 : decode cX12_mayMove 76 = .ok (.ireturn, 1) := by decide +kernel
theorem dX12_move_0 : decode cX12_move 0 = .ok (.aload_n 0, 1) := by decide +kernel
theorem dX12_move_1 : decode cX12_move 1 = .ok (.getfield 141, 3) := by decide +kernel
theorem dX12_move_4 : decode cX12_move 4 = .ok (.ifCond .eq 28, 3) := by decide +kernel
theorem dX12_move_7 : decode cX12_move 7 = .ok (.iload_n 1, 1) := by decide +kernel
theorem dX12_move_8 : decode cX12_move 8 = .ok (.iconst 0, 1) := by decide +kernel
theorem dX12_move_9 : decode cX12_move 9 = .ok (.aload_n 0, 1) := by decide +kernel
theorem dX12_move_10 : decode cX12_move 10 = .ok (.getfield 29, 3) := by decide +kernel
theorem dX12_move_13 : decode cX12_move 13 = .ok (.iconst 2, 1) := by decide +kernel
theorem dX12_move_14 : decode cX12_move 14 = .ok (.iaload, 1) := by decide +kernel
theorem dX12_move_15 : decode cX12_move 15 = .ok (.iconst 1, 1) := by decide +kernel
theorem dX12_move_16 : decode cX12_move 16 = .ok (.isub, 1) := by decide +kernel
theorem dX12_move_17 : decode cX12_move 17 = .ok (.invokestatic 61, 3) := by decide +kernel
theorem dX12_move_20 : decode cX12_move 20 = .ok (.ifCond .eq 12, 3) := by decide +kernel
theorem dX12_move_23 : decode cX12_move 23 = .ok (.iload_n 2, 1) := by decide +kernel
theorem dX12_move_24 : decode cX12_move 24 = .ok (.iconst 0, 1) := by decide +kernel
theorem dX12_move_25 : decode cX12_move 25 = .ok (.iconst 1, 1) := by decide +kernel
theorem dX12_move_26 : decode cX12_move 26 = .ok (.invokestatic 61, 3) := by decide +kernel
theorem dX12_move_29 : decode cX12_move 29 = .ok (.ifCond .ne 6, 3) := by decide +kernel
theorem dX12_move_32 : decode cX12_move 32 = .ok (.ldc 74, 2) := by decide +kernel
theorem dX12_move_34 : decode cX12_move 34 = .ok (.ireturn, 1) := by decide +kernel
theorem dX12_move_35 : decode cX12_move 35 = .ok (.iload_n 2, 1) := by decide +kernel
theorem dX12_move_36 : decode cX12_move 36 = .ok (.iconst 1, 1) := by decide +kernel
theorem dX12_move_37 : decode cX12_move 37 = .ok (.if_icmp .ne 7, 3) := by decide +kernel
theorem dX12_move_40 : decode cX12_move 40 = .ok (.iconst 1, 1) := by decide +kernel
theorem dX12_move_41 : decode cX12_move 41 = .ok (.goto 4, 3) := by decide +kernel
theorem dX12_move_44 : decode cX12_move 44 = .ok (.iconst (-1), 1) := by decide +kernel
theorem dX12_move_45 : decode cX12_move 45 = .ok (.istore_n 3, 1) := by decide +kernel
theorem dX12_move_46 : decode cX12_move 46 = .ok (.aload_n 0, 1) := by decide +kernel
theorem dX12_move_47 : decode cX12_move 47 = .ok (.aload_n 0, 1) := by decide +kernel
theorem dX12_move_48 : decode cX12_move 48 = .ok (.getfield 35, 3) := by decide +kernel
theorem dX12_move_51 : decode cX12_move 51 = .ok (.iload_n 1, 1) := by decide +kernel
theorem dX12_move_52 : decode cX12_move 52 = .ok (.iload_n 3, 1) := by decide +kernel
theorem dX12_move_53 : decode cX12_move 53 = .ok (.invokevirtual 174, 3) := by decide +kernel
theorem dX12_move_56 : decode cX12_move 56 = .ok (.ifCond .ne 6, 3) := by decide +kernel
theorem dX12_move_59 : decode cX12_move 59 = .ok (.ldc 163, 2) := by decide +kernel
theorem dX12_move_61 : decode cX12_move 61 = .ok (.ireturn, 1) := by decide +kernel
theorem dX12_move_62 : decode cX12_move 62 = .ok (.aload_n 0, 1) := by decide +kernel
theorem dX12_move_63 : decode cX12_move 63 = .ok (.invokevirtual 164, 3) := by decide +kernel
theorem dX12_move_66 : decode cX12_move 66 = .ok (.aload_n 0, 1) := by decide +kernel
theorem dX12_move_67 : decode cX12_move 67 = .ok (.getfield 35, 3) := by decide +kernel
theorem dX12_move_70 : decode cX12_move 70 = .ok (.iconst 1, 1) := by decide +kernel
theorem dX12_move_71 : decode cX12_move 71 = .ok (.iload_n 1, 1) := by decide +kernel
theorem dX12_move_72 : decode cX12_move 72 = .ok (.iadd, 1) := by decide +kernel
theorem dX12_move_73 : decode cX12_move 73 = .ok (.dup2, 1) := by decide +kernel
theorem dX12_move_74 : decode cX12_move 74 = .ok (.iaload, 1) := by decide +kernel
theorem dX12_move_75 : decode cX12_move 75 = .ok (.iload_n 3, 1) := by decide +kernel
theorem dX12_move_76 : decode cX12_move 76 = .ok (.iadd, 1) := by decide +kernel
theorem dX12_move_77 : decode cX12_move 77 = .ok (.iastore, 1) := by decide +kernel
theorem dX12_move_78 : decode cX12_move 78 = .ok (.aload_n 0, 1) := by decide +kernel
theorem dX12_move_79 : decode cX12_move 79 = .ok (.getfield 35, 3) := by decide +kernel
theorem dX12_move_82 : decode cX12_move 82 = .ok (.iconst 1, 1) := by decide +kernel
theorem dX12_move_83 : decode cX12_move 83 = .ok (.iload_n 1, 1) := by decide +kernel
theorem dX12_move_84 : decode cX12_move 84 = .ok (.iadd, 1) := by decide +kernel
theorem dX12_move_85 : decode cX12_move 85 = .ok (.iaload, 1) := by decide +kernel
theorem dX12_move_86 : decode cX12_move 86 = .ok (.ireturn, 1) := by decide +kernel
theorem dX12_fade_0 : decode cX12_fade 0 = .ok (.aload_n 0, 1) := by decide +kernel
theorem dX12_fade_1 : decode cX12_fade 1 = .ok (.iload_n 1, 1) := by decide +kernel
theorem dX12_fade_2 : decode cX12_fade 2 = .ok (.invokevirtual 178, 3) := by decide +kernel
theorem dX12_fade_5 : decode cX12_fade 5 = .ok (.ifCond .eq 12, 3) := by decide +kernel
theorem dX12_fade_8 : decode cX12_fade 8 = .ok (.iload_n 2, 1) := by decide +kernel
theorem dX12_fade_9 : decode cX12_fade 9 = .ok (.iconst 0, 1) := by decide +kernel
theorem dX12_fade_10 : decode cX12_fade 10 = .ok (.iconst 1, 1) := by decide +kernel
theorem dX12_fade_11 : decode cX12_fade 11 = .ok (.invokestatic 61, 3) := by decide +kernel
theorem dX12_fade_14 : decode cX12_fade 14 = .ok (.ifCond .ne 6, 3) := by decide +kernel
theorem dX12_fade_17 : decode cX12_fade 17 = .ok (.ldc 74, 2) := by decide +kernel
theorem dX12_fade_19 : decode cX12_fade 19 = .ok (.ireturn, 1) := by decide +kernel
theorem dX12_fade_20 : decode cX12_fade 20 = .ok (.aload_n 0, 1) := by decide +kernel
theorem dX12_fade_21 : decode cX12_fade 21 = .ok (.getfield 35, 3) := by decide +kernel
theorem dX12_fade_24 : decode cX12_fade 24 = .ok (.bipush 6, 2) := by decide +kernel
theorem dX12_fade_26 : decode cX12_fade 26 = .ok (.iaload, 1) := by decide +kernel
theorem dX12_fade_27 : decode cX12_fade 27 = .ok (.iload_n 1, 1) := by decide +kernel
theorem dX12_fade_28 : decode cX12_fade 28 = .ok (.invokestatic 181, 3) := by decide +kernel
theorem dX12_fade_31 : decode cX12_fade 31 = .ok (.iload_n 2, 1) := by decide +kernel
theorem dX12_fade_32 : decode cX12_fade 32 = .ok (.iconst 1, 1) := by decide +kernel
theorem dX12_fade_33 : decode cX12_fade 33 = .ok (.if_icmp .ne 7, 3) := by decide +kernel
theorem dX12_fade_36 : decode cX12_fade 36 = .ok (.iconst 1, 1) := by decide +kernel
theorem dX12_fade_37 : decode cX12_fade 37 = .ok (.goto 4, 3) := by decide +kernel
theorem dX12_fade_40 : decode cX12_fade 40 = .ok (.iconst 0, 1) := by decide +kernel
theorem dX12_fade_41 : decode cX12_fade 41 = .ok (.if_icmp .ne 6, 3) := by decide +kernel
theorem dX12_fade_44 : decode cX12_fade 44 = .ok (.ldc 163, 2) := by decide +kernel
theorem dX12_fade_46 : decode cX12_fade 46 = .ok (.ireturn, 1) := by decide +kernel
theorem dX12_fade_47 : decode cX12_fade 47 = .ok (.aload_n 0, 1) := by decide +kernel
theorem dX12_fade_48 : decode cX12_fade 48 = .ok (.invokevirtual 164, 3) := by decide +kernel
theorem dX12_fade_51 : decode cX12_fade 51 = .ok (.aload_n 0, 1) := by decide +kernel
theorem dX12_fade_52 : decode cX12_fade 52 = .ok (.getfield 35, 3) := by decide +kernel
theorem dX12_fade_55 : decode cX12_fade 55 = .ok (.bipush 6, 2) := by decide +kernel
theorem dX12_fade_57 : decode cX12_fade 57 = .ok (.dup2, 1) := by decide +kernel
theorem dX12_fade_58 : decode cX12_fade 58 = .ok (.iaload, 1) := by decide +kernel
theorem dX12_fade_59 : decode cX12_fade 59 = .ok (.iconst 1, 1) := by decide +kernel
theorem dX12_fade_60 : decode cX12_fade 60 = .ok (.iload_n 1, 1) := by decide +kernel
theorem dX12_fade_61 : decode cX12_fade 61 = .ok (.ishl, 1) := by decide +kernel
theorem dX12_fade_62 : decode cX12_fade 62 = .ok (.ixor, 1) := by decide +kernel
theorem dX12_fade_63 : decode cX12_fade 63 = .ok (.iastore, 1) := by decide +kernel
theorem dX12_fade_64 : decode cX12_fade 64 = .ok (.aload_n 0, 1) := by decide +kernel
theorem dX12_fade_65 : decode cX12_fade 65 = .ok (.getfield 35, 3) := by decide +kernel
theorem dX12_fade_68 : decode cX12_fade 68 = .ok (.bipush 6, 2) := by decide +kernel
theorem dX12_fade_70 : decode cX12_fade 70 = .ok (.iaload, 1) := by decide +kernel
theorem dX12_fade_71 : decode cX12_fade 71 = .ok (.ireturn, 1) := by decide +kernel
theorem dX12_put_0 : decode cX12_put 0 = .ok (.aload_n 0, 1) := by decide +kernel
theorem dX12_put_1 : decode cX12_put 1 = .ok (.iload_n 1, 1) := by decide +kernel
theorem dX12_put_2 : decode cX12_put 2 = .ok (.invokevirtual 185, 3) := by decide +kernel
theorem dX12_put_5 : decode cX12_put 5 = .ok (.ifCond .eq 11, 3) := by decide +kernel
theorem dX12_put_8 : decode cX12_put 8 = .ok (.aload_n 0, 1) := by decide +kernel
theorem dX12_put_9 : decode cX12_put 9 = .ok (.iload_n 2, 1) := by decide +kernel
theorem dX12_put_10 : decode cX12_put 10 = .ok (.invokevirtual 188, 3) := by decide +kernel
theorem dX12_put_13 : decode cX12_put 13 = .ok (.ifCond .ne 6, 3) := by decide +kernel
theorem dX12_put_16 : decode cX12_put 16 = .ok (.ldc 74, 2) := by decide +kernel
theorem dX12_put_18 : decode cX12_put 18 = .ok (.ireturn, 1) := by decide +kernel
theorem dX12_put_19 : decode cX12_put 19 = .ok (.aload_n 0, 1) := by decide +kernel
theorem dX12_put_20 : decode cX12_put 20 = .ok (.invokevirtual 164, 3) := by decide +kernel
theorem dX12_put_23 : decode cX12_put 23 = .ok (.aload_n 0, 1) := by decide +kernel
theorem dX12_put_24 : decode cX12_put 24 = .ok (.getfield 35, 3) := by decide +kernel
theorem dX12_put_27 : decode cX12_put 27 = .ok (.bipush 7, 2) := by decide +kernel
theorem dX12_put_29 : decode cX12_put 29 = .ok (.iload_n 1, 1) := by decide +kernel
theorem dX12_put_30 : decode cX12_put 30 = .ok (.iadd, 1) := by decide +kernel
theorem dX12_put_31 : decode cX12_put 31 = .ok (.iload_n 2, 1) := by decide +kernel
theorem dX12_put_32 : decode cX12_put 32 = .ok (.iastore, 1) := by decide +kernel
theorem dX12_put_33 : decode cX12_put 33 = .ok (.aload_n 0, 1) := by decide +kernel
theorem dX12_put_34 : decode cX12_put 34 = .ok (.getfield 35, 3) := by decide +kernel
theorem dX12_put_37 : decode cX12_put 37 = .ok (.bipush 17, 2) := by decide +kernel
theorem dX12_put_39 : decode cX12_put 39 = .ok (.iload_n 1, 1) := by decide +kernel
theorem dX12_put_40 : decode cX12_put 40 = .ok (.iadd, 1) := by decide +kernel
theorem dX12_put_41 : decode cX12_put 41 = .ok (.dup2, 1) := by decide +kernel
theorem dX12_put_42 : decode cX12_put 42 = .ok (.iaload, 1) := by decide +kernel
theorem dX12_put_43 : decode cX12_put 43 = .ok (.aload_n 0, 1) := by decide +kernel
theorem dX12_put_44 : decode cX12_put 44 = .ok (.aload_n 0, 1) := by decide +kernel
theorem dX12_put_45 : decode cX12_put 45 = .ok (.getfield 35, 3) := by decide +kernel
theorem dX12_put_48 : decode cX12_put 48 = .ok (.iload_n 2, 1) := by decide +kernel
theorem dX12_put_49 : decode cX12_put 49 = .ok (.aload_n 0, 1) := by decide +kernel
theorem dX12_put_50 : decode cX12_put 50 = .ok (.getfield 29, 3) := by decide +kernel
theorem dX12_put_53 : decode cX12_put 53 = .ok (.bipush 28, 2) := by decide +kernel
theorem dX12_put_55 : decode cX12_put 55 = .ok (.iload_n 1, 1) := by decide +kernel
theorem dX12_put_56 : decode cX12_put 56 = .ok (.iadd, 1) := by decide +kernel
theorem dX12_put_57 : decode cX12_put 57 = .ok (.iaload, 1) := by decide +kernel
theorem dX12_put_58 : decode cX12_put 58 = .ok (.invokevirtual 155, 3) := by decide +kernel
theorem dX12_put_61 : decode cX12_put 61 = .ok (.ior, 1) := by decide +kernel
theorem dX12_put_62 : decode cX12_put 62 = .ok (.iastore, 1) := by decide +kernel
theorem dX12_put_63 : decode cX12_put 63 = .ok (.aload_n 0, 1) := by decide +kernel
theorem dX12_put_64 : decode cX12_put 64 = .ok (.getfield 35, 3) := by decide +kernel
theorem dX12_put_67 : decode cX12_put 67 = .ok (.bipush 17, 2) := by decide +kernel
theorem dX12_put_69 : decode cX12_put 69 = .ok (.iload_n 1, 1) := by decide +kernel
theorem dX12_put_70 : decode cX12_put 70 = .ok (.iadd, 1) := by decide +kernel
theorem dX12_put_71 : decode cX12_put 71 = .ok (.iaload, 1) := by decide +kernel
theorem dX12_put_72 : decode cX12_put 72 = .ok (.ireturn, 1) := by decide +kernel
theorem dX12_undo_0 : decode cX12_undo 0 = .ok (.aload_n 0, 1) := by decide +kernel
theorem dX12_undo_1 : decode cX12_undo 1 = .ok (.getfield 145, 3) := by decide +kernel
theorem dX12_undo_4 : decode cX12_undo 4 = .ok (.ifCond .ne 6, 3) := by decide +kernel
theorem dX12_undo_7 : decode cX12_undo 7 = .ok (.ldc 163, 2) := by decide +kernel
theorem dX12_undo_9 : decode cX12_undo 9 = .ok (.ireturn, 1) := by decide +kernel
theorem dX12_undo_10 : decode cX12_undo 10 = .ok (.aload_n 0, 1) := by decide +kernel
theorem dX12_undo_11 : decode cX12_undo 11 = .ok (.dup, 1) := by decide +kernel
theorem dX12_undo_12 : decode cX12_undo 12 = .ok (.getfield 145, 3) := by decide +kernel
theorem dX12_undo_15 : decode cX12_undo 15 = .ok (.iconst 1, 1) := by decide +kernel
theorem dX12_undo_16 : decode cX12_undo 16 = .ok (.isub, 1) := by decide +kernel
theorem dX12_undo_17 : decode cX12_undo 17 = .ok (.putfield 145, 3) := by decide +kernel
theorem dX12_undo_20 : decode cX12_undo 20 = .ok (.iconst 0, 1) := by decide +kernel
theorem dX12_undo_21 : decode cX12_undo 21 = .ok (.istore_n 1, 1) := by decide +kernel
theorem dX12_undo_22 : decode cX12_undo 22 = .ok (.iload_n 1, 1) := by decide +kernel
theorem dX12_undo_23 : decode cX12_undo 23 = .ok (.bipush 22, 2) := by decide +kernel
theorem dX12_undo_25 : decode cX12_undo 25 = .ok (.if_icmp .ge 29, 3) := by decide +kernel
theorem dX12_undo_28 : decode cX12_undo 28 = .ok (.aload_n 0, 1) := by decide +kernel
theorem dX12_undo_29 : decode cX12_undo 29 = .ok (.getfield 35, 3) := by decide +kernel
theorem dX12_undo_32 : decode cX12_undo 32 = .ok (.iload_n 1, 1) := by decide +kernel
theorem dX12_undo_33 : decode cX12_undo 33 = .ok (.aload_n 0, 1) := by decide +kernel
theorem dX12_undo_34 : decode cX12_undo 34 = .ok (.getfield 41, 3) := by decide +kernel
theorem dX12_undo_37 : decode cX12_undo 37 = .ok (.bipush 22, 2) := by decide +kernel
theorem dX12_undo_39 : decode cX12_undo 39 = .ok (.aload_n 0, 1) := by decide +kernel
theorem dX12_undo_40 : decode cX12_undo 40 = .ok (.getfield 145, 3) := by decide +kernel
theorem dX12_undo_43 : decode cX12_undo 43 = .ok (.imul, 1) := by decide +kernel
theorem dX12_undo_44 : decode cX12_undo 44 = .ok (.iload_n 1, 1) := by decide +kernel
theorem dX12_undo_45 : decode cX12_undo 45 = .ok (.iadd, 1) := by decide +kernel
theorem dX12_undo_46 : decode cX12_undo 46 = .ok (.iaload, 1) := by decide +kernel
theorem dX12_undo_47 : decode cX12_undo 47 = .ok (.iastore, 1) := by decide +kernel
theorem dX12_undo_48 : decode cX12_undo 48 = .ok (.iinc 1 1, 3) := by decide +kernel
theorem dX12_undo_51 : decode cX12_undo 51 = .ok (.goto (-29), 3) := by decide +kernel
theorem dX12_undo_54 : decode cX12_undo 54 = .ok (.aload_n 0, 1) := by decide +kernel
theorem dX12_undo_55 : decode cX12_undo 55 = .ok (.getfield 145, 3) := by decide +kernel
theorem dX12_undo_58 : decode cX12_undo 58 = .ok (.ireturn, 1) := by decide +kernel
theorem dX12_houseOf_0 : decode cX12_houseOf 0 = .ok (.iconst 0, 1) := by decide +kernel
theorem dX12_houseOf_1 : decode cX12_houseOf 1 = .ok (.istore_n 2, 1) := by decide +kernel
theorem dX12_houseOf_2 : decode cX12_houseOf 2 = .ok (.aload_n 0, 1) := by decide +kernel
theorem dX12_houseOf_3 : decode cX12_houseOf 3 = .ok (.aload_n 0, 1) := by decide +kernel
theorem dX12_houseOf_4 : decode cX12_houseOf 4 = .ok (.getfield 35, 3) := by decide +kernel
theorem dX12_houseOf_7 : decode cX12_houseOf 7 = .ok (.iload_n 2, 1) := by decide +kernel
theorem dX12_houseOf_8 : decode cX12_houseOf 8 = .ok (.invokevirtual 152, 3) := by decide +kernel
theorem dX12_houseOf_11 : decode cX12_houseOf 11 = .ok (.iload_n 1, 1) := by decide +kernel
theorem dX12_houseOf_12 : decode cX12_houseOf 12 = .ok (.if_icmp .gt 9, 3) := by decide +kernel
theorem dX12_houseOf_15 : decode cX12_houseOf 15 = .ok (.iinc 2 1, 3) := by decide +kernel
theorem dX12_houseOf_18 : decode cX12_houseOf 18 = .ok (.goto (-16), 3) := by decide +kernel
theorem dX12_houseOf_21 : decode cX12_houseOf 21 = .ok (.iload_n 2, 1) := by decide +kernel
theorem dX12_houseOf_22 : decode cX12_houseOf 22 = .ok (.ireturn, 1) := by decide +kernel
theorem dX12_cell_0 : decode cX12_cell 0 = .ok (.aload_n 0, 1) := by decide +kernel
theorem dX12_cell_1 : decode cX12_cell 1 = .ok (.iload_n 1, 1) := by decide +kernel
theorem dX12_cell_2 : decode cX12_cell 2 = .ok (.invokevirtual 178, 3) := by decide +kernel
theorem dX12_cell_5 : decode cX12_cell 5 = .ok (.ifCond .ne 6, 3) := by decide +kernel
theorem dX12_cell_8 : decode cX12_cell 8 = .ok (.ldc 74, 2) := by decide +kernel
theorem dX12_cell_10 : decode cX12_cell 10 = .ok (.ireturn, 1) := by decide +kernel
theorem dX12_cell_11 : decode cX12_cell 11 = .ok (.iconst 0, 1) := by decide +kernel
theorem dX12_cell_12 : decode cX12_cell 12 = .ok (.istore_n 3, 1) := by decide +kernel
theorem dX12_cell_13 : decode cX12_cell 13 = .ok (.iload_n 2, 1) := by decide +kernel
theorem dX12_cell_14 : decode cX12_cell 14 = .ok (.tableswitch 115 0 3 #[30, 39, 59, 65], 30) := by decide +kernel
theorem dX12_cell_44 : decode cX12_cell 44 = .ok (.aload_n 0, 1) := by decide +kernel
theorem dX12_cell_45 : decode cX12_cell 45 = .ok (.getfield 29, 3) := by decide +kernel
theorem dX12_cell_48 : decode cX12_cell 48 = .ok (.iconst 4, 1) := by decide +kernel
theorem dX12_cell_49 : decode cX12_cell 49 = .ok (.iload_n 1, 1) := by decide +kernel
theorem dX12_cell_50 : decode cX12_cell 50 = .ok (.iadd, 1) := by decide +kernel
theorem dX12_cell_51 : decode cX12_cell 51 = .ok (.iaload, 1) := by decide +kernel
theorem dX12_cell_52 : decode cX12_cell 52 = .ok (.ireturn, 1) := by decide +kernel
theorem dX12_cell_53 : decode cX12_cell 53 = .ok (.aload_n 0, 1) := by decide +kernel
theorem dX12_cell_54 : decode cX12_cell 54 = .ok (.getfield 35, 3) := by decide +kernel
theorem dX12_cell_57 : decode cX12_cell 57 = .ok (.bipush 6, 2) := by decide +kernel
theorem dX12_cell_59 : decode cX12_cell 59 = .ok (.iaload, 1) := by decide +kernel
theorem dX12_cell_60 : decode cX12_cell 60 = .ok (.iload_n 1, 1) := by decide +kernel
theorem dX12_cell_61 : decode cX12_cell 61 = .ok (.invokestatic 181, 3) := by decide +kernel
theorem dX12_cell_64 : decode cX12_cell 64 = .ok (.ifCond .eq 7, 3) := by decide +kernel
theorem dX12_cell_67 : decode cX12_cell 67 = .ok (.iconst 1, 1) := by decide +kernel
theorem dX12_cell_68 : decode cX12_cell 68 = .ok (.goto 4, 3) := by decide +kernel
theorem dX12_cell_71 : decode cX12_cell 71 = .ok (.iconst 0, 1) := by decide +kernel
theorem dX12_cell_72 : decode cX12_cell 72 = .ok (.ireturn, 1) := by decide +kernel
theorem dX12_cell_73 : decode cX12_cell 73 = .ok (.aload_n 0, 1) := by decide +kernel
theorem dX12_cell_74 : decode cX12_cell 74 = .ok (.iload_n 1, 1) := by decide +kernel
theorem dX12_cell_75 : decode cX12_cell 75 = .ok (.invokevirtual 191, 3) := by decide +kernel
theorem dX12_cell_78 : decode cX12_cell 78 = .ok (.ireturn, 1) := by decide +kernel
theorem dX12_cell_79 : decode cX12_cell 79 = .ok (.iconst 0, 1) := by decide +kernel
theorem dX12_cell_80 : decode cX12_cell 80 = .ok (.istore 4, 2) := by decide +kernel
theorem dX12_cell_82 : decode cX12_cell 82 = .ok (.iload 4, 2) := by decide +kernel
theorem dX12_cell_84 : decode cX12_cell 84 = .ok (.aload_n 0, 1) := by decide +kernel
theorem dX12_cell_85 : decode cX12_cell 85 = .ok (.getfield 29, 3) := by decide +kernel
theorem dX12_cell_88 : decode cX12_cell 88 = .ok (.iconst 3, 1) := by decide +kernel
theorem dX12_cell_89 : decode cX12_cell 89 = .ok (.iaload, 1) := by decide +kernel
theorem dX12_cell_90 : decode cX12_cell 90 = .ok (.if_icmp .ge 37, 3) := by decide +kernel
theorem dX12_cell_93 : decode cX12_cell 93 = .ok (.iload_n 3, 1) := by decide +kernel
theorem dX12_cell_94 : decode cX12_cell 94 = .ok (.aload_n 0, 1) := by decide +kernel
theorem dX12_cell_95 : decode cX12_cell 95 = .ok (.getfield 35, 3) := by decide +kernel
theorem dX12_cell_98 : decode cX12_cell 98 = .ok (.bipush 17, 2) := by decide +kernel
theorem dX12_cell_100 : decode cX12_cell 100 = .ok (.iload 4, 2) := by decide +kernel
theorem dX12_cell_102 : decode cX12_cell 102 = .ok (.iadd, 1) := by decide +kernel
theorem dX12_cell_103 : decode cX12_cell 103 = .ok (.iaload, 1) := by decide +kernel
theorem dX12_cell_104 : decode cX12_cell 104 = .ok (.iload_n 1, 1) := by decide +kernel
theorem dX12_cell_105 : decode cX12_cell 105 = .ok (.invokestatic 181, 3) := by decide +kernel
theorem dX12_cell_108 : decode cX12_cell 108 = .ok (.ifCond .eq 10, 3) := by decide +kernel
theorem dX12_cell_111 : decode cX12_cell 111 = .ok (.iconst 1, 1) := by decide +kernel
theorem dX12_cell_112 : decode cX12_cell 112 = .ok (.iload 4, 2) := by decide +kernel
theorem dX12_cell_114 : decode cX12_cell 114 = .ok (.ishl, 1) := by decide +kernel
theorem dX12_cell_115 : decode cX12_cell 115 = .ok (.goto 4, 3) := by decide +kernel
theorem dX12_cell_118 : decode cX12_cell 118 = .ok (.iconst 0, 1) := by decide +kernel
theorem dX12_cell_119 : decode cX12_cell 119 = .ok (.ior, 1) := by decide +kernel
theorem dX12_cell_120 : decode cX12_cell 120 = .ok (.istore_n 3, 1) := by decide +kernel
theorem dX12_cell_121 : decode cX12_cell 121 = .ok (.iinc 4 1, 3) := by decide +kernel
theorem dX12_cell_124 : decode cX12_cell 124 = .ok (.goto (-42), 3) := by decide +kernel
theorem dX12_cell_127 : decode cX12_cell 127 = .ok (.iload_n 3, 1) := by decide +kernel
theorem dX12_cell_128 : decode cX12_cell 128 = .ok (.ireturn, 1) := by decide +kernel
theorem dX12_cell_129 : decode cX12_cell 129 = .ok (.ldc 74, 2) := by decide +kernel
theorem dX12_cell_131 : decode cX12_cell 131 = .ok (.ireturn, 1) := by decide +kernel
theorem dX12_house_0 : decode cX12_house 0 = .ok (.aload_n 0, 1) := by decide +kernel
theorem dX12_house_1 : decode cX12_house 1 = .ok (.iload_n 1, 1) := by decide +kernel
theorem dX12_house_2 : decode cX12_house 2 = .ok (.invokevirtual 188, 3) := by decide +kernel
theorem dX12_house_5 : decode cX12_house 5 = .ok (.ifCond .ne 6, 3) := by decide +kernel
theorem dX12_house_8 : decode cX12_house 8 = .ok (.ldc 74, 2) := by decide +kernel
theorem dX12_house_10 : decode cX12_house 10 = .ok (.ireturn, 1) := by decide +kernel
theorem dX12_house_11 : decode cX12_house 11 = .ok (.iconst 0, 1) := by decide +kernel
theorem dX12_house_12 : decode cX12_house 12 = .ok (.istore_n 3, 1) := by decide +kernel
theorem dX12_house_13 : decode cX12_house 13 = .ok (.iload_n 2, 1) := by decide +kernel
theorem dX12_house_14 : decode cX12_house 14 = .ok (.tableswitch 103 0 2 #[26, 36, 56], 26) := by decide +kernel
theorem dX12_house_40 : decode cX12_house 40 = .ok (.aload_n 0, 1) := by decide +kernel
theorem dX12_house_41 : decode cX12_house 41 = .ok (.aload_n 0, 1) := by decide +kernel
theorem dX12_house_42 : decode cX12_house 42 = .ok (.getfield 35, 3) := by decide +kernel
theorem dX12_house_45 : decode cX12_house 45 = .ok (.iload_n 1, 1) := by decide +kernel
theorem dX12_house_46 : decode cX12_house 46 = .ok (.invokevirtual 148, 3) := by decide +kernel
theorem dX12_house_49 : decode cX12_house 49 = .ok (.ireturn, 1) := by decide +kernel
theorem dX12_house_50 : decode cX12_house 50 = .ok (.aload_n 0, 1) := by decide +kernel
theorem dX12_house_51 : decode cX12_house 51 = .ok (.aload_n 0, 1) := by decide +kernel
theorem dX12_house_52 : decode cX12_house 52 = .ok (.getfield 35, 3) := by decide +kernel
theorem dX12_house_55 : decode cX12_house 55 = .ok (.iload_n 1, 1) := by decide +kernel
theorem dX12_house_56 : decode cX12_house 56 = .ok (.invokevirtual 152, 3) := by decide +kernel
theorem dX12_house_59 : decode cX12_house 59 = .ok (.aload_n 0, 1) := by decide +kernel
theorem dX12_house_60 : decode cX12_house 60 = .ok (.aload_n 0, 1) := by decide +kernel
theorem dX12_house_61 : decode cX12_house 61 = .ok (.getfield 35, 3) := by decide +kernel
theorem dX12_house_64 : decode cX12_house 64 = .ok (.iload_n 1, 1) := by decide +kernel
theorem dX12_house_65 : decode cX12_house 65 = .ok (.invokevirtual 148, 3) := by decide +kernel
theorem dX12_house_68 : decode cX12_house 68 = .ok (.isub, 1) := by decide +kernel
theorem dX12_house_69 : decode cX12_house 69 = .ok (.ireturn, 1) := by decide +kernel
theorem dX12_house_70 : decode cX12_house 70 = .ok (.iconst 0, 1) := by decide +kernel
theorem dX12_house_71 : decode cX12_house 71 = .ok (.istore 4, 2) := by decide +kernel
theorem dX12_house_73 : decode cX12_house 73 = .ok (.iload 4, 2) := by decide +kernel
theorem dX12_house_75 : decode cX12_house 75 = .ok (.aload_n 0, 1) := by decide +kernel
theorem dX12_house_76 : decode cX12_house 76 = .ok (.getfield 29, 3) := by decide +kernel
theorem dX12_house_79 : decode cX12_house 79 = .ok (.iconst 3, 1) := by decide +kernel
theorem dX12_house_80 : decode cX12_house 80 = .ok (.iaload, 1) := by decide +kernel
theorem dX12_house_81 : decode cX12_house 81 = .ok (.if_icmp .ge 34, 3) := by decide +kernel
theorem dX12_house_84 : decode cX12_house 84 = .ok (.iload_n 3, 1) := by decide +kernel
theorem dX12_house_85 : decode cX12_house 85 = .ok (.aload_n 0, 1) := by decide +kernel
theorem dX12_house_86 : decode cX12_house 86 = .ok (.getfield 35, 3) := by decide +kernel
theorem dX12_house_89 : decode cX12_house 89 = .ok (.bipush 7, 2) := by decide +kernel
theorem dX12_house_91 : decode cX12_house 91 = .ok (.iload 4, 2) := by decide +kernel
theorem dX12_house_93 : decode cX12_house 93 = .ok (.iadd, 1) := by decide +kernel
theorem dX12_house_94 : decode cX12_house 94 = .ok (.iaload, 1) := by decide +kernel
theorem dX12_house_95 : decode cX12_house 95 = .ok (.iload_n 1, 1) := by decide +kernel
theorem dX12_house_96 : decode cX12_house 96 = .ok (.if_icmp .ne 10, 3) := by decide +kernel
theorem dX12_house_99 : decode cX12_house 99 = .ok (.iconst 1, 1) := by decide +kernel
theorem dX12_house_100 : decode cX12_house 100 = .ok (.iload 4, 2) := by decide +kernel
theorem dX12_house_102 : decode cX12_house 102 = .ok (.ishl, 1) := by decide +kernel
theorem dX12_house_103 : decode cX12_house 103 = .ok (.goto 4, 3) := by decide +kernel
theorem dX12_house_106 : decode cX12_house 106 = .ok (.iconst 0, 1) := by decide +kernel
theorem dX12_house_107 : decode cX12_house 107 = .ok (.ior, 1) := by decide +kernel
theorem dX12_house_108 : decode cX12_house 108 = .ok (.istore_n 3, 1) := by decide +kernel
theorem dX12_house_109 : decode cX12_house 109 = .ok (.iinc 4 1, 3) := by decide +kernel
theorem dX12_house_112 : decode cX12_house 112 = .ok (.goto (-39), 3) := by decide +kernel
theorem dX12_house_115 : decode cX12_house 115 = .ok (.iload_n 3, 1) := by decide +kernel
theorem dX12_house_116 : decode cX12_house 116 = .ok (.ireturn, 1) := by decide +kernel
theorem dX12_house_117 : decode cX12_house 117 = .ok (.ldc 74, 2) := by decide +kernel
theorem dX12_house_119 : decode cX12_house 119 = .ok (.ireturn, 1) := by decide +kernel
theorem dX12_goesOn_0 : decode cX12_goesOn 0 = .ok (.iconst 1, 1) := by decide +kernel
theorem dX12_goesOn_1 : decode cX12_goesOn 1 = .ok (.istore_n 3, 1) := by decide +kernel
theorem dX12_goesOn_2 : decode cX12_goesOn 2 = .ok (.iconst 0, 1) := by decide +kernel
theorem dX12_goesOn_3 : decode cX12_goesOn 3 = .ok (.istore 4, 2) := by decide +kernel
theorem dX12_goesOn_5 : decode cX12_goesOn 5 = .ok (.iload 4, 2) := by decide +kernel
theorem dX12_goesOn_7 : decode cX12_goesOn 7 = .ok (.aload_n 0, 1) := by decide +kernel
theorem dX12_goesOn_8 : decode cX12_goesOn 8 = .ok (.getfield 29, 3) := by decide +kernel
theorem dX12_goesOn_11 : decode cX12_goesOn 11 = .ok (.iconst 0, 1) := by decide +kernel
theorem dX12_goesOn_12 : decode cX12_goesOn 12 = .ok (.iaload, 1) := by decide +kernel
theorem dX12_goesOn_13 : decode cX12_goesOn 13 = .ok (.if_icmp .ge 84, 3) := by decide +kernel
theorem dX12_goesOn_16 : decode cX12_goesOn 16 = .ok (.iload 4, 2) := by decide +kernel
theorem dX12_goesOn_18 : decode cX12_goesOn 18 = .ok (.iload_n 2, 1) := by decide +kernel
theorem dX12_goesOn_19 : decode cX12_goesOn 19 = .ok (.iadd, 1) := by decide +kernel
theorem dX12_goesOn_20 : decode cX12_goesOn 20 = .ok (.istore 5, 2) := by decide +kernel
theorem dX12_goesOn_22 : decode cX12_goesOn 22 = .ok (.iload 5, 2) := by decide +kernel
theorem dX12_goesOn_24 : decode cX12_goesOn 24 = .ok (.aload_n 0, 1) := by decide +kernel
theorem dX12_goesOn_25 : decode cX12_goesOn 25 = .ok (.getfield 29, 3) := by decide +kernel
theorem dX12_goesOn_28 : decode cX12_goesOn 28 = .ok (.iconst 0, 1) := by decide +kernel
theorem dX12_goesOn_29 : decode cX12_goesOn 29 = .ok (.iaload, 1) := by decide +kernel
theorem dX12_goesOn_30 : decode cX12_goesOn 30 = .ok (.if_icmp .ge 61, 3) := by decide +kernel
theorem dX12_goesOn_33 : decode cX12_goesOn 33 = .ok (.iload_n 3, 1) := by decide +kernel
theorem dX12_goesOn_34 : decode cX12_goesOn 34 = .ok (.ifCond .eq 46, 3) := by decide +kernel
theorem dX12_goesOn_37 : decode cX12_goesOn 37 = .ok (.iload_n 1, 1) := by decide +kernel
theorem dX12_goesOn_38 : decode cX12_goesOn 38 = .ok (.iload 4, 2) := by decide +kernel
theorem dX12_goesOn_40 : decode cX12_goesOn 40 = .ok (.invokestatic 181, 3) := by decide +kernel
theorem dX12_goesOn_43 : decode cX12_goesOn 43 = .ok (.ifCond .eq 33, 3) := by decide +kernel
theorem dX12_goesOn_46 : decode cX12_goesOn 46 = .ok (.iload_n 1, 1) := by decide +kernel
theorem dX12_goesOn_47 : decode cX12_goesOn 47 = .ok (.iload 5, 2) := by decide +kernel
theorem dX12_goesOn_49 : decode cX12_goesOn 49 = .ok (.invokestatic 181, 3) := by decide +kernel
theorem dX12_goesOn_52 : decode cX12_goesOn 52 = .ok (.ifCond .eq 24, 3) := by decide +kernel
theorem dX12_goesOn_55 : decode cX12_goesOn 55 = .ok (.aload_n 0, 1) := by decide +kernel
theorem dX12_goesOn_56 : decode cX12_goesOn 56 = .ok (.getfield 29, 3) := by decide +kernel
theorem dX12_goesOn_59 : decode cX12_goesOn 59 = .ok (.iconst 4, 1) := by decide +kernel
theorem dX12_goesOn_60 : decode cX12_goesOn 60 = .ok (.iload 4, 2) := by decide +kernel
theorem dX12_goesOn_62 : decode cX12_goesOn 62 = .ok (.iadd, 1) := by decide +kernel
theorem dX12_goesOn_63 : decode cX12_goesOn 63 = .ok (.iaload, 1) := by decide +kernel
theorem dX12_goesOn_64 : decode cX12_goesOn 64 = .ok (.aload_n 0, 1) := by decide +kernel
theorem dX12_goesOn_65 : decode cX12_goesOn 65 = .ok (.getfield 29, 3) := by decide +kernel
theorem dX12_goesOn_68 : decode cX12_goesOn 68 = .ok (.iconst 4, 1) := by decide +kernel
theorem dX12_goesOn_69 : decode cX12_goesOn 69 = .ok (.iload 5, 2) := by decide +kernel
theorem dX12_goesOn_71 : decode cX12_goesOn 71 = .ok (.iadd, 1) := by decide +kernel
theorem dX12_goesOn_72 : decode cX12_goesOn 72 = .ok (.iaload, 1) := by decide +kernel
theorem dX12_goesOn_73 : decode cX12_goesOn 73 = .ok (.if_icmp .ne 7, 3) := by decide +kernel
theorem dX12_goesOn_76 : decode cX12_goesOn 76 = .ok (.iconst 1, 1) := by decide +kernel
theorem dX12_goesOn_77 : decode cX12_goesOn 77 = .ok (.goto 4, 3) := by decide +kernel
theorem dX12_goesOn_80 : decode cX12_goesOn 80 = .ok (.iconst 0, 1) := by decide +kernel
theorem dX12_goesOn_81 : decode cX12_goesOn 81 = .ok (.istore_n 3, 1) := by decide +kernel
theorem dX12_goesOn_82 : decode cX12_goesOn 82 = .ok (.iload 5, 2) := by decide +kernel
theorem dX12_goesOn_84 : decode cX12_goesOn 84 = .ok (.iload_n 2, 1) := by decide +kernel
theorem dX12_goesOn_85 : decode cX12_goesOn 85 = .ok (.iadd, 1) := by decide +kernel
theorem dX12_goesOn_86 : decode cX12_goesOn 86 = .ok (.istore 5, 2) := by decide +kernel
theorem dX12_goesOn_88 : decode cX12_goesOn 88 = .ok (.goto (-66), 3) := by decide +kernel
theorem dX12_goesOn_91 : decode cX12_goesOn 91 = .ok (.iinc 4 1, 3) := by decide +kernel
theorem dX12_goesOn_94 : decode cX12_goesOn 94 = .ok (.goto (-89), 3) := by decide +kernel
theorem dX12_goesOn_97 : decode cX12_goesOn 97 = .ok (.iload_n 3, 1) := by decide +kernel
theorem dX12_goesOn_98 : decode cX12_goesOn 98 = .ok (.ireturn, 1) := by decide +kernel
theorem dX12_periodOf_0 : decode cX12_periodOf 0 = .ok (.iconst 1, 1) := by decide +kernel
theorem dX12_periodOf_1 : decode cX12_periodOf 1 = .ok (.istore_n 2, 1) := by decide +kernel
theorem dX12_periodOf_2 : decode cX12_periodOf 2 = .ok (.aload_n 0, 1) := by decide +kernel
theorem dX12_periodOf_3 : decode cX12_periodOf 3 = .ok (.aload_n 0, 1) := by decide +kernel
theorem dX12_periodOf_4 : decode cX12_periodOf 4 = .ok (.getfield 35, 3) := by decide +kernel
theorem dX12_periodOf_7 : decode cX12_periodOf 7 = .ok (.bipush 17, 2) := by decide +kernel
theorem dX12_periodOf_9 : decode cX12_periodOf 9 = .ok (.iload_n 1, 1) := by decide +kernel
theorem dX12_periodOf_10 : decode cX12_periodOf 10 = .ok (.iadd, 1) := by decide +kernel
theorem dX12_periodOf_11 : decode cX12_periodOf 11 = .ok (.iaload, 1) := by decide +kernel
theorem dX12_periodOf_12 : decode cX12_periodOf 12 = .ok (.iload_n 2, 1) := by decide +kernel
theorem dX12_periodOf_13 : decode cX12_periodOf 13 = .ok (.invokevirtual 194, 3) := by decide +kernel
theorem dX12_periodOf_16 : decode cX12_periodOf 16 = .ok (.ifCond .ne 9, 3) := by decide +kernel
theorem dX12_periodOf_19 : decode cX12_periodOf 19 = .ok (.iinc 2 1, 3) := by decide +kernel
theorem dX12_periodOf_22 : decode cX12_periodOf 22 = .ok (.goto (-20), 3) := by decide +kernel
theorem dX12_periodOf_25 : decode cX12_periodOf 25 = .ok (.iload_n 2, 1) := by decide +kernel
theorem dX12_periodOf_26 : decode cX12_periodOf 26 = .ok (.ireturn, 1) := by decide +kernel
theorem dX12_folk_0 : decode cX12_folk 0 = .ok (.aload_n 0, 1) := by decide +kernel
theorem dX12_folk_1 : decode cX12_folk 1 = .ok (.iload_n 1, 1) := by decide +kernel
theorem dX12_folk_2 : decode cX12_folk 2 = .ok (.invokevirtual 185, 3) := by decide +kernel
theorem dX12_folk_5 : decode cX12_folk 5 = .ok (.ifCond .ne 6, 3) := by decide +kernel
theorem dX12_folk_8 : decode cX12_folk 8 = .ok (.ldc 74, 2) := by decide +kernel
theorem dX12_folk_10 : decode cX12_folk 10 = .ok (.ireturn, 1) := by decide +kernel
theorem dX12_folk_11 : decode cX12_folk 11 = .ok (.iload_n 2, 1) := by decide +kernel
theorem dX12_folk_12 : decode cX12_folk 12 = .ok (.tableswitch 99 0 4 #[36, 46, 56, 66, 93], 36) := by decide +kernel
theorem dX12_folk_48 : decode cX12_folk 48 = .ok (.aload_n 0, 1) := by decide +kernel
theorem dX12_folk_49 : decode cX12_folk 49 = .ok (.getfield 35, 3) := by decide +kernel
theorem dX12_folk_52 : decode cX12_folk 52 = .ok (.bipush 7, 2) := by decide +kernel
theorem dX12_folk_54 : decode cX12_folk 54 = .ok (.iload_n 1, 1) := by decide +kernel
theorem dX12_folk_55 : decode cX12_folk 55 = .ok (.iadd, 1) := by decide +kernel
theorem dX12_folk_56 : decode cX12_folk 56 = .ok (.iaload, 1) := by decide +kernel
theorem dX12_folk_57 : decode cX12_folk 57 = .ok (.ireturn, 1) := by decide +kernel
theorem dX12_folk_58 : decode cX12_folk 58 = .ok (.aload_n 0, 1) := by decide +kernel
theorem dX12_folk_59 : decode cX12_folk 59 = .ok (.getfield 35, 3) := by decide +kernel
theorem dX12_folk_62 : decode cX12_folk 62 = .ok (.bipush 12, 2) := by decide +kernel
theorem dX12_folk_64 : decode cX12_folk 64 = .ok (.iload_n 1, 1) := by decide +kernel
theorem dX12_folk_65 : decode cX12_folk 65 = .ok (.iadd, 1) := by decide +kernel
theorem dX12_folk_66 : decode cX12_folk 66 = .ok (.iaload, 1) := by decide +kernel
theorem dX12_folk_67 : decode cX12_folk 67 = .ok (.ireturn, 1) := by decide +kernel
theorem dX12_folk_68 : decode cX12_folk 68 = .ok (.aload_n 0, 1) := by decide +kernel
theorem dX12_folk_69 : decode cX12_folk 69 = .ok (.getfield 35, 3) := by decide +kernel
theorem dX12_folk_72 : decode cX12_folk 72 = .ok (.bipush 17, 2) := by decide +kernel
theorem dX12_folk_74 : decode cX12_folk 74 = .ok (.iload_n 1, 1) := by decide +kernel
theorem dX12_folk_75 : decode cX12_folk 75 = .ok (.iadd, 1) := by decide +kernel
theorem dX12_folk_76 : decode cX12_folk 76 = .ok (.iaload, 1) := by decide +kernel
theorem dX12_folk_77 : decode cX12_folk 77 = .ok (.ireturn, 1) := by decide +kernel
theorem dX12_folk_78 : decode cX12_folk 78 = .ok (.aload_n 0, 1) := by decide +kernel
theorem dX12_folk_79 : decode cX12_folk 79 = .ok (.aload_n 0, 1) := by decide +kernel
theorem dX12_folk_80 : decode cX12_folk 80 = .ok (.getfield 35, 3) := by decide +kernel
theorem dX12_folk_83 : decode cX12_folk 83 = .ok (.aload_n 0, 1) := by decide +kernel
theorem dX12_folk_84 : decode cX12_folk 84 = .ok (.getfield 35, 3) := by decide +kernel
theorem dX12_folk_87 : decode cX12_folk 87 = .ok (.bipush 7, 2) := by decide +kernel
theorem dX12_folk_89 : decode cX12_folk 89 = .ok (.iload_n 1, 1) := by decide +kernel
theorem dX12_folk_90 : decode cX12_folk 90 = .ok (.iadd, 1) := by decide +kernel
theorem dX12_folk_91 : decode cX12_folk 91 = .ok (.iaload, 1) := by decide +kernel
theorem dX12_folk_92 : decode cX12_folk 92 = .ok (.aload_n 0, 1) := by decide +kernel
theorem dX12_folk_93 : decode cX12_folk 93 = .ok (.getfield 29, 3) := by decide +kernel
theorem dX12_folk_96 : decode cX12_folk 96 = .ok (.bipush 28, 2) := by decide +kernel
theorem dX12_folk_98 : decode cX12_folk 98 = .ok (.iload_n 1, 1) := by decide +kernel
theorem dX12_folk_99 : decode cX12_folk 99 = .ok (.iadd, 1) := by decide +kernel
theorem dX12_folk_100 : decode cX12_folk 100 = .ok (.iaload, 1) := by decide +kernel
theorem dX12_folk_101 : decode cX12_folk 101 = .ok (.invokevirtual 155, 3) := by decide +kernel
theorem dX12_folk_104 : decode cX12_folk 104 = .ok (.ireturn, 1) := by decide +kernel
theorem dX12_folk_105 : decode cX12_folk 105 = .ok (.aload_n 0, 1) := by decide +kernel
theorem dX12_folk_106 : decode cX12_folk 106 = .ok (.iload_n 1, 1) := by decide +kernel
theorem dX12_folk_107 : decode cX12_folk 107 = .ok (.invokevirtual 197, 3) := by decide +kernel
theorem dX12_folk_110 : decode cX12_folk 110 = .ok (.ireturn, 1) := by decide +kernel
theorem dX12_folk_111 : decode cX12_folk 111 = .ok (.ldc 74, 2) := by decide +kernel
theorem dX12_folk_113 : decode cX12_folk 113 = .ok (.ireturn, 1) := by decide +kernel
theorem dX12_take_0 : decode cX12_take 0 = .ok (.iconst 0, 1) := by decide +kernel
theorem dX12_take_1 : decode cX12_take 1 = .ok (.istore_n 1, 1) := by decide +kernel
theorem dX12_take_2 : decode cX12_take 2 = .ok (.iload_n 1, 1) := by decide +kernel
theorem dX12_take_3 : decode cX12_take 3 = .ok (.bipush 22, 2) := by decide +kernel
theorem dX12_take_5 : decode cX12_take 5 = .ok (.if_icmp .ge 21, 3) := by decide +kernel
theorem dX12_take_8 : decode cX12_take 8 = .ok (.aload_n 0, 1) := by decide +kernel
theorem dX12_take_9 : decode cX12_take 9 = .ok (.getfield 38, 3) := by decide +kernel
theorem dX12_take_12 : decode cX12_take 12 = .ok (.iload_n 1, 1) := by decide +kernel
theorem dX12_take_13 : decode cX12_take 13 = .ok (.aload_n 0, 1) := by decide +kernel
theorem dX12_take_14 : decode cX12_take 14 = .ok (.getfield 35, 3) := by decide +kernel
theorem dX12_take_17 : decode cX12_take 17 = .ok (.iload_n 1, 1) := by decide +kernel
theorem dX12_take_18 : decode cX12_take 18 = .ok (.iaload, 1) := by decide +kernel
theorem dX12_take_19 : decode cX12_take 19 = .ok (.iastore, 1) := by decide +kernel
theorem dX12_take_20 : decode cX12_take 20 = .ok (.iinc 1 1, 3) := by decide +kernel
theorem dX12_take_23 : decode cX12_take 23 = .ok (.goto (-21), 3) := by decide +kernel
theorem dX12_take_26 : decode cX12_take 26 = .ok (.return_, 1) := by decide +kernel
theorem dX12_ahead_0 : decode cX12_ahead 0 = .ok (.aload_n 0, 1) := by decide +kernel
theorem dX12_ahead_1 : decode cX12_ahead 1 = .ok (.iload_n 1, 1) := by decide +kernel
theorem dX12_ahead_2 : decode cX12_ahead 2 = .ok (.invokevirtual 185, 3) := by decide +kernel
theorem dX12_ahead_5 : decode cX12_ahead 5 = .ok (.ifCond .eq 22, 3) := by decide +kernel
theorem dX12_ahead_8 : decode cX12_ahead 8 = .ok (.iload_n 2, 1) := by decide +kernel
theorem dX12_ahead_9 : decode cX12_ahead 9 = .ok (.iconst 0, 1) := by decide +kernel
theorem dX12_ahead_10 : decode cX12_ahead 10 = .ok (.bipush 60, 2) := by decide +kernel
theorem dX12_ahead_12 : decode cX12_ahead 12 = .ok (.invokestatic 61, 3) := by decide +kernel
theorem dX12_ahead_15 : decode cX12_ahead 15 = .ok (.ifCond .eq 12, 3) := by decide +kernel
theorem dX12_ahead_18 : decode cX12_ahead 18 = .ok (.iload_n 3, 1) := by decide +kernel
theorem dX12_ahead_19 : decode cX12_ahead 19 = .ok (.iconst 0, 1) := by decide +kernel
theorem dX12_ahead_20 : decode cX12_ahead 20 = .ok (.iconst 1, 1) := by decide +kernel
theorem dX12_ahead_21 : decode cX12_ahead 21 = .ok (.invokestatic 61, 3) := by decide +kernel
theorem dX12_ahead_24 : decode cX12_ahead 24 = .ok (.ifCond .ne 6, 3) := by decide +kernel
theorem dX12_ahead_27 : decode cX12_ahead 27 = .ok (.ldc 74, 2) := by decide +kernel
theorem dX12_ahead_29 : decode cX12_ahead 29 = .ok (.ireturn, 1) := by decide +kernel
theorem dX12_ahead_30 : decode cX12_ahead 30 = .ok (.aload_n 0, 1) := by decide +kernel
theorem dX12_ahead_31 : decode cX12_ahead 31 = .ok (.invokevirtual 200, 3) := by decide +kernel
theorem dX12_ahead_34 : decode cX12_ahead 34 = .ok (.iconst 0, 1) := by decide +kernel
theorem dX12_ahead_35 : decode cX12_ahead 35 = .ok (.istore 4, 2) := by decide +kernel
theorem dX12_ahead_37 : decode cX12_ahead 37 = .ok (.iload 4, 2) := by decide +kernel
theorem dX12_ahead_39 : decode cX12_ahead 39 = .ok (.iload_n 2, 1) := by decide +kernel
theorem dX12_ahead_40 : decode cX12_ahead 40 = .ok (.if_icmp .ge 17, 3) := by decide +kernel
theorem dX12_ahead_43 : decode cX12_ahead 43 = .ok (.aload_n 0, 1) := by decide +kernel
theorem dX12_ahead_44 : decode cX12_ahead 44 = .ok (.aload_n 0, 1) := by decide +kernel
theorem dX12_ahead_45 : decode cX12_ahead 45 = .ok (.getfield 38, 3) := by decide +kernel
theorem dX12_ahead_48 : decode cX12_ahead 48 = .ok (.invokevirtual 167, 3) := by decide +kernel
theorem dX12_ahead_51 : decode cX12_ahead 51 = .ok (.iinc 4 1, 3) := by decide +kernel
theorem dX12_ahead_54 : decode cX12_ahead 54 = .ok (.goto (-17), 3) := by decide +kernel
theorem dX12_ahead_57 : decode cX12_ahead 57 = .ok (.aload_n 0, 1) := by decide +kernel
theorem dX12_ahead_58 : decode cX12_ahead 58 = .ok (.getfield 38, 3) := by decide +kernel
theorem dX12_ahead_61 : decode cX12_ahead 61 = .ok (.iload_n 3, 1) := by decide +kernel
theorem dX12_ahead_62 : decode cX12_ahead 62 = .ok (.ifCond .ne 8, 3) := by decide +kernel
theorem dX12_ahead_65 : decode cX12_ahead 65 = .ok (.bipush 7, 2) := by decide +kernel
theorem dX12_ahead_67 : decode cX12_ahead 67 = .ok (.goto 5, 3) := by decide +kernel
theorem dX12_ahead_70 : decode cX12_ahead 70 = .ok (.bipush 17, 2) := by decide +kernel
theorem dX12_ahead_72 : decode cX12_ahead 72 = .ok (.iload_n 1, 1) := by decide +kernel
theorem dX12_ahead_73 : decode cX12_ahead 73 = .ok (.iadd, 1) := by decide +kernel
theorem dX12_ahead_74 : decode cX12_ahead 74 = .ok (.iaload, 1) := by decide +kernel
theorem dX12_ahead_75 : decode cX12_ahead 75 = .ok (.ireturn, 1) := by decide +kernel
theorem dX12_allBy_0 : decode cX12_allBy 0 = .ok (.aload_n 0, 1) := by decide +kernel
theorem dX12_allBy_1 : decode cX12_allBy 1 = .ok (.invokevirtual 200, 3) := by decide +kernel
theorem dX12_allBy_4 : decode cX12_allBy 4 = .ok (.iconst 0, 1) := by decide +kernel
theorem dX12_allBy_5 : decode cX12_allBy 5 = .ok (.istore_n 2, 1) := by decide +kernel
theorem dX12_allBy_6 : decode cX12_allBy 6 = .ok (.iload_n 2, 1) := by decide +kernel
theorem dX12_allBy_7 : decode cX12_allBy 7 = .ok (.bipush 60, 2) := by decide +kernel
theorem dX12_allBy_9 : decode cX12_allBy 9 = .ok (.if_icmp .gt 35, 3) := by decide +kernel
theorem dX12_allBy_12 : decode cX12_allBy 12 = .ok (.aload_n 0, 1) := by decide +kernel
theorem dX12_allBy_13 : decode cX12_allBy 13 = .ok (.getfield 38, 3) := by decide +kernel
theorem dX12_allBy_16 : decode cX12_allBy 16 = .ok (.bipush 17, 2) := by decide +kernel
theorem dX12_allBy_18 : decode cX12_allBy 18 = .ok (.iload_n 1, 1) := by decide +kernel
theorem dX12_allBy_19 : decode cX12_allBy 19 = .ok (.iadd, 1) := by decide +kernel
theorem dX12_allBy_20 : decode cX12_allBy 20 = .ok (.iaload, 1) := by decide +kernel
theorem dX12_allBy_21 : decode cX12_allBy 21 = .ok (.aload_n 0, 1) := by decide +kernel
theorem dX12_allBy_22 : decode cX12_allBy 22 = .ok (.invokevirtual 203, 3) := by decide +kernel
theorem dX12_allBy_25 : decode cX12_allBy 25 = .ok (.if_icmp .ne 5, 3) := by decide +kernel
theorem dX12_allBy_28 : decode cX12_allBy 28 = .ok (.iload_n 2, 1) := by decide +kernel
theorem dX12_allBy_29 : decode cX12_allBy 29 = .ok (.ireturn, 1) := by decide +kernel
theorem dX12_allBy_30 : decode cX12_allBy 30 = .ok (.aload_n 0, 1) := by decide +kernel
theorem dX12_allBy_31 : decode cX12_allBy 31 = .ok (.aload_n 0, 1) := by decide +kernel
theorem dX12_allBy_32 : decode cX12_allBy 32 = .ok (.getfield 38, 3) := by decide +kernel
theorem dX12_allBy_35 : decode cX12_allBy 35 = .ok (.invokevirtual 167, 3) := by decide +kernel
theorem dX12_allBy_38 : decode cX12_allBy 38 = .ok (.iinc 2 1, 3) := by decide +kernel
theorem dX12_allBy_41 : decode cX12_allBy 41 = .ok (.goto (-35), 3) := by decide +kernel
theorem dX12_allBy_44 : decode cX12_allBy 44 = .ok (.ldc 60, 2) := by decide +kernel
theorem dX12_allBy_46 : decode cX12_allBy 46 = .ok (.ireturn, 1) := by decide +kernel
theorem dX12_all_0 : decode cX12_all 0 = .ok (.aload_n 0, 1) := by decide +kernel
theorem dX12_all_1 : decode cX12_all 1 = .ok (.iload_n 1, 1) := by decide +kernel
theorem dX12_all_2 : decode cX12_all 2 = .ok (.invokevirtual 185, 3) := by decide +kernel
theorem dX12_all_5 : decode cX12_all 5 = .ok (.ifCond .eq 11, 3) := by decide +kernel
theorem dX12_all_8 : decode cX12_all 8 = .ok (.aload_n 0, 1) := by decide +kernel
theorem dX12_all_9 : decode cX12_all 9 = .ok (.iload_n 1, 1) := by decide +kernel
theorem dX12_all_10 : decode cX12_all 10 = .ok (.invokevirtual 206, 3) := by decide +kernel
theorem dX12_all_13 : decode cX12_all 13 = .ok (.goto 5, 3) := by decide +kernel
theorem dX12_all_16 : decode cX12_all 16 = .ok (.ldc 74, 2) := by decide +kernel
theorem dX12_all_18 : decode cX12_all 18 = .ok (.ireturn, 1) := by decide +kernel
theorem dX12_first_0 : decode cX12_first 0 = .ok (.aload_n 0, 1) := by decide +kernel
theorem dX12_first_1 : decode cX12_first 1 = .ok (.getfield 141, 3) := by decide +kernel
theorem dX12_first_4 : decode cX12_first 4 = .ok (.ifCond .ne 6, 3) := by decide +kernel
theorem dX12_first_7 : decode cX12_first 7 = .ok (.ldc 163, 2) := by decide +kernel
theorem dX12_first_9 : decode cX12_first 9 = .ok (.ireturn, 1) := by decide +kernel
theorem dX12_first_10 : decode cX12_first 10 = .ok (.iload_n 1, 1) := by decide +kernel
theorem dX12_first_11 : decode cX12_first 11 = .ok (.iconst 0, 1) := by decide +kernel
theorem dX12_first_12 : decode cX12_first 12 = .ok (.iconst 1, 1) := by decide +kernel
theorem dX12_first_13 : decode cX12_first 13 = .ok (.invokestatic 61, 3) := by decide +kernel
theorem dX12_first_16 : decode cX12_first 16 = .ok (.ifCond .ne 6, 3) := by decide +kernel
theorem dX12_first_19 : decode cX12_first 19 = .ok (.ldc 74, 2) := by decide +kernel
theorem dX12_first_21 : decode cX12_first 21 = .ok (.ireturn, 1) := by decide +kernel
theorem dX12_first_22 : decode cX12_first 22 = .ok (.ldc 60, 2) := by decide +kernel
theorem dX12_first_24 : decode cX12_first 24 = .ok (.istore_n 2, 1) := by decide +kernel
theorem dX12_first_25 : decode cX12_first 25 = .ok (.ldc 60, 2) := by decide +kernel
theorem dX12_first_27 : decode cX12_first 27 = .ok (.istore_n 3, 1) := by decide +kernel
theorem dX12_first_28 : decode cX12_first 28 = .ok (.iconst 0, 1) := by decide +kernel
theorem dX12_first_29 : decode cX12_first 29 = .ok (.istore 4, 2) := by decide +kernel
theorem dX12_first_31 : decode cX12_first 31 = .ok (.iload 4, 2) := by decide +kernel
theorem dX12_first_33 : decode cX12_first 33 = .ok (.aload_n 0, 1) := by decide +kernel
theorem dX12_first_34 : decode cX12_first 34 = .ok (.getfield 29, 3) := by decide +kernel
theorem dX12_first_37 : decode cX12_first 37 = .ok (.iconst 3, 1) := by decide +kernel
theorem dX12_first_38 : decode cX12_first 38 = .ok (.iaload, 1) := by decide +kernel
theorem dX12_first_39 : decode cX12_first 39 = .ok (.if_icmp .ge 42, 3) := by decide +kernel
theorem dX12_first_42 : decode cX12_first 42 = .ok (.aload_n 0, 1) := by decide +kernel
theorem dX12_first_43 : decode cX12_first 43 = .ok (.iload 4, 2) := by decide +kernel
theorem dX12_first_45 : decode cX12_first 45 = .ok (.invokevirtual 206, 3) := by decide +kernel
theorem dX12_first_48 : decode cX12_first 48 = .ok (.istore 5, 2) := by decide +kernel
theorem dX12_first_50 : decode cX12_first 50 = .ok (.iload 5, 2) := by decide +kernel
theorem dX12_first_52 : decode cX12_first 52 = .ok (.ldc 60, 2) := by decide +kernel
theorem dX12_first_54 : decode cX12_first 54 = .ok (.if_icmp .eq 21, 3) := by decide +kernel
theorem dX12_first_57 : decode cX12_first 57 = .ok (.iload_n 3, 1) := by decide +kernel
theorem dX12_first_58 : decode cX12_first 58 = .ok (.ldc 60, 2) := by decide +kernel
theorem dX12_first_60 : decode cX12_first 60 = .ok (.if_icmp .eq 9, 3) := by decide +kernel
theorem dX12_first_63 : decode cX12_first 63 = .ok (.iload 5, 2) := by decide +kernel
theorem dX12_first_65 : decode cX12_first 65 = .ok (.iload_n 3, 1) := by decide +kernel
theorem dX12_first_66 : decode cX12_first 66 = .ok (.if_icmp .ge 9, 3) := by decide +kernel
theorem dX12_first_69 : decode cX12_first 69 = .ok (.iload 4, 2) := by decide +kernel
theorem dX12_first_71 : decode cX12_first 71 = .ok (.istore_n 2, 1) := by decide +kernel
theorem dX12_first_72 : decode cX12_first 72 = .ok (.iload 5, 2) := by decide +kernel
theorem dX12_first_74 : decode cX12_first 74 = .ok (.istore_n 3, 1) := by decide +kernel
theorem dX12_first_75 : decode cX12_first 75 = .ok (.iinc 4 1, 3) := by decide +kernel
theorem dX12_first_78 : decode cX12_first 78 = .ok (.goto (-47), 3) := by decide +kernel
theorem dX12_first_81 : decode cX12_first 81 = .ok (.iload_n 1, 1) := by decide +kernel
theorem dX12_first_82 : decode cX12_first 82 = .ok (.ifCond .ne 7, 3) := by decide +kernel
theorem dX12_first_85 : decode cX12_first 85 = .ok (.iload_n 2, 1) := by decide +kernel
theorem dX12_first_86 : decode cX12_first 86 = .ok (.goto 4, 3) := by decide +kernel
theorem dX12_first_89 : decode cX12_first 89 = .ok (.iload_n 3, 1) := by decide +kernel
theorem dX12_first_90 : decode cX12_first 90 = .ok (.ireturn, 1) := by decide +kernel
theorem dX12_both_0 : decode cX12_both 0 = .ok (.aload_n 0, 1) := by decide +kernel
theorem dX12_both_1 : decode cX12_both 1 = .ok (.iload_n 1, 1) := by decide +kernel
theorem dX12_both_2 : decode cX12_both 2 = .ok (.invokevirtual 185, 3) := by decide +kernel
theorem dX12_both_5 : decode cX12_both 5 = .ok (.ifCond .eq 25, 3) := by decide +kernel
theorem dX12_both_8 : decode cX12_both 8 = .ok (.aload_n 0, 1) := by decide +kernel
theorem dX12_both_9 : decode cX12_both 9 = .ok (.iload_n 2, 1) := by decide +kernel
theorem dX12_both_10 : decode cX12_both 10 = .ok (.invokevirtual 185, 3) := by decide +kernel
theorem dX12_both_13 : decode cX12_both 13 = .ok (.ifCond .eq 17, 3) := by decide +kernel
theorem dX12_both_16 : decode cX12_both 16 = .ok (.iload_n 1, 1) := by decide +kernel
theorem dX12_both_17 : decode cX12_both 17 = .ok (.iload_n 2, 1) := by decide +kernel
theorem dX12_both_18 : decode cX12_both 18 = .ok (.if_icmp .eq 12, 3) := by decide +kernel
theorem dX12_both_21 : decode cX12_both 21 = .ok (.iload_n 3, 1) := by decide +kernel
theorem dX12_both_22 : decode cX12_both 22 = .ok (.iconst 0, 1) := by decide +kernel
theorem dX12_both_23 : decode cX12_both 23 = .ok (.iconst 1, 1) := by decide +kernel
theorem dX12_both_24 : decode cX12_both 24 = .ok (.invokestatic 61, 3) := by decide +kernel
theorem dX12_both_27 : decode cX12_both 27 = .ok (.ifCond .ne 6, 3) := by decide +kernel
theorem dX12_both_30 : decode cX12_both 30 = .ok (.ldc 74, 2) := by decide +kernel
theorem dX12_both_32 : decode cX12_both 32 = .ok (.ireturn, 1) := by decide +kernel
theorem dX12_both_33 : decode cX12_both 33 = .ok (.aload_n 0, 1) := by decide +kernel
theorem dX12_both_34 : decode cX12_both 34 = .ok (.getfield 35, 3) := by decide +kernel
theorem dX12_both_37 : decode cX12_both 37 = .ok (.bipush 17, 2) := by decide +kernel
theorem dX12_both_39 : decode cX12_both 39 = .ok (.iload_n 1, 1) := by decide +kernel
theorem dX12_both_40 : decode cX12_both 40 = .ok (.iadd, 1) := by decide +kernel
theorem dX12_both_41 : decode cX12_both 41 = .ok (.iaload, 1) := by decide +kernel
theorem dX12_both_42 : decode cX12_both 42 = .ok (.istore 4, 2) := by decide +kernel
theorem dX12_both_44 : decode cX12_both 44 = .ok (.aload_n 0, 1) := by decide +kernel
theorem dX12_both_45 : decode cX12_both 45 = .ok (.getfield 35, 3) := by decide +kernel
theorem dX12_both_48 : decode cX12_both 48 = .ok (.bipush 17, 2) := by decide +kernel
theorem dX12_both_50 : decode cX12_both 50 = .ok (.iload_n 2, 1) := by decide +kernel
theorem dX12_both_51 : decode cX12_both 51 = .ok (.iadd, 1) := by decide +kernel
theorem dX12_both_52 : decode cX12_both 52 = .ok (.iaload, 1) := by decide +kernel
theorem dX12_both_53 : decode cX12_both 53 = .ok (.istore 5, 2) := by decide +kernel
theorem dX12_both_55 : decode cX12_both 55 = .ok (.iload_n 3, 1) := by decide +kernel
theorem dX12_both_56 : decode cX12_both 56 = .ok (.ifCond .ne 11, 3) := by decide +kernel
theorem dX12_both_59 : decode cX12_both 59 = .ok (.iload 4, 2) := by decide +kernel
theorem dX12_both_61 : decode cX12_both 61 = .ok (.iload 5, 2) := by decide +kernel
theorem dX12_both_63 : decode cX12_both 63 = .ok (.iand, 1) := by decide +kernel
theorem dX12_both_64 : decode cX12_both 64 = .ok (.goto 20, 3) := by decide +kernel
theorem dX12_both_67 : decode cX12_both 67 = .ok (.iload 4, 2) := by decide +kernel
theorem dX12_both_69 : decode cX12_both 69 = .ok (.iload 5, 2) := by decide +kernel
theorem dX12_both_71 : decode cX12_both 71 = .ok (.iconst 1, 1) := by decide +kernel
theorem dX12_both_72 : decode cX12_both 72 = .ok (.ishr, 1) := by decide +kernel
theorem dX12_both_73 : decode cX12_both 73 = .ok (.iand, 1) := by decide +kernel
theorem dX12_both_74 : decode cX12_both 74 = .ok (.iload 4, 2) := by decide +kernel
theorem dX12_both_76 : decode cX12_both 76 = .ok (.iconst 1, 1) := by decide +kernel
theorem dX12_both_77 : decode cX12_both 77 = .ok (.ishr, 1) := by decide +kernel
theorem dX12_both_78 : decode cX12_both 78 = .ok (.iconst (-1), 1) := by decide +kernel
theorem dX12_both_79 : decode cX12_both 79 = .ok (.ixor, 1) := by decide +kernel
theorem dX12_both_80 : decode cX12_both 80 = .ok (.iand, 1) := by decide +kernel
theorem dX12_both_81 : decode cX12_both 81 = .ok (.invokestatic 209, 3) := by decide +kernel
theorem dX12_both_84 : decode cX12_both 84 = .ok (.ireturn, 1) := by decide +kernel
theorem dX12_together_0 : decode cX12_together 0 = .ok (.aload_n 0, 1) := by decide +kernel
theorem dX12_together_1 : decode cX12_together 1 = .ok (.getfield 141, 3) := by decide +kernel
theorem dX12_together_4 : decode cX12_together 4 = .ok (.ifCond .ne 6, 3) := by decide +kernel
theorem dX12_together_7 : decode cX12_together 7 = .ok (.ldc 163, 2) := by decide +kernel
theorem dX12_together_9 : decode cX12_together 9 = .ok (.ireturn, 1) := by decide +kernel
theorem dX12_together_10 : decode cX12_together 10 = .ok (.iload_n 1, 1) := by decide +kernel
theorem dX12_together_11 : decode cX12_together 11 = .ok (.iconst 0, 1) := by decide +kernel
theorem dX12_together_12 : decode cX12_together 12 = .ok (.iconst 1, 1) := by decide +kernel
theorem dX12_together_13 : decode cX12_together 13 = .ok (.invokestatic 61, 3) := by decide +kernel
theorem dX12_together_16 : decode cX12_together 16 = .ok (.ifCond .ne 6, 3) := by decide +kernel
theorem dX12_together_19 : decode cX12_together 19 = .ok (.ldc 74, 2) := by decide +kernel
theorem dX12_together_21 : decode cX12_together 21 = .ok (.ireturn, 1) := by decide +kernel
theorem dX12_together_22 : decode cX12_together 22 = .ok (.ldc 60, 2) := by decide +kernel
theorem dX12_together_24 : decode cX12_together 24 = .ok (.istore_n 2, 1) := by decide +kernel
theorem dX12_together_25 : decode cX12_together 25 = .ok (.iconst 0, 1) := by decide +kernel
theorem dX12_together_26 : decode cX12_together 26 = .ok (.istore_n 3, 1) := by decide +kernel
theorem dX12_together_27 : decode cX12_together 27 = .ok (.iload_n 3, 1) := by decide +kernel
theorem dX12_together_28 : decode cX12_together 28 = .ok (.iconst 1, 1) := by decide +kernel
theorem dX12_together_29 : decode cX12_together 29 = .ok (.aload_n 0, 1) := by decide +kernel
theorem dX12_together_30 : decode cX12_together 30 = .ok (.getfield 29, 3) := by decide +kernel
theorem dX12_together_33 : decode cX12_together 33 = .ok (.iconst 3, 1) := by decide +kernel
theorem dX12_together_34 : decode cX12_together 34 = .ok (.iaload, 1) := by decide +kernel
theorem dX12_together_35 : decode cX12_together 35 = .ok (.ishl, 1) := by decide +kernel
theorem dX12_together_36 : decode cX12_together 36 = .ok (.if_icmp .ge 104, 3) := by decide +kernel
theorem dX12_together_39 : decode cX12_together 39 = .ok (.iconst 0, 1) := by decide +kernel
theorem dX12_together_40 : decode cX12_together 40 = .ok (.istore 4, 2) := by decide +kernel
theorem dX12_together_42 : decode cX12_together 42 = .ok (.iconst 0, 1) := by decide +kernel
theorem dX12_together_43 : decode cX12_together 43 = .ok (.istore 5, 2) := by decide +kernel
theorem dX12_together_45 : decode cX12_together 45 = .ok (.iload 5, 2) := by decide +kernel
theorem dX12_together_47 : decode cX12_together 47 = .ok (.aload_n 0, 1) := by decide +kernel
theorem dX12_together_48 : decode cX12_together 48 = .ok (.getfield 29, 3) := by decide +kernel
theorem dX12_together_51 : decode cX12_together 51 = .ok (.iconst 3, 1) := by decide +kernel
theorem dX12_together_52 : decode cX12_together 52 = .ok (.iaload, 1) := by decide +kernel
theorem dX12_together_53 : decode cX12_together 53 = .ok (.if_icmp .ge 37, 3) := by decide +kernel
theorem dX12_together_56 : decode cX12_together 56 = .ok (.iload 4, 2) := by decide +kernel
theorem dX12_together_58 : decode cX12_together 58 = .ok (.iload_n 3, 1) := by decide +kernel
theorem dX12_together_59 : decode cX12_together 59 = .ok (.iload 5, 2) := by decide +kernel
theorem dX12_together_61 : decode cX12_together 61 = .ok (.invokestatic 181, 3) := by decide +kernel
theorem dX12_together_64 : decode cX12_together 64 = .ok (.ifCond .eq 16, 3) := by decide +kernel
theorem dX12_together_67 : decode cX12_together 67 = .ok (.aload_n 0, 1) := by decide +kernel
theorem dX12_together_68 : decode cX12_together 68 = .ok (.getfield 35, 3) := by decide +kernel
theorem dX12_together_71 : decode cX12_together 71 = .ok (.bipush 17, 2) := by decide +kernel
theorem dX12_together_73 : decode cX12_together 73 = .ok (.iload 5, 2) := by decide +kernel
theorem dX12_together_75 : decode cX12_together 75 = .ok (.iadd, 1) := by decide +kernel
theorem dX12_together_76 : decode cX12_together 76 = .ok (.iaload, 1) := by decide +kernel
theorem dX12_together_77 : decode cX12_together 77 = .ok (.goto 4, 3) := by decide +kernel
theorem dX12_together_80 : decode cX12_together 80 = .ok (.iconst 0, 1) := by decide +kernel
theorem dX12_together_81 : decode cX12_together 81 = .ok (.ior, 1) := by decide +kernel
theorem dX12_together_82 : decode cX12_together 82 = .ok (.istore 4, 2) := by decide +kernel
theorem dX12_together_84 : decode cX12_together 84 = .ok (.iinc 5 1, 3) := by decide +kernel
theorem dX12_together_87 : decode cX12_together 87 = .ok (.goto (-42), 3) := by decide +kernel
theorem dX12_together_90 : decode cX12_together 90 = .ok (.iload 4, 2) := by decide +kernel
theorem dX12_together_92 : decode cX12_together 92 = .ok (.aload_n 0, 1) := by decide +kernel
theorem dX12_together_93 : decode cX12_together 93 = .ok (.invokevirtual 203, 3) := by decide +kernel
theorem dX12_together_96 : decode cX12_together 96 = .ok (.if_icmp .ne 24, 3) := by decide +kernel
theorem dX12_together_99 : decode cX12_together 99 = .ok (.iload_n 2, 1) := by decide +kernel
theorem dX12_together_100 : decode cX12_together 100 = .ok (.ldc 60, 2) := by decide +kernel
theorem dX12_together_102 : decode cX12_together 102 = .ok (.if_icmp .eq 14, 3) := by decide +kernel
theorem dX12_together_105 : decode cX12_together 105 = .ok (.iload_n 3, 1) := by decide +kernel
theorem dX12_together_106 : decode cX12_together 106 = .ok (.invokestatic 209, 3) := by decide +kernel
theorem dX12_together_109 : decode cX12_together 109 = .ok (.iload_n 2, 1) := by decide +kernel
theorem dX12_together_110 : decode cX12_together 110 = .ok (.invokestatic 209, 3) := by decide +kernel
theorem dX12_together_113 : decode cX12_together 113 = .ok (.if_icmp .ge 7, 3) := by decide +kernel
theorem dX12_together_116 : decode cX12_together 116 = .ok (.iconst 1, 1) := by decide +kernel
theorem dX12_together_117 : decode cX12_together 117 = .ok (.goto 4, 3) := by decide +kernel
theorem dX12_together_120 : decode cX12_together 120 = .ok (.iconst 0, 1) := by decide +kernel
theorem dX12_together_121 : decode cX12_together 121 = .ok (.istore 5, 2) := by decide +kernel
theorem dX12_together_123 : decode cX12_together 123 = .ok (.iload 5, 2) := by decide +kernel
theorem dX12_together_125 : decode cX12_together 125 = .ok (.ifCond .eq 7, 3) := by decide +kernel
theorem dX12_together_128 : decode cX12_together 128 = .ok (.iload_n 3, 1) := by decide +kernel
theorem dX12_together_129 : decode cX12_together 129 = .ok (.goto 4, 3) := by decide +kernel
theorem dX12_together_132 : decode cX12_together 132 = .ok (.iload_n 2, 1) := by decide +kernel
theorem dX12_together_133 : decode cX12_together 133 = .ok (.istore_n 2, 1) := by decide +kernel
theorem dX12_together_134 : decode cX12_together 134 = .ok (.iinc 3 1, 3) := by decide +kernel
theorem dX12_together_137 : decode cX12_together 137 = .ok (.goto (-110), 3) := by decide +kernel
theorem dX12_together_140 : decode cX12_together 140 = .ok (.iload_n 2, 1) := by decide +kernel
theorem dX12_together_141 : decode cX12_together 141 = .ok (.ldc 60, 2) := by decide +kernel
theorem dX12_together_143 : decode cX12_together 143 = .ok (.if_icmp .eq 8, 3) := by decide +kernel
theorem dX12_together_146 : decode cX12_together 146 = .ok (.iload_n 1, 1) := by decide +kernel
theorem dX12_together_147 : decode cX12_together 147 = .ok (.iconst 1, 1) := by decide +kernel
theorem dX12_together_148 : decode cX12_together 148 = .ok (.if_icmp .ne 7, 3) := by decide +kernel
theorem dX12_together_151 : decode cX12_together 151 = .ok (.iload_n 2, 1) := by decide +kernel
theorem dX12_together_152 : decode cX12_together 152 = .ok (.goto 7, 3) := by decide +kernel
theorem dX12_together_155 : decode cX12_together 155 = .ok (.iload_n 2, 1) := by decide +kernel
theorem dX12_together_156 : decode cX12_together 156 = .ok (.invokestatic 209, 3) := by decide +kernel
theorem dX12_together_159 : decode cX12_together 159 = .ok (.ireturn, 1) := by decide +kernel
theorem dX12_beyond_0 : decode cX12_beyond 0 = .ok (.aload_n 0, 1) := by decide +kernel
theorem dX12_beyond_1 : decode cX12_beyond 1 = .ok (.iload_n 1, 1) := by decide +kernel
theorem dX12_beyond_2 : decode cX12_beyond 2 = .ok (.invokevirtual 185, 3) := by decide +kernel
theorem dX12_beyond_5 : decode cX12_beyond 5 = .ok (.ifCond .eq 13, 3) := by decide +kernel
theorem dX12_beyond_8 : decode cX12_beyond 8 = .ok (.iload_n 2, 1) := by decide +kernel
theorem dX12_beyond_9 : decode cX12_beyond 9 = .ok (.iconst 0, 1) := by decide +kernel
theorem dX12_beyond_10 : decode cX12_beyond 10 = .ok (.bipush 99, 2) := by decide +kernel
theorem dX12_beyond_12 : decode cX12_beyond 12 = .ok (.invokestatic 61, 3) := by decide +kernel
theorem dX12_beyond_15 : decode cX12_beyond 15 = .ok (.ifCond .ne 6, 3) := by decide +kernel
theorem dX12_beyond_18 : decode cX12_beyond 18 = .ok (.ldc 74, 2) := by decide +kernel
theorem dX12_beyond_20 : decode cX12_beyond 20 = .ok (.ireturn, 1) := by decide +kernel
theorem dX12_beyond_21 : decode cX12_beyond 21 = .ok (.aload_n 0, 1) := by decide +kernel
theorem dX12_beyond_22 : decode cX12_beyond 22 = .ok (.iload_n 1, 1) := by decide +kernel
theorem dX12_beyond_23 : decode cX12_beyond 23 = .ok (.invokevirtual 197, 3) := by decide +kernel
theorem dX12_beyond_26 : decode cX12_beyond 26 = .ok (.istore_n 3, 1) := by decide +kernel
theorem dX12_beyond_27 : decode cX12_beyond 27 = .ok (.ldc 60, 2) := by decide +kernel
theorem dX12_beyond_29 : decode cX12_beyond 29 = .ok (.istore 4, 2) := by decide +kernel
theorem dX12_beyond_31 : decode cX12_beyond 31 = .ok (.iconst 0, 1) := by decide +kernel
theorem dX12_beyond_32 : decode cX12_beyond 32 = .ok (.istore 5, 2) := by decide +kernel
theorem dX12_beyond_34 : decode cX12_beyond 34 = .ok (.iload 5, 2) := by decide +kernel
theorem dX12_beyond_36 : decode cX12_beyond 36 = .ok (.aload_n 0, 1) := by decide +kernel
theorem dX12_beyond_37 : decode cX12_beyond 37 = .ok (.getfield 29, 3) := by decide +kernel
theorem dX12_beyond_40 : decode cX12_beyond 40 = .ok (.iconst 0, 1) := by decide +kernel
theorem dX12_beyond_41 : decode cX12_beyond 41 = .ok (.iaload, 1) := by decide +kernel
theorem dX12_beyond_42 : decode cX12_beyond 42 = .ok (.if_icmp .ge 52, 3) := by decide +kernel
theorem dX12_beyond_45 : decode cX12_beyond 45 = .ok (.aload_n 0, 1) := by decide +kernel
theorem dX12_beyond_46 : decode cX12_beyond 46 = .ok (.getfield 35, 3) := by decide +kernel
theorem dX12_beyond_49 : decode cX12_beyond 49 = .ok (.bipush 17, 2) := by decide +kernel
theorem dX12_beyond_51 : decode cX12_beyond 51 = .ok (.iload_n 1, 1) := by decide +kernel
theorem dX12_beyond_52 : decode cX12_beyond 52 = .ok (.iadd, 1) := by decide +kernel
theorem dX12_beyond_53 : decode cX12_beyond 53 = .ok (.iaload, 1) := by decide +kernel
theorem dX12_beyond_54 : decode cX12_beyond 54 = .ok (.iload 5, 2) := by decide +kernel
theorem dX12_beyond_56 : decode cX12_beyond 56 = .ok (.invokestatic 181, 3) := by decide +kernel
theorem dX12_beyond_59 : decode cX12_beyond 59 = .ok (.ifCond .eq 25, 3) := by decide +kernel
theorem dX12_beyond_62 : decode cX12_beyond 62 = .ok (.iload 5, 2) := by decide +kernel
theorem dX12_beyond_64 : decode cX12_beyond 64 = .ok (.iload_n 3, 1) := by decide +kernel
theorem dX12_beyond_65 : decode cX12_beyond 65 = .ok (.irem, 1) := by decide +kernel
theorem dX12_beyond_66 : decode cX12_beyond 66 = .ok (.iload_n 2, 1) := by decide +kernel
theorem dX12_beyond_67 : decode cX12_beyond 67 = .ok (.iload_n 3, 1) := by decide +kernel
theorem dX12_beyond_68 : decode cX12_beyond 68 = .ok (.irem, 1) := by decide +kernel
theorem dX12_beyond_69 : decode cX12_beyond 69 = .ok (.if_icmp .ne 15, 3) := by decide +kernel
theorem dX12_beyond_72 : decode cX12_beyond 72 = .ok (.aload_n 0, 1) := by decide +kernel
theorem dX12_beyond_73 : decode cX12_beyond 73 = .ok (.getfield 29, 3) := by decide +kernel
theorem dX12_beyond_76 : decode cX12_beyond 76 = .ok (.iconst 4, 1) := by decide +kernel
theorem dX12_beyond_77 : decode cX12_beyond 77 = .ok (.iload 5, 2) := by decide +kernel
theorem dX12_beyond_79 : decode cX12_beyond 79 = .ok (.iadd, 1) := by decide +kernel
theorem dX12_beyond_80 : decode cX12_beyond 80 = .ok (.iaload, 1) := by decide +kernel
theorem dX12_beyond_81 : decode cX12_beyond 81 = .ok (.goto 5, 3) := by decide +kernel
theorem dX12_beyond_84 : decode cX12_beyond 84 = .ok (.iload 4, 2) := by decide +kernel
theorem dX12_beyond_86 : decode cX12_beyond 86 = .ok (.istore 4, 2) := by decide +kernel
theorem dX12_beyond_88 : decode cX12_beyond 88 = .ok (.iinc 5 1, 3) := by decide +kernel
theorem dX12_beyond_91 : decode cX12_beyond 91 = .ok (.goto (-57), 3) := by decide +kernel
theorem dX12_beyond_94 : decode cX12_beyond 94 = .ok (.iload 4, 2) := by decide +kernel
theorem dX12_beyond_96 : decode cX12_beyond 96 = .ok (.ireturn, 1) := by decide +kernel
theorem dX12_piece_0 : decode cX12_piece 0 = .ok (.aload_n 0, 1) := by decide +kernel
theorem dX12_piece_1 : decode cX12_piece 1 = .ok (.getfield 141, 3) := by decide +kernel
theorem dX12_piece_4 : decode cX12_piece 4 = .ok (.ifCond .ne 6, 3) := by decide +kernel
theorem dX12_piece_7 : decode cX12_piece 7 = .ok (.ldc 163, 2) := by decide +kernel
theorem dX12_piece_9 : decode cX12_piece 9 = .ok (.ireturn, 1) := by decide +kernel
theorem dX12_piece_10 : decode cX12_piece 10 = .ok (.iload_n 1, 1) := by decide +kernel
theorem dX12_piece_11 : decode cX12_piece 11 = .ok (.invokestatic 70, 3) := by decide +kernel
theorem dX12_piece_14 : decode cX12_piece 14 = .ok (.ifCond .eq 23, 3) := by decide +kernel
theorem dX12_piece_17 : decode cX12_piece 17 = .ok (.iload_n 3, 1) := by decide +kernel
theorem dX12_piece_18 : decode cX12_piece 18 = .ok (.iconst 1, 1) := by decide +kernel
theorem dX12_piece_19 : decode cX12_piece 19 = .ok (.bipush 12, 2) := by decide +kernel
theorem dX12_piece_21 : decode cX12_piece 21 = .ok (.invokestatic 61, 3) := by decide +kernel
theorem dX12_piece_24 : decode cX12_piece 24 = .ok (.ifCond .eq 13, 3) := by decide +kernel
theorem dX12_piece_27 : decode cX12_piece 27 = .ok (.iload 4, 2) := by decide +kernel
theorem dX12_piece_29 : decode cX12_piece 29 = .ok (.iconst 0, 1) := by decide +kernel
theorem dX12_piece_30 : decode cX12_piece 30 = .ok (.iconst 1, 1) := by decide +kernel
theorem dX12_piece_31 : decode cX12_piece 31 = .ok (.invokestatic 61, 3) := by decide +kernel
theorem dX12_piece_34 : decode cX12_piece 34 = .ok (.ifCond .ne 6, 3) := by decide +kernel
theorem dX12_piece_37 : decode cX12_piece 37 = .ok (.ldc 74, 2) := by decide +kernel
theorem dX12_piece_39 : decode cX12_piece 39 = .ok (.ireturn, 1) := by decide +kernel
theorem dX12_piece_40 : decode cX12_piece 40 = .ok (.aload_n 0, 1) := by decide +kernel
theorem dX12_piece_41 : decode cX12_piece 41 = .ok (.getfield 7, 3) := by decide +kernel
theorem dX12_piece_44 : decode cX12_piece 44 = .ok (.iload_n 1, 1) := by decide +kernel
theorem dX12_piece_45 : decode cX12_piece 45 = .ok (.iaload, 1) := by decide +kernel
theorem dX12_piece_46 : decode cX12_piece 46 = .ok (.ldc 60, 2) := by decide +kernel
theorem dX12_piece_48 : decode cX12_piece 48 = .ok (.if_icmp .ne 9, 3) := by decide +kernel
theorem dX12_piece_51 : decode cX12_piece 51 = .ok (.aload_n 0, 1) := by decide +kernel
theorem dX12_piece_52 : decode cX12_piece 52 = .ok (.iconst 1, 1) := by decide +kernel
theorem dX12_piece_53 : decode cX12_piece 53 = .ok (.invokevirtual 75, 3) := by decide +kernel
theorem dX12_piece_56 : decode cX12_piece 56 = .ok (.ireturn, 1) := by decide +kernel
theorem dX12_piece_57 : decode cX12_piece 57 = .ok (.aload_n 0, 1) := by decide +kernel
theorem dX12_piece_58 : decode cX12_piece 58 = .ok (.iload_n 1, 1) := by decide +kernel
theorem dX12_piece_59 : decode cX12_piece 59 = .ok (.iload_n 2, 1) := by decide +kernel
theorem dX12_piece_60 : decode cX12_piece 60 = .ok (.iload_n 3, 1) := by decide +kernel
theorem dX12_piece_61 : decode cX12_piece 61 = .ok (.invokevirtual 82, 3) := by decide +kernel
theorem dX12_piece_64 : decode cX12_piece 64 = .ok (.ifCond .ne 9, 3) := by decide +kernel
theorem dX12_piece_67 : decode cX12_piece 67 = .ok (.aload_n 0, 1) := by decide +kernel
theorem dX12_piece_68 : decode cX12_piece 68 = .ok (.iconst 2, 1) := by decide +kernel
theorem dX12_piece_69 : decode cX12_piece 69 = .ok (.invokevirtual 75, 3) := by decide +kernel
theorem dX12_piece_72 : decode cX12_piece 72 = .ok (.ireturn, 1) := by decide +kernel
theorem dX12_piece_73 : decode cX12_piece 73 = .ok (.iconst 0, 1) := by decide +kernel
theorem dX12_piece_74 : decode cX12_piece 74 = .ok (.istore 5, 2) := by decide +kernel
theorem dX12_piece_76 : decode cX12_piece 76 = .ok (.ldc 60, 2) := by decide +kernel
theorem dX12_piece_78 : decode cX12_piece 78 = .ok (.istore 6, 2) := by decide +kernel
theorem dX12_piece_80 : decode cX12_piece 80 = .ok (.iconst 0, 1) := by decide +kernel
theorem dX12_piece_81 : decode cX12_piece 81 = .ok (.istore 7, 2) := by decide +kernel
theorem dX12_piece_83 : decode cX12_piece 83 = .ok (.iload 7, 2) := by decide +kernel
theorem dX12_piece_85 : decode cX12_piece 85 = .ok (.iload_n 3, 1) := by decide +kernel
theorem dX12_piece_86 : decode cX12_piece 86 = .ok (.iadd, 1) := by decide +kernel
theorem dX12_piece_87 : decode cX12_piece 87 = .ok (.aload_n 0, 1) := by decide +kernel
theorem dX12_piece_88 : decode cX12_piece 88 = .ok (.getfield 29, 3) := by decide +kernel
theorem dX12_piece_91 : decode cX12_piece 91 = .ok (.iconst 0, 1) := by decide +kernel
theorem dX12_piece_92 : decode cX12_piece 92 = .ok (.iaload, 1) := by decide +kernel
theorem dX12_piece_93 : decode cX12_piece 93 = .ok (.if_icmp .gt 102, 3) := by decide +kernel
theorem dX12_piece_96 : decode cX12_piece 96 = .ok (.iconst 1, 1) := by decide +kernel
theorem dX12_piece_97 : decode cX12_piece 97 = .ok (.istore 8, 2) := by decide +kernel
theorem dX12_piece_99 : decode cX12_piece 99 = .ok (.iconst 0, 1) := by decide +kernel
theorem dX12_piece_100 : decode cX12_piece 100 = .ok (.istore 9, 2) := by decide +kernel
theorem dX12_piece_102 : decode cX12_piece 102 = .ok (.iload 9, 2) := by decide +kernel
theorem dX12_piece_104 : decode cX12_piece 104 = .ok (.iload_n 3, 1) := by decide +kernel
theorem dX12_piece_105 : decode cX12_piece 105 = .ok (.if_icmp .ge 50, 3) := by decide +kernel
theorem dX12_piece_108 : decode cX12_piece 108 = .ok (.iload 8, 2) := by decide +kernel
theorem dX12_piece_110 : decode cX12_piece 110 = .ok (.ifCond .eq 36, 3) := by decide +kernel
theorem dX12_piece_113 : decode cX12_piece 113 = .ok (.aload_n 0, 1) := by decide +kernel
theorem dX12_piece_114 : decode cX12_piece 114 = .ok (.getfield 29, 3) := by decide +kernel
theorem dX12_piece_117 : decode cX12_piece 117 = .ok (.iconst 4, 1) := by decide +kernel
theorem dX12_piece_118 : decode cX12_piece 118 = .ok (.iload 7, 2) := by decide +kernel
theorem dX12_piece_120 : decode cX12_piece 120 = .ok (.iadd, 1) := by decide +kernel
theorem dX12_piece_121 : decode cX12_piece 121 = .ok (.iload 9, 2) := by decide +kernel
theorem dX12_piece_123 : decode cX12_piece 123 = .ok (.iadd, 1) := by decide +kernel
theorem dX12_piece_124 : decode cX12_piece 124 = .ok (.iaload, 1) := by decide +kernel
theorem dX12_piece_125 : decode cX12_piece 125 = .ok (.aload_n 0, 1) := by decide +kernel
theorem dX12_piece_126 : decode cX12_piece 126 = .ok (.getfield 16, 3) := by decide +kernel
theorem dX12_piece_129 : decode cX12_piece 129 = .ok (.bipush 40, 2) := by decide +kernel
theorem dX12_piece_131 : decode cX12_piece 131 = .ok (.iload_n 1, 1) := by decide +kernel
theorem dX12_piece_132 : decode cX12_piece 132 = .ok (.imul, 1) := by decide +kernel
theorem dX12_piece_133 : decode cX12_piece 133 = .ok (.iload_n 2, 1) := by decide +kernel
theorem dX12_piece_134 : decode cX12_piece 134 = .ok (.iadd, 1) := by decide +kernel
theorem dX12_piece_135 : decode cX12_piece 135 = .ok (.iload 9, 2) := by decide +kernel
theorem dX12_piece_137 : decode cX12_piece 137 = .ok (.iadd, 1) := by decide +kernel
theorem dX12_piece_138 : decode cX12_piece 138 = .ok (.iaload, 1) := by decide +kernel
theorem dX12_piece_139 : decode cX12_piece 139 = .ok (.if_icmp .ne 7, 3) := by decide +kernel
theorem dX12_piece_142 : decode cX12_piece 142 = .ok (.iconst 1, 1) := by decide +kernel
theorem dX12_piece_143 : decode cX12_piece 143 = .ok (.goto 4, 3) := by decide +kernel
theorem dX12_piece_146 : decode cX12_piece 146 = .ok (.iconst 0, 1) := by decide +kernel
theorem dX12_piece_147 : decode cX12_piece 147 = .ok (.istore 8, 2) := by decide +kernel
theorem dX12_piece_149 : decode cX12_piece 149 = .ok (.iinc 9 1, 3) := by decide +kernel
theorem dX12_piece_152 : decode cX12_piece 152 = .ok (.goto (-50), 3) := by decide +kernel
theorem dX12_piece_155 : decode cX12_piece 155 = .ok (.iload 8, 2) := by decide +kernel
theorem dX12_piece_157 : decode cX12_piece 157 = .ok (.ifCond .eq 13, 3) := by decide +kernel
theorem dX12_piece_160 : decode cX12_piece 160 = .ok (.iload 5, 2) := by decide +kernel
theorem dX12_piece_162 : decode cX12_piece 162 = .ok (.ifCond .ne 8, 3) := by decide +kernel
theorem dX12_piece_165 : decode cX12_piece 165 = .ok (.iload 7, 2) := by decide +kernel
theorem dX12_piece_167 : decode cX12_piece 167 = .ok (.goto 5, 3) := by decide +kernel
theorem dX12_piece_170 : decode cX12_piece 170 = .ok (.iload 6, 2) := by decide +kernel
theorem dX12_piece_172 : decode cX12_piece 172 = .ok (.istore 6, 2) := by decide +kernel
theorem dX12_piece_174 : decode cX12_piece 174 = .ok (.iload 5, 2) := by decide +kernel
theorem dX12_piece_176 : decode cX12_piece 176 = .ok (.iload 8, 2) := by decide +kernel
theorem dX12_piece_178 : decode cX12_piece 178 = .ok (.ifCond .eq 7, 3) := by decide +kernel
theorem dX12_piece_181 : decode cX12_piece 181 = .ok (.iconst 1, 1) := by decide +kernel
theorem dX12_piece_182 : decode cX12_piece 182 = .ok (.goto 4, 3) := by decide +kernel
theorem dX12_piece_185 : decode cX12_piece 185 = .ok (.iconst 0, 1) := by decide +kernel
theorem dX12_piece_186 : decode cX12_piece 186 = .ok (.iadd, 1) := by decide +kernel
theorem dX12_piece_187 : decode cX12_piece 187 = .ok (.istore 5, 2) := by decide +kernel
theorem dX12_piece_189 : decode cX12_piece 189 = .ok (.iinc 7 1, 3) := by decide +kernel
theorem dX12_piece_192 : decode cX12_piece 192 = .ok (.goto (-109), 3) := by decide +kernel
theorem dX12_piece_195 : decode cX12_piece 195 = .ok (.aload_n 0, 1) := by decide +kernel
theorem dX12_piece_196 : decode cX12_piece 196 = .ok (.iload 4, 2) := by decide +kernel
theorem dX12_piece_198 : decode cX12_piece 198 = .ok (.ifCond .ne 8, 3) := by decide +kernel
theorem dX12_piece_201 : decode cX12_piece 201 = .ok (.iload 5, 2) := by decide +kernel
theorem dX12_piece_203 : decode cX12_piece 203 = .ok (.goto 5, 3) := by decide +kernel
theorem dX12_piece_206 : decode cX12_piece 206 = .ok (.iload 6, 2) := by decide +kernel
theorem dX12_piece_208 : decode cX12_piece 208 = .ok (.invokevirtual 79, 3) := by decide +kernel
theorem dX12_piece_211 : decode cX12_piece 211 = .ok (.ireturn, 1) := by decide +kernel
theorem dX12_room_0 : decode cX12_room 0 = .ok (.aload_n 0, 1) := by decide +kernel
theorem dX12_room_1 : decode cX12_room 1 = .ok (.getfield 141, 3) := by decide +kernel
theorem dX12_room_4 : decode cX12_room 4 = .ok (.ifCond .ne 6, 3) := by decide +kernel
theorem dX12_room_7 : decode cX12_room 7 = .ok (.ldc 163, 2) := by decide +kernel
theorem dX12_room_9 : decode cX12_room 9 = .ok (.ireturn, 1) := by decide +kernel
theorem dX12_room_10 : decode cX12_room 10 = .ok (.iload_n 1, 1) := by decide +kernel
theorem dX12_room_11 : decode cX12_room 11 = .ok (.iconst 1, 1) := by decide +kernel
theorem dX12_room_12 : decode cX12_room 12 = .ok (.bipush 8, 2) := by decide +kernel
theorem dX12_room_14 : decode cX12_room 14 = .ok (.invokestatic 61, 3) := by decide +kernel
theorem dX12_room_17 : decode cX12_room 17 = .ok (.ifCond .ne 6, 3) := by decide +kernel
theorem dX12_room_20 : decode cX12_room 20 = .ok (.ldc 74, 2) := by decide +kernel
theorem dX12_room_22 : decode cX12_room 22 = .ok (.ireturn, 1) := by decide +kernel
theorem dX12_room_23 : decode cX12_room 23 = .ok (.aload_n 0, 1) := by decide +kernel
theorem dX12_room_24 : decode cX12_room 24 = .ok (.getfield 29, 3) := by decide +kernel
theorem dX12_room_27 : decode cX12_room 27 = .ok (.iconst 2, 1) := by decide +kernel
theorem dX12_room_28 : decode cX12_room 28 = .ok (.iaload, 1) := by decide +kernel
theorem dX12_room_29 : decode cX12_room 29 = .ok (.istore_n 2, 1) := by decide +kernel
theorem dX12_room_30 : decode cX12_room 30 = .ok (.iconst 0, 1) := by decide +kernel
theorem dX12_room_31 : decode cX12_room 31 = .ok (.istore_n 3, 1) := by decide +kernel
theorem dX12_room_32 : decode cX12_room 32 = .ok (.iload_n 3, 1) := by decide +kernel
theorem dX12_room_33 : decode cX12_room 33 = .ok (.bipush 25, 2) := by decide +kernel
theorem dX12_room_35 : decode cX12_room 35 = .ok (.if_icmp .ge 38, 3) := by decide +kernel
theorem dX12_room_38 : decode cX12_room 38 = .ok (.aload_n 0, 1) := by decide +kernel
theorem dX12_room_39 : decode cX12_room 39 = .ok (.getfield 54, 3) := by decide +kernel
theorem dX12_room_42 : decode cX12_room 42 = .ok (.bipush 25, 2) := by decide +kernel
theorem dX12_room_44 : decode cX12_room 44 = .ok (.iload_n 2, 1) := by decide +kernel
theorem dX12_room_45 : decode cX12_room 45 = .ok (.imul, 1) := by decide +kernel
theorem dX12_room_46 : decode cX12_room 46 = .ok (.iload_n 3, 1) := by decide +kernel
theorem dX12_room_47 : decode cX12_room 47 = .ok (.iadd, 1) := by decide +kernel
theorem dX12_room_48 : decode cX12_room 48 = .ok (.aload_n 0, 1) := by decide +kernel
theorem dX12_room_49 : decode cX12_room 49 = .ok (.getfield 29, 3) := by decide +kernel
theorem dX12_room_52 : decode cX12_room 52 = .ok (.iconst 0, 1) := by decide +kernel
theorem dX12_room_53 : decode cX12_room 53 = .ok (.iaload, 1) := by decide +kernel
theorem dX12_room_54 : decode cX12_room 54 = .ok (.iload_n 3, 1) := by decide +kernel
theorem dX12_room_55 : decode cX12_room 55 = .ok (.isub, 1) := by decide +kernel
theorem dX12_room_56 : decode cX12_room 56 = .ok (.iload_n 1, 1) := by decide +kernel
theorem dX12_room_57 : decode cX12_room 57 = .ok (.if_icmp .lt 7, 3) := by decide +kernel
theorem dX12_room_60 : decode cX12_room 60 = .ok (.iconst 0, 1) := by decide +kernel
theorem dX12_room_61 : decode cX12_room 61 = .ok (.goto 5, 3) := by decide +kernel
theorem dX12_room_64 : decode cX12_room 64 = .ok (.ldc 212, 2) := by decide +kernel
theorem dX12_room_66 : decode cX12_room 66 = .ok (.iastore, 1) := by decide +kernel
theorem dX12_room_67 : decode cX12_room 67 = .ok (.iinc 3 1, 3) := by decide +kernel
theorem dX12_room_70 : decode cX12_room 70 = .ok (.goto (-38), 3) := by decide +kernel
theorem dX12_room_73 : decode cX12_room 73 = .ok (.iload_n 2, 1) := by decide +kernel
theorem dX12_room_74 : decode cX12_room 74 = .ok (.iconst 1, 1) := by decide +kernel
theorem dX12_room_75 : decode cX12_room 75 = .ok (.isub, 1) := by decide +kernel
theorem dX12_room_76 : decode cX12_room 76 = .ok (.istore_n 3, 1) := by decide +kernel
theorem dX12_room_77 : decode cX12_room 77 = .ok (.iload_n 3, 1) := by decide +kernel
theorem dX12_room_78 : decode cX12_room 78 = .ok (.ifCond .lt 141, 3) := by decide +kernel
theorem dX12_room_81 : decode cX12_room 81 = .ok (.iconst 0, 1) := by decide +kernel
theorem dX12_room_82 : decode cX12_room 82 = .ok (.istore 4, 2) := by decide +kernel
theorem dX12_room_84 : decode cX12_room 84 = .ok (.iload 4, 2) := by decide +kernel
theorem dX12_room_86 : decode cX12_room 86 = .ok (.bipush 25, 2) := by decide +kernel
theorem dX12_room_88 : decode cX12_room 88 = .ok (.if_icmp .ge 125, 3) := by decide +kernel
theorem dX12_room_91 : decode cX12_room 91 = .ok (.ldc 212, 2) := by decide +kernel
theorem dX12_room_93 : decode cX12_room 93 = .ok (.istore 5, 2) := by decide +kernel
theorem dX12_room_95 : decode cX12_room 95 = .ok (.iload 4, 2) := by decide +kernel
theorem dX12_room_97 : decode cX12_room 97 = .ok (.iload_n 1, 1) := by decide +kernel
theorem dX12_room_98 : decode cX12_room 98 = .ok (.iadd, 1) := by decide +kernel
theorem dX12_room_99 : decode cX12_room 99 = .ok (.istore 6, 2) := by decide +kernel
theorem dX12_room_101 : decode cX12_room 101 = .ok (.iload 6, 2) := by decide +kernel
theorem dX12_room_103 : decode cX12_room 103 = .ok (.aload_n 0, 1) := by decide +kernel
theorem dX12_room_104 : decode cX12_room 104 = .ok (.getfield 29, 3) := by decide +kernel
theorem dX12_room_107 : decode cX12_room 107 = .ok (.iconst 0, 1) := by decide +kernel
theorem dX12_room_108 : decode cX12_room 108 = .ok (.iaload, 1) := by decide +kernel
theorem dX12_room_109 : decode cX12_room 109 = .ok (.if_icmp .ge 84, 3) := by decide +kernel
theorem dX12_room_112 : decode cX12_room 112 = .ok (.iload 6, 2) := by decide +kernel
theorem dX12_room_114 : decode cX12_room 114 = .ok (.aload_n 0, 1) := by decide +kernel
theorem dX12_room_115 : decode cX12_room 115 = .ok (.getfield 35, 3) := by decide +kernel
theorem dX12_room_118 : decode cX12_room 118 = .ok (.iconst 1, 1) := by decide +kernel
theorem dX12_room_119 : decode cX12_room 119 = .ok (.iload_n 3, 1) := by decide +kernel
theorem dX12_room_120 : decode cX12_room 120 = .ok (.iadd, 1) := by decide +kernel
theorem dX12_room_121 : decode cX12_room 121 = .ok (.iaload, 1) := by decide +kernel
theorem dX12_room_122 : decode cX12_room 122 = .ok (.if_icmp .le 17, 3) := by decide +kernel
theorem dX12_room_125 : decode cX12_room 125 = .ok (.iload 6, 2) := by decide +kernel
theorem dX12_room_127 : decode cX12_room 127 = .ok (.aload_n 0, 1) := by decide +kernel
theorem dX12_room_128 : decode cX12_room 128 = .ok (.getfield 35, 3) := by decide +kernel
theorem dX12_room_131 : decode cX12_room 131 = .ok (.iconst 1, 1) := by decide +kernel
theorem dX12_room_132 : decode cX12_room 132 = .ok (.iload_n 3, 1) := by decide +kernel
theorem dX12_room_133 : decode cX12_room 133 = .ok (.iadd, 1) := by decide +kernel
theorem dX12_room_134 : decode cX12_room 134 = .ok (.iaload, 1) := by decide +kernel
theorem dX12_room_135 : decode cX12_room 135 = .ok (.isub, 1) := by decide +kernel
theorem dX12_room_136 : decode cX12_room 136 = .ok (.goto 14, 3) := by decide +kernel
theorem dX12_room_139 : decode cX12_room 139 = .ok (.aload_n 0, 1) := by decide +kernel
theorem dX12_room_140 : decode cX12_room 140 = .ok (.getfield 35, 3) := by decide +kernel
theorem dX12_room_143 : decode cX12_room 143 = .ok (.iconst 1, 1) := by decide +kernel
theorem dX12_room_144 : decode cX12_room 144 = .ok (.iload_n 3, 1) := by decide +kernel
theorem dX12_room_145 : decode cX12_room 145 = .ok (.iadd, 1) := by decide +kernel
theorem dX12_room_146 : decode cX12_room 146 = .ok (.iaload, 1) := by decide +kernel
theorem dX12_room_147 : decode cX12_room 147 = .ok (.iload 6, 2) := by decide +kernel
theorem dX12_room_149 : decode cX12_room 149 = .ok (.isub, 1) := by decide +kernel
theorem dX12_room_150 : decode cX12_room 150 = .ok (.istore 7, 2) := by decide +kernel
theorem dX12_room_152 : decode cX12_room 152 = .ok (.iload 7, 2) := by decide +kernel
theorem dX12_room_154 : decode cX12_room 154 = .ok (.aload_n 0, 1) := by decide +kernel
theorem dX12_room_155 : decode cX12_room 155 = .ok (.getfield 54, 3) := by decide +kernel
theorem dX12_room_158 : decode cX12_room 158 = .ok (.bipush 25, 2) := by decide +kernel
theorem dX12_room_160 : decode cX12_room 160 = .ok (.iload_n 3, 1) := by decide +kernel
theorem dX12_room_161 : decode cX12_room 161 = .ok (.iconst 1, 1) := by decide +kernel
theorem dX12_room_162 : decode cX12_room 162 = .ok (.iadd, 1) := by decide +kernel
theorem dX12_room_163 : decode cX12_room 163 = .ok (.imul, 1) := by decide +kernel
theorem dX12_room_164 : decode cX12_room 164 = .ok (.iload 6, 2) := by decide +kernel
theorem dX12_room_166 : decode cX12_room 166 = .ok (.iadd, 1) := by decide +kernel
theorem dX12_room_167 : decode cX12_room 167 = .ok (.iaload, 1) := by decide +kernel
theorem dX12_room_168 : decode cX12_room 168 = .ok (.iadd, 1) := by decide +kernel
theorem dX12_room_169 : decode cX12_room 169 = .ok (.istore 8, 2) := by decide +kernel
theorem dX12_room_171 : decode cX12_room 171 = .ok (.iload 8, 2) := by decide +kernel
theorem dX12_room_173 : decode cX12_room 173 = .ok (.iload 5, 2) := by decide +kernel
theorem dX12_room_175 : decode cX12_room 175 = .ok (.if_icmp .ge 8, 3) := by decide +kernel
theorem dX12_room_178 : decode cX12_room 178 = .ok (.iload 8, 2) := by decide +kernel
theorem dX12_room_180 : decode cX12_room 180 = .ok (.goto 5, 3) := by decide +kernel
theorem dX12_room_183 : decode cX12_room 183 = .ok (.iload 5, 2) := by decide +kernel
theorem dX12_room_185 : decode cX12_room 185 = .ok (.istore 5, 2) := by decide +kernel
theorem dX12_room_187 : decode cX12_room 187 = .ok (.iinc 6 1, 3) := by decide +kernel
theorem dX12_room_190 : decode cX12_room 190 = .ok (.goto (-89), 3) := by decide +kernel
theorem dX12_room_193 : decode cX12_room 193 = .ok (.aload_n 0, 1) := by decide +kernel
theorem dX12_room_194 : decode cX12_room 194 = .ok (.getfield 54, 3) := by decide +kernel
theorem dX12_room_197 : decode cX12_room 197 = .ok (.bipush 25, 2) := by decide +kernel
theorem dX12_room_199 : decode cX12_room 199 = .ok (.iload_n 3, 1) := by decide +kernel
theorem dX12_room_200 : decode cX12_room 200 = .ok (.imul, 1) := by decide +kernel
theorem dX12_room_201 : decode cX12_room 201 = .ok (.iload 4, 2) := by decide +kernel
theorem dX12_room_203 : decode cX12_room 203 = .ok (.iadd, 1) := by decide +kernel
theorem dX12_room_204 : decode cX12_room 204 = .ok (.iload 5, 2) := by decide +kernel
theorem dX12_room_206 : decode cX12_room 206 = .ok (.iastore, 1) := by decide +kernel
theorem dX12_room_207 : decode cX12_room 207 = .ok (.iinc 4 1, 3) := by decide +kernel
theorem dX12_room_210 : decode cX12_room 210 = .ok (.goto (-126), 3) := by decide +kernel
theorem dX12_room_213 : decode cX12_room 213 = .ok (.iinc 3 (-1), 3) := by decide +kernel
theorem dX12_room_216 : decode cX12_room 216 = .ok (.goto (-139), 3) := by decide +kernel
theorem dX12_room_219 : decode cX12_room 219 = .ok (.aload_n 0, 1) := by decide +kernel
theorem dX12_room_220 : decode cX12_room 220 = .ok (.getfield 54, 3) := by decide +kernel
theorem dX12_room_223 : decode cX12_room 223 = .ok (.iconst 0, 1) := by decide +kernel
theorem dX12_room_224 : decode cX12_room 224 = .ok (.iaload, 1) := by decide +kernel
theorem dX12_room_225 : decode cX12_room 225 = .ok (.ldc 212, 2) := by decide +kernel
theorem dX12_room_227 : decode cX12_room 227 = .ok (.if_icmp .lt 8, 3) := by decide +kernel
theorem dX12_room_230 : decode cX12_room 230 = .ok (.ldc 60, 2) := by decide +kernel
theorem dX12_room_232 : decode cX12_room 232 = .ok (.goto 9, 3) := by decide +kernel
theorem dX12_room_235 : decode cX12_room 235 = .ok (.aload_n 0, 1) := by decide +kernel
theorem dX12_room_236 : decode cX12_room 236 = .ok (.getfield 54, 3) := by decide +kernel
theorem dX12_room_239 : decode cX12_room 239 = .ok (.iconst 0, 1) := by decide +kernel
theorem dX12_room_240 : decode cX12_room 240 = .ok (.iaload, 1) := by decide +kernel
theorem dX12_room_241 : decode cX12_room 241 = .ok (.ireturn, 1) := by decide +kernel
theorem dX12_rent_0 : decode cX12_rent 0 = .ok (.aload_n 0, 1) := by decide +kernel
theorem dX12_rent_1 : decode cX12_rent 1 = .ok (.iload_n 1, 1) := by decide +kernel
theorem dX12_rent_2 : decode cX12_rent 2 = .ok (.invokevirtual 188, 3) := by decide +kernel
theorem dX12_rent_5 : decode cX12_rent 5 = .ok (.ifCond .eq 14, 3) := by decide +kernel
theorem dX12_rent_8 : decode cX12_rent 8 = .ok (.iload_n 2, 1) := by decide +kernel
theorem dX12_rent_9 : decode cX12_rent 9 = .ok (.iconst 0, 1) := by decide +kernel
theorem dX12_rent_10 : decode cX12_rent 10 = .ok (.sipush 999, 3) := by decide +kernel
theorem dX12_rent_13 : decode cX12_rent 13 = .ok (.invokestatic 61, 3) := by decide +kernel
theorem dX12_rent_16 : decode cX12_rent 16 = .ok (.ifCond .ne 6, 3) := by decide +kernel
theorem dX12_rent_19 : decode cX12_rent 19 = .ok (.ldc 74, 2) := by decide +kernel
theorem dX12_rent_21 : decode cX12_rent 21 = .ok (.ireturn, 1) := by decide +kernel
theorem dX12_rent_22 : decode cX12_rent 22 = .ok (.iload_n 2, 1) := by decide +kernel
theorem dX12_rent_23 : decode cX12_rent 23 = .ok (.istore_n 3, 1) := by decide +kernel
theorem dX12_rent_24 : decode cX12_rent 24 = .ok (.iconst 0, 1) := by decide +kernel
theorem dX12_rent_25 : decode cX12_rent 25 = .ok (.istore 4, 2) := by decide +kernel
theorem dX12_rent_27 : decode cX12_rent 27 = .ok (.iload 4, 2) := by decide +kernel
theorem dX12_rent_29 : decode cX12_rent 29 = .ok (.aload_n 0, 1) := by decide +kernel
theorem dX12_rent_30 : decode cX12_rent 30 = .ok (.getfield 29, 3) := by decide +kernel
theorem dX12_rent_33 : decode cX12_rent 33 = .ok (.iconst 2, 1) := by decide +kernel
theorem dX12_rent_34 : decode cX12_rent 34 = .ok (.iaload, 1) := by decide +kernel
theorem dX12_rent_35 : decode cX12_rent 35 = .ok (.if_icmp .gt 42, 3) := by decide +kernel
theorem dX12_rent_38 : decode cX12_rent 38 = .ok (.iload_n 3, 1) := by decide +kernel
theorem dX12_rent_39 : decode cX12_rent 39 = .ok (.iload_n 2, 1) := by decide +kernel
theorem dX12_rent_40 : decode cX12_rent 40 = .ok (.aload_n 0, 1) := by decide +kernel
theorem dX12_rent_41 : decode cX12_rent 41 = .ok (.aload_n 0, 1) := by decide +kernel
theorem dX12_rent_42 : decode cX12_rent 42 = .ok (.getfield 35, 3) := by decide +kernel
theorem dX12_rent_45 : decode cX12_rent 45 = .ok (.iload 4, 2) := by decide +kernel
theorem dX12_rent_47 : decode cX12_rent 47 = .ok (.invokevirtual 152, 3) := by decide +kernel
theorem dX12_rent_50 : decode cX12_rent 50 = .ok (.aload_n 0, 1) := by decide +kernel
theorem dX12_rent_51 : decode cX12_rent 51 = .ok (.aload_n 0, 1) := by decide +kernel
theorem dX12_rent_52 : decode cX12_rent 52 = .ok (.getfield 35, 3) := by decide +kernel
theorem dX12_rent_55 : decode cX12_rent 55 = .ok (.iload 4, 2) := by decide +kernel
theorem dX12_rent_57 : decode cX12_rent 57 = .ok (.invokevirtual 148, 3) := by decide +kernel
theorem dX12_rent_60 : decode cX12_rent 60 = .ok (.isub, 1) := by decide +kernel
theorem dX12_rent_61 : decode cX12_rent 61 = .ok (.imul, 1) := by decide +kernel
theorem dX12_rent_62 : decode cX12_rent 62 = .ok (.aload_n 0, 1) := by decide +kernel
theorem dX12_rent_63 : decode cX12_rent 63 = .ok (.getfield 29, 3) := by decide +kernel
theorem dX12_rent_66 : decode cX12_rent 66 = .ok (.iconst 0, 1) := by decide +kernel
theorem dX12_rent_67 : decode cX12_rent 67 = .ok (.iaload, 1) := by decide +kernel
theorem dX12_rent_68 : decode cX12_rent 68 = .ok (.idiv, 1) := by decide +kernel
theorem dX12_rent_69 : decode cX12_rent 69 = .ok (.isub, 1) := by decide +kernel
theorem dX12_rent_70 : decode cX12_rent 70 = .ok (.istore_n 3, 1) := by decide +kernel
theorem dX12_rent_71 : decode cX12_rent 71 = .ok (.iinc 4 1, 3) := by decide +kernel
theorem dX12_rent_74 : decode cX12_rent 74 = .ok (.goto (-47), 3) := by decide +kernel
theorem dX12_rent_77 : decode cX12_rent 77 = .ok (.iload_n 2, 1) := by decide +kernel
theorem dX12_rent_78 : decode cX12_rent 78 = .ok (.aload_n 0, 1) := by decide +kernel
theorem dX12_rent_79 : decode cX12_rent 79 = .ok (.aload_n 0, 1) := by decide +kernel
theorem dX12_rent_80 : decode cX12_rent 80 = .ok (.getfield 35, 3) := by decide +kernel
theorem dX12_rent_83 : decode cX12_rent 83 = .ok (.iload_n 1, 1) := by decide +kernel
theorem dX12_rent_84 : decode cX12_rent 84 = .ok (.invokevirtual 152, 3) := by decide +kernel
theorem dX12_rent_87 : decode cX12_rent 87 = .ok (.aload_n 0, 1) := by decide +kernel
theorem dX12_rent_88 : decode cX12_rent 88 = .ok (.aload_n 0, 1) := by decide +kernel
theorem dX12_rent_89 : decode cX12_rent 89 = .ok (.getfield 35, 3) := by decide +kernel
theorem dX12_rent_92 : decode cX12_rent 92 = .ok (.iload_n 1, 1) := by decide +kernel
theorem dX12_rent_93 : decode cX12_rent 93 = .ok (.invokevirtual 148, 3) := by decide +kernel
theorem dX12_rent_96 : decode cX12_rent 96 = .ok (.isub, 1) := by decide +kernel
theorem dX12_rent_97 : decode cX12_rent 97 = .ok (.imul, 1) := by decide +kernel
theorem dX12_rent_98 : decode cX12_rent 98 = .ok (.aload_n 0, 1) := by decide +kernel
theorem dX12_rent_99 : decode cX12_rent 99 = .ok (.getfield 29, 3) := by decide +kernel
theorem dX12_rent_102 : decode cX12_rent 102 = .ok (.iconst 0, 1) := by decide +kernel
theorem dX12_rent_103 : decode cX12_rent 103 = .ok (.iaload, 1) := by decide +kernel
theorem dX12_rent_104 : decode cX12_rent 104 = .ok (.idiv, 1) := by decide +kernel
theorem dX12_rent_105 : decode cX12_rent 105 = .ok (.iload_n 1, 1) := by decide +kernel
theorem dX12_rent_106 : decode cX12_rent 106 = .ok (.iload_n 3, 1) := by decide +kernel
theorem dX12_rent_107 : decode cX12_rent 107 = .ok (.if_icmp .ge 7, 3) := by decide +kernel
theorem dX12_rent_110 : decode cX12_rent 110 = .ok (.iconst 1, 1) := by decide +kernel
theorem dX12_rent_111 : decode cX12_rent 111 = .ok (.goto 4, 3) := by decide +kernel
theorem dX12_rent_114 : decode cX12_rent 114 = .ok (.iconst 0, 1) := by decide +kernel
theorem dX12_rent_115 : decode cX12_rent 115 = .ok (.iadd, 1) := by decide +kernel
theorem dX12_rent_116 : decode cX12_rent 116 = .ok (.ireturn, 1) := by decide +kernel
theorem dX12_isSo_0 : decode cX12_isSo 0 = .ok (.iconst 1, 1) := by decide +kernel
theorem dX12_isSo_1 : decode cX12_isSo 1 = .ok (.istore 6, 2) := by decide +kernel
theorem dX12_isSo_3 : decode cX12_isSo 3 = .ok (.iconst 0, 1) := by decide +kernel
theorem dX12_isSo_4 : decode cX12_isSo 4 = .ok (.istore 7, 2) := by decide +kernel
theorem dX12_isSo_6 : decode cX12_isSo 6 = .ok (.iload 7, 2) := by decide +kernel
theorem dX12_isSo_8 : decode cX12_isSo 8 = .ok (.iload 5, 2) := by decide +kernel
theorem dX12_isSo_10 : decode cX12_isSo 10 = .ok (.if_icmp .ge 57, 3) := by decide +kernel
theorem dX12_isSo_13 : decode cX12_isSo 13 = .ok (.aload_n 0, 1) := by decide +kernel
theorem dX12_isSo_14 : decode cX12_isSo 14 = .ok (.aload_n 0, 1) := by decide +kernel
theorem dX12_isSo_15 : decode cX12_isSo 15 = .ok (.getfield 38, 3) := by decide +kernel
theorem dX12_isSo_18 : decode cX12_isSo 18 = .ok (.iload_n 1, 1) := by decide +kernel
theorem dX12_isSo_19 : decode cX12_isSo 19 = .ok (.iload_n 2, 1) := by decide +kernel
theorem dX12_isSo_20 : decode cX12_isSo 20 = .ok (.iload_n 3, 1) := by decide +kernel
theorem dX12_isSo_21 : decode cX12_isSo 21 = .ok (.invokevirtual 159, 3) := by decide +kernel
theorem dX12_isSo_24 : decode cX12_isSo 24 = .ok (.iload 6, 2) := by decide +kernel
theorem dX12_isSo_26 : decode cX12_isSo 26 = .ok (.ifCond .eq 32, 3) := by decide +kernel
theorem dX12_isSo_29 : decode cX12_isSo 29 = .ok (.aload_n 0, 1) := by decide +kernel
theorem dX12_isSo_30 : decode cX12_isSo 30 = .ok (.getfield 38, 3) := by decide +kernel
theorem dX12_isSo_33 : decode cX12_isSo 33 = .ok (.bipush 17, 2) := by decide +kernel
theorem dX12_isSo_35 : decode cX12_isSo 35 = .ok (.iload_n 1, 1) := by decide +kernel
theorem dX12_isSo_36 : decode cX12_isSo 36 = .ok (.iadd, 1) := by decide +kernel
theorem dX12_isSo_37 : decode cX12_isSo 37 = .ok (.iaload, 1) := by decide +kernel
theorem dX12_isSo_38 : decode cX12_isSo 38 = .ok (.invokestatic 209, 3) := by decide +kernel
theorem dX12_isSo_41 : decode cX12_isSo 41 = .ok (.aload_n 0, 1) := by decide +kernel
theorem dX12_isSo_42 : decode cX12_isSo 42 = .ok (.getfield 16, 3) := by decide +kernel
theorem dX12_isSo_45 : decode cX12_isSo 45 = .ok (.iload 4, 2) := by decide +kernel
theorem dX12_isSo_47 : decode cX12_isSo 47 = .ok (.iload 7, 2) := by decide +kernel
theorem dX12_isSo_49 : decode cX12_isSo 49 = .ok (.iadd, 1) := by decide +kernel
theorem dX12_isSo_50 : decode cX12_isSo 50 = .ok (.iaload, 1) := by decide +kernel
theorem dX12_isSo_51 : decode cX12_isSo 51 = .ok (.if_icmp .ne 7, 3) := by decide +kernel
theorem dX12_isSo_54 : decode cX12_isSo 54 = .ok (.iconst 1, 1) := by decide +kernel
theorem dX12_isSo_55 : decode cX12_isSo 55 = .ok (.goto 4, 3) := by decide +kernel
theorem dX12_isSo_58 : decode cX12_isSo 58 = .ok (.iconst 0, 1) := by decide +kernel
theorem dX12_isSo_59 : decode cX12_isSo 59 = .ok (.istore 6, 2) := by decide +kernel
theorem dX12_isSo_61 : decode cX12_isSo 61 = .ok (.iinc 7 1, 3) := by decide +kernel
theorem dX12_isSo_64 : decode cX12_isSo 64 = .ok (.goto (-58), 3) := by decide +kernel
theorem dX12_isSo_67 : decode cX12_isSo 67 = .ok (.iload 6, 2) := by decide +kernel
theorem dX12_isSo_69 : decode cX12_isSo 69 = .ok (.ireturn, 1) := by decide +kernel
theorem dX12_fits_0 : decode cX12_fits 0 = .ok (.aload_n 0, 1) := by decide +kernel
theorem dX12_fits_1 : decode cX12_fits 1 = .ok (.iload_n 1, 1) := by decide +kernel
theorem dX12_fits_2 : decode cX12_fits 2 = .ok (.invokevirtual 185, 3) := by decide +kernel
theorem dX12_fits_5 : decode cX12_fits 5 = .ok (.ifCond .eq 31, 3) := by decide +kernel
theorem dX12_fits_8 : decode cX12_fits 8 = .ok (.iload_n 2, 1) := by decide +kernel
theorem dX12_fits_9 : decode cX12_fits 9 = .ok (.invokestatic 70, 3) := by decide +kernel
theorem dX12_fits_12 : decode cX12_fits 12 = .ok (.ifCond .eq 24, 3) := by decide +kernel
theorem dX12_fits_15 : decode cX12_fits 15 = .ok (.iload 4, 2) := by decide +kernel
theorem dX12_fits_17 : decode cX12_fits 17 = .ok (.iconst 1, 1) := by decide +kernel
theorem dX12_fits_18 : decode cX12_fits 18 = .ok (.bipush 12, 2) := by decide +kernel
theorem dX12_fits_20 : decode cX12_fits 20 = .ok (.invokestatic 61, 3) := by decide +kernel
theorem dX12_fits_23 : decode cX12_fits 23 = .ok (.ifCond .eq 13, 3) := by decide +kernel
theorem dX12_fits_26 : decode cX12_fits 26 = .ok (.iload 5, 2) := by decide +kernel
theorem dX12_fits_28 : decode cX12_fits 28 = .ok (.iconst 0, 1) := by decide +kernel
theorem dX12_fits_29 : decode cX12_fits 29 = .ok (.iconst 3, 1) := by decide +kernel
theorem dX12_fits_30 : decode cX12_fits 30 = .ok (.invokestatic 61, 3) := by decide +kernel
theorem dX12_fits_33 : decode cX12_fits 33 = .ok (.ifCond .ne 6, 3) := by decide +kernel
theorem dX12_fits_36 : decode cX12_fits 36 = .ok (.ldc 74, 2) := by decide +kernel
theorem dX12_fits_38 : decode cX12_fits 38 = .ok (.ireturn, 1) := by decide +kernel
theorem dX12_fits_39 : decode cX12_fits 39 = .ok (.aload_n 0, 1) := by decide +kernel
theorem dX12_fits_40 : decode cX12_fits 40 = .ok (.getfield 7, 3) := by decide +kernel
theorem dX12_fits_43 : decode cX12_fits 43 = .ok (.iload_n 2, 1) := by decide +kernel
theorem dX12_fits_44 : decode cX12_fits 44 = .ok (.iaload, 1) := by decide +kernel
theorem dX12_fits_45 : decode cX12_fits 45 = .ok (.ldc 60, 2) := by decide +kernel
theorem dX12_fits_47 : decode cX12_fits 47 = .ok (.if_icmp .ne 9, 3) := by decide +kernel
theorem dX12_fits_50 : decode cX12_fits 50 = .ok (.aload_n 0, 1) := by decide +kernel
theorem dX12_fits_51 : decode cX12_fits 51 = .ok (.iconst 1, 1) := by decide +kernel
theorem dX12_fits_52 : decode cX12_fits 52 = .ok (.invokevirtual 75, 3) := by decide +kernel
theorem dX12_fits_55 : decode cX12_fits 55 = .ok (.ireturn, 1) := by decide +kernel
theorem dX12_fits_56 : decode cX12_fits 56 = .ok (.aload_n 0, 1) := by decide +kernel
theorem dX12_fits_57 : decode cX12_fits 57 = .ok (.iload_n 2, 1) := by decide +kernel
theorem dX12_fits_58 : decode cX12_fits 58 = .ok (.iload_n 3, 1) := by decide +kernel
theorem dX12_fits_59 : decode cX12_fits 59 = .ok (.iload 4, 2) := by decide +kernel
theorem dX12_fits_61 : decode cX12_fits 61 = .ok (.invokevirtual 82, 3) := by decide +kernel
theorem dX12_fits_64 : decode cX12_fits 64 = .ok (.ifCond .ne 9, 3) := by decide +kernel
theorem dX12_fits_67 : decode cX12_fits 67 = .ok (.aload_n 0, 1) := by decide +kernel
theorem dX12_fits_68 : decode cX12_fits 68 = .ok (.iconst 2, 1) := by decide +kernel
theorem dX12_fits_69 : decode cX12_fits 69 = .ok (.invokevirtual 75, 3) := by decide +kernel
theorem dX12_fits_72 : decode cX12_fits 72 = .ok (.ireturn, 1) := by decide +kernel
theorem dX12_fits_73 : decode cX12_fits 73 = .ok (.iload 5, 2) := by decide +kernel
theorem dX12_fits_75 : decode cX12_fits 75 = .ok (.ifCond .ne 7, 3) := by decide +kernel
theorem dX12_fits_78 : decode cX12_fits 78 = .ok (.iconst 1, 1) := by decide +kernel
theorem dX12_fits_79 : decode cX12_fits 79 = .ok (.goto 4, 3) := by decide +kernel
theorem dX12_fits_82 : decode cX12_fits 82 = .ok (.iconst 0, 1) := by decide +kernel
theorem dX12_fits_83 : decode cX12_fits 83 = .ok (.istore 6, 2) := by decide +kernel
theorem dX12_fits_85 : decode cX12_fits 85 = .ok (.iload 5, 2) := by decide +kernel
theorem dX12_fits_87 : decode cX12_fits 87 = .ok (.ifCond .ne 7, 3) := by decide +kernel
theorem dX12_fits_90 : decode cX12_fits 90 = .ok (.iconst 5, 1) := by decide +kernel
theorem dX12_fits_91 : decode cX12_fits 91 = .ok (.goto 30, 3) := by decide +kernel
theorem dX12_fits_94 : decode cX12_fits 94 = .ok (.iload 5, 2) := by decide +kernel
theorem dX12_fits_96 : decode cX12_fits 96 = .ok (.iconst 1, 1) := by decide +kernel
theorem dX12_fits_97 : decode cX12_fits 97 = .ok (.if_icmp .ne 12, 3) := by decide +kernel
theorem dX12_fits_100 : decode cX12_fits 100 = .ok (.aload_n 0, 1) := by decide +kernel
theorem dX12_fits_101 : decode cX12_fits 101 = .ok (.getfield 29, 3) := by decide +kernel
theorem dX12_fits_104 : decode cX12_fits 104 = .ok (.iconst 2, 1) := by decide +kernel
theorem dX12_fits_105 : decode cX12_fits 105 = .ok (.iaload, 1) := by decide +kernel
theorem dX12_fits_106 : decode cX12_fits 106 = .ok (.goto 15, 3) := by decide +kernel
theorem dX12_fits_109 : decode cX12_fits 109 = .ok (.iload 5, 2) := by decide +kernel
theorem dX12_fits_111 : decode cX12_fits 111 = .ok (.iconst 2, 1) := by decide +kernel
theorem dX12_fits_112 : decode cX12_fits 112 = .ok (.if_icmp .ne 7, 3) := by decide +kernel
theorem dX12_fits_115 : decode cX12_fits 115 = .ok (.iconst 1, 1) := by decide +kernel
theorem dX12_fits_116 : decode cX12_fits 116 = .ok (.goto 5, 3) := by decide +kernel
theorem dX12_fits_119 : decode cX12_fits 119 = .ok (.bipush 24, 2) := by decide +kernel
theorem dX12_fits_121 : decode cX12_fits 121 = .ok (.istore 7, 2) := by decide +kernel
theorem dX12_fits_123 : decode cX12_fits 123 = .ok (.iconst 0, 1) := by decide +kernel
theorem dX12_fits_124 : decode cX12_fits 124 = .ok (.istore 8, 2) := by decide +kernel
theorem dX12_fits_126 : decode cX12_fits 126 = .ok (.iload 6, 2) := by decide +kernel
theorem dX12_fits_128 : decode cX12_fits 128 = .ok (.istore 9, 2) := by decide +kernel
theorem dX12_fits_130 : decode cX12_fits 130 = .ok (.iload 9, 2) := by decide +kernel
theorem dX12_fits_132 : decode cX12_fits 132 = .ok (.iload 7, 2) := by decide +kernel
theorem dX12_fits_134 : decode cX12_fits 134 = .ok (.if_icmp .gt 120, 3) := by decide +kernel
theorem dX12_fits_137 : decode cX12_fits 137 = .ok (.aload_n 0, 1) := by decide +kernel
theorem dX12_fits_138 : decode cX12_fits 138 = .ok (.invokevirtual 200, 3) := by decide +kernel
theorem dX12_fits_141 : decode cX12_fits 141 = .ok (.iload 5, 2) := by decide +kernel
theorem dX12_fits_143 : decode cX12_fits 143 = .ok (.iconst 1, 1) := by decide +kernel
theorem dX12_fits_144 : decode cX12_fits 144 = .ok (.if_icmp .ne 14, 3) := by decide +kernel
theorem dX12_fits_147 : decode cX12_fits 147 = .ok (.aload_n 0, 1) := by decide +kernel
theorem dX12_fits_148 : decode cX12_fits 148 = .ok (.getfield 38, 3) := by decide +kernel
theorem dX12_fits_151 : decode cX12_fits 151 = .ok (.bipush 7, 2) := by decide +kernel
theorem dX12_fits_153 : decode cX12_fits 153 = .ok (.iload_n 1, 1) := by decide +kernel
theorem dX12_fits_154 : decode cX12_fits 154 = .ok (.iadd, 1) := by decide +kernel
theorem dX12_fits_155 : decode cX12_fits 155 = .ok (.iload 9, 2) := by decide +kernel
theorem dX12_fits_157 : decode cX12_fits 157 = .ok (.iastore, 1) := by decide +kernel
theorem dX12_fits_158 : decode cX12_fits 158 = .ok (.iload 5, 2) := by decide +kernel
theorem dX12_fits_160 : decode cX12_fits 160 = .ok (.iconst 2, 1) := by decide +kernel
theorem dX12_fits_161 : decode cX12_fits 161 = .ok (.if_icmp .ne 14, 3) := by decide +kernel
theorem dX12_fits_164 : decode cX12_fits 164 = .ok (.aload_n 0, 1) := by decide +kernel
theorem dX12_fits_165 : decode cX12_fits 165 = .ok (.getfield 38, 3) := by decide +kernel
theorem dX12_fits_168 : decode cX12_fits 168 = .ok (.bipush 12, 2) := by decide +kernel
theorem dX12_fits_170 : decode cX12_fits 170 = .ok (.iload_n 1, 1) := by decide +kernel
theorem dX12_fits_171 : decode cX12_fits 171 = .ok (.iadd, 1) := by decide +kernel
theorem dX12_fits_172 : decode cX12_fits 172 = .ok (.iload 9, 2) := by decide +kernel
theorem dX12_fits_174 : decode cX12_fits 174 = .ok (.iastore, 1) := by decide +kernel
theorem dX12_fits_175 : decode cX12_fits 175 = .ok (.iload 5, 2) := by decide +kernel
theorem dX12_fits_177 : decode cX12_fits 177 = .ok (.ifCond .ne 8, 3) := by decide +kernel
theorem dX12_fits_180 : decode cX12_fits 180 = .ok (.iload 9, 2) := by decide +kernel
theorem dX12_fits_182 : decode cX12_fits 182 = .ok (.goto 12, 3) := by decide +kernel
theorem dX12_fits_185 : decode cX12_fits 185 = .ok (.aload_n 0, 1) := by decide +kernel
theorem dX12_fits_186 : decode cX12_fits 186 = .ok (.getfield 29, 3) := by decide +kernel
theorem dX12_fits_189 : decode cX12_fits 189 = .ok (.bipush 28, 2) := by decide +kernel
theorem dX12_fits_191 : decode cX12_fits 191 = .ok (.iload_n 1, 1) := by decide +kernel
theorem dX12_fits_192 : decode cX12_fits 192 = .ok (.iadd, 1) := by decide +kernel
theorem dX12_fits_193 : decode cX12_fits 193 = .ok (.iaload, 1) := by decide +kernel
theorem dX12_fits_194 : decode cX12_fits 194 = .ok (.istore 10, 2) := by decide +kernel
theorem dX12_fits_196 : decode cX12_fits 196 = .ok (.iload 5, 2) := by decide +kernel
theorem dX12_fits_198 : decode cX12_fits 198 = .ok (.iconst 3, 1) := by decide +kernel
theorem dX12_fits_199 : decode cX12_fits 199 = .ok (.if_icmp .ne 8, 3) := by decide +kernel
theorem dX12_fits_202 : decode cX12_fits 202 = .ok (.iload 9, 2) := by decide +kernel
theorem dX12_fits_204 : decode cX12_fits 204 = .ok (.goto 9, 3) := by decide +kernel
theorem dX12_fits_207 : decode cX12_fits 207 = .ok (.aload_n 0, 1) := by decide +kernel
theorem dX12_fits_208 : decode cX12_fits 208 = .ok (.getfield 29, 3) := by decide +kernel
theorem dX12_fits_211 : decode cX12_fits 211 = .ok (.iconst 1, 1) := by decide +kernel
theorem dX12_fits_212 : decode cX12_fits 212 = .ok (.iaload, 1) := by decide +kernel
theorem dX12_fits_213 : decode cX12_fits 213 = .ok (.istore 11, 2) := by decide +kernel
theorem dX12_fits_215 : decode cX12_fits 215 = .ok (.iload 8, 2) := by decide +kernel
theorem dX12_fits_217 : decode cX12_fits 217 = .ok (.aload_n 0, 1) := by decide +kernel
theorem dX12_fits_218 : decode cX12_fits 218 = .ok (.iload_n 1, 1) := by decide +kernel
theorem dX12_fits_219 : decode cX12_fits 219 = .ok (.iload 10, 2) := by decide +kernel
theorem dX12_fits_221 : decode cX12_fits 221 = .ok (.iload 11, 2) := by decide +kernel
theorem dX12_fits_223 : decode cX12_fits 223 = .ok (.bipush 40, 2) := by decide +kernel
theorem dX12_fits_225 : decode cX12_fits 225 = .ok (.iload_n 2, 1) := by decide +kernel
theorem dX12_fits_226 : decode cX12_fits 226 = .ok (.imul, 1) := by decide +kernel
theorem dX12_fits_227 : decode cX12_fits 227 = .ok (.iload_n 3, 1) := by decide +kernel
theorem dX12_fits_228 : decode cX12_fits 228 = .ok (.iadd, 1) := by decide +kernel
theorem dX12_fits_229 : decode cX12_fits 229 = .ok (.iload 4, 2) := by decide +kernel
theorem dX12_fits_231 : decode cX12_fits 231 = .ok (.invokevirtual 213, 3) := by decide +kernel
theorem dX12_fits_234 : decode cX12_fits 234 = .ok (.ifCond .eq 10, 3) := by decide +kernel
theorem dX12_fits_237 : decode cX12_fits 237 = .ok (.iconst 1, 1) := by decide +kernel
theorem dX12_fits_238 : decode cX12_fits 238 = .ok (.iload 9, 2) := by decide +kernel
theorem dX12_fits_240 : decode cX12_fits 240 = .ok (.ishl, 1) := by decide +kernel
theorem dX12_fits_241 : decode cX12_fits 241 = .ok (.goto 4, 3) := by decide +kernel
theorem dX12_fits_244 : decode cX12_fits 244 = .ok (.iconst 0, 1) := by decide +kernel
theorem dX12_fits_245 : decode cX12_fits 245 = .ok (.ior, 1) := by decide +kernel
theorem dX12_fits_246 : decode cX12_fits 246 = .ok (.istore 8, 2) := by decide +kernel
theorem dX12_fits_248 : decode cX12_fits 248 = .ok (.iinc 9 1, 3) := by decide +kernel
theorem dX12_fits_251 : decode cX12_fits 251 = .ok (.goto (-121), 3) := by decide +kernel
theorem dX12_fits_254 : decode cX12_fits 254 = .ok (.aload_n 0, 1) := by decide +kernel
theorem dX12_fits_255 : decode cX12_fits 255 = .ok (.iload 8, 2) := by decide +kernel
theorem dX12_fits_257 : decode cX12_fits 257 = .ok (.invokevirtual 79, 3) := by decide +kernel
theorem dX12_fits_260 : decode cX12_fits 260 = .ok (.ireturn, 1) := by decide +kernel
theorem dX12_settled_0 : decode cX12_settled 0 = .ok (.aload_n 0, 1) := by decide +kernel
theorem dX12_settled_1 : decode cX12_settled 1 = .ok (.iload_n 1, 1) := by decide +kernel
theorem dX12_settled_2 : decode cX12_settled 2 = .ok (.invokevirtual 185, 3) := by decide +kernel
theorem dX12_settled_5 : decode cX12_settled 5 = .ok (.ifCond .eq 42, 3) := by decide +kernel
theorem dX12_settled_8 : decode cX12_settled 8 = .ok (.aload_n 0, 1) := by decide +kernel
theorem dX12_settled_9 : decode cX12_settled 9 = .ok (.iload_n 2, 1) := by decide +kernel
theorem dX12_settled_10 : decode cX12_settled 10 = .ok (.invokevirtual 178, 3) := by decide +kernel
theorem dX12_settled_13 : decode cX12_settled 13 = .ok (.ifCond .eq 34, 3) := by decide +kernel
theorem dX12_settled_16 : decode cX12_settled 16 = .ok (.iload_n 3, 1) := by decide +kernel
theorem dX12_settled_17 : decode cX12_settled 17 = .ok (.iconst 0, 1) := by decide +kernel
theorem dX12_settled_18 : decode cX12_settled 18 = .ok (.bipush 20, 2) := by decide +kernel
theorem dX12_settled_20 : decode cX12_settled 20 = .ok (.invokestatic 61, 3) := by decide +kernel
theorem dX12_settled_23 : decode cX12_settled 23 = .ok (.ifCond .eq 24, 3) := by decide +kernel
theorem dX12_settled_26 : decode cX12_settled 26 = .ok (.iload 4, 2) := by decide +kernel
theorem dX12_settled_28 : decode cX12_settled 28 = .ok (.iconst 0, 1) := by decide +kernel
theorem dX12_settled_29 : decode cX12_settled 29 = .ok (.bipush 10, 2) := by decide +kernel
theorem dX12_settled_31 : decode cX12_settled 31 = .ok (.invokestatic 61, 3) := by decide +kernel
theorem dX12_settled_34 : decode cX12_settled 34 = .ok (.ifCond .eq 13, 3) := by decide +kernel
theorem dX12_settled_37 : decode cX12_settled 37 = .ok (.iload 5, 2) := by decide +kernel
theorem dX12_settled_39 : decode cX12_settled 39 = .ok (.iconst 0, 1) := by decide +kernel
theorem dX12_settled_40 : decode cX12_settled 40 = .ok (.iconst 1, 1) := by decide +kernel
theorem dX12_settled_41 : decode cX12_settled 41 = .ok (.invokestatic 61, 3) := by decide +kernel
theorem dX12_settled_44 : decode cX12_settled 44 = .ok (.ifCond .ne 6, 3) := by decide +kernel
theorem dX12_settled_47 : decode cX12_settled 47 = .ok (.ldc 74, 2) := by decide +kernel
theorem dX12_settled_49 : decode cX12_settled 49 = .ok (.ireturn, 1) := by decide +kernel
theorem dX12_settled_50 : decode cX12_settled 50 = .ok (.iconst 0, 1) := by decide +kernel
theorem dX12_settled_51 : decode cX12_settled 51 = .ok (.istore 6, 2) := by decide +kernel
theorem dX12_settled_53 : decode cX12_settled 53 = .ok (.iconst 1, 1) := by decide +kernel
theorem dX12_settled_54 : decode cX12_settled 54 = .ok (.istore 7, 2) := by decide +kernel
theorem dX12_settled_56 : decode cX12_settled 56 = .ok (.iconst 0, 1) := by decide +kernel
theorem dX12_settled_57 : decode cX12_settled 57 = .ok (.istore 8, 2) := by decide +kernel
theorem dX12_settled_59 : decode cX12_settled 59 = .ok (.iload 8, 2) := by decide +kernel
theorem dX12_settled_61 : decode cX12_settled 61 = .ok (.iconst 1, 1) := by decide +kernel
theorem dX12_settled_62 : decode cX12_settled 62 = .ok (.aload_n 0, 1) := by decide +kernel
theorem dX12_settled_63 : decode cX12_settled 63 = .ok (.getfield 29, 3) := by decide +kernel
theorem dX12_settled_66 : decode cX12_settled 66 = .ok (.iconst 2, 1) := by decide +kernel
theorem dX12_settled_67 : decode cX12_settled 67 = .ok (.iaload, 1) := by decide +kernel
theorem dX12_settled_68 : decode cX12_settled 68 = .ok (.ishl, 1) := by decide +kernel
theorem dX12_settled_69 : decode cX12_settled 69 = .ok (.if_icmp .ge 153, 3) := by decide +kernel
theorem dX12_settled_72 : decode cX12_settled 72 = .ok (.iconst 1, 1) := by decide +kernel
theorem dX12_settled_73 : decode cX12_settled 73 = .ok (.istore 9, 2) := by decide +kernel
theorem dX12_settled_75 : decode cX12_settled 75 = .ok (.aload_n 0, 1) := by decide +kernel
theorem dX12_settled_76 : decode cX12_settled 76 = .ok (.invokevirtual 200, 3) := by decide +kernel
theorem dX12_settled_79 : decode cX12_settled 79 = .ok (.aload_n 0, 1) := by decide +kernel
theorem dX12_settled_80 : decode cX12_settled 80 = .ok (.getfield 29, 3) := by decide +kernel
theorem dX12_settled_83 : decode cX12_settled 83 = .ok (.iconst 2, 1) := by decide +kernel
theorem dX12_settled_84 : decode cX12_settled 84 = .ok (.iaload, 1) := by decide +kernel
theorem dX12_settled_85 : decode cX12_settled 85 = .ok (.iconst 1, 1) := by decide +kernel
theorem dX12_settled_86 : decode cX12_settled 86 = .ok (.isub, 1) := by decide +kernel
theorem dX12_settled_87 : decode cX12_settled 87 = .ok (.istore 10, 2) := by decide +kernel
theorem dX12_settled_89 : decode cX12_settled 89 = .ok (.iload 10, 2) := by decide +kernel
theorem dX12_settled_91 : decode cX12_settled 91 = .ok (.ifCond .lt 75, 3) := by decide +kernel
theorem dX12_settled_94 : decode cX12_settled 94 = .ok (.iload 9, 2) := by decide +kernel
theorem dX12_settled_96 : decode cX12_settled 96 = .ok (.iload 8, 2) := by decide +kernel
theorem dX12_settled_98 : decode cX12_settled 98 = .ok (.iload 10, 2) := by decide +kernel
theorem dX12_settled_100 : decode cX12_settled 100 = .ok (.invokestatic 181, 3) := by decide +kernel
theorem dX12_settled_103 : decode cX12_settled 103 = .ok (.ifCond .eq 8, 3) := by decide +kernel
theorem dX12_settled_106 : decode cX12_settled 106 = .ok (.iload 4, 2) := by decide +kernel
theorem dX12_settled_108 : decode cX12_settled 108 = .ok (.goto 8, 3) := by decide +kernel
theorem dX12_settled_111 : decode cX12_settled 111 = .ok (.bipush 10, 2) := by decide +kernel
theorem dX12_settled_113 : decode cX12_settled 113 = .ok (.iload 4, 2) := by decide +kernel
theorem dX12_settled_115 : decode cX12_settled 115 = .ok (.isub, 1) := by decide +kernel
theorem dX12_settled_116 : decode cX12_settled 116 = .ok (.imul, 1) := by decide +kernel
theorem dX12_settled_117 : decode cX12_settled 117 = .ok (.istore 9, 2) := by decide +kernel
theorem dX12_settled_119 : decode cX12_settled 119 = .ok (.aload_n 0, 1) := by decide +kernel
theorem dX12_settled_120 : decode cX12_settled 120 = .ok (.getfield 38, 3) := by decide +kernel
theorem dX12_settled_123 : decode cX12_settled 123 = .ok (.iconst 1, 1) := by decide +kernel
theorem dX12_settled_124 : decode cX12_settled 124 = .ok (.iload 10, 2) := by decide +kernel
theorem dX12_settled_126 : decode cX12_settled 126 = .ok (.iadd, 1) := by decide +kernel
theorem dX12_settled_127 : decode cX12_settled 127 = .ok (.dup2, 1) := by decide +kernel
theorem dX12_settled_128 : decode cX12_settled 128 = .ok (.iaload, 1) := by decide +kernel
theorem dX12_settled_129 : decode cX12_settled 129 = .ok (.iload 8, 2) := by decide +kernel
theorem dX12_settled_131 : decode cX12_settled 131 = .ok (.iload 10, 2) := by decide +kernel
theorem dX12_settled_133 : decode cX12_settled 133 = .ok (.invokestatic 181, 3) := by decide +kernel
theorem dX12_settled_136 : decode cX12_settled 136 = .ok (.ifCond .eq 21, 3) := by decide +kernel
theorem dX12_settled_139 : decode cX12_settled 139 = .ok (.aload_n 0, 1) := by decide +kernel
theorem dX12_settled_140 : decode cX12_settled 140 = .ok (.aload_n 0, 1) := by decide +kernel
theorem dX12_settled_141 : decode cX12_settled 141 = .ok (.getfield 38, 3) := by decide +kernel
theorem dX12_settled_144 : decode cX12_settled 144 = .ok (.iload 10, 2) := by decide +kernel
theorem dX12_settled_146 : decode cX12_settled 146 = .ok (.iconst 1, 1) := by decide +kernel
theorem dX12_settled_147 : decode cX12_settled 147 = .ok (.invokevirtual 174, 3) := by decide +kernel
theorem dX12_settled_150 : decode cX12_settled 150 = .ok (.ifCond .eq 7, 3) := by decide +kernel
theorem dX12_settled_153 : decode cX12_settled 153 = .ok (.iconst 1, 1) := by decide +kernel
theorem dX12_settled_154 : decode cX12_settled 154 = .ok (.goto 4, 3) := by decide +kernel
theorem dX12_settled_157 : decode cX12_settled 157 = .ok (.iconst 0, 1) := by decide +kernel
theorem dX12_settled_158 : decode cX12_settled 158 = .ok (.iadd, 1) := by decide +kernel
theorem dX12_settled_159 : decode cX12_settled 159 = .ok (.iastore, 1) := by decide +kernel
theorem dX12_settled_160 : decode cX12_settled 160 = .ok (.iinc 10 (-1), 3) := by decide +kernel
theorem dX12_settled_163 : decode cX12_settled 163 = .ok (.goto (-74), 3) := by decide +kernel
theorem dX12_settled_166 : decode cX12_settled 166 = .ok (.iconst 0, 1) := by decide +kernel
theorem dX12_settled_167 : decode cX12_settled 167 = .ok (.istore 10, 2) := by decide +kernel
theorem dX12_settled_169 : decode cX12_settled 169 = .ok (.iload 10, 2) := by decide +kernel
theorem dX12_settled_171 : decode cX12_settled 171 = .ok (.iload_n 3, 1) := by decide +kernel
theorem dX12_settled_172 : decode cX12_settled 172 = .ok (.if_icmp .ge 17, 3) := by decide +kernel
theorem dX12_settled_175 : decode cX12_settled 175 = .ok (.aload_n 0, 1) := by decide +kernel
theorem dX12_settled_176 : decode cX12_settled 176 = .ok (.aload_n 0, 1) := by decide +kernel
theorem dX12_settled_177 : decode cX12_settled 177 = .ok (.getfield 38, 3) := by decide +kernel
theorem dX12_settled_180 : decode cX12_settled 180 = .ok (.invokevirtual 167, 3) := by decide +kernel
theorem dX12_settled_183 : decode cX12_settled 183 = .ok (.iinc 10 1, 3) := by decide +kernel
theorem dX12_settled_186 : decode cX12_settled 186 = .ok (.goto (-17), 3) := by decide +kernel
theorem dX12_settled_189 : decode cX12_settled 189 = .ok (.iload 6, 2) := by decide +kernel
theorem dX12_settled_191 : decode cX12_settled 191 = .ok (.aload_n 0, 1) := by decide +kernel
theorem dX12_settled_192 : decode cX12_settled 192 = .ok (.getfield 38, 3) := by decide +kernel
theorem dX12_settled_195 : decode cX12_settled 195 = .ok (.bipush 17, 2) := by decide +kernel
theorem dX12_settled_197 : decode cX12_settled 197 = .ok (.iload_n 1, 1) := by decide +kernel
theorem dX12_settled_198 : decode cX12_settled 198 = .ok (.iadd, 1) := by decide +kernel
theorem dX12_settled_199 : decode cX12_settled 199 = .ok (.iaload, 1) := by decide +kernel
theorem dX12_settled_200 : decode cX12_settled 200 = .ok (.iload_n 2, 1) := by decide +kernel
theorem dX12_settled_201 : decode cX12_settled 201 = .ok (.invokestatic 181, 3) := by decide +kernel
theorem dX12_settled_204 : decode cX12_settled 204 = .ok (.ifCond .eq 8, 3) := by decide +kernel
theorem dX12_settled_207 : decode cX12_settled 207 = .ok (.iload 9, 2) := by decide +kernel
theorem dX12_settled_209 : decode cX12_settled 209 = .ok (.goto 4, 3) := by decide +kernel
theorem dX12_settled_212 : decode cX12_settled 212 = .ok (.iconst 0, 1) := by decide +kernel
theorem dX12_settled_213 : decode cX12_settled 213 = .ok (.iadd, 1) := by decide +kernel
theorem dX12_settled_214 : decode cX12_settled 214 = .ok (.istore 6, 2) := by decide +kernel
theorem dX12_settled_216 : decode cX12_settled 216 = .ok (.iinc 8 1, 3) := by decide +kernel
theorem dX12_settled_219 : decode cX12_settled 219 = .ok (.goto (-160), 3) := by decide +kernel
theorem dX12_settled_222 : decode cX12_settled 222 = .ok (.iconst 0, 1) := by decide +kernel
theorem dX12_settled_223 : decode cX12_settled 223 = .ok (.istore 8, 2) := by decide +kernel
theorem dX12_settled_225 : decode cX12_settled 225 = .ok (.iload 8, 2) := by decide +kernel
theorem dX12_settled_227 : decode cX12_settled 227 = .ok (.aload_n 0, 1) := by decide +kernel
theorem dX12_settled_228 : decode cX12_settled 228 = .ok (.getfield 29, 3) := by decide +kernel
theorem dX12_settled_231 : decode cX12_settled 231 = .ok (.iconst 2, 1) := by decide +kernel
theorem dX12_settled_232 : decode cX12_settled 232 = .ok (.iaload, 1) := by decide +kernel
theorem dX12_settled_233 : decode cX12_settled 233 = .ok (.if_icmp .ge 16, 3) := by decide +kernel
theorem dX12_settled_236 : decode cX12_settled 236 = .ok (.iload 7, 2) := by decide +kernel
theorem dX12_settled_238 : decode cX12_settled 238 = .ok (.bipush 10, 2) := by decide +kernel
theorem dX12_settled_240 : decode cX12_settled 240 = .ok (.imul, 1) := by decide +kernel
theorem dX12_settled_241 : decode cX12_settled 241 = .ok (.istore 7, 2) := by decide +kernel
theorem dX12_settled_243 : decode cX12_settled 243 = .ok (.iinc 8 1, 3) := by decide +kernel
theorem dX12_settled_246 : decode cX12_settled 246 = .ok (.goto (-21), 3) := by decide +kernel
theorem dX12_settled_249 : decode cX12_settled 249 = .ok (.iload 6, 2) := by decide +kernel
theorem dX12_settled_251 : decode cX12_settled 251 = .ok (.istore 8, 2) := by decide +kernel
theorem dX12_settled_253 : decode cX12_settled 253 = .ok (.iload 7, 2) := by decide +kernel
theorem dX12_settled_255 : decode cX12_settled 255 = .ok (.istore 9, 2) := by decide +kernel
theorem dX12_settled_257 : decode cX12_settled 257 = .ok (.iload 9, 2) := by decide +kernel
theorem dX12_settled_259 : decode cX12_settled 259 = .ok (.ifCond .eq 21, 3) := by decide +kernel
theorem dX12_settled_262 : decode cX12_settled 262 = .ok (.iload 8, 2) := by decide +kernel
