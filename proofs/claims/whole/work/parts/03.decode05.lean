theorem dL_law_1288 : decode cL_law 1288 = .ok (.iconst 0, 1) := by decide +kernel
theorem dL_law_1289 : decode cL_law 1289 = .ok (.ireturn, 1) := by decide +kernel
theorem dL_law_1290 : decode cL_law 1290 = .ok (.aload_n 1, 1) := by decide +kernel
theorem dL_law_1291 : decode cL_law 1291 = .ok (.invokevirtual 155, 3) := by decide +kernel
theorem dL_law_1294 : decode cL_law 1294 = .ok (.aload_n 2, 1) := by decide +kernel
theorem dL_law_1295 : decode cL_law 1295 = .ok (.invokevirtual 158, 3) := by decide +kernel
theorem dL_law_1298 : decode cL_law 1298 = .ok (.if_icmp .eq 5, 3) := by decide +kernel
theorem dL_law_1301 : decode cL_law 1301 = .ok (.iconst 0, 1) := by decide +kernel
theorem dL_law_1302 : decode cL_law 1302 = .ok (.ireturn, 1) := by decide +kernel
theorem dL_law_1303 : decode cL_law 1303 = .ok (.iinc 3 6, 3) := by decide +kernel
theorem dL_law_1306 : decode cL_law 1306 = .ok (.goto (-1288), 3) := by decide +kernel
theorem dL_law_1309 : decode cL_law 1309 = .ok (.iconst 1, 1) := by decide +kernel
theorem dL_law_1310 : decode cL_law 1310 = .ok (.ireturn, 1) := by decide +kernel
