theorem d_Ma_abs_0 : decode b_Ma_abs 0 = .ok (.lload_n 0, 1) := by decide +kernel
theorem d_Ma_abs_1 : decode b_Ma_abs 1 = .ok (.lconst 0, 1) := by decide +kernel
theorem d_Ma_abs_2 : decode b_Ma_abs 2 = .ok (.lcmp, 1) := by decide +kernel
theorem d_Ma_abs_3 : decode b_Ma_abs 3 = .ok (.ifCond .ge 8, 3) := by decide +kernel
theorem d_Ma_abs_6 : decode b_Ma_abs 6 = .ok (.lload_n 0, 1) := by decide +kernel
theorem d_Ma_abs_7 : decode b_Ma_abs 7 = .ok (.lneg, 1) := by decide +kernel
theorem d_Ma_abs_8 : decode b_Ma_abs 8 = .ok (.goto 4, 3) := by decide +kernel
theorem d_Ma_abs_11 : decode b_Ma_abs 11 = .ok (.lload_n 0, 1) := by decide +kernel
theorem d_Ma_abs_12 : decode b_Ma_abs 12 = .ok (.lreturn, 1) := by decide +kernel
theorem d_Ma_max_0 : decode b_Ma_max 0 = .ok (.iload_n 0, 1) := by decide +kernel
theorem d_Ma_max_1 : decode b_Ma_max 1 = .ok (.iload_n 1, 1) := by decide +kernel
theorem d_Ma_max_2 : decode b_Ma_max 2 = .ok (.if_icmp .lt 7, 3) := by decide +kernel
theorem d_Ma_max_5 : decode b_Ma_max 5 = .ok (.iload_n 0, 1) := by decide +kernel
theorem d_Ma_max_6 : decode b_Ma_max 6 = .ok (.goto 4, 3) := by decide +kernel
theorem d_Ma_max_9 : decode b_Ma_max 9 = .ok (.iload_n 1, 1) := by decide +kernel
theorem d_Ma_max_10 : decode b_Ma_max 10 = .ok (.ireturn, 1) := by decide +kernel
theorem d_Ma_min_0 : decode b_Ma_min 0 = .ok (.iload_n 0, 1) := by decide +kernel
theorem d_Ma_min_1 : decode b_Ma_min 1 = .ok (.iload_n 1, 1) := by decide +kernel
theorem d_Ma_min_2 : decode b_Ma_min 2 = .ok (.if_icmp .gt 7, 3) := by decide +kernel
theorem d_Ma_min_5 : decode b_Ma_min 5 = .ok (.iload_n 0, 1) := by decide +kernel
theorem d_Ma_min_6 : decode b_Ma_min 6 = .ok (.goto 4, 3) := by decide +kernel
theorem d_Ma_min_9 : decode b_Ma_min 9 = .ok (.iload_n 1, 1) := by decide +kernel
theorem d_Ma_min_10 : decode b_Ma_min 10 = .ok (.ireturn, 1) := by decide +kernel
theorem d_Ar_copyOf_AJI_0 : decode b_Ar_copyOf_AJI 0 = .ok (.iload_n 1, 1) := by decide +kernel
theorem d_Ar_copyOf_AJI_1 : decode b_Ar_copyOf_AJI 1 = .ok (.aload_n 0, 1) := by decide +kernel
theorem d_Ar_copyOf_AJI_2 : decode b_Ar_copyOf_AJI 2 = .ok (.arraylength, 1) := by decide +kernel
theorem d_Ar_copyOf_AJI_3 : decode b_Ar_copyOf_AJI 3 = .ok (.if_icmp .ne 11, 3) := by decide +kernel
theorem d_Ar_copyOf_AJI_6 : decode b_Ar_copyOf_AJI 6 = .ok (.aload_n 0, 1) := by decide +kernel
theorem d_Ar_copyOf_AJI_7 : decode b_Ar_copyOf_AJI 7 = .ok (.invokevirtual 319, 3) := by decide +kernel
theorem d_Ar_copyOf_AJI_10 : decode b_Ar_copyOf_AJI 10 = .ok (.checkcast 320, 3) := by decide +kernel
theorem d_Ar_copyOf_AJI_13 : decode b_Ar_copyOf_AJI 13 = .ok (.areturn, 1) := by decide +kernel
theorem d_Ar_copyOf_AJI_14 : decode b_Ar_copyOf_AJI 14 = .ok (.iload_n 1, 1) := by decide +kernel
theorem d_Ar_copyOf_AJI_15 : decode b_Ar_copyOf_AJI 15 = .ok (.newarray .long, 2) := by decide +kernel
theorem d_Ar_copyOf_AJI_17 : decode b_Ar_copyOf_AJI 17 = .ok (.astore_n 2, 1) := by decide +kernel
theorem d_Ar_copyOf_AJI_18 : decode b_Ar_copyOf_AJI 18 = .ok (.aload_n 0, 1) := by decide +kernel
theorem d_Ar_copyOf_AJI_19 : decode b_Ar_copyOf_AJI 19 = .ok (.iconst 0, 1) := by decide +kernel
theorem d_Ar_copyOf_AJI_20 : decode b_Ar_copyOf_AJI 20 = .ok (.aload_n 2, 1) := by decide +kernel
theorem d_Ar_copyOf_AJI_21 : decode b_Ar_copyOf_AJI 21 = .ok (.iconst 0, 1) := by decide +kernel
theorem d_Ar_copyOf_AJI_22 : decode b_Ar_copyOf_AJI 22 = .ok (.aload_n 0, 1) := by decide +kernel
theorem d_Ar_copyOf_AJI_23 : decode b_Ar_copyOf_AJI 23 = .ok (.arraylength, 1) := by decide +kernel
theorem d_Ar_copyOf_AJI_24 : decode b_Ar_copyOf_AJI 24 = .ok (.iload_n 1, 1) := by decide +kernel
theorem d_Ar_copyOf_AJI_25 : decode b_Ar_copyOf_AJI 25 = .ok (.invokestatic 304, 3) := by decide +kernel
theorem d_Ar_copyOf_AJI_28 : decode b_Ar_copyOf_AJI 28 = .ok (.invokestatic 150, 3) := by decide +kernel
theorem d_Ar_copyOf_AJI_31 : decode b_Ar_copyOf_AJI 31 = .ok (.aload_n 2, 1) := by decide +kernel
theorem d_Ar_copyOf_AJI_32 : decode b_Ar_copyOf_AJI 32 = .ok (.areturn, 1) := by decide +kernel
theorem d_Ar_fill_AII_0 : decode b_Ar_fill_AII 0 = .ok (.iconst 0, 1) := by decide +kernel
theorem d_Ar_fill_AII_1 : decode b_Ar_fill_AII 1 = .ok (.istore_n 2, 1) := by decide +kernel
theorem d_Ar_fill_AII_2 : decode b_Ar_fill_AII 2 = .ok (.aload_n 0, 1) := by decide +kernel
theorem d_Ar_fill_AII_3 : decode b_Ar_fill_AII 3 = .ok (.arraylength, 1) := by decide +kernel
theorem d_Ar_fill_AII_4 : decode b_Ar_fill_AII 4 = .ok (.istore_n 3, 1) := by decide +kernel
theorem d_Ar_fill_AII_5 : decode b_Ar_fill_AII 5 = .ok (.iload_n 2, 1) := by decide +kernel
theorem d_Ar_fill_AII_6 : decode b_Ar_fill_AII 6 = .ok (.iload_n 3, 1) := by decide +kernel
theorem d_Ar_fill_AII_7 : decode b_Ar_fill_AII 7 = .ok (.if_icmp .ge 13, 3) := by decide +kernel
theorem d_Ar_fill_AII_10 : decode b_Ar_fill_AII 10 = .ok (.aload_n 0, 1) := by decide +kernel
theorem d_Ar_fill_AII_11 : decode b_Ar_fill_AII 11 = .ok (.iload_n 2, 1) := by decide +kernel
theorem d_Ar_fill_AII_12 : decode b_Ar_fill_AII 12 = .ok (.iload_n 1, 1) := by decide +kernel
theorem d_Ar_fill_AII_13 : decode b_Ar_fill_AII 13 = .ok (.iastore, 1) := by decide +kernel
theorem d_Ar_fill_AII_14 : decode b_Ar_fill_AII 14 = .ok (.iinc 2 1, 3) := by decide +kernel
theorem d_Ar_fill_AII_17 : decode b_Ar_fill_AII 17 = .ok (.goto (-12), 3) := by decide +kernel
theorem d_Ar_fill_AII_20 : decode b_Ar_fill_AII 20 = .ok (.return_, 1) := by decide +kernel
theorem d_Ar_fill_AJJ_0 : decode b_Ar_fill_AJJ 0 = .ok (.iconst 0, 1) := by decide +kernel
theorem d_Ar_fill_AJJ_1 : decode b_Ar_fill_AJJ 1 = .ok (.istore_n 3, 1) := by decide +kernel
theorem d_Ar_fill_AJJ_2 : decode b_Ar_fill_AJJ 2 = .ok (.aload_n 0, 1) := by decide +kernel
theorem d_Ar_fill_AJJ_3 : decode b_Ar_fill_AJJ 3 = .ok (.arraylength, 1) := by decide +kernel
theorem d_Ar_fill_AJJ_4 : decode b_Ar_fill_AJJ 4 = .ok (.istore 4, 2) := by decide +kernel
theorem d_Ar_fill_AJJ_6 : decode b_Ar_fill_AJJ 6 = .ok (.iload_n 3, 1) := by decide +kernel
theorem d_Ar_fill_AJJ_7 : decode b_Ar_fill_AJJ 7 = .ok (.iload 4, 2) := by decide +kernel
theorem d_Ar_fill_AJJ_9 : decode b_Ar_fill_AJJ 9 = .ok (.if_icmp .ge 13, 3) := by decide +kernel
theorem d_Ar_fill_AJJ_12 : decode b_Ar_fill_AJJ 12 = .ok (.aload_n 0, 1) := by decide +kernel
theorem d_Ar_fill_AJJ_13 : decode b_Ar_fill_AJJ 13 = .ok (.iload_n 3, 1) := by decide +kernel
theorem d_Ar_fill_AJJ_14 : decode b_Ar_fill_AJJ 14 = .ok (.lload_n 1, 1) := by decide +kernel
theorem d_Ar_fill_AJJ_15 : decode b_Ar_fill_AJJ 15 = .ok (.lastore, 1) := by decide +kernel
theorem d_Ar_fill_AJJ_16 : decode b_Ar_fill_AJJ 16 = .ok (.iinc 3 1, 3) := by decide +kernel
theorem d_Ar_fill_AJJ_19 : decode b_Ar_fill_AJJ 19 = .ok (.goto (-13), 3) := by decide +kernel
theorem d_Ar_fill_AJJ_22 : decode b_Ar_fill_AJJ 22 = .ok (.return_, 1) := by decide +kernel
