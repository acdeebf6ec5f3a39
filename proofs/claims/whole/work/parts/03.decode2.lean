theorem d_Ga_between_0 : decode b_Ga_between 0 = .ok (.lconst 0, 1) := by decide +kernel
theorem d_Ga_between_1 : decode b_Ga_between 1 = .ok (.lstore 4, 2) := by decide +kernel
theorem d_Ga_between_3 : decode b_Ga_between 3 = .ok (.iconst 0, 1) := by decide +kernel
theorem d_Ga_between_4 : decode b_Ga_between 4 = .ok (.istore 6, 2) := by decide +kernel
theorem d_Ga_between_6 : decode b_Ga_between 6 = .ok (.iload 6, 2) := by decide +kernel
theorem d_Ga_between_8 : decode b_Ga_between 8 = .ok (.aload_n 0, 1) := by decide +kernel
theorem d_Ga_between_9 : decode b_Ga_between 9 = .ok (.getfield 44, 3) := by decide +kernel
theorem d_Ga_between_12 : decode b_Ga_between 12 = .ok (.if_icmp .ge 78, 3) := by decide +kernel
theorem d_Ga_between_15 : decode b_Ga_between 15 = .ok (.iconst 0, 1) := by decide +kernel
theorem d_Ga_between_16 : decode b_Ga_between 16 = .ok (.istore 7, 2) := by decide +kernel
theorem d_Ga_between_18 : decode b_Ga_between 18 = .ok (.iload 7, 2) := by decide +kernel
theorem d_Ga_between_20 : decode b_Ga_between 20 = .ok (.aload_n 0, 1) := by decide +kernel
theorem d_Ga_between_21 : decode b_Ga_between 21 = .ok (.getfield 44, 3) := by decide +kernel
theorem d_Ga_between_24 : decode b_Ga_between 24 = .ok (.if_icmp .ge 60, 3) := by decide +kernel
theorem d_Ga_between_27 : decode b_Ga_between 27 = .ok (.aload_n 1, 1) := by decide +kernel
theorem d_Ga_between_28 : decode b_Ga_between 28 = .ok (.getfield 110, 3) := by decide +kernel
theorem d_Ga_between_31 : decode b_Ga_between 31 = .ok (.iload 6, 2) := by decide +kernel
theorem d_Ga_between_33 : decode b_Ga_between 33 = .ok (.iaload, 1) := by decide +kernel
theorem d_Ga_between_34 : decode b_Ga_between 34 = .ok (.iload_n 2, 1) := by decide +kernel
theorem d_Ga_between_35 : decode b_Ga_between 35 = .ok (.if_icmp .ne 43, 3) := by decide +kernel
theorem d_Ga_between_38 : decode b_Ga_between 38 = .ok (.aload_n 1, 1) := by decide +kernel
theorem d_Ga_between_39 : decode b_Ga_between 39 = .ok (.getfield 110, 3) := by decide +kernel
theorem d_Ga_between_42 : decode b_Ga_between 42 = .ok (.iload 7, 2) := by decide +kernel
theorem d_Ga_between_44 : decode b_Ga_between 44 = .ok (.iaload, 1) := by decide +kernel
theorem d_Ga_between_45 : decode b_Ga_between 45 = .ok (.iload_n 3, 1) := by decide +kernel
theorem d_Ga_between_46 : decode b_Ga_between 46 = .ok (.if_icmp .ne 32, 3) := by decide +kernel
theorem d_Ga_between_49 : decode b_Ga_between 49 = .ok (.lload 4, 2) := by decide +kernel
theorem d_Ga_between_51 : decode b_Ga_between 51 = .ok (.aload_n 0, 1) := by decide +kernel
theorem d_Ga_between_52 : decode b_Ga_between 52 = .ok (.aload_n 0, 1) := by decide +kernel
theorem d_Ga_between_53 : decode b_Ga_between 53 = .ok (.getfield 20, 3) := by decide +kernel
theorem d_Ga_between_56 : decode b_Ga_between 56 = .ok (.iload 6, 2) := by decide +kernel
theorem d_Ga_between_58 : decode b_Ga_between 58 = .ok (.aaload, 1) := by decide +kernel
theorem d_Ga_between_59 : decode b_Ga_between 59 = .ok (.iload 7, 2) := by decide +kernel
theorem d_Ga_between_61 : decode b_Ga_between 61 = .ok (.laload, 1) := by decide +kernel
theorem d_Ga_between_62 : decode b_Ga_between 62 = .ok (.aload_n 0, 1) := by decide +kernel
theorem d_Ga_between_63 : decode b_Ga_between 63 = .ok (.getfield 23, 3) := by decide +kernel
theorem d_Ga_between_66 : decode b_Ga_between 66 = .ok (.iload 6, 2) := by decide +kernel
theorem d_Ga_between_68 : decode b_Ga_between 68 = .ok (.aaload, 1) := by decide +kernel
theorem d_Ga_between_69 : decode b_Ga_between 69 = .ok (.iload 7, 2) := by decide +kernel
theorem d_Ga_between_71 : decode b_Ga_between 71 = .ok (.laload, 1) := by decide +kernel
theorem d_Ga_between_72 : decode b_Ga_between 72 = .ok (.invokevirtual 102, 3) := by decide +kernel
theorem d_Ga_between_75 : decode b_Ga_between 75 = .ok (.ladd, 1) := by decide +kernel
theorem d_Ga_between_76 : decode b_Ga_between 76 = .ok (.lstore 4, 2) := by decide +kernel
theorem d_Ga_between_78 : decode b_Ga_between 78 = .ok (.iinc 7 1, 3) := by decide +kernel
theorem d_Ga_between_81 : decode b_Ga_between 81 = .ok (.goto (-63), 3) := by decide +kernel
theorem d_Ga_between_84 : decode b_Ga_between 84 = .ok (.iinc 6 1, 3) := by decide +kernel
theorem d_Ga_between_87 : decode b_Ga_between 87 = .ok (.goto (-81), 3) := by decide +kernel
theorem d_Ga_between_90 : decode b_Ga_between 90 = .ok (.lload 4, 2) := by decide +kernel
theorem d_Ga_between_92 : decode b_Ga_between 92 = .ok (.lreturn, 1) := by decide +kernel
theorem d_Ga_hangTogether_0 : decode b_Ga_hangTogether 0 = .ok (.iload_n 1, 1) := by decide +kernel
theorem d_Ga_hangTogether_1 : decode b_Ga_hangTogether 1 = .ok (.iload_n 1, 1) := by decide +kernel
theorem d_Ga_hangTogether_2 : decode b_Ga_hangTogether 2 = .ok (.ineg, 1) := by decide +kernel
theorem d_Ga_hangTogether_3 : decode b_Ga_hangTogether 3 = .ok (.iand, 1) := by decide +kernel
theorem d_Ga_hangTogether_4 : decode b_Ga_hangTogether 4 = .ok (.istore_n 2, 1) := by decide +kernel
theorem d_Ga_hangTogether_5 : decode b_Ga_hangTogether 5 = .ok (.iconst 1, 1) := by decide +kernel
theorem d_Ga_hangTogether_6 : decode b_Ga_hangTogether 6 = .ok (.istore_n 3, 1) := by decide +kernel
theorem d_Ga_hangTogether_7 : decode b_Ga_hangTogether 7 = .ok (.iload_n 3, 1) := by decide +kernel
theorem d_Ga_hangTogether_8 : decode b_Ga_hangTogether 8 = .ok (.aload_n 0, 1) := by decide +kernel
theorem d_Ga_hangTogether_9 : decode b_Ga_hangTogether 9 = .ok (.getfield 44, 3) := by decide +kernel
theorem d_Ga_hangTogether_12 : decode b_Ga_hangTogether 12 = .ok (.if_icmp .ge 49, 3) := by decide +kernel
theorem d_Ga_hangTogether_15 : decode b_Ga_hangTogether 15 = .ok (.iconst 0, 1) := by decide +kernel
theorem d_Ga_hangTogether_16 : decode b_Ga_hangTogether 16 = .ok (.istore 4, 2) := by decide +kernel
theorem d_Ga_hangTogether_18 : decode b_Ga_hangTogether 18 = .ok (.iload 4, 2) := by decide +kernel
theorem d_Ga_hangTogether_20 : decode b_Ga_hangTogether 20 = .ok (.aload_n 0, 1) := by decide +kernel
theorem d_Ga_hangTogether_21 : decode b_Ga_hangTogether 21 = .ok (.getfield 44, 3) := by decide +kernel
theorem d_Ga_hangTogether_24 : decode b_Ga_hangTogether 24 = .ok (.if_icmp .ge 31, 3) := by decide +kernel
theorem d_Ga_hangTogether_27 : decode b_Ga_hangTogether 27 = .ok (.iload_n 2, 1) := by decide +kernel
theorem d_Ga_hangTogether_28 : decode b_Ga_hangTogether 28 = .ok (.iload 4, 2) := by decide +kernel
theorem d_Ga_hangTogether_30 : decode b_Ga_hangTogether 30 = .ok (.ishr, 1) := by decide +kernel
theorem d_Ga_hangTogether_31 : decode b_Ga_hangTogether 31 = .ok (.iconst 1, 1) := by decide +kernel
theorem d_Ga_hangTogether_32 : decode b_Ga_hangTogether 32 = .ok (.iand, 1) := by decide +kernel
theorem d_Ga_hangTogether_33 : decode b_Ga_hangTogether 33 = .ok (.iconst 1, 1) := by decide +kernel
theorem d_Ga_hangTogether_34 : decode b_Ga_hangTogether 34 = .ok (.if_icmp .ne 15, 3) := by decide +kernel
theorem d_Ga_hangTogether_37 : decode b_Ga_hangTogether 37 = .ok (.iload_n 2, 1) := by decide +kernel
theorem d_Ga_hangTogether_38 : decode b_Ga_hangTogether 38 = .ok (.aload_n 0, 1) := by decide +kernel
theorem d_Ga_hangTogether_39 : decode b_Ga_hangTogether 39 = .ok (.getfield 31, 3) := by decide +kernel
theorem d_Ga_hangTogether_42 : decode b_Ga_hangTogether 42 = .ok (.iload 4, 2) := by decide +kernel
theorem d_Ga_hangTogether_44 : decode b_Ga_hangTogether 44 = .ok (.iaload, 1) := by decide +kernel
theorem d_Ga_hangTogether_45 : decode b_Ga_hangTogether 45 = .ok (.iload_n 1, 1) := by decide +kernel
theorem d_Ga_hangTogether_46 : decode b_Ga_hangTogether 46 = .ok (.iand, 1) := by decide +kernel
theorem d_Ga_hangTogether_47 : decode b_Ga_hangTogether 47 = .ok (.ior, 1) := by decide +kernel
theorem d_Ga_hangTogether_48 : decode b_Ga_hangTogether 48 = .ok (.istore_n 2, 1) := by decide +kernel
theorem d_Ga_hangTogether_49 : decode b_Ga_hangTogether 49 = .ok (.iinc 4 1, 3) := by decide +kernel
theorem d_Ga_hangTogether_52 : decode b_Ga_hangTogether 52 = .ok (.goto (-34), 3) := by decide +kernel
theorem d_Ga_hangTogether_55 : decode b_Ga_hangTogether 55 = .ok (.iinc 3 1, 3) := by decide +kernel
theorem d_Ga_hangTogether_58 : decode b_Ga_hangTogether 58 = .ok (.goto (-51), 3) := by decide +kernel
theorem d_Ga_hangTogether_61 : decode b_Ga_hangTogether 61 = .ok (.iload_n 2, 1) := by decide +kernel
theorem d_Ga_hangTogether_62 : decode b_Ga_hangTogether 62 = .ok (.iload_n 1, 1) := by decide +kernel
theorem d_Ga_hangTogether_63 : decode b_Ga_hangTogether 63 = .ok (.if_icmp .ne 7, 3) := by decide +kernel
theorem d_Ga_hangTogether_66 : decode b_Ga_hangTogether 66 = .ok (.iconst 1, 1) := by decide +kernel
theorem d_Ga_hangTogether_67 : decode b_Ga_hangTogether 67 = .ok (.goto 4, 3) := by decide +kernel
theorem d_Ga_hangTogether_70 : decode b_Ga_hangTogether 70 = .ok (.iconst 0, 1) := by decide +kernel
theorem d_Ga_hangTogether_71 : decode b_Ga_hangTogether 71 = .ok (.ireturn, 1) := by decide +kernel
theorem d_Gr_init_0 : decode b_Gr_init 0 = .ok (.aload_n 0, 1) := by decide +kernel
theorem d_Gr_init_1 : decode b_Gr_init 1 = .ok (.invokespecial 3, 3) := by decide +kernel
theorem d_Gr_init_4 : decode b_Gr_init 4 = .ok (.aload_n 0, 1) := by decide +kernel
theorem d_Gr_init_5 : decode b_Gr_init 5 = .ok (.bipush 36, 2) := by decide +kernel
theorem d_Gr_init_7 : decode b_Gr_init 7 = .ok (.newarray .int, 2) := by decide +kernel
theorem d_Gr_init_9 : decode b_Gr_init 9 = .ok (.putfield 9, 3) := by decide +kernel
theorem d_Gr_init_12 : decode b_Gr_init 12 = .ok (.aload_n 0, 1) := by decide +kernel
theorem d_Gr_init_13 : decode b_Gr_init 13 = .ok (.bipush 36, 2) := by decide +kernel
theorem d_Gr_init_15 : decode b_Gr_init 15 = .ok (.newarray .int, 2) := by decide +kernel
theorem d_Gr_init_17 : decode b_Gr_init 17 = .ok (.putfield 15, 3) := by decide +kernel
theorem d_Gr_init_20 : decode b_Gr_init 20 = .ok (.aload_n 0, 1) := by decide +kernel
theorem d_Gr_init_21 : decode b_Gr_init 21 = .ok (.bipush 36, 2) := by decide +kernel
theorem d_Gr_init_23 : decode b_Gr_init 23 = .ok (.newarray .int, 2) := by decide +kernel
theorem d_Gr_init_25 : decode b_Gr_init 25 = .ok (.putfield 18, 3) := by decide +kernel
theorem d_Gr_init_28 : decode b_Gr_init 28 = .ok (.return_, 1) := by decide +kernel
theorem d_Gr_hasNode_0 : decode b_Gr_hasNode 0 = .ok (.iload_n 1, 1) := by decide +kernel
theorem d_Gr_hasNode_1 : decode b_Gr_hasNode 1 = .ok (.ifCond .lt 15, 3) := by decide +kernel
theorem d_Gr_hasNode_4 : decode b_Gr_hasNode 4 = .ok (.iload_n 1, 1) := by decide +kernel
theorem d_Gr_hasNode_5 : decode b_Gr_hasNode 5 = .ok (.aload_n 0, 1) := by decide +kernel
theorem d_Gr_hasNode_6 : decode b_Gr_hasNode 6 = .ok (.getfield 21, 3) := by decide +kernel
theorem d_Gr_hasNode_9 : decode b_Gr_hasNode 9 = .ok (.if_icmp .ge 7, 3) := by decide +kernel
theorem d_Gr_hasNode_12 : decode b_Gr_hasNode 12 = .ok (.iconst 1, 1) := by decide +kernel
theorem d_Gr_hasNode_13 : decode b_Gr_hasNode 13 = .ok (.goto 4, 3) := by decide +kernel
theorem d_Gr_hasNode_16 : decode b_Gr_hasNode 16 = .ok (.iconst 0, 1) := by decide +kernel
theorem d_Gr_hasNode_17 : decode b_Gr_hasNode 17 = .ok (.ireturn, 1) := by decide +kernel
theorem d_Gr_hasNodes_0 : decode b_Gr_hasNodes 0 = .ok (.aload_n 0, 1) := by decide +kernel
theorem d_Gr_hasNodes_1 : decode b_Gr_hasNodes 1 = .ok (.iload_n 1, 1) := by decide +kernel
theorem d_Gr_hasNodes_2 : decode b_Gr_hasNodes 2 = .ok (.invokevirtual 25, 3) := by decide +kernel
theorem d_Gr_hasNodes_5 : decode b_Gr_hasNodes 5 = .ok (.ifCond .eq 15, 3) := by decide +kernel
theorem d_Gr_hasNodes_8 : decode b_Gr_hasNodes 8 = .ok (.aload_n 0, 1) := by decide +kernel
theorem d_Gr_hasNodes_9 : decode b_Gr_hasNodes 9 = .ok (.iload_n 2, 1) := by decide +kernel
theorem d_Gr_hasNodes_10 : decode b_Gr_hasNodes 10 = .ok (.invokevirtual 25, 3) := by decide +kernel
theorem d_Gr_hasNodes_13 : decode b_Gr_hasNodes 13 = .ok (.ifCond .eq 7, 3) := by decide +kernel
theorem d_Gr_hasNodes_16 : decode b_Gr_hasNodes 16 = .ok (.iconst 1, 1) := by decide +kernel
theorem d_Gr_hasNodes_17 : decode b_Gr_hasNodes 17 = .ok (.goto 4, 3) := by decide +kernel
theorem d_Gr_hasNodes_20 : decode b_Gr_hasNodes 20 = .ok (.iconst 0, 1) := by decide +kernel
theorem d_Gr_hasNodes_21 : decode b_Gr_hasNodes 21 = .ok (.ireturn, 1) := by decide +kernel
theorem d_Gr_hasArc_0 : decode b_Gr_hasArc 0 = .ok (.iload_n 1, 1) := by decide +kernel
theorem d_Gr_hasArc_1 : decode b_Gr_hasArc 1 = .ok (.ifCond .lt 24, 3) := by decide +kernel
theorem d_Gr_hasArc_4 : decode b_Gr_hasArc 4 = .ok (.iload_n 1, 1) := by decide +kernel
theorem d_Gr_hasArc_5 : decode b_Gr_hasArc 5 = .ok (.aload_n 0, 1) := by decide +kernel
theorem d_Gr_hasArc_6 : decode b_Gr_hasArc 6 = .ok (.getfield 29, 3) := by decide +kernel
theorem d_Gr_hasArc_9 : decode b_Gr_hasArc 9 = .ok (.if_icmp .ge 16, 3) := by decide +kernel
theorem d_Gr_hasArc_12 : decode b_Gr_hasArc 12 = .ok (.aload_n 0, 1) := by decide +kernel
theorem d_Gr_hasArc_13 : decode b_Gr_hasArc 13 = .ok (.getfield 18, 3) := by decide +kernel
theorem d_Gr_hasArc_16 : decode b_Gr_hasArc 16 = .ok (.iload_n 1, 1) := by decide +kernel
theorem d_Gr_hasArc_17 : decode b_Gr_hasArc 17 = .ok (.iaload, 1) := by decide +kernel
theorem d_Gr_hasArc_18 : decode b_Gr_hasArc 18 = .ok (.ifCond .eq 7, 3) := by decide +kernel
theorem d_Gr_hasArc_21 : decode b_Gr_hasArc 21 = .ok (.iconst 1, 1) := by decide +kernel
theorem d_Gr_hasArc_22 : decode b_Gr_hasArc 22 = .ok (.goto 4, 3) := by decide +kernel
theorem d_Gr_hasArc_25 : decode b_Gr_hasArc 25 = .ok (.iconst 0, 1) := by decide +kernel
theorem d_Gr_hasArc_26 : decode b_Gr_hasArc 26 = .ok (.ireturn, 1) := by decide +kernel
theorem d_Gr_counts_0 : decode b_Gr_counts 0 = .ok (.aload_n 0, 1) := by decide +kernel
theorem d_Gr_counts_1 : decode b_Gr_counts 1 = .ok (.getfield 18, 3) := by decide +kernel
theorem d_Gr_counts_4 : decode b_Gr_counts 4 = .ok (.iload_n 1, 1) := by decide +kernel
theorem d_Gr_counts_5 : decode b_Gr_counts 5 = .ok (.iaload, 1) := by decide +kernel
theorem d_Gr_counts_6 : decode b_Gr_counts 6 = .ok (.ifCond .gt 20, 3) := by decide +kernel
theorem d_Gr_counts_9 : decode b_Gr_counts 9 = .ok (.aload_n 0, 1) := by decide +kernel
theorem d_Gr_counts_10 : decode b_Gr_counts 10 = .ok (.getfield 32, 3) := by decide +kernel
theorem d_Gr_counts_13 : decode b_Gr_counts 13 = .ok (.iconst 1, 1) := by decide +kernel
theorem d_Gr_counts_14 : decode b_Gr_counts 14 = .ok (.if_icmp .ne 16, 3) := by decide +kernel
theorem d_Gr_counts_17 : decode b_Gr_counts 17 = .ok (.aload_n 0, 1) := by decide +kernel
theorem d_Gr_counts_18 : decode b_Gr_counts 18 = .ok (.getfield 18, 3) := by decide +kernel
theorem d_Gr_counts_21 : decode b_Gr_counts 21 = .ok (.iload_n 1, 1) := by decide +kernel
theorem d_Gr_counts_22 : decode b_Gr_counts 22 = .ok (.iaload, 1) := by decide +kernel
theorem d_Gr_counts_23 : decode b_Gr_counts 23 = .ok (.ifCond .eq 7, 3) := by decide +kernel
theorem d_Gr_counts_26 : decode b_Gr_counts 26 = .ok (.iconst 1, 1) := by decide +kernel
theorem d_Gr_counts_27 : decode b_Gr_counts 27 = .ok (.goto 4, 3) := by decide +kernel
theorem d_Gr_counts_30 : decode b_Gr_counts 30 = .ok (.iconst 0, 1) := by decide +kernel
theorem d_Gr_counts_31 : decode b_Gr_counts 31 = .ok (.ireturn, 1) := by decide +kernel
theorem d_Gr_addArc_0 : decode b_Gr_addArc 0 = .ok (.aload_n 0, 1) := by decide +kernel
theorem d_Gr_addArc_1 : decode b_Gr_addArc 1 = .ok (.getfield 29, 3) := by decide +kernel
theorem d_Gr_addArc_4 : decode b_Gr_addArc 4 = .ok (.istore 4, 2) := by decide +kernel
theorem d_Gr_addArc_6 : decode b_Gr_addArc 6 = .ok (.aload_n 0, 1) := by decide +kernel
theorem d_Gr_addArc_7 : decode b_Gr_addArc 7 = .ok (.getfield 9, 3) := by decide +kernel
theorem d_Gr_addArc_10 : decode b_Gr_addArc 10 = .ok (.iload 4, 2) := by decide +kernel
theorem d_Gr_addArc_12 : decode b_Gr_addArc 12 = .ok (.iload_n 1, 1) := by decide +kernel
theorem d_Gr_addArc_13 : decode b_Gr_addArc 13 = .ok (.iastore, 1) := by decide +kernel
theorem d_Gr_addArc_14 : decode b_Gr_addArc 14 = .ok (.aload_n 0, 1) := by decide +kernel
theorem d_Gr_addArc_15 : decode b_Gr_addArc 15 = .ok (.getfield 15, 3) := by decide +kernel
theorem d_Gr_addArc_18 : decode b_Gr_addArc 18 = .ok (.iload 4, 2) := by decide +kernel
theorem d_Gr_addArc_20 : decode b_Gr_addArc 20 = .ok (.iload_n 2, 1) := by decide +kernel
theorem d_Gr_addArc_21 : decode b_Gr_addArc 21 = .ok (.iastore, 1) := by decide +kernel
theorem d_Gr_addArc_22 : decode b_Gr_addArc 22 = .ok (.aload_n 0, 1) := by decide +kernel
theorem d_Gr_addArc_23 : decode b_Gr_addArc 23 = .ok (.getfield 18, 3) := by decide +kernel
theorem d_Gr_addArc_26 : decode b_Gr_addArc 26 = .ok (.iload 4, 2) := by decide +kernel
theorem d_Gr_addArc_28 : decode b_Gr_addArc 28 = .ok (.iload_n 3, 1) := by decide +kernel
theorem d_Gr_addArc_29 : decode b_Gr_addArc 29 = .ok (.iastore, 1) := by decide +kernel
theorem d_Gr_addArc_30 : decode b_Gr_addArc 30 = .ok (.aload_n 0, 1) := by decide +kernel
theorem d_Gr_addArc_31 : decode b_Gr_addArc 31 = .ok (.dup, 1) := by decide +kernel
theorem d_Gr_addArc_32 : decode b_Gr_addArc 32 = .ok (.getfield 29, 3) := by decide +kernel
theorem d_Gr_addArc_35 : decode b_Gr_addArc 35 = .ok (.iconst 1, 1) := by decide +kernel
theorem d_Gr_addArc_36 : decode b_Gr_addArc 36 = .ok (.iadd, 1) := by decide +kernel
theorem d_Gr_addArc_37 : decode b_Gr_addArc 37 = .ok (.putfield 29, 3) := by decide +kernel
theorem d_Gr_addArc_40 : decode b_Gr_addArc 40 = .ok (.iload 4, 2) := by decide +kernel
theorem d_Gr_addArc_42 : decode b_Gr_addArc 42 = .ok (.ireturn, 1) := by decide +kernel
theorem d_Gr_countArcs_0 : decode b_Gr_countArcs 0 = .ok (.iconst 0, 1) := by decide +kernel
theorem d_Gr_countArcs_1 : decode b_Gr_countArcs 1 = .ok (.istore_n 1, 1) := by decide +kernel
theorem d_Gr_countArcs_2 : decode b_Gr_countArcs 2 = .ok (.iconst 0, 1) := by decide +kernel
theorem d_Gr_countArcs_3 : decode b_Gr_countArcs 3 = .ok (.istore_n 2, 1) := by decide +kernel
theorem d_Gr_countArcs_4 : decode b_Gr_countArcs 4 = .ok (.iload_n 2, 1) := by decide +kernel
theorem d_Gr_countArcs_5 : decode b_Gr_countArcs 5 = .ok (.aload_n 0, 1) := by decide +kernel
theorem d_Gr_countArcs_6 : decode b_Gr_countArcs 6 = .ok (.getfield 29, 3) := by decide +kernel
theorem d_Gr_countArcs_9 : decode b_Gr_countArcs 9 = .ok (.if_icmp .ge 21, 3) := by decide +kernel
theorem d_Gr_countArcs_12 : decode b_Gr_countArcs 12 = .ok (.aload_n 0, 1) := by decide +kernel
theorem d_Gr_countArcs_13 : decode b_Gr_countArcs 13 = .ok (.getfield 18, 3) := by decide +kernel
theorem d_Gr_countArcs_16 : decode b_Gr_countArcs 16 = .ok (.iload_n 2, 1) := by decide +kernel
theorem d_Gr_countArcs_17 : decode b_Gr_countArcs 17 = .ok (.iaload, 1) := by decide +kernel
theorem d_Gr_countArcs_18 : decode b_Gr_countArcs 18 = .ok (.ifCond .eq 6, 3) := by decide +kernel
theorem d_Gr_countArcs_21 : decode b_Gr_countArcs 21 = .ok (.iinc 1 1, 3) := by decide +kernel
theorem d_Gr_countArcs_24 : decode b_Gr_countArcs 24 = .ok (.iinc 2 1, 3) := by decide +kernel
theorem d_Gr_countArcs_27 : decode b_Gr_countArcs 27 = .ok (.goto (-23), 3) := by decide +kernel
theorem d_Gr_countArcs_30 : decode b_Gr_countArcs 30 = .ok (.iload_n 1, 1) := by decide +kernel
theorem d_Gr_countArcs_31 : decode b_Gr_countArcs 31 = .ok (.ireturn, 1) := by decide +kernel
theorem d_Pa_init_0 : decode b_Pa_init 0 = .ok (.aload_n 0, 1) := by decide +kernel
theorem d_Pa_init_1 : decode b_Pa_init 1 = .ok (.invokespecial 3, 3) := by decide +kernel
theorem d_Pa_init_4 : decode b_Pa_init 4 = .ok (.aload_n 0, 1) := by decide +kernel
theorem d_Pa_init_5 : decode b_Pa_init 5 = .ok (.bipush 9, 2) := by decide +kernel
theorem d_Pa_init_7 : decode b_Pa_init 7 = .ok (.newarray .int, 2) := by decide +kernel
theorem d_Pa_init_9 : decode b_Pa_init 9 = .ok (.putfield 9, 3) := by decide +kernel
theorem d_Pa_init_12 : decode b_Pa_init 12 = .ok (.aload_n 0, 1) := by decide +kernel
theorem d_Pa_init_13 : decode b_Pa_init 13 = .ok (.bipush 10, 2) := by decide +kernel
theorem d_Pa_init_15 : decode b_Pa_init 15 = .ok (.newarray .int, 2) := by decide +kernel
theorem d_Pa_init_17 : decode b_Pa_init 17 = .ok (.putfield 15, 3) := by decide +kernel
theorem d_Pa_init_20 : decode b_Pa_init 20 = .ok (.return_, 1) := by decide +kernel
theorem d_Pa_separate_0 : decode b_Pa_separate 0 = .ok (.aload_n 0, 1) := by decide +kernel
theorem d_Pa_separate_1 : decode b_Pa_separate 1 = .ok (.iload_n 1, 1) := by decide +kernel
theorem d_Pa_separate_2 : decode b_Pa_separate 2 = .ok (.putfield 18, 3) := by decide +kernel
theorem d_Pa_separate_5 : decode b_Pa_separate 5 = .ok (.aload_n 0, 1) := by decide +kernel
theorem d_Pa_separate_6 : decode b_Pa_separate 6 = .ok (.iload_n 1, 1) := by decide +kernel
theorem d_Pa_separate_7 : decode b_Pa_separate 7 = .ok (.putfield 22, 3) := by decide +kernel
theorem d_Pa_separate_10 : decode b_Pa_separate 10 = .ok (.iconst 0, 1) := by decide +kernel
theorem d_Pa_separate_11 : decode b_Pa_separate 11 = .ok (.istore_n 2, 1) := by decide +kernel
theorem d_Pa_separate_12 : decode b_Pa_separate 12 = .ok (.iload_n 2, 1) := by decide +kernel
theorem d_Pa_separate_13 : decode b_Pa_separate 13 = .ok (.iload_n 1, 1) := by decide +kernel
theorem d_Pa_separate_14 : decode b_Pa_separate 14 = .ok (.if_icmp .ge 16, 3) := by decide +kernel
theorem d_Pa_separate_17 : decode b_Pa_separate 17 = .ok (.aload_n 0, 1) := by decide +kernel
theorem d_Pa_separate_18 : decode b_Pa_separate 18 = .ok (.getfield 9, 3) := by decide +kernel
theorem d_Pa_separate_21 : decode b_Pa_separate 21 = .ok (.iload_n 2, 1) := by decide +kernel
theorem d_Pa_separate_22 : decode b_Pa_separate 22 = .ok (.iload_n 2, 1) := by decide +kernel
theorem d_Pa_separate_23 : decode b_Pa_separate 23 = .ok (.iastore, 1) := by decide +kernel
theorem d_Pa_separate_24 : decode b_Pa_separate 24 = .ok (.iinc 2 1, 3) := by decide +kernel
theorem d_Pa_separate_27 : decode b_Pa_separate 27 = .ok (.goto (-15), 3) := by decide +kernel
theorem d_Pa_separate_30 : decode b_Pa_separate 30 = .ok (.return_, 1) := by decide +kernel
theorem d_Pa_copy_0 : decode b_Pa_copy 0 = .ok (.aload_n 0, 1) := by decide +kernel
theorem d_Pa_copy_1 : decode b_Pa_copy 1 = .ok (.aload_n 1, 1) := by decide +kernel
theorem d_Pa_copy_2 : decode b_Pa_copy 2 = .ok (.getfield 9, 3) := by decide +kernel
theorem d_Pa_copy_5 : decode b_Pa_copy 5 = .ok (.aload_n 1, 1) := by decide +kernel
theorem d_Pa_copy_6 : decode b_Pa_copy 6 = .ok (.getfield 18, 3) := by decide +kernel
theorem d_Pa_copy_9 : decode b_Pa_copy 9 = .ok (.invokevirtual 25, 3) := by decide +kernel
theorem d_Pa_copy_12 : decode b_Pa_copy 12 = .ok (.return_, 1) := by decide +kernel
theorem d_Pa_take_0 : decode b_Pa_take 0 = .ok (.aload_n 0, 1) := by decide +kernel
theorem d_Pa_take_1 : decode b_Pa_take 1 = .ok (.iload_n 2, 1) := by decide +kernel
theorem d_Pa_take_2 : decode b_Pa_take 2 = .ok (.putfield 18, 3) := by decide +kernel
theorem d_Pa_take_5 : decode b_Pa_take 5 = .ok (.iconst 0, 1) := by decide +kernel
theorem d_Pa_take_6 : decode b_Pa_take 6 = .ok (.istore_n 3, 1) := by decide +kernel
theorem d_Pa_take_7 : decode b_Pa_take 7 = .ok (.iload_n 3, 1) := by decide +kernel
theorem d_Pa_take_8 : decode b_Pa_take 8 = .ok (.iload_n 2, 1) := by decide +kernel
theorem d_Pa_take_9 : decode b_Pa_take 9 = .ok (.if_icmp .ge 18, 3) := by decide +kernel
theorem d_Pa_take_12 : decode b_Pa_take 12 = .ok (.aload_n 0, 1) := by decide +kernel
theorem d_Pa_take_13 : decode b_Pa_take 13 = .ok (.getfield 9, 3) := by decide +kernel
theorem d_Pa_take_16 : decode b_Pa_take 16 = .ok (.iload_n 3, 1) := by decide +kernel
theorem d_Pa_take_17 : decode b_Pa_take 17 = .ok (.aload_n 1, 1) := by decide +kernel
theorem d_Pa_take_18 : decode b_Pa_take 18 = .ok (.iload_n 3, 1) := by decide +kernel
theorem d_Pa_take_19 : decode b_Pa_take 19 = .ok (.iaload, 1) := by decide +kernel
theorem d_Pa_take_20 : decode b_Pa_take 20 = .ok (.iastore, 1) := by decide +kernel
theorem d_Pa_take_21 : decode b_Pa_take 21 = .ok (.iinc 3 1, 3) := by decide +kernel
theorem d_Pa_take_24 : decode b_Pa_take 24 = .ok (.goto (-17), 3) := by decide +kernel
theorem d_Pa_take_27 : decode b_Pa_take 27 = .ok (.aload_n 0, 1) := by decide +kernel
theorem d_Pa_take_28 : decode b_Pa_take 28 = .ok (.invokevirtual 29, 3) := by decide +kernel
theorem d_Pa_take_31 : decode b_Pa_take 31 = .ok (.return_, 1) := by decide +kernel
theorem d_Pa_decode_0 : decode b_Pa_decode 0 = .ok (.aload_n 0, 1) := by decide +kernel
theorem d_Pa_decode_1 : decode b_Pa_decode 1 = .ok (.iload_n 3, 1) := by decide +kernel
theorem d_Pa_decode_2 : decode b_Pa_decode 2 = .ok (.putfield 18, 3) := by decide +kernel
theorem d_Pa_decode_5 : decode b_Pa_decode 5 = .ok (.iconst 0, 1) := by decide +kernel
theorem d_Pa_decode_6 : decode b_Pa_decode 6 = .ok (.istore 4, 2) := by decide +kernel
theorem d_Pa_decode_8 : decode b_Pa_decode 8 = .ok (.iload 4, 2) := by decide +kernel
theorem d_Pa_decode_10 : decode b_Pa_decode 10 = .ok (.iload_n 3, 1) := by decide +kernel
theorem d_Pa_decode_11 : decode b_Pa_decode 11 = .ok (.if_icmp .ge 22, 3) := by decide +kernel
theorem d_Pa_decode_14 : decode b_Pa_decode 14 = .ok (.aload_n 0, 1) := by decide +kernel
theorem d_Pa_decode_15 : decode b_Pa_decode 15 = .ok (.getfield 9, 3) := by decide +kernel
theorem d_Pa_decode_18 : decode b_Pa_decode 18 = .ok (.iload 4, 2) := by decide +kernel
theorem d_Pa_decode_20 : decode b_Pa_decode 20 = .ok (.lload_n 1, 1) := by decide +kernel
theorem d_Pa_decode_21 : decode b_Pa_decode 21 = .ok (.iload 4, 2) := by decide +kernel
theorem d_Pa_decode_23 : decode b_Pa_decode 23 = .ok (.invokestatic 32, 3) := by decide +kernel
theorem d_Pa_decode_26 : decode b_Pa_decode 26 = .ok (.iastore, 1) := by decide +kernel
theorem d_Pa_decode_27 : decode b_Pa_decode 27 = .ok (.iinc 4 1, 3) := by decide +kernel
theorem d_Pa_decode_30 : decode b_Pa_decode 30 = .ok (.goto (-22), 3) := by decide +kernel
theorem d_Pa_decode_33 : decode b_Pa_decode 33 = .ok (.aload_n 0, 1) := by decide +kernel
theorem d_Pa_decode_34 : decode b_Pa_decode 34 = .ok (.invokevirtual 29, 3) := by decide +kernel
theorem d_Pa_decode_37 : decode b_Pa_decode 37 = .ok (.return_, 1) := by decide +kernel
theorem d_Pa_shift_0 : decode b_Pa_shift 0 = .ok (.aload_n 0, 1) := by decide +kernel
theorem d_Pa_shift_1 : decode b_Pa_shift 1 = .ok (.getfield 9, 3) := by decide +kernel
theorem d_Pa_shift_4 : decode b_Pa_shift 4 = .ok (.iload_n 1, 1) := by decide +kernel
theorem d_Pa_shift_5 : decode b_Pa_shift 5 = .ok (.iload_n 1, 1) := by decide +kernel
theorem d_Pa_shift_6 : decode b_Pa_shift 6 = .ok (.iload_n 2, 1) := by decide +kernel
theorem d_Pa_shift_7 : decode b_Pa_shift 7 = .ok (.if_icmp .ne 8, 3) := by decide +kernel
theorem d_Pa_shift_10 : decode b_Pa_shift 10 = .ok (.bipush 9, 2) := by decide +kernel
theorem d_Pa_shift_12 : decode b_Pa_shift 12 = .ok (.goto 9, 3) := by decide +kernel
theorem d_Pa_shift_15 : decode b_Pa_shift 15 = .ok (.aload_n 0, 1) := by decide +kernel
theorem d_Pa_shift_16 : decode b_Pa_shift 16 = .ok (.getfield 9, 3) := by decide +kernel
theorem d_Pa_shift_19 : decode b_Pa_shift 19 = .ok (.iload_n 2, 1) := by decide +kernel
theorem d_Pa_shift_20 : decode b_Pa_shift 20 = .ok (.iaload, 1) := by decide +kernel
theorem d_Pa_shift_21 : decode b_Pa_shift 21 = .ok (.iastore, 1) := by decide +kernel
theorem d_Pa_shift_22 : decode b_Pa_shift 22 = .ok (.aload_n 0, 1) := by decide +kernel
theorem d_Pa_shift_23 : decode b_Pa_shift 23 = .ok (.invokevirtual 29, 3) := by decide +kernel
theorem d_Pa_shift_26 : decode b_Pa_shift 26 = .ok (.return_, 1) := by decide +kernel
theorem d_Pa_unite_0 : decode b_Pa_unite 0 = .ok (.iconst 0, 1) := by decide +kernel
theorem d_Pa_unite_1 : decode b_Pa_unite 1 = .ok (.istore_n 3, 1) := by decide +kernel
theorem d_Pa_unite_2 : decode b_Pa_unite 2 = .ok (.iload_n 3, 1) := by decide +kernel
theorem d_Pa_unite_3 : decode b_Pa_unite 3 = .ok (.aload_n 0, 1) := by decide +kernel
theorem d_Pa_unite_4 : decode b_Pa_unite 4 = .ok (.getfield 18, 3) := by decide +kernel
theorem d_Pa_unite_7 : decode b_Pa_unite 7 = .ok (.if_icmp .ge 26, 3) := by decide +kernel
theorem d_Pa_unite_10 : decode b_Pa_unite 10 = .ok (.aload_n 0, 1) := by decide +kernel
theorem d_Pa_unite_11 : decode b_Pa_unite 11 = .ok (.getfield 9, 3) := by decide +kernel
theorem d_Pa_unite_14 : decode b_Pa_unite 14 = .ok (.iload_n 3, 1) := by decide +kernel
theorem d_Pa_unite_15 : decode b_Pa_unite 15 = .ok (.iaload, 1) := by decide +kernel
theorem d_Pa_unite_16 : decode b_Pa_unite 16 = .ok (.iload_n 2, 1) := by decide +kernel
theorem d_Pa_unite_17 : decode b_Pa_unite 17 = .ok (.if_icmp .ne 10, 3) := by decide +kernel
theorem d_Pa_unite_20 : decode b_Pa_unite 20 = .ok (.aload_n 0, 1) := by decide +kernel
theorem d_Pa_unite_21 : decode b_Pa_unite 21 = .ok (.getfield 9, 3) := by decide +kernel
theorem d_Pa_unite_24 : decode b_Pa_unite 24 = .ok (.iload_n 3, 1) := by decide +kernel
theorem d_Pa_unite_25 : decode b_Pa_unite 25 = .ok (.iload_n 1, 1) := by decide +kernel
theorem d_Pa_unite_26 : decode b_Pa_unite 26 = .ok (.iastore, 1) := by decide +kernel
theorem d_Pa_unite_27 : decode b_Pa_unite 27 = .ok (.iinc 3 1, 3) := by decide +kernel
theorem d_Pa_unite_30 : decode b_Pa_unite 30 = .ok (.goto (-28), 3) := by decide +kernel
theorem d_Pa_unite_33 : decode b_Pa_unite 33 = .ok (.aload_n 0, 1) := by decide +kernel
theorem d_Pa_unite_34 : decode b_Pa_unite 34 = .ok (.invokevirtual 29, 3) := by decide +kernel
theorem d_Pa_unite_37 : decode b_Pa_unite 37 = .ok (.return_, 1) := by decide +kernel
theorem d_Pa_membersOf_0 : decode b_Pa_membersOf 0 = .ok (.iconst 0, 1) := by decide +kernel
theorem d_Pa_membersOf_1 : decode b_Pa_membersOf 1 = .ok (.istore_n 2, 1) := by decide +kernel
theorem d_Pa_membersOf_2 : decode b_Pa_membersOf 2 = .ok (.iconst 0, 1) := by decide +kernel
theorem d_Pa_membersOf_3 : decode b_Pa_membersOf 3 = .ok (.istore_n 3, 1) := by decide +kernel
theorem d_Pa_membersOf_4 : decode b_Pa_membersOf 4 = .ok (.iload_n 3, 1) := by decide +kernel
theorem d_Pa_membersOf_5 : decode b_Pa_membersOf 5 = .ok (.aload_n 0, 1) := by decide +kernel
theorem d_Pa_membersOf_6 : decode b_Pa_membersOf 6 = .ok (.getfield 18, 3) := by decide +kernel
theorem d_Pa_membersOf_9 : decode b_Pa_membersOf 9 = .ok (.if_icmp .ge 25, 3) := by decide +kernel
theorem d_Pa_membersOf_12 : decode b_Pa_membersOf 12 = .ok (.aload_n 0, 1) := by decide +kernel
theorem d_Pa_membersOf_13 : decode b_Pa_membersOf 13 = .ok (.getfield 9, 3) := by decide +kernel
theorem d_Pa_membersOf_16 : decode b_Pa_membersOf 16 = .ok (.iload_n 3, 1) := by decide +kernel
theorem d_Pa_membersOf_17 : decode b_Pa_membersOf 17 = .ok (.iaload, 1) := by decide +kernel
theorem d_Pa_membersOf_18 : decode b_Pa_membersOf 18 = .ok (.iload_n 1, 1) := by decide +kernel
theorem d_Pa_membersOf_19 : decode b_Pa_membersOf 19 = .ok (.if_icmp .ne 9, 3) := by decide +kernel
theorem d_Pa_membersOf_22 : decode b_Pa_membersOf 22 = .ok (.iload_n 2, 1) := by decide +kernel
theorem d_Pa_membersOf_23 : decode b_Pa_membersOf 23 = .ok (.iconst 1, 1) := by decide +kernel
theorem d_Pa_membersOf_24 : decode b_Pa_membersOf 24 = .ok (.iload_n 3, 1) := by decide +kernel
theorem d_Pa_membersOf_25 : decode b_Pa_membersOf 25 = .ok (.ishl, 1) := by decide +kernel
theorem d_Pa_membersOf_26 : decode b_Pa_membersOf 26 = .ok (.ior, 1) := by decide +kernel
theorem d_Pa_membersOf_27 : decode b_Pa_membersOf 27 = .ok (.istore_n 2, 1) := by decide +kernel
theorem d_Pa_membersOf_28 : decode b_Pa_membersOf 28 = .ok (.iinc 3 1, 3) := by decide +kernel
theorem d_Pa_membersOf_31 : decode b_Pa_membersOf 31 = .ok (.goto (-27), 3) := by decide +kernel
theorem d_Pa_membersOf_34 : decode b_Pa_membersOf 34 = .ok (.iload_n 2, 1) := by decide +kernel
theorem d_Pa_membersOf_35 : decode b_Pa_membersOf 35 = .ok (.ireturn, 1) := by decide +kernel
theorem d_Pa_renumber_0 : decode b_Pa_renumber 0 = .ok (.aload_n 0, 1) := by decide +kernel
theorem d_Pa_renumber_1 : decode b_Pa_renumber 1 = .ok (.getfield 15, 3) := by decide +kernel
theorem d_Pa_renumber_4 : decode b_Pa_renumber 4 = .ok (.iconst (-1), 1) := by decide +kernel
theorem d_Pa_renumber_5 : decode b_Pa_renumber 5 = .ok (.invokestatic 38, 3) := by decide +kernel
theorem d_Pa_renumber_8 : decode b_Pa_renumber 8 = .ok (.aload_n 0, 1) := by decide +kernel
theorem d_Pa_renumber_9 : decode b_Pa_renumber 9 = .ok (.iconst 0, 1) := by decide +kernel
theorem d_Pa_renumber_10 : decode b_Pa_renumber 10 = .ok (.putfield 22, 3) := by decide +kernel
theorem d_Pa_renumber_13 : decode b_Pa_renumber 13 = .ok (.iconst 0, 1) := by decide +kernel
theorem d_Pa_renumber_14 : decode b_Pa_renumber 14 = .ok (.istore_n 1, 1) := by decide +kernel
theorem d_Pa_renumber_15 : decode b_Pa_renumber 15 = .ok (.iload_n 1, 1) := by decide +kernel
theorem d_Pa_renumber_16 : decode b_Pa_renumber 16 = .ok (.aload_n 0, 1) := by decide +kernel
theorem d_Pa_renumber_17 : decode b_Pa_renumber 17 = .ok (.getfield 18, 3) := by decide +kernel
theorem d_Pa_renumber_20 : decode b_Pa_renumber 20 = .ok (.if_icmp .ge 57, 3) := by decide +kernel
theorem d_Pa_renumber_23 : decode b_Pa_renumber 23 = .ok (.aload_n 0, 1) := by decide +kernel
theorem d_Pa_renumber_24 : decode b_Pa_renumber 24 = .ok (.getfield 9, 3) := by decide +kernel
theorem d_Pa_renumber_27 : decode b_Pa_renumber 27 = .ok (.iload_n 1, 1) := by decide +kernel
theorem d_Pa_renumber_28 : decode b_Pa_renumber 28 = .ok (.iaload, 1) := by decide +kernel
theorem d_Pa_renumber_29 : decode b_Pa_renumber 29 = .ok (.istore_n 2, 1) := by decide +kernel
theorem d_Pa_renumber_30 : decode b_Pa_renumber 30 = .ok (.aload_n 0, 1) := by decide +kernel
theorem d_Pa_renumber_31 : decode b_Pa_renumber 31 = .ok (.getfield 15, 3) := by decide +kernel
theorem d_Pa_renumber_34 : decode b_Pa_renumber 34 = .ok (.iload_n 2, 1) := by decide +kernel
theorem d_Pa_renumber_35 : decode b_Pa_renumber 35 = .ok (.iaload, 1) := by decide +kernel
theorem d_Pa_renumber_36 : decode b_Pa_renumber 36 = .ok (.ifCond .ge 23, 3) := by decide +kernel
theorem d_Pa_renumber_39 : decode b_Pa_renumber 39 = .ok (.aload_n 0, 1) := by decide +kernel
theorem d_Pa_renumber_40 : decode b_Pa_renumber 40 = .ok (.getfield 15, 3) := by decide +kernel
theorem d_Pa_renumber_43 : decode b_Pa_renumber 43 = .ok (.iload_n 2, 1) := by decide +kernel
theorem d_Pa_renumber_44 : decode b_Pa_renumber 44 = .ok (.aload_n 0, 1) := by decide +kernel
theorem d_Pa_renumber_45 : decode b_Pa_renumber 45 = .ok (.getfield 22, 3) := by decide +kernel
theorem d_Pa_renumber_48 : decode b_Pa_renumber 48 = .ok (.iastore, 1) := by decide +kernel
theorem d_Pa_renumber_49 : decode b_Pa_renumber 49 = .ok (.aload_n 0, 1) := by decide +kernel
theorem d_Pa_renumber_50 : decode b_Pa_renumber 50 = .ok (.dup, 1) := by decide +kernel
theorem d_Pa_renumber_51 : decode b_Pa_renumber 51 = .ok (.getfield 22, 3) := by decide +kernel
theorem d_Pa_renumber_54 : decode b_Pa_renumber 54 = .ok (.iconst 1, 1) := by decide +kernel
theorem d_Pa_renumber_55 : decode b_Pa_renumber 55 = .ok (.iadd, 1) := by decide +kernel
theorem d_Pa_renumber_56 : decode b_Pa_renumber 56 = .ok (.putfield 22, 3) := by decide +kernel
theorem d_Pa_renumber_59 : decode b_Pa_renumber 59 = .ok (.aload_n 0, 1) := by decide +kernel
theorem d_Pa_renumber_60 : decode b_Pa_renumber 60 = .ok (.getfield 9, 3) := by decide +kernel
theorem d_Pa_renumber_63 : decode b_Pa_renumber 63 = .ok (.iload_n 1, 1) := by decide +kernel
theorem d_Pa_renumber_64 : decode b_Pa_renumber 64 = .ok (.aload_n 0, 1) := by decide +kernel
theorem d_Pa_renumber_65 : decode b_Pa_renumber 65 = .ok (.getfield 15, 3) := by decide +kernel
theorem d_Pa_renumber_68 : decode b_Pa_renumber 68 = .ok (.iload_n 2, 1) := by decide +kernel
theorem d_Pa_renumber_69 : decode b_Pa_renumber 69 = .ok (.iaload, 1) := by decide +kernel
theorem d_Pa_renumber_70 : decode b_Pa_renumber 70 = .ok (.iastore, 1) := by decide +kernel
theorem d_Pa_renumber_71 : decode b_Pa_renumber 71 = .ok (.iinc 1 1, 3) := by decide +kernel
theorem d_Pa_renumber_74 : decode b_Pa_renumber 74 = .ok (.goto (-59), 3) := by decide +kernel
theorem d_Pa_renumber_77 : decode b_Pa_renumber 77 = .ok (.return_, 1) := by decide +kernel
theorem d_Pe_init_0 : decode b_Pe_init 0 = .ok (.aload_n 0, 1) := by decide +kernel
theorem d_Pe_init_1 : decode b_Pe_init 1 = .ok (.invokespecial 3, 3) := by decide +kernel
theorem d_Pe_init_4 : decode b_Pe_init 4 = .ok (.aload_n 0, 1) := by decide +kernel
theorem d_Pe_init_5 : decode b_Pe_init 5 = .ok (.aload_n 1, 1) := by decide +kernel
theorem d_Pe_init_6 : decode b_Pe_init 6 = .ok (.putfield 9, 3) := by decide +kernel
theorem d_Pe_init_9 : decode b_Pe_init 9 = .ok (.aload_n 0, 1) := by decide +kernel
theorem d_Pe_init_10 : decode b_Pe_init 10 = .ok (.aload_n 2, 1) := by decide +kernel
theorem d_Pe_init_11 : decode b_Pe_init 11 = .ok (.putfield 15, 3) := by decide +kernel
theorem d_Pe_init_14 : decode b_Pe_init 14 = .ok (.return_, 1) := by decide +kernel
theorem d_Pe_search_0 : decode b_Pe_search 0 = .ok (.lconst 0, 1) := by decide +kernel
theorem d_Pe_search_1 : decode b_Pe_search 1 = .ok (.lstore_n 1, 1) := by decide +kernel
theorem d_Pe_search_2 : decode b_Pe_search 2 = .ok (.aload_n 0, 1) := by decide +kernel
theorem d_Pe_search_3 : decode b_Pe_search 3 = .ok (.iconst 0, 1) := by decide +kernel
theorem d_Pe_search_4 : decode b_Pe_search 4 = .ok (.putfield 19, 3) := by decide +kernel
theorem d_Pe_search_7 : decode b_Pe_search 7 = .ok (.aload_n 0, 1) := by decide +kernel
theorem d_Pe_search_8 : decode b_Pe_search 8 = .ok (.getfield 15, 3) := by decide +kernel
theorem d_Pe_search_11 : decode b_Pe_search 11 = .ok (.invokevirtual 23, 3) := by decide +kernel
theorem d_Pe_search_14 : decode b_Pe_search 14 = .ok (.iconst 1, 1) := by decide +kernel
theorem d_Pe_search_15 : decode b_Pe_search 15 = .ok (.istore_n 3, 1) := by decide +kernel
theorem d_Pe_search_16 : decode b_Pe_search 16 = .ok (.iconst 0, 1) := by decide +kernel
theorem d_Pe_search_17 : decode b_Pe_search 17 = .ok (.istore 4, 2) := by decide +kernel
theorem d_Pe_search_19 : decode b_Pe_search 19 = .ok (.iload_n 3, 1) := by decide +kernel
theorem d_Pe_search_20 : decode b_Pe_search 20 = .ok (.ifCond .eq 101, 3) := by decide +kernel
theorem d_Pe_search_23 : decode b_Pe_search 23 = .ok (.iload 4, 2) := by decide +kernel
theorem d_Pe_search_25 : decode b_Pe_search 25 = .ok (.sipush 21147, 3) := by decide +kernel
theorem d_Pe_search_28 : decode b_Pe_search 28 = .ok (.if_icmp .ge 93, 3) := by decide +kernel
theorem d_Pe_search_31 : decode b_Pe_search 31 = .ok (.aload_n 0, 1) := by decide +kernel
theorem d_Pe_search_32 : decode b_Pe_search 32 = .ok (.getfield 9, 3) := by decide +kernel
theorem d_Pe_search_35 : decode b_Pe_search 35 = .ok (.aload_n 0, 1) := by decide +kernel
theorem d_Pe_search_36 : decode b_Pe_search 36 = .ok (.getfield 15, 3) := by decide +kernel
theorem d_Pe_search_39 : decode b_Pe_search 39 = .ok (.invokevirtual 28, 3) := by decide +kernel
theorem d_Pe_search_42 : decode b_Pe_search 42 = .ok (.aload_n 0, 1) := by decide +kernel
theorem d_Pe_search_43 : decode b_Pe_search 43 = .ok (.getfield 15, 3) := by decide +kernel
theorem d_Pe_search_46 : decode b_Pe_search 46 = .ok (.invokevirtual 32, 3) := by decide +kernel
theorem d_Pe_search_49 : decode b_Pe_search 49 = .ok (.invokevirtual 35, 3) := by decide +kernel
theorem d_Pe_search_52 : decode b_Pe_search 52 = .ok (.lstore 5, 2) := by decide +kernel
theorem d_Pe_search_54 : decode b_Pe_search 54 = .ok (.aload_n 0, 1) := by decide +kernel
theorem d_Pe_search_55 : decode b_Pe_search 55 = .ok (.getfield 19, 3) := by decide +kernel
theorem d_Pe_search_58 : decode b_Pe_search 58 = .ok (.ifCond .eq 10, 3) := by decide +kernel
theorem d_Pe_search_61 : decode b_Pe_search 61 = .ok (.lload 5, 2) := by decide +kernel
theorem d_Pe_search_63 : decode b_Pe_search 63 = .ok (.lload_n 1, 1) := by decide +kernel
theorem d_Pe_search_64 : decode b_Pe_search 64 = .ok (.lcmp, 1) := by decide +kernel
theorem d_Pe_search_65 : decode b_Pe_search 65 = .ok (.ifCond .le 25, 3) := by decide +kernel
theorem d_Pe_search_68 : decode b_Pe_search 68 = .ok (.lload 5, 2) := by decide +kernel
theorem d_Pe_search_70 : decode b_Pe_search 70 = .ok (.lstore_n 1, 1) := by decide +kernel
theorem d_Pe_search_71 : decode b_Pe_search 71 = .ok (.aload_n 0, 1) := by decide +kernel
theorem d_Pe_search_72 : decode b_Pe_search 72 = .ok (.iconst 1, 1) := by decide +kernel
theorem d_Pe_search_73 : decode b_Pe_search 73 = .ok (.putfield 19, 3) := by decide +kernel
theorem d_Pe_search_76 : decode b_Pe_search 76 = .ok (.aload_n 0, 1) := by decide +kernel
theorem d_Pe_search_77 : decode b_Pe_search 77 = .ok (.aload_n 0, 1) := by decide +kernel
theorem d_Pe_search_78 : decode b_Pe_search 78 = .ok (.getfield 15, 3) := by decide +kernel
theorem d_Pe_search_81 : decode b_Pe_search 81 = .ok (.invokevirtual 41, 3) := by decide +kernel
theorem d_Pe_search_84 : decode b_Pe_search 84 = .ok (.putfield 44, 3) := by decide +kernel
theorem d_Pe_search_87 : decode b_Pe_search 87 = .ok (.goto 20, 3) := by decide +kernel
theorem d_Pe_search_90 : decode b_Pe_search 90 = .ok (.lload 5, 2) := by decide +kernel
theorem d_Pe_search_92 : decode b_Pe_search 92 = .ok (.lload_n 1, 1) := by decide +kernel
theorem d_Pe_search_93 : decode b_Pe_search 93 = .ok (.lcmp, 1) := by decide +kernel
theorem d_Pe_search_94 : decode b_Pe_search 94 = .ok (.ifCond .ne 13, 3) := by decide +kernel
theorem d_Pe_search_97 : decode b_Pe_search 97 = .ok (.aload_n 0, 1) := by decide +kernel
theorem d_Pe_search_98 : decode b_Pe_search 98 = .ok (.dup, 1) := by decide +kernel
theorem d_Pe_search_99 : decode b_Pe_search 99 = .ok (.getfield 19, 3) := by decide +kernel
theorem d_Pe_search_102 : decode b_Pe_search 102 = .ok (.iconst 1, 1) := by decide +kernel
theorem d_Pe_search_103 : decode b_Pe_search 103 = .ok (.iadd, 1) := by decide +kernel
theorem d_Pe_search_104 : decode b_Pe_search 104 = .ok (.putfield 19, 3) := by decide +kernel
theorem d_Pe_search_107 : decode b_Pe_search 107 = .ok (.aload_n 0, 1) := by decide +kernel
theorem d_Pe_search_108 : decode b_Pe_search 108 = .ok (.getfield 15, 3) := by decide +kernel
theorem d_Pe_search_111 : decode b_Pe_search 111 = .ok (.invokevirtual 47, 3) := by decide +kernel
theorem d_Pe_search_114 : decode b_Pe_search 114 = .ok (.istore_n 3, 1) := by decide +kernel
theorem d_Pe_search_115 : decode b_Pe_search 115 = .ok (.iinc 4 1, 3) := by decide +kernel
theorem d_Pe_search_118 : decode b_Pe_search 118 = .ok (.goto (-99), 3) := by decide +kernel
theorem d_Pe_search_121 : decode b_Pe_search 121 = .ok (.return_, 1) := by decide +kernel
theorem d_Sp_init_0 : decode b_Sp_init 0 = .ok (.aload_n 0, 1) := by decide +kernel
theorem d_Sp_init_1 : decode b_Sp_init 1 = .ok (.invokespecial 3, 3) := by decide +kernel
theorem d_Sp_init_4 : decode b_Sp_init 4 = .ok (.aload_n 0, 1) := by decide +kernel
theorem d_Sp_init_5 : decode b_Sp_init 5 = .ok (.bipush 9, 2) := by decide +kernel
theorem d_Sp_init_7 : decode b_Sp_init 7 = .ok (.newarray .int, 2) := by decide +kernel
theorem d_Sp_init_9 : decode b_Sp_init 9 = .ok (.putfield 9, 3) := by decide +kernel
theorem d_Sp_init_12 : decode b_Sp_init 12 = .ok (.aload_n 0, 1) := by decide +kernel
theorem d_Sp_init_13 : decode b_Sp_init 13 = .ok (.bipush 9, 2) := by decide +kernel
theorem d_Sp_init_15 : decode b_Sp_init 15 = .ok (.newarray .int, 2) := by decide +kernel
theorem d_Sp_init_17 : decode b_Sp_init 17 = .ok (.putfield 15, 3) := by decide +kernel
theorem d_Sp_init_20 : decode b_Sp_init 20 = .ok (.aload_n 0, 1) := by decide +kernel
theorem d_Sp_init_21 : decode b_Sp_init 21 = .ok (.aload_n 1, 1) := by decide +kernel
theorem d_Sp_init_22 : decode b_Sp_init 22 = .ok (.putfield 18, 3) := by decide +kernel
theorem d_Sp_init_25 : decode b_Sp_init 25 = .ok (.return_, 1) := by decide +kernel
theorem d_Sp_run_0 : decode b_Sp_run 0 = .ok (.aload_n 0, 1) := by decide +kernel
theorem d_Sp_run_1 : decode b_Sp_run 1 = .ok (.iload_n 1, 1) := by decide +kernel
theorem d_Sp_run_2 : decode b_Sp_run 2 = .ok (.putfield 22, 3) := by decide +kernel
theorem d_Sp_run_5 : decode b_Sp_run 5 = .ok (.iconst 0, 1) := by decide +kernel
theorem d_Sp_run_6 : decode b_Sp_run 6 = .ok (.istore_n 2, 1) := by decide +kernel
theorem d_Sp_run_7 : decode b_Sp_run 7 = .ok (.iload_n 2, 1) := by decide +kernel
theorem d_Sp_run_8 : decode b_Sp_run 8 = .ok (.aload_n 0, 1) := by decide +kernel
theorem d_Sp_run_9 : decode b_Sp_run 9 = .ok (.getfield 18, 3) := by decide +kernel
theorem d_Sp_run_12 : decode b_Sp_run 12 = .ok (.getfield 26, 3) := by decide +kernel
theorem d_Sp_run_15 : decode b_Sp_run 15 = .ok (.if_icmp .ge 16, 3) := by decide +kernel
theorem d_Sp_run_18 : decode b_Sp_run 18 = .ok (.aload_n 0, 1) := by decide +kernel
theorem d_Sp_run_19 : decode b_Sp_run 19 = .ok (.getfield 9, 3) := by decide +kernel
theorem d_Sp_run_22 : decode b_Sp_run 22 = .ok (.iload_n 2, 1) := by decide +kernel
theorem d_Sp_run_23 : decode b_Sp_run 23 = .ok (.iload_n 2, 1) := by decide +kernel
theorem d_Sp_run_24 : decode b_Sp_run 24 = .ok (.iastore, 1) := by decide +kernel
theorem d_Sp_run_25 : decode b_Sp_run 25 = .ok (.iinc 2 1, 3) := by decide +kernel
theorem d_Sp_run_28 : decode b_Sp_run 28 = .ok (.goto (-21), 3) := by decide +kernel
theorem d_Sp_run_31 : decode b_Sp_run 31 = .ok (.iconst 0, 1) := by decide +kernel
theorem d_Sp_run_32 : decode b_Sp_run 32 = .ok (.istore_n 2, 1) := by decide +kernel
theorem d_Sp_run_33 : decode b_Sp_run 33 = .ok (.iconst 1, 1) := by decide +kernel
theorem d_Sp_run_34 : decode b_Sp_run 34 = .ok (.istore_n 3, 1) := by decide +kernel
theorem d_Sp_run_35 : decode b_Sp_run 35 = .ok (.iconst 0, 1) := by decide +kernel
theorem d_Sp_run_36 : decode b_Sp_run 36 = .ok (.istore 4, 2) := by decide +kernel
theorem d_Sp_run_38 : decode b_Sp_run 38 = .ok (.iload_n 3, 1) := by decide +kernel
theorem d_Sp_run_39 : decode b_Sp_run 39 = .ok (.ifCond .eq 28, 3) := by decide +kernel
theorem d_Sp_run_42 : decode b_Sp_run 42 = .ok (.iload 4, 2) := by decide +kernel
theorem d_Sp_run_44 : decode b_Sp_run 44 = .ok (.bipush 20, 2) := by decide +kernel
theorem d_Sp_run_46 : decode b_Sp_run 46 = .ok (.if_icmp .ge 21, 3) := by decide +kernel
theorem d_Sp_run_49 : decode b_Sp_run 49 = .ok (.aload_n 0, 1) := by decide +kernel
theorem d_Sp_run_50 : decode b_Sp_run 50 = .ok (.invokevirtual 31, 3) := by decide +kernel
theorem d_Sp_run_53 : decode b_Sp_run 53 = .ok (.aload_n 0, 1) := by decide +kernel
theorem d_Sp_run_54 : decode b_Sp_run 54 = .ok (.invokevirtual 34, 3) := by decide +kernel
theorem d_Sp_run_57 : decode b_Sp_run 57 = .ok (.istore_n 3, 1) := by decide +kernel
theorem d_Sp_run_58 : decode b_Sp_run 58 = .ok (.iinc 2 1, 3) := by decide +kernel
theorem d_Sp_run_61 : decode b_Sp_run 61 = .ok (.iinc 4 1, 3) := by decide +kernel
theorem d_Sp_run_64 : decode b_Sp_run 64 = .ok (.goto (-26), 3) := by decide +kernel
theorem d_Sp_run_67 : decode b_Sp_run 67 = .ok (.iload_n 2, 1) := by decide +kernel
theorem d_Sp_run_68 : decode b_Sp_run 68 = .ok (.ireturn, 1) := by decide +kernel
theorem d_Sp_drawOrder_0 : decode b_Sp_drawOrder 0 = .ok (.iconst 0, 1) := by decide +kernel
theorem d_Sp_drawOrder_1 : decode b_Sp_drawOrder 1 = .ok (.istore_n 1, 1) := by decide +kernel
theorem d_Sp_drawOrder_2 : decode b_Sp_drawOrder 2 = .ok (.iload_n 1, 1) := by decide +kernel
theorem d_Sp_drawOrder_3 : decode b_Sp_drawOrder 3 = .ok (.aload_n 0, 1) := by decide +kernel
theorem d_Sp_drawOrder_4 : decode b_Sp_drawOrder 4 = .ok (.getfield 18, 3) := by decide +kernel
theorem d_Sp_drawOrder_7 : decode b_Sp_drawOrder 7 = .ok (.getfield 26, 3) := by decide +kernel
theorem d_Sp_drawOrder_10 : decode b_Sp_drawOrder 10 = .ok (.if_icmp .ge 16, 3) := by decide +kernel
theorem d_Sp_drawOrder_13 : decode b_Sp_drawOrder 13 = .ok (.aload_n 0, 1) := by decide +kernel
theorem d_Sp_drawOrder_14 : decode b_Sp_drawOrder 14 = .ok (.getfield 15, 3) := by decide +kernel
theorem d_Sp_drawOrder_17 : decode b_Sp_drawOrder 17 = .ok (.iload_n 1, 1) := by decide +kernel
theorem d_Sp_drawOrder_18 : decode b_Sp_drawOrder 18 = .ok (.iload_n 1, 1) := by decide +kernel
theorem d_Sp_drawOrder_19 : decode b_Sp_drawOrder 19 = .ok (.iastore, 1) := by decide +kernel
theorem d_Sp_drawOrder_20 : decode b_Sp_drawOrder 20 = .ok (.iinc 1 1, 3) := by decide +kernel
theorem d_Sp_drawOrder_23 : decode b_Sp_drawOrder 23 = .ok (.goto (-21), 3) := by decide +kernel
theorem d_Sp_drawOrder_26 : decode b_Sp_drawOrder 26 = .ok (.aload_n 0, 1) := by decide +kernel
theorem d_Sp_drawOrder_27 : decode b_Sp_drawOrder 27 = .ok (.getfield 18, 3) := by decide +kernel
theorem d_Sp_drawOrder_30 : decode b_Sp_drawOrder 30 = .ok (.getfield 26, 3) := by decide +kernel
theorem d_Sp_drawOrder_33 : decode b_Sp_drawOrder 33 = .ok (.iconst 1, 1) := by decide +kernel
theorem d_Sp_drawOrder_34 : decode b_Sp_drawOrder 34 = .ok (.isub, 1) := by decide +kernel
theorem d_Sp_drawOrder_35 : decode b_Sp_drawOrder 35 = .ok (.istore_n 1, 1) := by decide +kernel
theorem d_Sp_drawOrder_36 : decode b_Sp_drawOrder 36 = .ok (.iload_n 1, 1) := by decide +kernel
theorem d_Sp_drawOrder_37 : decode b_Sp_drawOrder 37 = .ok (.iconst 1, 1) := by decide +kernel
theorem d_Sp_drawOrder_38 : decode b_Sp_drawOrder 38 = .ok (.if_icmp .lt 60, 3) := by decide +kernel
theorem d_Sp_drawOrder_41 : decode b_Sp_drawOrder 41 = .ok (.aload_n 0, 1) := by decide +kernel
theorem d_Sp_drawOrder_42 : decode b_Sp_drawOrder 42 = .ok (.aload_n 0, 1) := by decide +kernel
theorem d_Sp_drawOrder_43 : decode b_Sp_drawOrder 43 = .ok (.getfield 22, 3) := by decide +kernel
theorem d_Sp_drawOrder_46 : decode b_Sp_drawOrder 46 = .ok (.ldc 38, 2) := by decide +kernel
theorem d_Sp_drawOrder_48 : decode b_Sp_drawOrder 48 = .ok (.imul, 1) := by decide +kernel
theorem d_Sp_drawOrder_49 : decode b_Sp_drawOrder 49 = .ok (.ldc 39, 2) := by decide +kernel
theorem d_Sp_drawOrder_51 : decode b_Sp_drawOrder 51 = .ok (.iadd, 1) := by decide +kernel
theorem d_Sp_drawOrder_52 : decode b_Sp_drawOrder 52 = .ok (.putfield 22, 3) := by decide +kernel
theorem d_Sp_drawOrder_55 : decode b_Sp_drawOrder 55 = .ok (.aload_n 0, 1) := by decide +kernel
theorem d_Sp_drawOrder_56 : decode b_Sp_drawOrder 56 = .ok (.getfield 22, 3) := by decide +kernel
theorem d_Sp_drawOrder_59 : decode b_Sp_drawOrder 59 = .ok (.iconst 1, 1) := by decide +kernel
theorem d_Sp_drawOrder_60 : decode b_Sp_drawOrder 60 = .ok (.iushr, 1) := by decide +kernel
theorem d_Sp_drawOrder_61 : decode b_Sp_drawOrder 61 = .ok (.iload_n 1, 1) := by decide +kernel
theorem d_Sp_drawOrder_62 : decode b_Sp_drawOrder 62 = .ok (.iconst 1, 1) := by decide +kernel
theorem d_Sp_drawOrder_63 : decode b_Sp_drawOrder 63 = .ok (.iadd, 1) := by decide +kernel
theorem d_Sp_drawOrder_64 : decode b_Sp_drawOrder 64 = .ok (.irem, 1) := by decide +kernel
theorem d_Sp_drawOrder_65 : decode b_Sp_drawOrder 65 = .ok (.istore_n 2, 1) := by decide +kernel
theorem d_Sp_drawOrder_66 : decode b_Sp_drawOrder 66 = .ok (.aload_n 0, 1) := by decide +kernel
theorem d_Sp_drawOrder_67 : decode b_Sp_drawOrder 67 = .ok (.getfield 15, 3) := by decide +kernel
theorem d_Sp_drawOrder_70 : decode b_Sp_drawOrder 70 = .ok (.iload_n 1, 1) := by decide +kernel
theorem d_Sp_drawOrder_71 : decode b_Sp_drawOrder 71 = .ok (.iaload, 1) := by decide +kernel
theorem d_Sp_drawOrder_72 : decode b_Sp_drawOrder 72 = .ok (.istore_n 3, 1) := by decide +kernel
theorem d_Sp_drawOrder_73 : decode b_Sp_drawOrder 73 = .ok (.aload_n 0, 1) := by decide +kernel
theorem d_Sp_drawOrder_74 : decode b_Sp_drawOrder 74 = .ok (.getfield 15, 3) := by decide +kernel
theorem d_Sp_drawOrder_77 : decode b_Sp_drawOrder 77 = .ok (.iload_n 1, 1) := by decide +kernel
theorem d_Sp_drawOrder_78 : decode b_Sp_drawOrder 78 = .ok (.aload_n 0, 1) := by decide +kernel
theorem d_Sp_drawOrder_79 : decode b_Sp_drawOrder 79 = .ok (.getfield 15, 3) := by decide +kernel
theorem d_Sp_drawOrder_82 : decode b_Sp_drawOrder 82 = .ok (.iload_n 2, 1) := by decide +kernel
theorem d_Sp_drawOrder_83 : decode b_Sp_drawOrder 83 = .ok (.iaload, 1) := by decide +kernel
theorem d_Sp_drawOrder_84 : decode b_Sp_drawOrder 84 = .ok (.iastore, 1) := by decide +kernel
theorem d_Sp_drawOrder_85 : decode b_Sp_drawOrder 85 = .ok (.aload_n 0, 1) := by decide +kernel
theorem d_Sp_drawOrder_86 : decode b_Sp_drawOrder 86 = .ok (.getfield 15, 3) := by decide +kernel
theorem d_Sp_drawOrder_89 : decode b_Sp_drawOrder 89 = .ok (.iload_n 2, 1) := by decide +kernel
theorem d_Sp_drawOrder_90 : decode b_Sp_drawOrder 90 = .ok (.iload_n 3, 1) := by decide +kernel
theorem d_Sp_drawOrder_91 : decode b_Sp_drawOrder 91 = .ok (.iastore, 1) := by decide +kernel
theorem d_Sp_drawOrder_92 : decode b_Sp_drawOrder 92 = .ok (.iinc 1 (-1), 3) := by decide +kernel
theorem d_Sp_drawOrder_95 : decode b_Sp_drawOrder 95 = .ok (.goto (-59), 3) := by decide +kernel
theorem d_Sp_drawOrder_98 : decode b_Sp_drawOrder 98 = .ok (.return_, 1) := by decide +kernel
theorem d_Sp_relabelAll_0 : decode b_Sp_relabelAll 0 = .ok (.iconst 0, 1) := by decide +kernel
theorem d_Sp_relabelAll_1 : decode b_Sp_relabelAll 1 = .ok (.istore_n 1, 1) := by decide +kernel
theorem d_Sp_relabelAll_2 : decode b_Sp_relabelAll 2 = .ok (.iconst 0, 1) := by decide +kernel
theorem d_Sp_relabelAll_3 : decode b_Sp_relabelAll 3 = .ok (.istore_n 2, 1) := by decide +kernel
theorem d_Sp_relabelAll_4 : decode b_Sp_relabelAll 4 = .ok (.iload_n 2, 1) := by decide +kernel
theorem d_Sp_relabelAll_5 : decode b_Sp_relabelAll 5 = .ok (.aload_n 0, 1) := by decide +kernel
theorem d_Sp_relabelAll_6 : decode b_Sp_relabelAll 6 = .ok (.getfield 18, 3) := by decide +kernel
theorem d_Sp_relabelAll_9 : decode b_Sp_relabelAll 9 = .ok (.getfield 26, 3) := by decide +kernel
theorem d_Sp_relabelAll_12 : decode b_Sp_relabelAll 12 = .ok (.if_icmp .ge 50, 3) := by decide +kernel
theorem d_Sp_relabelAll_15 : decode b_Sp_relabelAll 15 = .ok (.aload_n 0, 1) := by decide +kernel
theorem d_Sp_relabelAll_16 : decode b_Sp_relabelAll 16 = .ok (.getfield 15, 3) := by decide +kernel
theorem d_Sp_relabelAll_19 : decode b_Sp_relabelAll 19 = .ok (.iload_n 2, 1) := by decide +kernel
theorem d_Sp_relabelAll_20 : decode b_Sp_relabelAll 20 = .ok (.iaload, 1) := by decide +kernel
theorem d_Sp_relabelAll_21 : decode b_Sp_relabelAll 21 = .ok (.istore_n 3, 1) := by decide +kernel
theorem d_Sp_relabelAll_22 : decode b_Sp_relabelAll 22 = .ok (.aload_n 0, 1) := by decide +kernel
theorem d_Sp_relabelAll_23 : decode b_Sp_relabelAll 23 = .ok (.iload_n 3, 1) := by decide +kernel
theorem d_Sp_relabelAll_24 : decode b_Sp_relabelAll 24 = .ok (.invokevirtual 40, 3) := by decide +kernel
theorem d_Sp_relabelAll_27 : decode b_Sp_relabelAll 27 = .ok (.istore 4, 2) := by decide +kernel
theorem d_Sp_relabelAll_29 : decode b_Sp_relabelAll 29 = .ok (.iload_n 1, 1) := by decide +kernel
theorem d_Sp_relabelAll_30 : decode b_Sp_relabelAll 30 = .ok (.iload 4, 2) := by decide +kernel
theorem d_Sp_relabelAll_32 : decode b_Sp_relabelAll 32 = .ok (.aload_n 0, 1) := by decide +kernel
theorem d_Sp_relabelAll_33 : decode b_Sp_relabelAll 33 = .ok (.getfield 9, 3) := by decide +kernel
theorem d_Sp_relabelAll_36 : decode b_Sp_relabelAll 36 = .ok (.iload_n 3, 1) := by decide +kernel
theorem d_Sp_relabelAll_37 : decode b_Sp_relabelAll 37 = .ok (.iaload, 1) := by decide +kernel
theorem d_Sp_relabelAll_38 : decode b_Sp_relabelAll 38 = .ok (.if_icmp .eq 7, 3) := by decide +kernel
theorem d_Sp_relabelAll_41 : decode b_Sp_relabelAll 41 = .ok (.iconst 1, 1) := by decide +kernel
theorem d_Sp_relabelAll_42 : decode b_Sp_relabelAll 42 = .ok (.goto 4, 3) := by decide +kernel
theorem d_Sp_relabelAll_45 : decode b_Sp_relabelAll 45 = .ok (.iconst 0, 1) := by decide +kernel
theorem d_Sp_relabelAll_46 : decode b_Sp_relabelAll 46 = .ok (.ior, 1) := by decide +kernel
theorem d_Sp_relabelAll_47 : decode b_Sp_relabelAll 47 = .ok (.istore_n 1, 1) := by decide +kernel
theorem d_Sp_relabelAll_48 : decode b_Sp_relabelAll 48 = .ok (.aload_n 0, 1) := by decide +kernel
theorem d_Sp_relabelAll_49 : decode b_Sp_relabelAll 49 = .ok (.getfield 9, 3) := by decide +kernel
theorem d_Sp_relabelAll_52 : decode b_Sp_relabelAll 52 = .ok (.iload_n 3, 1) := by decide +kernel
theorem d_Sp_relabelAll_53 : decode b_Sp_relabelAll 53 = .ok (.iload 4, 2) := by decide +kernel
theorem d_Sp_relabelAll_55 : decode b_Sp_relabelAll 55 = .ok (.iastore, 1) := by decide +kernel
theorem d_Sp_relabelAll_56 : decode b_Sp_relabelAll 56 = .ok (.iinc 2 1, 3) := by decide +kernel
theorem d_Sp_relabelAll_59 : decode b_Sp_relabelAll 59 = .ok (.goto (-55), 3) := by decide +kernel
theorem d_Sp_relabelAll_62 : decode b_Sp_relabelAll 62 = .ok (.iload_n 1, 1) := by decide +kernel
theorem d_Sp_relabelAll_63 : decode b_Sp_relabelAll 63 = .ok (.ireturn, 1) := by decide +kernel
theorem d_Sp_strongestLabel_0 : decode b_Sp_strongestLabel 0 = .ok (.aload_n 0, 1) := by decide +kernel
theorem d_Sp_strongestLabel_1 : decode b_Sp_strongestLabel 1 = .ok (.getfield 9, 3) := by decide +kernel
theorem d_Sp_strongestLabel_4 : decode b_Sp_strongestLabel 4 = .ok (.iload_n 1, 1) := by decide +kernel
theorem d_Sp_strongestLabel_5 : decode b_Sp_strongestLabel 5 = .ok (.iaload, 1) := by decide +kernel
theorem d_Sp_strongestLabel_6 : decode b_Sp_strongestLabel 6 = .ok (.istore_n 2, 1) := by decide +kernel
theorem d_Sp_strongestLabel_7 : decode b_Sp_strongestLabel 7 = .ok (.iconst (-1), 1) := by decide +kernel
theorem d_Sp_strongestLabel_8 : decode b_Sp_strongestLabel 8 = .ok (.istore_n 3, 1) := by decide +kernel
theorem d_Sp_strongestLabel_9 : decode b_Sp_strongestLabel 9 = .ok (.iconst 0, 1) := by decide +kernel
theorem d_Sp_strongestLabel_10 : decode b_Sp_strongestLabel 10 = .ok (.istore 4, 2) := by decide +kernel
theorem d_Sp_strongestLabel_12 : decode b_Sp_strongestLabel 12 = .ok (.iconst 0, 1) := by decide +kernel
theorem d_Sp_strongestLabel_13 : decode b_Sp_strongestLabel 13 = .ok (.istore 5, 2) := by decide +kernel
theorem d_Sp_strongestLabel_15 : decode b_Sp_strongestLabel 15 = .ok (.iload 5, 2) := by decide +kernel
theorem d_Sp_strongestLabel_17 : decode b_Sp_strongestLabel 17 = .ok (.aload_n 0, 1) := by decide +kernel
theorem d_Sp_strongestLabel_18 : decode b_Sp_strongestLabel 18 = .ok (.getfield 18, 3) := by decide +kernel
theorem d_Sp_strongestLabel_21 : decode b_Sp_strongestLabel 21 = .ok (.getfield 26, 3) := by decide +kernel
theorem d_Sp_strongestLabel_24 : decode b_Sp_strongestLabel 24 = .ok (.if_icmp .ge 72, 3) := by decide +kernel
theorem d_Sp_strongestLabel_27 : decode b_Sp_strongestLabel 27 = .ok (.aload_n 0, 1) := by decide +kernel
theorem d_Sp_strongestLabel_28 : decode b_Sp_strongestLabel 28 = .ok (.getfield 18, 3) := by decide +kernel
theorem d_Sp_strongestLabel_31 : decode b_Sp_strongestLabel 31 = .ok (.getfield 44, 3) := by decide +kernel
theorem d_Sp_strongestLabel_34 : decode b_Sp_strongestLabel 34 = .ok (.iload_n 1, 1) := by decide +kernel
theorem d_Sp_strongestLabel_35 : decode b_Sp_strongestLabel 35 = .ok (.iaload, 1) := by decide +kernel
theorem d_Sp_strongestLabel_36 : decode b_Sp_strongestLabel 36 = .ok (.aload_n 0, 1) := by decide +kernel
theorem d_Sp_strongestLabel_37 : decode b_Sp_strongestLabel 37 = .ok (.iload 5, 2) := by decide +kernel
theorem d_Sp_strongestLabel_39 : decode b_Sp_strongestLabel 39 = .ok (.invokevirtual 47, 3) := by decide +kernel
theorem d_Sp_strongestLabel_42 : decode b_Sp_strongestLabel 42 = .ok (.iand, 1) := by decide +kernel
theorem d_Sp_strongestLabel_43 : decode b_Sp_strongestLabel 43 = .ok (.istore 6, 2) := by decide +kernel
theorem d_Sp_strongestLabel_45 : decode b_Sp_strongestLabel 45 = .ok (.iload 6, 2) := by decide +kernel
theorem d_Sp_strongestLabel_47 : decode b_Sp_strongestLabel 47 = .ok (.ifCond .eq 43, 3) := by decide +kernel
theorem d_Sp_strongestLabel_50 : decode b_Sp_strongestLabel 50 = .ok (.aload_n 0, 1) := by decide +kernel
theorem d_Sp_strongestLabel_51 : decode b_Sp_strongestLabel 51 = .ok (.iload_n 1, 1) := by decide +kernel
theorem d_Sp_strongestLabel_52 : decode b_Sp_strongestLabel 52 = .ok (.iload 6, 2) := by decide +kernel
theorem d_Sp_strongestLabel_54 : decode b_Sp_strongestLabel 54 = .ok (.invokevirtual 50, 3) := by decide +kernel
theorem d_Sp_strongestLabel_57 : decode b_Sp_strongestLabel 57 = .ok (.istore 7, 2) := by decide +kernel
theorem d_Sp_strongestLabel_59 : decode b_Sp_strongestLabel 59 = .ok (.iload_n 3, 1) := by decide +kernel
theorem d_Sp_strongestLabel_60 : decode b_Sp_strongestLabel 60 = .ok (.ifCond .lt 23, 3) := by decide +kernel
theorem d_Sp_strongestLabel_63 : decode b_Sp_strongestLabel 63 = .ok (.iload 7, 2) := by decide +kernel
theorem d_Sp_strongestLabel_65 : decode b_Sp_strongestLabel 65 = .ok (.iload 4, 2) := by decide +kernel
theorem d_Sp_strongestLabel_67 : decode b_Sp_strongestLabel 67 = .ok (.if_icmp .gt 16, 3) := by decide +kernel
theorem d_Sp_strongestLabel_70 : decode b_Sp_strongestLabel 70 = .ok (.iload 7, 2) := by decide +kernel
theorem d_Sp_strongestLabel_72 : decode b_Sp_strongestLabel 72 = .ok (.iload 4, 2) := by decide +kernel
theorem d_Sp_strongestLabel_74 : decode b_Sp_strongestLabel 74 = .ok (.if_icmp .ne 16, 3) := by decide +kernel
theorem d_Sp_strongestLabel_77 : decode b_Sp_strongestLabel 77 = .ok (.iload 5, 2) := by decide +kernel
theorem d_Sp_strongestLabel_79 : decode b_Sp_strongestLabel 79 = .ok (.iload_n 2, 1) := by decide +kernel
theorem d_Sp_strongestLabel_80 : decode b_Sp_strongestLabel 80 = .ok (.if_icmp .ne 10, 3) := by decide +kernel
theorem d_Sp_strongestLabel_83 : decode b_Sp_strongestLabel 83 = .ok (.iload 5, 2) := by decide +kernel
theorem d_Sp_strongestLabel_85 : decode b_Sp_strongestLabel 85 = .ok (.istore_n 3, 1) := by decide +kernel
theorem d_Sp_strongestLabel_86 : decode b_Sp_strongestLabel 86 = .ok (.iload 7, 2) := by decide +kernel
theorem d_Sp_strongestLabel_88 : decode b_Sp_strongestLabel 88 = .ok (.istore 4, 2) := by decide +kernel
theorem d_Sp_strongestLabel_90 : decode b_Sp_strongestLabel 90 = .ok (.iinc 5 1, 3) := by decide +kernel
theorem d_Sp_strongestLabel_93 : decode b_Sp_strongestLabel 93 = .ok (.goto (-78), 3) := by decide +kernel
theorem d_Sp_strongestLabel_96 : decode b_Sp_strongestLabel 96 = .ok (.iload_n 3, 1) := by decide +kernel
theorem d_Sp_strongestLabel_97 : decode b_Sp_strongestLabel 97 = .ok (.ifCond .ge 7, 3) := by decide +kernel
theorem d_Sp_strongestLabel_100 : decode b_Sp_strongestLabel 100 = .ok (.iload_n 2, 1) := by decide +kernel
theorem d_Sp_strongestLabel_101 : decode b_Sp_strongestLabel 101 = .ok (.goto 4, 3) := by decide +kernel
theorem d_Sp_strongestLabel_104 : decode b_Sp_strongestLabel 104 = .ok (.iload_n 3, 1) := by decide +kernel
theorem d_Sp_strongestLabel_105 : decode b_Sp_strongestLabel 105 = .ok (.ireturn, 1) := by decide +kernel
theorem d_Sp_bearersOf_0 : decode b_Sp_bearersOf 0 = .ok (.iconst 0, 1) := by decide +kernel
theorem d_Sp_bearersOf_1 : decode b_Sp_bearersOf 1 = .ok (.istore_n 2, 1) := by decide +kernel
theorem d_Sp_bearersOf_2 : decode b_Sp_bearersOf 2 = .ok (.iconst 0, 1) := by decide +kernel
theorem d_Sp_bearersOf_3 : decode b_Sp_bearersOf 3 = .ok (.istore_n 3, 1) := by decide +kernel
theorem d_Sp_bearersOf_4 : decode b_Sp_bearersOf 4 = .ok (.iload_n 3, 1) := by decide +kernel
theorem d_Sp_bearersOf_5 : decode b_Sp_bearersOf 5 = .ok (.aload_n 0, 1) := by decide +kernel
theorem d_Sp_bearersOf_6 : decode b_Sp_bearersOf 6 = .ok (.getfield 18, 3) := by decide +kernel
theorem d_Sp_bearersOf_9 : decode b_Sp_bearersOf 9 = .ok (.getfield 26, 3) := by decide +kernel
theorem d_Sp_bearersOf_12 : decode b_Sp_bearersOf 12 = .ok (.if_icmp .ge 25, 3) := by decide +kernel
theorem d_Sp_bearersOf_15 : decode b_Sp_bearersOf 15 = .ok (.aload_n 0, 1) := by decide +kernel
theorem d_Sp_bearersOf_16 : decode b_Sp_bearersOf 16 = .ok (.getfield 9, 3) := by decide +kernel
theorem d_Sp_bearersOf_19 : decode b_Sp_bearersOf 19 = .ok (.iload_n 3, 1) := by decide +kernel
theorem d_Sp_bearersOf_20 : decode b_Sp_bearersOf 20 = .ok (.iaload, 1) := by decide +kernel
theorem d_Sp_bearersOf_21 : decode b_Sp_bearersOf 21 = .ok (.iload_n 1, 1) := by decide +kernel
theorem d_Sp_bearersOf_22 : decode b_Sp_bearersOf 22 = .ok (.if_icmp .ne 9, 3) := by decide +kernel
theorem d_Sp_bearersOf_25 : decode b_Sp_bearersOf 25 = .ok (.iload_n 2, 1) := by decide +kernel
theorem d_Sp_bearersOf_26 : decode b_Sp_bearersOf 26 = .ok (.iconst 1, 1) := by decide +kernel
theorem d_Sp_bearersOf_27 : decode b_Sp_bearersOf 27 = .ok (.iload_n 3, 1) := by decide +kernel
theorem d_Sp_bearersOf_28 : decode b_Sp_bearersOf 28 = .ok (.ishl, 1) := by decide +kernel
theorem d_Sp_bearersOf_29 : decode b_Sp_bearersOf 29 = .ok (.ior, 1) := by decide +kernel
theorem d_Sp_bearersOf_30 : decode b_Sp_bearersOf 30 = .ok (.istore_n 2, 1) := by decide +kernel
theorem d_Sp_bearersOf_31 : decode b_Sp_bearersOf 31 = .ok (.iinc 3 1, 3) := by decide +kernel
theorem d_Sp_bearersOf_34 : decode b_Sp_bearersOf 34 = .ok (.goto (-30), 3) := by decide +kernel
theorem d_Sp_bearersOf_37 : decode b_Sp_bearersOf 37 = .ok (.iload_n 2, 1) := by decide +kernel
theorem d_Sp_bearersOf_38 : decode b_Sp_bearersOf 38 = .ok (.ireturn, 1) := by decide +kernel
theorem d_Sp_weightTo_0 : decode b_Sp_weightTo 0 = .ok (.iconst 0, 1) := by decide +kernel
theorem d_Sp_weightTo_1 : decode b_Sp_weightTo 1 = .ok (.istore_n 3, 1) := by decide +kernel
theorem d_Sp_weightTo_2 : decode b_Sp_weightTo 2 = .ok (.iconst 0, 1) := by decide +kernel
theorem d_Sp_weightTo_3 : decode b_Sp_weightTo 3 = .ok (.istore 4, 2) := by decide +kernel
theorem d_Sp_weightTo_5 : decode b_Sp_weightTo 5 = .ok (.iload 4, 2) := by decide +kernel
theorem d_Sp_weightTo_7 : decode b_Sp_weightTo 7 = .ok (.aload_n 0, 1) := by decide +kernel
theorem d_Sp_weightTo_8 : decode b_Sp_weightTo 8 = .ok (.getfield 18, 3) := by decide +kernel
theorem d_Sp_weightTo_11 : decode b_Sp_weightTo 11 = .ok (.getfield 26, 3) := by decide +kernel
theorem d_Sp_weightTo_14 : decode b_Sp_weightTo 14 = .ok (.if_icmp .ge 34, 3) := by decide +kernel
theorem d_Sp_weightTo_17 : decode b_Sp_weightTo 17 = .ok (.iload_n 2, 1) := by decide +kernel
theorem d_Sp_weightTo_18 : decode b_Sp_weightTo 18 = .ok (.iload 4, 2) := by decide +kernel
theorem d_Sp_weightTo_20 : decode b_Sp_weightTo 20 = .ok (.ishr, 1) := by decide +kernel
theorem d_Sp_weightTo_21 : decode b_Sp_weightTo 21 = .ok (.iconst 1, 1) := by decide +kernel
theorem d_Sp_weightTo_22 : decode b_Sp_weightTo 22 = .ok (.iand, 1) := by decide +kernel
theorem d_Sp_weightTo_23 : decode b_Sp_weightTo 23 = .ok (.iconst 1, 1) := by decide +kernel
theorem d_Sp_weightTo_24 : decode b_Sp_weightTo 24 = .ok (.if_icmp .ne 18, 3) := by decide +kernel
theorem d_Sp_weightTo_27 : decode b_Sp_weightTo 27 = .ok (.iload_n 3, 1) := by decide +kernel
theorem d_Sp_weightTo_28 : decode b_Sp_weightTo 28 = .ok (.aload_n 0, 1) := by decide +kernel
theorem d_Sp_weightTo_29 : decode b_Sp_weightTo 29 = .ok (.getfield 18, 3) := by decide +kernel
theorem d_Sp_weightTo_32 : decode b_Sp_weightTo 32 = .ok (.getfield 54, 3) := by decide +kernel
theorem d_Sp_weightTo_35 : decode b_Sp_weightTo 35 = .ok (.iload_n 1, 1) := by decide +kernel
theorem d_Sp_weightTo_36 : decode b_Sp_weightTo 36 = .ok (.aaload, 1) := by decide +kernel
theorem d_Sp_weightTo_37 : decode b_Sp_weightTo 37 = .ok (.iload 4, 2) := by decide +kernel
theorem d_Sp_weightTo_39 : decode b_Sp_weightTo 39 = .ok (.iaload, 1) := by decide +kernel
theorem d_Sp_weightTo_40 : decode b_Sp_weightTo 40 = .ok (.iadd, 1) := by decide +kernel
theorem d_Sp_weightTo_41 : decode b_Sp_weightTo 41 = .ok (.istore_n 3, 1) := by decide +kernel
theorem d_Sp_weightTo_42 : decode b_Sp_weightTo 42 = .ok (.iinc 4 1, 3) := by decide +kernel
theorem d_Sp_weightTo_45 : decode b_Sp_weightTo 45 = .ok (.goto (-40), 3) := by decide +kernel
theorem d_Sp_weightTo_48 : decode b_Sp_weightTo 48 = .ok (.iload_n 3, 1) := by decide +kernel
theorem d_Sp_weightTo_49 : decode b_Sp_weightTo 49 = .ok (.ireturn, 1) := by decide +kernel
theorem d_St_init_0 : decode b_St_init 0 = .ok (.aload_n 0, 1) := by decide +kernel
theorem d_St_init_1 : decode b_St_init 1 = .ok (.invokespecial 3, 3) := by decide +kernel
theorem d_St_init_4 : decode b_St_init 4 = .ok (.aload_n 0, 1) := by decide +kernel
theorem d_St_init_5 : decode b_St_init 5 = .ok (.bipush 8, 2) := by decide +kernel
theorem d_St_init_7 : decode b_St_init 7 = .ok (.newarray .long, 2) := by decide +kernel
theorem d_St_init_9 : decode b_St_init 9 = .ok (.putfield 11, 3) := by decide +kernel
theorem d_St_init_12 : decode b_St_init 12 = .ok (.aload_n 0, 1) := by decide +kernel
theorem d_St_init_13 : decode b_St_init 13 = .ok (.bipush 8, 2) := by decide +kernel
theorem d_St_init_15 : decode b_St_init 15 = .ok (.newarray .long, 2) := by decide +kernel
theorem d_St_init_17 : decode b_St_init 17 = .ok (.putfield 15, 3) := by decide +kernel
theorem d_St_init_20 : decode b_St_init 20 = .ok (.aload_n 0, 1) := by decide +kernel
theorem d_St_init_21 : decode b_St_init 21 = .ok (.bipush 8, 2) := by decide +kernel
theorem d_St_init_23 : decode b_St_init 23 = .ok (.newarray .long, 2) := by decide +kernel
theorem d_St_init_25 : decode b_St_init 25 = .ok (.putfield 18, 3) := by decide +kernel
theorem d_St_init_28 : decode b_St_init 28 = .ok (.aload_n 0, 1) := by decide +kernel
theorem d_St_init_29 : decode b_St_init 29 = .ok (.aload_n 1, 1) := by decide +kernel
theorem d_St_init_30 : decode b_St_init 30 = .ok (.putfield 21, 3) := by decide +kernel
theorem d_St_init_33 : decode b_St_init 33 = .ok (.return_, 1) := by decide +kernel
theorem d_St_forget_0 : decode b_St_forget 0 = .ok (.aload_n 0, 1) := by decide +kernel
theorem d_St_forget_1 : decode b_St_forget 1 = .ok (.iconst 0, 1) := by decide +kernel
theorem d_St_forget_2 : decode b_St_forget 2 = .ok (.putfield 25, 3) := by decide +kernel
theorem d_St_forget_5 : decode b_St_forget 5 = .ok (.return_, 1) := by decide +kernel
theorem d_St_has_0 : decode b_St_has 0 = .ok (.iload_n 1, 1) := by decide +kernel
theorem d_St_has_1 : decode b_St_has 1 = .ok (.ifCond .lt 15, 3) := by decide +kernel
theorem d_St_has_4 : decode b_St_has 4 = .ok (.iload_n 1, 1) := by decide +kernel
theorem d_St_has_5 : decode b_St_has 5 = .ok (.aload_n 0, 1) := by decide +kernel
theorem d_St_has_6 : decode b_St_has 6 = .ok (.getfield 29, 3) := by decide +kernel
theorem d_St_has_9 : decode b_St_has 9 = .ok (.if_icmp .ge 7, 3) := by decide +kernel
theorem d_St_has_12 : decode b_St_has 12 = .ok (.iconst 1, 1) := by decide +kernel
theorem d_St_has_13 : decode b_St_has 13 = .ok (.goto 4, 3) := by decide +kernel
theorem d_St_has_16 : decode b_St_has 16 = .ok (.iconst 0, 1) := by decide +kernel
theorem d_St_has_17 : decode b_St_has 17 = .ok (.ireturn, 1) := by decide +kernel
theorem d_St_find_0 : decode b_St_find 0 = .ok (.aload_n 0, 1) := by decide +kernel
theorem d_St_find_1 : decode b_St_find 1 = .ok (.getfield 25, 3) := by decide +kernel
theorem d_St_find_4 : decode b_St_find 4 = .ok (.ifCond .eq 4, 3) := by decide +kernel
theorem d_St_find_7 : decode b_St_find 7 = .ok (.return_, 1) := by decide +kernel
theorem d_St_find_8 : decode b_St_find 8 = .ok (.aload_n 0, 1) := by decide +kernel
theorem d_St_find_9 : decode b_St_find 9 = .ok (.iconst 0, 1) := by decide +kernel
theorem d_St_find_10 : decode b_St_find 10 = .ok (.putfield 29, 3) := by decide +kernel
theorem d_St_find_13 : decode b_St_find 13 = .ok (.aload_n 0, 1) := by decide +kernel
theorem d_St_find_14 : decode b_St_find 14 = .ok (.invokevirtual 33, 3) := by decide +kernel
theorem d_St_find_17 : decode b_St_find 17 = .ok (.aload_n 0, 1) := by decide +kernel
theorem d_St_find_18 : decode b_St_find 18 = .ok (.lconst 0, 1) := by decide +kernel
theorem d_St_find_19 : decode b_St_find 19 = .ok (.lconst 1, 1) := by decide +kernel
theorem d_St_find_20 : decode b_St_find 20 = .ok (.invokevirtual 36, 3) := by decide +kernel
theorem d_St_find_23 : decode b_St_find 23 = .ok (.aload_n 0, 1) := by decide +kernel
theorem d_St_find_24 : decode b_St_find 24 = .ok (.invokevirtual 33, 3) := by decide +kernel
theorem d_St_find_27 : decode b_St_find 27 = .ok (.iconst 1, 1) := by decide +kernel
theorem d_St_find_28 : decode b_St_find 28 = .ok (.istore_n 1, 1) := by decide +kernel
theorem d_St_find_29 : decode b_St_find 29 = .ok (.aload_n 0, 1) := by decide +kernel
theorem d_St_find_30 : decode b_St_find 30 = .ok (.getfield 40, 3) := by decide +kernel
theorem d_St_find_33 : decode b_St_find 33 = .ok (.ifCond .eq 42, 3) := by decide +kernel
theorem d_St_find_36 : decode b_St_find 36 = .ok (.iload_n 1, 1) := by decide +kernel
theorem d_St_find_37 : decode b_St_find 37 = .ok (.sipush 21147, 3) := by decide +kernel
theorem d_St_find_40 : decode b_St_find 40 = .ok (.if_icmp .ge 35, 3) := by decide +kernel
theorem d_St_find_43 : decode b_St_find 43 = .ok (.aload_n 0, 1) := by decide +kernel
theorem d_St_find_44 : decode b_St_find 44 = .ok (.aload_n 0, 1) := by decide +kernel
theorem d_St_find_45 : decode b_St_find 45 = .ok (.getfield 43, 3) := by decide +kernel
theorem d_St_find_48 : decode b_St_find 48 = .ok (.aload_n 0, 1) := by decide +kernel
theorem d_St_find_49 : decode b_St_find 49 = .ok (.getfield 47, 3) := by decide +kernel
theorem d_St_find_52 : decode b_St_find 52 = .ok (.lsub, 1) := by decide +kernel
theorem d_St_find_53 : decode b_St_find 53 = .ok (.aload_n 0, 1) := by decide +kernel
theorem d_St_find_54 : decode b_St_find 54 = .ok (.getfield 50, 3) := by decide +kernel
theorem d_St_find_57 : decode b_St_find 57 = .ok (.aload_n 0, 1) := by decide +kernel
theorem d_St_find_58 : decode b_St_find 58 = .ok (.getfield 53, 3) := by decide +kernel
theorem d_St_find_61 : decode b_St_find 61 = .ok (.lsub, 1) := by decide +kernel
theorem d_St_find_62 : decode b_St_find 62 = .ok (.invokevirtual 36, 3) := by decide +kernel
theorem d_St_find_65 : decode b_St_find 65 = .ok (.aload_n 0, 1) := by decide +kernel
theorem d_St_find_66 : decode b_St_find 66 = .ok (.invokevirtual 33, 3) := by decide +kernel
theorem d_St_find_69 : decode b_St_find 69 = .ok (.iinc 1 1, 3) := by decide +kernel
theorem d_St_find_72 : decode b_St_find 72 = .ok (.goto (-43), 3) := by decide +kernel
theorem d_St_find_75 : decode b_St_find 75 = .ok (.aload_n 0, 1) := by decide +kernel
theorem d_St_find_76 : decode b_St_find 76 = .ok (.iconst 1, 1) := by decide +kernel
theorem d_St_find_77 : decode b_St_find 77 = .ok (.putfield 25, 3) := by decide +kernel
theorem d_St_find_80 : decode b_St_find 80 = .ok (.return_, 1) := by decide +kernel
theorem d_St_scan_0 : decode b_St_scan 0 = .ok (.aload_n 0, 1) := by decide +kernel
theorem d_St_scan_1 : decode b_St_scan 1 = .ok (.iconst 0, 1) := by decide +kernel
theorem d_St_scan_2 : decode b_St_scan 2 = .ok (.putfield 40, 3) := by decide +kernel
theorem d_St_scan_5 : decode b_St_scan 5 = .ok (.aload_n 0, 1) := by decide +kernel
theorem d_St_scan_6 : decode b_St_scan 6 = .ok (.getfield 21, 3) := by decide +kernel
theorem d_St_scan_9 : decode b_St_scan 9 = .ok (.invokevirtual 56, 3) := by decide +kernel
theorem d_St_scan_12 : decode b_St_scan 12 = .ok (.iconst 1, 1) := by decide +kernel
theorem d_St_scan_13 : decode b_St_scan 13 = .ok (.istore_n 1, 1) := by decide +kernel
theorem d_St_scan_14 : decode b_St_scan 14 = .ok (.iconst 0, 1) := by decide +kernel
theorem d_St_scan_15 : decode b_St_scan 15 = .ok (.istore_n 2, 1) := by decide +kernel
theorem d_St_scan_16 : decode b_St_scan 16 = .ok (.iload_n 1, 1) := by decide +kernel
theorem d_St_scan_17 : decode b_St_scan 17 = .ok (.ifCond .eq 78, 3) := by decide +kernel
theorem d_St_scan_20 : decode b_St_scan 20 = .ok (.iload_n 2, 1) := by decide +kernel
theorem d_St_scan_21 : decode b_St_scan 21 = .ok (.sipush 21147, 3) := by decide +kernel
theorem d_St_scan_24 : decode b_St_scan 24 = .ok (.if_icmp .ge 71, 3) := by decide +kernel
theorem d_St_scan_27 : decode b_St_scan 27 = .ok (.aload_n 0, 1) := by decide +kernel
theorem d_St_scan_28 : decode b_St_scan 28 = .ok (.getfield 21, 3) := by decide +kernel
theorem d_St_scan_31 : decode b_St_scan 31 = .ok (.invokevirtual 61, 3) := by decide +kernel
theorem d_St_scan_34 : decode b_St_scan 34 = .ok (.lstore_n 3, 1) := by decide +kernel
theorem d_St_scan_35 : decode b_St_scan 35 = .ok (.aload_n 0, 1) := by decide +kernel
theorem d_St_scan_36 : decode b_St_scan 36 = .ok (.getfield 21, 3) := by decide +kernel
theorem d_St_scan_39 : decode b_St_scan 39 = .ok (.invokevirtual 65, 3) := by decide +kernel
theorem d_St_scan_42 : decode b_St_scan 42 = .ok (.lstore 5, 2) := by decide +kernel
theorem d_St_scan_44 : decode b_St_scan 44 = .ok (.aload_n 0, 1) := by decide +kernel
theorem d_St_scan_45 : decode b_St_scan 45 = .ok (.getfield 29, 3) := by decide +kernel
theorem d_St_scan_48 : decode b_St_scan 48 = .ok (.ifCond .ne 16, 3) := by decide +kernel
theorem d_St_scan_51 : decode b_St_scan 51 = .ok (.aload_n 0, 1) := by decide +kernel
theorem d_St_scan_52 : decode b_St_scan 52 = .ok (.lload_n 3, 1) := by decide +kernel
theorem d_St_scan_53 : decode b_St_scan 53 = .ok (.lload 5, 2) := by decide +kernel
theorem d_St_scan_55 : decode b_St_scan 55 = .ok (.invokevirtual 68, 3) := by decide +kernel
theorem d_St_scan_58 : decode b_St_scan 58 = .ok (.ifCond .eq 23, 3) := by decide +kernel
theorem d_St_scan_61 : decode b_St_scan 61 = .ok (.goto 13, 3) := by decide +kernel
theorem d_St_scan_64 : decode b_St_scan 64 = .ok (.aload_n 0, 1) := by decide +kernel
theorem d_St_scan_65 : decode b_St_scan 65 = .ok (.lload_n 3, 1) := by decide +kernel
theorem d_St_scan_66 : decode b_St_scan 66 = .ok (.lload 5, 2) := by decide +kernel
theorem d_St_scan_68 : decode b_St_scan 68 = .ok (.invokevirtual 72, 3) := by decide +kernel
theorem d_St_scan_71 : decode b_St_scan 71 = .ok (.ifCond .eq 10, 3) := by decide +kernel
theorem d_St_scan_74 : decode b_St_scan 74 = .ok (.aload_n 0, 1) := by decide +kernel
theorem d_St_scan_75 : decode b_St_scan 75 = .ok (.lload_n 3, 1) := by decide +kernel
theorem d_St_scan_76 : decode b_St_scan 76 = .ok (.lload 5, 2) := by decide +kernel
theorem d_St_scan_78 : decode b_St_scan 78 = .ok (.invokevirtual 75, 3) := by decide +kernel
theorem d_St_scan_81 : decode b_St_scan 81 = .ok (.aload_n 0, 1) := by decide +kernel
theorem d_St_scan_82 : decode b_St_scan 82 = .ok (.getfield 21, 3) := by decide +kernel
theorem d_St_scan_85 : decode b_St_scan 85 = .ok (.invokevirtual 78, 3) := by decide +kernel
theorem d_St_scan_88 : decode b_St_scan 88 = .ok (.istore_n 1, 1) := by decide +kernel
theorem d_St_scan_89 : decode b_St_scan 89 = .ok (.iinc 2 1, 3) := by decide +kernel
theorem d_St_scan_92 : decode b_St_scan 92 = .ok (.goto (-76), 3) := by decide +kernel
theorem d_St_scan_95 : decode b_St_scan 95 = .ok (.return_, 1) := by decide +kernel
theorem d_St_standsHigher_0 : decode b_St_standsHigher 0 = .ok (.aload_n 0, 1) := by decide +kernel
theorem d_St_standsHigher_1 : decode b_St_standsHigher 1 = .ok (.getfield 40, 3) := by decide +kernel
theorem d_St_standsHigher_4 : decode b_St_standsHigher 4 = .ok (.ifCond .eq 30, 3) := by decide +kernel
theorem d_St_standsHigher_7 : decode b_St_standsHigher 7 = .ok (.lload_n 1, 1) := by decide +kernel
theorem d_St_standsHigher_8 : decode b_St_standsHigher 8 = .ok (.aload_n 0, 1) := by decide +kernel
theorem d_St_standsHigher_9 : decode b_St_standsHigher 9 = .ok (.getfield 47, 3) := by decide +kernel
theorem d_St_standsHigher_12 : decode b_St_standsHigher 12 = .ok (.lcmp, 1) := by decide +kernel
theorem d_St_standsHigher_13 : decode b_St_standsHigher 13 = .ok (.ifCond .gt 21, 3) := by decide +kernel
theorem d_St_standsHigher_16 : decode b_St_standsHigher 16 = .ok (.lload_n 1, 1) := by decide +kernel
theorem d_St_standsHigher_17 : decode b_St_standsHigher 17 = .ok (.aload_n 0, 1) := by decide +kernel
theorem d_St_standsHigher_18 : decode b_St_standsHigher 18 = .ok (.getfield 47, 3) := by decide +kernel
theorem d_St_standsHigher_21 : decode b_St_standsHigher 21 = .ok (.lcmp, 1) := by decide +kernel
theorem d_St_standsHigher_22 : decode b_St_standsHigher 22 = .ok (.ifCond .ne 16, 3) := by decide +kernel
theorem d_St_standsHigher_25 : decode b_St_standsHigher 25 = .ok (.lload_n 3, 1) := by decide +kernel
theorem d_St_standsHigher_26 : decode b_St_standsHigher 26 = .ok (.aload_n 0, 1) := by decide +kernel
theorem d_St_standsHigher_27 : decode b_St_standsHigher 27 = .ok (.getfield 53, 3) := by decide +kernel
theorem d_St_standsHigher_30 : decode b_St_standsHigher 30 = .ok (.lcmp, 1) := by decide +kernel
theorem d_St_standsHigher_31 : decode b_St_standsHigher 31 = .ok (.ifCond .ge 7, 3) := by decide +kernel
theorem d_St_standsHigher_34 : decode b_St_standsHigher 34 = .ok (.iconst 1, 1) := by decide +kernel
theorem d_St_standsHigher_35 : decode b_St_standsHigher 35 = .ok (.goto 4, 3) := by decide +kernel
theorem d_St_standsHigher_38 : decode b_St_standsHigher 38 = .ok (.iconst 0, 1) := by decide +kernel
theorem d_St_standsHigher_39 : decode b_St_standsHigher 39 = .ok (.ireturn, 1) := by decide +kernel
theorem d_St_comesSooner_0 : decode b_St_comesSooner 0 = .ok (.lload_n 3, 1) := by decide +kernel
theorem d_St_comesSooner_1 : decode b_St_comesSooner 1 = .ok (.aload_n 0, 1) := by decide +kernel
theorem d_St_comesSooner_2 : decode b_St_comesSooner 2 = .ok (.getfield 50, 3) := by decide +kernel
theorem d_St_comesSooner_5 : decode b_St_comesSooner 5 = .ok (.lcmp, 1) := by decide +kernel
theorem d_St_comesSooner_6 : decode b_St_comesSooner 6 = .ok (.ifCond .lt 5, 3) := by decide +kernel
theorem d_St_comesSooner_9 : decode b_St_comesSooner 9 = .ok (.iconst 0, 1) := by decide +kernel
theorem d_St_comesSooner_10 : decode b_St_comesSooner 10 = .ok (.ireturn, 1) := by decide +kernel
theorem d_St_comesSooner_11 : decode b_St_comesSooner 11 = .ok (.aload_n 0, 1) := by decide +kernel
theorem d_St_comesSooner_12 : decode b_St_comesSooner 12 = .ok (.getfield 40, 3) := by decide +kernel
theorem d_St_comesSooner_15 : decode b_St_comesSooner 15 = .ok (.ifCond .ne 5, 3) := by decide +kernel
theorem d_St_comesSooner_18 : decode b_St_comesSooner 18 = .ok (.iconst 1, 1) := by decide +kernel
theorem d_St_comesSooner_19 : decode b_St_comesSooner 19 = .ok (.ireturn, 1) := by decide +kernel
theorem d_St_comesSooner_20 : decode b_St_comesSooner 20 = .ok (.aload_n 0, 1) := by decide +kernel
theorem d_St_comesSooner_21 : decode b_St_comesSooner 21 = .ok (.getfield 43, 3) := by decide +kernel
theorem d_St_comesSooner_24 : decode b_St_comesSooner 24 = .ok (.lload_n 1, 1) := by decide +kernel
theorem d_St_comesSooner_25 : decode b_St_comesSooner 25 = .ok (.lsub, 1) := by decide +kernel
theorem d_St_comesSooner_26 : decode b_St_comesSooner 26 = .ok (.aload_n 0, 1) := by decide +kernel
theorem d_St_comesSooner_27 : decode b_St_comesSooner 27 = .ok (.getfield 50, 3) := by decide +kernel
theorem d_St_comesSooner_30 : decode b_St_comesSooner 30 = .ok (.aload_n 0, 1) := by decide +kernel
theorem d_St_comesSooner_31 : decode b_St_comesSooner 31 = .ok (.getfield 53, 3) := by decide +kernel
theorem d_St_comesSooner_34 : decode b_St_comesSooner 34 = .ok (.lsub, 1) := by decide +kernel
theorem d_St_comesSooner_35 : decode b_St_comesSooner 35 = .ok (.lmul, 1) := by decide +kernel
theorem d_St_comesSooner_36 : decode b_St_comesSooner 36 = .ok (.lstore 5, 2) := by decide +kernel
theorem d_St_comesSooner_38 : decode b_St_comesSooner 38 = .ok (.aload_n 0, 1) := by decide +kernel
theorem d_St_comesSooner_39 : decode b_St_comesSooner 39 = .ok (.getfield 43, 3) := by decide +kernel
theorem d_St_comesSooner_42 : decode b_St_comesSooner 42 = .ok (.aload_n 0, 1) := by decide +kernel
theorem d_St_comesSooner_43 : decode b_St_comesSooner 43 = .ok (.getfield 47, 3) := by decide +kernel
theorem d_St_comesSooner_46 : decode b_St_comesSooner 46 = .ok (.lsub, 1) := by decide +kernel
theorem d_St_comesSooner_47 : decode b_St_comesSooner 47 = .ok (.aload_n 0, 1) := by decide +kernel
theorem d_St_comesSooner_48 : decode b_St_comesSooner 48 = .ok (.getfield 50, 3) := by decide +kernel
theorem d_St_comesSooner_51 : decode b_St_comesSooner 51 = .ok (.lload_n 3, 1) := by decide +kernel
theorem d_St_comesSooner_52 : decode b_St_comesSooner 52 = .ok (.lsub, 1) := by decide +kernel
theorem d_St_comesSooner_53 : decode b_St_comesSooner 53 = .ok (.lmul, 1) := by decide +kernel
theorem d_St_comesSooner_54 : decode b_St_comesSooner 54 = .ok (.lstore 7, 2) := by decide +kernel
theorem d_St_comesSooner_56 : decode b_St_comesSooner 56 = .ok (.lload 5, 2) := by decide +kernel
theorem d_St_comesSooner_58 : decode b_St_comesSooner 58 = .ok (.lload 7, 2) := by decide +kernel
theorem d_St_comesSooner_60 : decode b_St_comesSooner 60 = .ok (.lcmp, 1) := by decide +kernel
theorem d_St_comesSooner_61 : decode b_St_comesSooner 61 = .ok (.ifCond .lt 20, 3) := by decide +kernel
theorem d_St_comesSooner_64 : decode b_St_comesSooner 64 = .ok (.lload 5, 2) := by decide +kernel
theorem d_St_comesSooner_66 : decode b_St_comesSooner 66 = .ok (.lload 7, 2) := by decide +kernel
theorem d_St_comesSooner_68 : decode b_St_comesSooner 68 = .ok (.lcmp, 1) := by decide +kernel
theorem d_St_comesSooner_69 : decode b_St_comesSooner 69 = .ok (.ifCond .ne 16, 3) := by decide +kernel
theorem d_St_comesSooner_72 : decode b_St_comesSooner 72 = .ok (.lload_n 3, 1) := by decide +kernel
theorem d_St_comesSooner_73 : decode b_St_comesSooner 73 = .ok (.aload_n 0, 1) := by decide +kernel
theorem d_St_comesSooner_74 : decode b_St_comesSooner 74 = .ok (.getfield 53, 3) := by decide +kernel
theorem d_St_comesSooner_77 : decode b_St_comesSooner 77 = .ok (.lcmp, 1) := by decide +kernel
theorem d_St_comesSooner_78 : decode b_St_comesSooner 78 = .ok (.ifCond .ge 7, 3) := by decide +kernel
theorem d_St_comesSooner_81 : decode b_St_comesSooner 81 = .ok (.iconst 1, 1) := by decide +kernel
theorem d_St_comesSooner_82 : decode b_St_comesSooner 82 = .ok (.goto 4, 3) := by decide +kernel
theorem d_St_comesSooner_85 : decode b_St_comesSooner 85 = .ok (.iconst 0, 1) := by decide +kernel
theorem d_St_comesSooner_86 : decode b_St_comesSooner 86 = .ok (.ireturn, 1) := by decide +kernel
theorem d_St_note_0 : decode b_St_note 0 = .ok (.aload_n 0, 1) := by decide +kernel
theorem d_St_note_1 : decode b_St_note 1 = .ok (.iconst 1, 1) := by decide +kernel
theorem d_St_note_2 : decode b_St_note 2 = .ok (.putfield 40, 3) := by decide +kernel
theorem d_St_note_5 : decode b_St_note 5 = .ok (.aload_n 0, 1) := by decide +kernel
theorem d_St_note_6 : decode b_St_note 6 = .ok (.lload_n 1, 1) := by decide +kernel
theorem d_St_note_7 : decode b_St_note 7 = .ok (.putfield 47, 3) := by decide +kernel
theorem d_St_note_10 : decode b_St_note 10 = .ok (.aload_n 0, 1) := by decide +kernel
theorem d_St_note_11 : decode b_St_note 11 = .ok (.lload_n 3, 1) := by decide +kernel
theorem d_St_note_12 : decode b_St_note 12 = .ok (.putfield 53, 3) := by decide +kernel
theorem d_St_note_15 : decode b_St_note 15 = .ok (.aload_n 0, 1) := by decide +kernel
theorem d_St_note_16 : decode b_St_note 16 = .ok (.aload_n 0, 1) := by decide +kernel
theorem d_St_note_17 : decode b_St_note 17 = .ok (.getfield 21, 3) := by decide +kernel
theorem d_St_note_20 : decode b_St_note 20 = .ok (.invokevirtual 82, 3) := by decide +kernel
theorem d_St_note_23 : decode b_St_note 23 = .ok (.putfield 85, 3) := by decide +kernel
theorem d_St_note_26 : decode b_St_note 26 = .ok (.return_, 1) := by decide +kernel
theorem d_St_keep_0 : decode b_St_keep 0 = .ok (.aload_n 0, 1) := by decide +kernel
theorem d_St_keep_1 : decode b_St_keep 1 = .ok (.getfield 29, 3) := by decide +kernel
theorem d_St_keep_4 : decode b_St_keep 4 = .ok (.aload_n 0, 1) := by decide +kernel
theorem d_St_keep_5 : decode b_St_keep 5 = .ok (.getfield 18, 3) := by decide +kernel
theorem d_St_keep_8 : decode b_St_keep 8 = .ok (.arraylength, 1) := by decide +kernel
theorem d_St_keep_9 : decode b_St_keep 9 = .ok (.if_icmp .lt 7, 3) := by decide +kernel
theorem d_St_keep_12 : decode b_St_keep 12 = .ok (.aload_n 0, 1) := by decide +kernel
theorem d_St_keep_13 : decode b_St_keep 13 = .ok (.invokevirtual 88, 3) := by decide +kernel
theorem d_St_keep_16 : decode b_St_keep 16 = .ok (.lload_n 1, 1) := by decide +kernel
theorem d_St_keep_17 : decode b_St_keep 17 = .ok (.lload_n 3, 1) := by decide +kernel
theorem d_St_keep_18 : decode b_St_keep 18 = .ok (.invokestatic 91, 3) := by decide +kernel
theorem d_St_keep_21 : decode b_St_keep 21 = .ok (.lstore 5, 2) := by decide +kernel
theorem d_St_keep_23 : decode b_St_keep 23 = .ok (.aload_n 0, 1) := by decide +kernel
theorem d_St_keep_24 : decode b_St_keep 24 = .ok (.getfield 11, 3) := by decide +kernel
theorem d_St_keep_27 : decode b_St_keep 27 = .ok (.aload_n 0, 1) := by decide +kernel
theorem d_St_keep_28 : decode b_St_keep 28 = .ok (.getfield 29, 3) := by decide +kernel
theorem d_St_keep_31 : decode b_St_keep 31 = .ok (.lload 5, 2) := by decide +kernel
theorem d_St_keep_33 : decode b_St_keep 33 = .ok (.lconst 0, 1) := by decide +kernel
theorem d_St_keep_34 : decode b_St_keep 34 = .ok (.lcmp, 1) := by decide +kernel
theorem d_St_keep_35 : decode b_St_keep 35 = .ok (.ifCond .ne 7, 3) := by decide +kernel
theorem d_St_keep_38 : decode b_St_keep 38 = .ok (.lload_n 1, 1) := by decide +kernel
theorem d_St_keep_39 : decode b_St_keep 39 = .ok (.goto 7, 3) := by decide +kernel
theorem d_St_keep_42 : decode b_St_keep 42 = .ok (.lload_n 1, 1) := by decide +kernel
theorem d_St_keep_43 : decode b_St_keep 43 = .ok (.lload 5, 2) := by decide +kernel
theorem d_St_keep_45 : decode b_St_keep 45 = .ok (.ldiv, 1) := by decide +kernel
theorem d_St_keep_46 : decode b_St_keep 46 = .ok (.lastore, 1) := by decide +kernel
theorem d_St_keep_47 : decode b_St_keep 47 = .ok (.aload_n 0, 1) := by decide +kernel
theorem d_St_keep_48 : decode b_St_keep 48 = .ok (.getfield 15, 3) := by decide +kernel
theorem d_St_keep_51 : decode b_St_keep 51 = .ok (.aload_n 0, 1) := by decide +kernel
theorem d_St_keep_52 : decode b_St_keep 52 = .ok (.getfield 29, 3) := by decide +kernel
theorem d_St_keep_55 : decode b_St_keep 55 = .ok (.lload 5, 2) := by decide +kernel
theorem d_St_keep_57 : decode b_St_keep 57 = .ok (.lconst 0, 1) := by decide +kernel
theorem d_St_keep_58 : decode b_St_keep 58 = .ok (.lcmp, 1) := by decide +kernel
theorem d_St_keep_59 : decode b_St_keep 59 = .ok (.ifCond .ne 7, 3) := by decide +kernel
theorem d_St_keep_62 : decode b_St_keep 62 = .ok (.lload_n 3, 1) := by decide +kernel
theorem d_St_keep_63 : decode b_St_keep 63 = .ok (.goto 7, 3) := by decide +kernel
theorem d_St_keep_66 : decode b_St_keep 66 = .ok (.lload_n 3, 1) := by decide +kernel
theorem d_St_keep_67 : decode b_St_keep 67 = .ok (.lload 5, 2) := by decide +kernel
theorem d_St_keep_69 : decode b_St_keep 69 = .ok (.ldiv, 1) := by decide +kernel
theorem d_St_keep_70 : decode b_St_keep 70 = .ok (.lastore, 1) := by decide +kernel
theorem d_St_keep_71 : decode b_St_keep 71 = .ok (.aload_n 0, 1) := by decide +kernel
theorem d_St_keep_72 : decode b_St_keep 72 = .ok (.getfield 18, 3) := by decide +kernel
theorem d_St_keep_75 : decode b_St_keep 75 = .ok (.aload_n 0, 1) := by decide +kernel
theorem d_St_keep_76 : decode b_St_keep 76 = .ok (.getfield 29, 3) := by decide +kernel
theorem d_St_keep_79 : decode b_St_keep 79 = .ok (.aload_n 0, 1) := by decide +kernel
theorem d_St_keep_80 : decode b_St_keep 80 = .ok (.getfield 85, 3) := by decide +kernel
theorem d_St_keep_83 : decode b_St_keep 83 = .ok (.lastore, 1) := by decide +kernel
theorem d_St_keep_84 : decode b_St_keep 84 = .ok (.aload_n 0, 1) := by decide +kernel
theorem d_St_keep_85 : decode b_St_keep 85 = .ok (.dup, 1) := by decide +kernel
theorem d_St_keep_86 : decode b_St_keep 86 = .ok (.getfield 29, 3) := by decide +kernel
theorem d_St_keep_89 : decode b_St_keep 89 = .ok (.iconst 1, 1) := by decide +kernel
theorem d_St_keep_90 : decode b_St_keep 90 = .ok (.iadd, 1) := by decide +kernel
theorem d_St_keep_91 : decode b_St_keep 91 = .ok (.putfield 29, 3) := by decide +kernel
theorem d_St_keep_94 : decode b_St_keep 94 = .ok (.aload_n 0, 1) := by decide +kernel
theorem d_St_keep_95 : decode b_St_keep 95 = .ok (.aload_n 0, 1) := by decide +kernel
theorem d_St_keep_96 : decode b_St_keep 96 = .ok (.getfield 47, 3) := by decide +kernel
theorem d_St_keep_99 : decode b_St_keep 99 = .ok (.putfield 43, 3) := by decide +kernel
theorem d_St_keep_102 : decode b_St_keep 102 = .ok (.aload_n 0, 1) := by decide +kernel
theorem d_St_keep_103 : decode b_St_keep 103 = .ok (.aload_n 0, 1) := by decide +kernel
theorem d_St_keep_104 : decode b_St_keep 104 = .ok (.getfield 53, 3) := by decide +kernel
theorem d_St_keep_107 : decode b_St_keep 107 = .ok (.putfield 50, 3) := by decide +kernel
theorem d_St_keep_110 : decode b_St_keep 110 = .ok (.return_, 1) := by decide +kernel
theorem d_St_makeRoom_0 : decode b_St_makeRoom 0 = .ok (.iconst 2, 1) := by decide +kernel
theorem d_St_makeRoom_1 : decode b_St_makeRoom 1 = .ok (.aload_n 0, 1) := by decide +kernel
theorem d_St_makeRoom_2 : decode b_St_makeRoom 2 = .ok (.getfield 29, 3) := by decide +kernel
theorem d_St_makeRoom_5 : decode b_St_makeRoom 5 = .ok (.imul, 1) := by decide +kernel
theorem d_St_makeRoom_6 : decode b_St_makeRoom 6 = .ok (.istore_n 1, 1) := by decide +kernel
theorem d_St_makeRoom_7 : decode b_St_makeRoom 7 = .ok (.aload_n 0, 1) := by decide +kernel
theorem d_St_makeRoom_8 : decode b_St_makeRoom 8 = .ok (.aload_n 0, 1) := by decide +kernel
theorem d_St_makeRoom_9 : decode b_St_makeRoom 9 = .ok (.getfield 11, 3) := by decide +kernel
theorem d_St_makeRoom_12 : decode b_St_makeRoom 12 = .ok (.iload_n 1, 1) := by decide +kernel
theorem d_St_makeRoom_13 : decode b_St_makeRoom 13 = .ok (.invokestatic 95, 3) := by decide +kernel
theorem d_St_makeRoom_16 : decode b_St_makeRoom 16 = .ok (.putfield 11, 3) := by decide +kernel
theorem d_St_makeRoom_19 : decode b_St_makeRoom 19 = .ok (.aload_n 0, 1) := by decide +kernel
theorem d_St_makeRoom_20 : decode b_St_makeRoom 20 = .ok (.aload_n 0, 1) := by decide +kernel
theorem d_St_makeRoom_21 : decode b_St_makeRoom 21 = .ok (.getfield 15, 3) := by decide +kernel
theorem d_St_makeRoom_24 : decode b_St_makeRoom 24 = .ok (.iload_n 1, 1) := by decide +kernel
theorem d_St_makeRoom_25 : decode b_St_makeRoom 25 = .ok (.invokestatic 95, 3) := by decide +kernel
theorem d_St_makeRoom_28 : decode b_St_makeRoom 28 = .ok (.putfield 15, 3) := by decide +kernel
theorem d_St_makeRoom_31 : decode b_St_makeRoom 31 = .ok (.aload_n 0, 1) := by decide +kernel
theorem d_St_makeRoom_32 : decode b_St_makeRoom 32 = .ok (.aload_n 0, 1) := by decide +kernel
theorem d_St_makeRoom_33 : decode b_St_makeRoom 33 = .ok (.getfield 18, 3) := by decide +kernel
theorem d_St_makeRoom_36 : decode b_St_makeRoom 36 = .ok (.iload_n 1, 1) := by decide +kernel
theorem d_St_makeRoom_37 : decode b_St_makeRoom 37 = .ok (.invokestatic 95, 3) := by decide +kernel
theorem d_St_makeRoom_40 : decode b_St_makeRoom 40 = .ok (.putfield 18, 3) := by decide +kernel
theorem d_St_makeRoom_43 : decode b_St_makeRoom 43 = .ok (.return_, 1) := by decide +kernel
theorem d_St_commonDivisor_0 : decode b_St_commonDivisor 0 = .ok (.lload_n 0, 1) := by decide +kernel
theorem d_St_commonDivisor_1 : decode b_St_commonDivisor 1 = .ok (.invokestatic 101, 3) := by decide +kernel
theorem d_St_commonDivisor_4 : decode b_St_commonDivisor 4 = .ok (.lstore 4, 2) := by decide +kernel
theorem d_St_commonDivisor_6 : decode b_St_commonDivisor 6 = .ok (.lload_n 2, 1) := by decide +kernel
theorem d_St_commonDivisor_7 : decode b_St_commonDivisor 7 = .ok (.invokestatic 101, 3) := by decide +kernel
theorem d_St_commonDivisor_10 : decode b_St_commonDivisor 10 = .ok (.lstore 6, 2) := by decide +kernel
theorem d_St_commonDivisor_12 : decode b_St_commonDivisor 12 = .ok (.iconst 0, 1) := by decide +kernel
theorem d_St_commonDivisor_13 : decode b_St_commonDivisor 13 = .ok (.istore 8, 2) := by decide +kernel
theorem d_St_commonDivisor_15 : decode b_St_commonDivisor 15 = .ok (.lload 6, 2) := by decide +kernel
theorem d_St_commonDivisor_17 : decode b_St_commonDivisor 17 = .ok (.lconst 0, 1) := by decide +kernel
theorem d_St_commonDivisor_18 : decode b_St_commonDivisor 18 = .ok (.lcmp, 1) := by decide +kernel
theorem d_St_commonDivisor_19 : decode b_St_commonDivisor 19 = .ok (.ifCond .eq 31, 3) := by decide +kernel
theorem d_St_commonDivisor_22 : decode b_St_commonDivisor 22 = .ok (.iload 8, 2) := by decide +kernel
theorem d_St_commonDivisor_24 : decode b_St_commonDivisor 24 = .ok (.bipush 100, 2) := by decide +kernel
theorem d_St_commonDivisor_26 : decode b_St_commonDivisor 26 = .ok (.if_icmp .ge 24, 3) := by decide +kernel
theorem d_St_commonDivisor_29 : decode b_St_commonDivisor 29 = .ok (.lload 4, 2) := by decide +kernel
theorem d_St_commonDivisor_31 : decode b_St_commonDivisor 31 = .ok (.lload 6, 2) := by decide +kernel
theorem d_St_commonDivisor_33 : decode b_St_commonDivisor 33 = .ok (.lrem, 1) := by decide +kernel
theorem d_St_commonDivisor_34 : decode b_St_commonDivisor 34 = .ok (.lstore 9, 2) := by decide +kernel
theorem d_St_commonDivisor_36 : decode b_St_commonDivisor 36 = .ok (.lload 6, 2) := by decide +kernel
theorem d_St_commonDivisor_38 : decode b_St_commonDivisor 38 = .ok (.lstore 4, 2) := by decide +kernel
theorem d_St_commonDivisor_40 : decode b_St_commonDivisor 40 = .ok (.lload 9, 2) := by decide +kernel
theorem d_St_commonDivisor_42 : decode b_St_commonDivisor 42 = .ok (.lstore 6, 2) := by decide +kernel
theorem d_St_commonDivisor_44 : decode b_St_commonDivisor 44 = .ok (.iinc 8 1, 3) := by decide +kernel
theorem d_St_commonDivisor_47 : decode b_St_commonDivisor 47 = .ok (.goto (-32), 3) := by decide +kernel
theorem d_St_commonDivisor_50 : decode b_St_commonDivisor 50 = .ok (.lload 4, 2) := by decide +kernel
theorem d_St_commonDivisor_52 : decode b_St_commonDivisor 52 = .ok (.lreturn, 1) := by decide +kernel
theorem d_Wa_init_0 : decode b_Wa_init 0 = .ok (.aload_n 0, 1) := by decide +kernel
theorem d_Wa_init_1 : decode b_Wa_init 1 = .ok (.invokespecial 3, 3) := by decide +kernel
theorem d_Wa_init_4 : decode b_Wa_init 4 = .ok (.aload_n 0, 1) := by decide +kernel
theorem d_Wa_init_5 : decode b_Wa_init 5 = .ok (.bipush 9, 2) := by decide +kernel
theorem d_Wa_init_7 : decode b_Wa_init 7 = .ok (.newarray .int, 2) := by decide +kernel
theorem d_Wa_init_9 : decode b_Wa_init 9 = .ok (.putfield 9, 3) := by decide +kernel
theorem d_Wa_init_12 : decode b_Wa_init 12 = .ok (.aload_n 0, 1) := by decide +kernel
theorem d_Wa_init_13 : decode b_Wa_init 13 = .ok (.bipush 10, 2) := by decide +kernel
theorem d_Wa_init_15 : decode b_Wa_init 15 = .ok (.newarray .int, 2) := by decide +kernel
theorem d_Wa_init_17 : decode b_Wa_init 17 = .ok (.putfield 15, 3) := by decide +kernel
theorem d_Wa_init_20 : decode b_Wa_init 20 = .ok (.aload_n 0, 1) := by decide +kernel
theorem d_Wa_init_21 : decode b_Wa_init 21 = .ok (.bipush 10, 2) := by decide +kernel
theorem d_Wa_init_23 : decode b_Wa_init 23 = .ok (.newarray .long, 2) := by decide +kernel
theorem d_Wa_init_25 : decode b_Wa_init 25 = .ok (.putfield 18, 3) := by decide +kernel
theorem d_Wa_init_28 : decode b_Wa_init 28 = .ok (.aload_n 0, 1) := by decide +kernel
theorem d_Wa_init_29 : decode b_Wa_init 29 = .ok (.bipush 10, 2) := by decide +kernel
theorem d_Wa_init_31 : decode b_Wa_init 31 = .ok (.newarray .long, 2) := by decide +kernel
theorem d_Wa_init_33 : decode b_Wa_init 33 = .ok (.putfield 22, 3) := by decide +kernel
theorem d_Wa_init_36 : decode b_Wa_init 36 = .ok (.aload_n 0, 1) := by decide +kernel
theorem d_Wa_init_37 : decode b_Wa_init 37 = .ok (.bipush 9, 2) := by decide +kernel
theorem d_Wa_init_39 : decode b_Wa_init 39 = .ok (.bipush 9, 2) := by decide +kernel
theorem d_Wa_init_41 : decode b_Wa_init 41 = .ok (.multianewarray 25 2, 4) := by decide +kernel
theorem d_Wa_init_45 : decode b_Wa_init 45 = .ok (.putfield 27, 3) := by decide +kernel
theorem d_Wa_init_48 : decode b_Wa_init 48 = .ok (.aload_n 0, 1) := by decide +kernel
theorem d_Wa_init_49 : decode b_Wa_init 49 = .ok (.bipush 9, 2) := by decide +kernel
theorem d_Wa_init_51 : decode b_Wa_init 51 = .ok (.bipush 9, 2) := by decide +kernel
theorem d_Wa_init_53 : decode b_Wa_init 53 = .ok (.multianewarray 25 2, 4) := by decide +kernel
theorem d_Wa_init_57 : decode b_Wa_init 57 = .ok (.putfield 30, 3) := by decide +kernel
theorem d_Wa_init_60 : decode b_Wa_init 60 = .ok (.aload_n 0, 1) := by decide +kernel
theorem d_Wa_init_61 : decode b_Wa_init 61 = .ok (.aload_n 1, 1) := by decide +kernel
theorem d_Wa_init_62 : decode b_Wa_init 62 = .ok (.putfield 33, 3) := by decide +kernel
theorem d_Wa_init_65 : decode b_Wa_init 65 = .ok (.return_, 1) := by decide +kernel
theorem d_Wa_start_0 : decode b_Wa_start 0 = .ok (.aload_n 0, 1) := by decide +kernel
theorem d_Wa_start_1 : decode b_Wa_start 1 = .ok (.getfield 22, 3) := by decide +kernel
theorem d_Wa_start_4 : decode b_Wa_start 4 = .ok (.iconst 0, 1) := by decide +kernel
theorem d_Wa_start_5 : decode b_Wa_start 5 = .ok (.aload_n 0, 1) := by decide +kernel
theorem d_Wa_start_6 : decode b_Wa_start 6 = .ok (.getfield 33, 3) := by decide +kernel
theorem d_Wa_start_9 : decode b_Wa_start 9 = .ok (.getfield 37, 3) := by decide +kernel
theorem d_Wa_start_12 : decode b_Wa_start 12 = .ok (.lastore, 1) := by decide +kernel
theorem d_Wa_start_13 : decode b_Wa_start 13 = .ok (.aload_n 0, 1) := by decide +kernel
theorem d_Wa_start_14 : decode b_Wa_start 14 = .ok (.iconst 0, 1) := by decide +kernel
theorem d_Wa_start_15 : decode b_Wa_start 15 = .ok (.invokevirtual 43, 3) := by decide +kernel
theorem d_Wa_start_18 : decode b_Wa_start 18 = .ok (.return_, 1) := by decide +kernel
theorem d_Wa_step_0 : decode b_Wa_step 0 = .ok (.aload_n 0, 1) := by decide +kernel
theorem d_Wa_step_1 : decode b_Wa_step 1 = .ok (.getfield 33, 3) := by decide +kernel
theorem d_Wa_step_4 : decode b_Wa_step 4 = .ok (.getfield 47, 3) := by decide +kernel
theorem d_Wa_step_7 : decode b_Wa_step 7 = .ok (.iconst 1, 1) := by decide +kernel
theorem d_Wa_step_8 : decode b_Wa_step 8 = .ok (.isub, 1) := by decide +kernel
theorem d_Wa_step_9 : decode b_Wa_step 9 = .ok (.istore_n 1, 1) := by decide +kernel
theorem d_Wa_step_10 : decode b_Wa_step 10 = .ok (.iload_n 1, 1) := by decide +kernel
theorem d_Wa_step_11 : decode b_Wa_step 11 = .ok (.ifCond .le 48, 3) := by decide +kernel
theorem d_Wa_step_14 : decode b_Wa_step 14 = .ok (.aload_n 0, 1) := by decide +kernel
theorem d_Wa_step_15 : decode b_Wa_step 15 = .ok (.getfield 9, 3) := by decide +kernel
theorem d_Wa_step_18 : decode b_Wa_step 18 = .ok (.iload_n 1, 1) := by decide +kernel
theorem d_Wa_step_19 : decode b_Wa_step 19 = .ok (.iaload, 1) := by decide +kernel
theorem d_Wa_step_20 : decode b_Wa_step 20 = .ok (.aload_n 0, 1) := by decide +kernel
theorem d_Wa_step_21 : decode b_Wa_step 21 = .ok (.getfield 15, 3) := by decide +kernel
theorem d_Wa_step_24 : decode b_Wa_step 24 = .ok (.iload_n 1, 1) := by decide +kernel
theorem d_Wa_step_25 : decode b_Wa_step 25 = .ok (.iaload, 1) := by decide +kernel
theorem d_Wa_step_26 : decode b_Wa_step 26 = .ok (.if_icmp .ge 27, 3) := by decide +kernel
theorem d_Wa_step_29 : decode b_Wa_step 29 = .ok (.aload_n 0, 1) := by decide +kernel
theorem d_Wa_step_30 : decode b_Wa_step 30 = .ok (.getfield 9, 3) := by decide +kernel
theorem d_Wa_step_33 : decode b_Wa_step 33 = .ok (.iload_n 1, 1) := by decide +kernel
theorem d_Wa_step_34 : decode b_Wa_step 34 = .ok (.dup2, 1) := by decide +kernel
theorem d_Wa_step_35 : decode b_Wa_step 35 = .ok (.iaload, 1) := by decide +kernel
theorem d_Wa_step_36 : decode b_Wa_step 36 = .ok (.iconst 1, 1) := by decide +kernel
theorem d_Wa_step_37 : decode b_Wa_step 37 = .ok (.iadd, 1) := by decide +kernel
theorem d_Wa_step_38 : decode b_Wa_step 38 = .ok (.iastore, 1) := by decide +kernel
theorem d_Wa_step_39 : decode b_Wa_step 39 = .ok (.aload_n 0, 1) := by decide +kernel
theorem d_Wa_step_40 : decode b_Wa_step 40 = .ok (.iload_n 1, 1) := by decide +kernel
theorem d_Wa_step_41 : decode b_Wa_step 41 = .ok (.invokevirtual 51, 3) := by decide +kernel
theorem d_Wa_step_44 : decode b_Wa_step 44 = .ok (.aload_n 0, 1) := by decide +kernel
theorem d_Wa_step_45 : decode b_Wa_step 45 = .ok (.iload_n 1, 1) := by decide +kernel
theorem d_Wa_step_46 : decode b_Wa_step 46 = .ok (.iconst 1, 1) := by decide +kernel
theorem d_Wa_step_47 : decode b_Wa_step 47 = .ok (.iadd, 1) := by decide +kernel
theorem d_Wa_step_48 : decode b_Wa_step 48 = .ok (.invokevirtual 43, 3) := by decide +kernel
theorem d_Wa_step_51 : decode b_Wa_step 51 = .ok (.iconst 1, 1) := by decide +kernel
theorem d_Wa_step_52 : decode b_Wa_step 52 = .ok (.ireturn, 1) := by decide +kernel
theorem d_Wa_step_53 : decode b_Wa_step 53 = .ok (.iinc 1 (-1), 3) := by decide +kernel
theorem d_Wa_step_56 : decode b_Wa_step 56 = .ok (.goto (-46), 3) := by decide +kernel
theorem d_Wa_step_59 : decode b_Wa_step 59 = .ok (.iconst 0, 1) := by decide +kernel
theorem d_Wa_step_60 : decode b_Wa_step 60 = .ok (.ireturn, 1) := by decide +kernel
theorem d_Wa_enterFrom_0 : decode b_Wa_enterFrom 0 = .ok (.iload_n 1, 1) := by decide +kernel
theorem d_Wa_enterFrom_1 : decode b_Wa_enterFrom 1 = .ok (.istore_n 2, 1) := by decide +kernel
theorem d_Wa_enterFrom_2 : decode b_Wa_enterFrom 2 = .ok (.iload_n 2, 1) := by decide +kernel
theorem d_Wa_enterFrom_3 : decode b_Wa_enterFrom 3 = .ok (.aload_n 0, 1) := by decide +kernel
theorem d_Wa_enterFrom_4 : decode b_Wa_enterFrom 4 = .ok (.getfield 33, 3) := by decide +kernel
theorem d_Wa_enterFrom_7 : decode b_Wa_enterFrom 7 = .ok (.getfield 47, 3) := by decide +kernel
theorem d_Wa_enterFrom_10 : decode b_Wa_enterFrom 10 = .ok (.if_icmp .ge 26, 3) := by decide +kernel
theorem d_Wa_enterFrom_13 : decode b_Wa_enterFrom 13 = .ok (.aload_n 0, 1) := by decide +kernel
theorem d_Wa_enterFrom_14 : decode b_Wa_enterFrom 14 = .ok (.getfield 9, 3) := by decide +kernel
theorem d_Wa_enterFrom_17 : decode b_Wa_enterFrom 17 = .ok (.iload_n 2, 1) := by decide +kernel
theorem d_Wa_enterFrom_18 : decode b_Wa_enterFrom 18 = .ok (.iconst 0, 1) := by decide +kernel
theorem d_Wa_enterFrom_19 : decode b_Wa_enterFrom 19 = .ok (.iastore, 1) := by decide +kernel
theorem d_Wa_enterFrom_20 : decode b_Wa_enterFrom 20 = .ok (.aload_n 0, 1) := by decide +kernel
theorem d_Wa_enterFrom_21 : decode b_Wa_enterFrom 21 = .ok (.iload_n 2, 1) := by decide +kernel
theorem d_Wa_enterFrom_22 : decode b_Wa_enterFrom 22 = .ok (.invokevirtual 54, 3) := by decide +kernel
theorem d_Wa_enterFrom_25 : decode b_Wa_enterFrom 25 = .ok (.aload_n 0, 1) := by decide +kernel
theorem d_Wa_enterFrom_26 : decode b_Wa_enterFrom 26 = .ok (.iload_n 2, 1) := by decide +kernel
theorem d_Wa_enterFrom_27 : decode b_Wa_enterFrom 27 = .ok (.invokevirtual 51, 3) := by decide +kernel
theorem d_Wa_enterFrom_30 : decode b_Wa_enterFrom 30 = .ok (.iinc 2 1, 3) := by decide +kernel
theorem d_Wa_enterFrom_33 : decode b_Wa_enterFrom 33 = .ok (.goto (-31), 3) := by decide +kernel
theorem d_Wa_enterFrom_36 : decode b_Wa_enterFrom 36 = .ok (.return_, 1) := by decide +kernel
theorem d_Wa_weigh_0 : decode b_Wa_weigh 0 = .ok (.aload_n 0, 1) := by decide +kernel
theorem d_Wa_weigh_1 : decode b_Wa_weigh 1 = .ok (.getfield 27, 3) := by decide +kernel
theorem d_Wa_weigh_4 : decode b_Wa_weigh 4 = .ok (.iload_n 1, 1) := by decide +kernel
theorem d_Wa_weigh_5 : decode b_Wa_weigh 5 = .ok (.aaload, 1) := by decide +kernel
theorem d_Wa_weigh_6 : decode b_Wa_weigh 6 = .ok (.astore_n 2, 1) := by decide +kernel
theorem d_Wa_weigh_7 : decode b_Wa_weigh 7 = .ok (.aload_n 0, 1) := by decide +kernel
theorem d_Wa_weigh_8 : decode b_Wa_weigh 8 = .ok (.getfield 30, 3) := by decide +kernel
theorem d_Wa_weigh_11 : decode b_Wa_weigh 11 = .ok (.iload_n 1, 1) := by decide +kernel
theorem d_Wa_weigh_12 : decode b_Wa_weigh 12 = .ok (.aaload, 1) := by decide +kernel
theorem d_Wa_weigh_13 : decode b_Wa_weigh 13 = .ok (.astore_n 3, 1) := by decide +kernel
theorem d_Wa_weigh_14 : decode b_Wa_weigh 14 = .ok (.aload_n 2, 1) := by decide +kernel
theorem d_Wa_weigh_15 : decode b_Wa_weigh 15 = .ok (.lconst 0, 1) := by decide +kernel
theorem d_Wa_weigh_16 : decode b_Wa_weigh 16 = .ok (.invokestatic 57, 3) := by decide +kernel
theorem d_Wa_weigh_19 : decode b_Wa_weigh 19 = .ok (.aload_n 3, 1) := by decide +kernel
theorem d_Wa_weigh_20 : decode b_Wa_weigh 20 = .ok (.lconst 0, 1) := by decide +kernel
theorem d_Wa_weigh_21 : decode b_Wa_weigh 21 = .ok (.invokestatic 57, 3) := by decide +kernel
theorem d_Wa_weigh_24 : decode b_Wa_weigh 24 = .ok (.iconst 0, 1) := by decide +kernel
theorem d_Wa_weigh_25 : decode b_Wa_weigh 25 = .ok (.istore 4, 2) := by decide +kernel
theorem d_Wa_weigh_27 : decode b_Wa_weigh 27 = .ok (.iload 4, 2) := by decide +kernel
theorem d_Wa_weigh_29 : decode b_Wa_weigh 29 = .ok (.iload_n 1, 1) := by decide +kernel
theorem d_Wa_weigh_30 : decode b_Wa_weigh 30 = .ok (.if_icmp .ge 57, 3) := by decide +kernel
theorem d_Wa_weigh_33 : decode b_Wa_weigh 33 = .ok (.aload_n 2, 1) := by decide +kernel
theorem d_Wa_weigh_34 : decode b_Wa_weigh 34 = .ok (.aload_n 0, 1) := by decide +kernel
theorem d_Wa_weigh_35 : decode b_Wa_weigh 35 = .ok (.getfield 9, 3) := by decide +kernel
theorem d_Wa_weigh_38 : decode b_Wa_weigh 38 = .ok (.iload 4, 2) := by decide +kernel
theorem d_Wa_weigh_40 : decode b_Wa_weigh 40 = .ok (.iaload, 1) := by decide +kernel
theorem d_Wa_weigh_41 : decode b_Wa_weigh 41 = .ok (.dup2, 1) := by decide +kernel
theorem d_Wa_weigh_42 : decode b_Wa_weigh 42 = .ok (.laload, 1) := by decide +kernel
theorem d_Wa_weigh_43 : decode b_Wa_weigh 43 = .ok (.aload_n 0, 1) := by decide +kernel
theorem d_Wa_weigh_44 : decode b_Wa_weigh 44 = .ok (.getfield 33, 3) := by decide +kernel
theorem d_Wa_weigh_47 : decode b_Wa_weigh 47 = .ok (.getfield 63, 3) := by decide +kernel
theorem d_Wa_weigh_50 : decode b_Wa_weigh 50 = .ok (.iload_n 1, 1) := by decide +kernel
theorem d_Wa_weigh_51 : decode b_Wa_weigh 51 = .ok (.aaload, 1) := by decide +kernel
theorem d_Wa_weigh_52 : decode b_Wa_weigh 52 = .ok (.iload 4, 2) := by decide +kernel
theorem d_Wa_weigh_54 : decode b_Wa_weigh 54 = .ok (.laload, 1) := by decide +kernel
theorem d_Wa_weigh_55 : decode b_Wa_weigh 55 = .ok (.ladd, 1) := by decide +kernel
theorem d_Wa_weigh_56 : decode b_Wa_weigh 56 = .ok (.lastore, 1) := by decide +kernel
theorem d_Wa_weigh_57 : decode b_Wa_weigh 57 = .ok (.aload_n 3, 1) := by decide +kernel
theorem d_Wa_weigh_58 : decode b_Wa_weigh 58 = .ok (.aload_n 0, 1) := by decide +kernel
theorem d_Wa_weigh_59 : decode b_Wa_weigh 59 = .ok (.getfield 9, 3) := by decide +kernel
theorem d_Wa_weigh_62 : decode b_Wa_weigh 62 = .ok (.iload 4, 2) := by decide +kernel
theorem d_Wa_weigh_64 : decode b_Wa_weigh 64 = .ok (.iaload, 1) := by decide +kernel
theorem d_Wa_weigh_65 : decode b_Wa_weigh 65 = .ok (.dup2, 1) := by decide +kernel
theorem d_Wa_weigh_66 : decode b_Wa_weigh 66 = .ok (.laload, 1) := by decide +kernel
theorem d_Wa_weigh_67 : decode b_Wa_weigh 67 = .ok (.aload_n 0, 1) := by decide +kernel
theorem d_Wa_weigh_68 : decode b_Wa_weigh 68 = .ok (.getfield 33, 3) := by decide +kernel
theorem d_Wa_weigh_71 : decode b_Wa_weigh 71 = .ok (.getfield 66, 3) := by decide +kernel
theorem d_Wa_weigh_74 : decode b_Wa_weigh 74 = .ok (.iload_n 1, 1) := by decide +kernel
theorem d_Wa_weigh_75 : decode b_Wa_weigh 75 = .ok (.aaload, 1) := by decide +kernel
theorem d_Wa_weigh_76 : decode b_Wa_weigh 76 = .ok (.iload 4, 2) := by decide +kernel
theorem d_Wa_weigh_78 : decode b_Wa_weigh 78 = .ok (.laload, 1) := by decide +kernel
theorem d_Wa_weigh_79 : decode b_Wa_weigh 79 = .ok (.ladd, 1) := by decide +kernel
theorem d_Wa_weigh_80 : decode b_Wa_weigh 80 = .ok (.lastore, 1) := by decide +kernel
theorem d_Wa_weigh_81 : decode b_Wa_weigh 81 = .ok (.iinc 4 1, 3) := by decide +kernel
theorem d_Wa_weigh_84 : decode b_Wa_weigh 84 = .ok (.goto (-57), 3) := by decide +kernel
theorem d_Wa_weigh_87 : decode b_Wa_weigh 87 = .ok (.return_, 1) := by decide +kernel
theorem d_Wa_settle_0 : decode b_Wa_settle 0 = .ok (.aload_n 0, 1) := by decide +kernel
theorem d_Wa_settle_1 : decode b_Wa_settle 1 = .ok (.getfield 9, 3) := by decide +kernel
theorem d_Wa_settle_4 : decode b_Wa_settle 4 = .ok (.iload_n 1, 1) := by decide +kernel
theorem d_Wa_settle_5 : decode b_Wa_settle 5 = .ok (.iaload, 1) := by decide +kernel
theorem d_Wa_settle_6 : decode b_Wa_settle 6 = .ok (.istore_n 2, 1) := by decide +kernel
theorem d_Wa_settle_7 : decode b_Wa_settle 7 = .ok (.aload_n 0, 1) := by decide +kernel
theorem d_Wa_settle_8 : decode b_Wa_settle 8 = .ok (.getfield 18, 3) := by decide +kernel
theorem d_Wa_settle_11 : decode b_Wa_settle 11 = .ok (.iload_n 1, 1) := by decide +kernel
theorem d_Wa_settle_12 : decode b_Wa_settle 12 = .ok (.iconst 1, 1) := by decide +kernel
theorem d_Wa_settle_13 : decode b_Wa_settle 13 = .ok (.iadd, 1) := by decide +kernel
theorem d_Wa_settle_14 : decode b_Wa_settle 14 = .ok (.aload_n 0, 1) := by decide +kernel
theorem d_Wa_settle_15 : decode b_Wa_settle 15 = .ok (.getfield 18, 3) := by decide +kernel
theorem d_Wa_settle_18 : decode b_Wa_settle 18 = .ok (.iload_n 1, 1) := by decide +kernel
theorem d_Wa_settle_19 : decode b_Wa_settle 19 = .ok (.laload, 1) := by decide +kernel
theorem d_Wa_settle_20 : decode b_Wa_settle 20 = .ok (.aload_n 0, 1) := by decide +kernel
theorem d_Wa_settle_21 : decode b_Wa_settle 21 = .ok (.getfield 27, 3) := by decide +kernel
theorem d_Wa_settle_24 : decode b_Wa_settle 24 = .ok (.iload_n 1, 1) := by decide +kernel
theorem d_Wa_settle_25 : decode b_Wa_settle 25 = .ok (.aaload, 1) := by decide +kernel
theorem d_Wa_settle_26 : decode b_Wa_settle 26 = .ok (.iload_n 2, 1) := by decide +kernel
theorem d_Wa_settle_27 : decode b_Wa_settle 27 = .ok (.laload, 1) := by decide +kernel
theorem d_Wa_settle_28 : decode b_Wa_settle 28 = .ok (.ladd, 1) := by decide +kernel
theorem d_Wa_settle_29 : decode b_Wa_settle 29 = .ok (.lastore, 1) := by decide +kernel
theorem d_Wa_settle_30 : decode b_Wa_settle 30 = .ok (.aload_n 0, 1) := by decide +kernel
theorem d_Wa_settle_31 : decode b_Wa_settle 31 = .ok (.getfield 22, 3) := by decide +kernel
theorem d_Wa_settle_34 : decode b_Wa_settle 34 = .ok (.iload_n 1, 1) := by decide +kernel
theorem d_Wa_settle_35 : decode b_Wa_settle 35 = .ok (.iconst 1, 1) := by decide +kernel
theorem d_Wa_settle_36 : decode b_Wa_settle 36 = .ok (.iadd, 1) := by decide +kernel
theorem d_Wa_settle_37 : decode b_Wa_settle 37 = .ok (.aload_n 0, 1) := by decide +kernel
theorem d_Wa_settle_38 : decode b_Wa_settle 38 = .ok (.getfield 22, 3) := by decide +kernel
theorem d_Wa_settle_41 : decode b_Wa_settle 41 = .ok (.iload_n 1, 1) := by decide +kernel
theorem d_Wa_settle_42 : decode b_Wa_settle 42 = .ok (.laload, 1) := by decide +kernel
theorem d_Wa_settle_43 : decode b_Wa_settle 43 = .ok (.aload_n 0, 1) := by decide +kernel
theorem d_Wa_settle_44 : decode b_Wa_settle 44 = .ok (.getfield 30, 3) := by decide +kernel
theorem d_Wa_settle_47 : decode b_Wa_settle 47 = .ok (.iload_n 1, 1) := by decide +kernel
theorem d_Wa_settle_48 : decode b_Wa_settle 48 = .ok (.aaload, 1) := by decide +kernel
theorem d_Wa_settle_49 : decode b_Wa_settle 49 = .ok (.iload_n 2, 1) := by decide +kernel
theorem d_Wa_settle_50 : decode b_Wa_settle 50 = .ok (.laload, 1) := by decide +kernel
theorem d_Wa_settle_51 : decode b_Wa_settle 51 = .ok (.ladd, 1) := by decide +kernel
theorem d_Wa_settle_52 : decode b_Wa_settle 52 = .ok (.lastore, 1) := by decide +kernel
theorem d_Wa_settle_53 : decode b_Wa_settle 53 = .ok (.aload_n 0, 1) := by decide +kernel
theorem d_Wa_settle_54 : decode b_Wa_settle 54 = .ok (.getfield 15, 3) := by decide +kernel
theorem d_Wa_settle_57 : decode b_Wa_settle 57 = .ok (.iload_n 1, 1) := by decide +kernel
theorem d_Wa_settle_58 : decode b_Wa_settle 58 = .ok (.iconst 1, 1) := by decide +kernel
theorem d_Wa_settle_59 : decode b_Wa_settle 59 = .ok (.iadd, 1) := by decide +kernel
theorem d_Wa_settle_60 : decode b_Wa_settle 60 = .ok (.aload_n 0, 1) := by decide +kernel
theorem d_Wa_settle_61 : decode b_Wa_settle 61 = .ok (.getfield 15, 3) := by decide +kernel
theorem d_Wa_settle_64 : decode b_Wa_settle 64 = .ok (.iload_n 1, 1) := by decide +kernel
theorem d_Wa_settle_65 : decode b_Wa_settle 65 = .ok (.iaload, 1) := by decide +kernel
theorem d_Wa_settle_66 : decode b_Wa_settle 66 = .ok (.iload_n 2, 1) := by decide +kernel
theorem d_Wa_settle_67 : decode b_Wa_settle 67 = .ok (.iconst 1, 1) := by decide +kernel
theorem d_Wa_settle_68 : decode b_Wa_settle 68 = .ok (.iadd, 1) := by decide +kernel
theorem d_Wa_settle_69 : decode b_Wa_settle 69 = .ok (.invokestatic 69, 3) := by decide +kernel
theorem d_Wa_settle_72 : decode b_Wa_settle 72 = .ok (.iastore, 1) := by decide +kernel
theorem d_Wa_settle_73 : decode b_Wa_settle 73 = .ok (.return_, 1) := by decide +kernel
theorem d_Wa_a_0 : decode b_Wa_a 0 = .ok (.aload_n 0, 1) := by decide +kernel
theorem d_Wa_a_1 : decode b_Wa_a 1 = .ok (.getfield 18, 3) := by decide +kernel
theorem d_Wa_a_4 : decode b_Wa_a 4 = .ok (.aload_n 0, 1) := by decide +kernel
theorem d_Wa_a_5 : decode b_Wa_a 5 = .ok (.getfield 33, 3) := by decide +kernel
theorem d_Wa_a_8 : decode b_Wa_a 8 = .ok (.getfield 47, 3) := by decide +kernel
theorem d_Wa_a_11 : decode b_Wa_a 11 = .ok (.laload, 1) := by decide +kernel
theorem d_Wa_a_12 : decode b_Wa_a 12 = .ok (.lreturn, 1) := by decide +kernel
theorem d_Wa_b_0 : decode b_Wa_b 0 = .ok (.aload_n 0, 1) := by decide +kernel
theorem d_Wa_b_1 : decode b_Wa_b 1 = .ok (.getfield 22, 3) := by decide +kernel
theorem d_Wa_b_4 : decode b_Wa_b 4 = .ok (.aload_n 0, 1) := by decide +kernel
theorem d_Wa_b_5 : decode b_Wa_b 5 = .ok (.getfield 33, 3) := by decide +kernel
theorem d_Wa_b_8 : decode b_Wa_b 8 = .ok (.getfield 47, 3) := by decide +kernel
theorem d_Wa_b_11 : decode b_Wa_b 11 = .ok (.laload, 1) := by decide +kernel
theorem d_Wa_b_12 : decode b_Wa_b 12 = .ok (.lreturn, 1) := by decide +kernel
theorem d_Wa_code_0 : decode b_Wa_code 0 = .ok (.lconst 0, 1) := by decide +kernel
theorem d_Wa_code_1 : decode b_Wa_code 1 = .ok (.lstore_n 1, 1) := by decide +kernel
theorem d_Wa_code_2 : decode b_Wa_code 2 = .ok (.iconst 0, 1) := by decide +kernel
theorem d_Wa_code_3 : decode b_Wa_code 3 = .ok (.istore_n 3, 1) := by decide +kernel
theorem d_Wa_code_4 : decode b_Wa_code 4 = .ok (.iload_n 3, 1) := by decide +kernel
theorem d_Wa_code_5 : decode b_Wa_code 5 = .ok (.aload_n 0, 1) := by decide +kernel
theorem d_Wa_code_6 : decode b_Wa_code 6 = .ok (.getfield 33, 3) := by decide +kernel
theorem d_Wa_code_9 : decode b_Wa_code 9 = .ok (.getfield 47, 3) := by decide +kernel
theorem d_Wa_code_12 : decode b_Wa_code 12 = .ok (.if_icmp .ge 23, 3) := by decide +kernel
theorem d_Wa_code_15 : decode b_Wa_code 15 = .ok (.lload_n 1, 1) := by decide +kernel
theorem d_Wa_code_16 : decode b_Wa_code 16 = .ok (.aload_n 0, 1) := by decide +kernel
theorem d_Wa_code_17 : decode b_Wa_code 17 = .ok (.getfield 9, 3) := by decide +kernel
theorem d_Wa_code_20 : decode b_Wa_code 20 = .ok (.iload_n 3, 1) := by decide +kernel
theorem d_Wa_code_21 : decode b_Wa_code 21 = .ok (.iaload, 1) := by decide +kernel
theorem d_Wa_code_22 : decode b_Wa_code 22 = .ok (.i2l, 1) := by decide +kernel
theorem d_Wa_code_23 : decode b_Wa_code 23 = .ok (.iconst 4, 1) := by decide +kernel
theorem d_Wa_code_24 : decode b_Wa_code 24 = .ok (.iload_n 3, 1) := by decide +kernel
theorem d_Wa_code_25 : decode b_Wa_code 25 = .ok (.imul, 1) := by decide +kernel
theorem d_Wa_code_26 : decode b_Wa_code 26 = .ok (.lshl, 1) := by decide +kernel
theorem d_Wa_code_27 : decode b_Wa_code 27 = .ok (.lor, 1) := by decide +kernel
theorem d_Wa_code_28 : decode b_Wa_code 28 = .ok (.lstore_n 1, 1) := by decide +kernel
theorem d_Wa_code_29 : decode b_Wa_code 29 = .ok (.iinc 3 1, 3) := by decide +kernel
theorem d_Wa_code_32 : decode b_Wa_code 32 = .ok (.goto (-28), 3) := by decide +kernel
theorem d_Wa_code_35 : decode b_Wa_code 35 = .ok (.lload_n 1, 1) := by decide +kernel
theorem d_Wa_code_36 : decode b_Wa_code 36 = .ok (.lreturn, 1) := by decide +kernel
theorem d_Wa_groupIn_0 : decode b_Wa_groupIn 0 = .ok (.lload_n 0, 1) := by decide +kernel
theorem d_Wa_groupIn_1 : decode b_Wa_groupIn 1 = .ok (.iconst 4, 1) := by decide +kernel
theorem d_Wa_groupIn_2 : decode b_Wa_groupIn 2 = .ok (.iload_n 2, 1) := by decide +kernel
theorem d_Wa_groupIn_3 : decode b_Wa_groupIn 3 = .ok (.imul, 1) := by decide +kernel
theorem d_Wa_groupIn_4 : decode b_Wa_groupIn 4 = .ok (.lushr, 1) := by decide +kernel
theorem d_Wa_groupIn_5 : decode b_Wa_groupIn 5 = .ok (.l2i, 1) := by decide +kernel
theorem d_Wa_groupIn_6 : decode b_Wa_groupIn 6 = .ok (.bipush 15, 2) := by decide +kernel
theorem d_Wa_groupIn_8 : decode b_Wa_groupIn 8 = .ok (.iand, 1) := by decide +kernel
theorem d_Wa_groupIn_9 : decode b_Wa_groupIn 9 = .ok (.ireturn, 1) := by decide +kernel
theorem d_La_law_0 : decode code 0 = .ok (.new 7, 3) := by decide +kernel
theorem d_La_law_3 : decode code 3 = .ok (.dup, 1) := by decide +kernel
theorem d_La_law_4 : decode code 4 = .ok (.invokespecial 9, 3) := by decide +kernel
theorem d_La_law_7 : decode code 7 = .ok (.astore_n 1, 1) := by decide +kernel
theorem d_La_law_8 : decode code 8 = .ok (.new 10, 3) := by decide +kernel
theorem d_La_law_11 : decode code 11 = .ok (.dup, 1) := by decide +kernel
theorem d_La_law_12 : decode code 12 = .ok (.invokespecial 12, 3) := by decide +kernel
theorem d_La_law_15 : decode code 15 = .ok (.astore_n 2, 1) := by decide +kernel
theorem d_La_law_16 : decode code 16 = .ok (.iconst 0, 1) := by decide +kernel
theorem d_La_law_17 : decode code 17 = .ok (.istore_n 3, 1) := by decide +kernel
theorem d_La_law_18 : decode code 18 = .ok (.iload_n 3, 1) := by decide +kernel
theorem d_La_law_19 : decode code 19 = .ok (.aload_n 0, 1) := by decide +kernel
theorem d_La_law_20 : decode code 20 = .ok (.arraylength, 1) := by decide +kernel
theorem d_La_law_21 : decode code 21 = .ok (.iconst 4, 1) := by decide +kernel
theorem d_La_law_22 : decode code 22 = .ok (.isub, 1) := by decide +kernel
theorem d_La_law_23 : decode code 23 = .ok (.if_icmp .gt 647, 3) := by decide +kernel
theorem d_La_law_26 : decode code 26 = .ok (.aload_n 0, 1) := by decide +kernel
theorem d_La_law_27 : decode code 27 = .ok (.iload_n 3, 1) := by decide +kernel
theorem d_La_law_28 : decode code 28 = .ok (.iaload, 1) := by decide +kernel
theorem d_La_law_29 : decode code 29 = .ok (.bipush 31, 2) := by decide +kernel
theorem d_La_law_31 : decode code 31 = .ok (.iand, 1) := by decide +kernel
theorem d_La_law_32 : decode code 32 = .ok (.tableswitch 632 0 22 #[108, 131, 164, 177, 220, 243, 256, 289, 312, 326, 350, 384, 418, 431, 444, 457, 470, 493, 506, 529, 562, 575, 609], 108) := by decide +kernel
theorem d_La_law_140 : decode code 140 = .ok (.aload_n 1, 1) := by decide +kernel
theorem d_La_law_141 : decode code 141 = .ok (.aload_n 0, 1) := by decide +kernel
theorem d_La_law_142 : decode code 142 = .ok (.iload_n 3, 1) := by decide +kernel
theorem d_La_law_143 : decode code 143 = .ok (.iconst 1, 1) := by decide +kernel
theorem d_La_law_144 : decode code 144 = .ok (.iadd, 1) := by decide +kernel
theorem d_La_law_145 : decode code 145 = .ok (.iaload, 1) := by decide +kernel
theorem d_La_law_146 : decode code 146 = .ok (.invokevirtual 13, 3) := by decide +kernel
theorem d_La_law_149 : decode code 149 = .ok (.aload_n 2, 1) := by decide +kernel
theorem d_La_law_150 : decode code 150 = .ok (.aload_n 0, 1) := by decide +kernel
theorem d_La_law_151 : decode code 151 = .ok (.iload_n 3, 1) := by decide +kernel
theorem d_La_law_152 : decode code 152 = .ok (.iconst 1, 1) := by decide +kernel
theorem d_La_law_153 : decode code 153 = .ok (.iadd, 1) := by decide +kernel
theorem d_La_law_154 : decode code 154 = .ok (.iaload, 1) := by decide +kernel
theorem d_La_law_155 : decode code 155 = .ok (.invokevirtual 17, 3) := by decide +kernel
theorem d_La_law_158 : decode code 158 = .ok (.if_icmp .eq 506, 3) := by decide +kernel
theorem d_La_law_161 : decode code 161 = .ok (.iconst 0, 1) := by decide +kernel
theorem d_La_law_162 : decode code 162 = .ok (.ireturn, 1) := by decide +kernel
theorem d_La_law_163 : decode code 163 = .ok (.aload_n 1, 1) := by decide +kernel
theorem d_La_law_164 : decode code 164 = .ok (.aload_n 0, 1) := by decide +kernel
theorem d_La_law_165 : decode code 165 = .ok (.iload_n 3, 1) := by decide +kernel
theorem d_La_law_166 : decode code 166 = .ok (.iconst 1, 1) := by decide +kernel
theorem d_La_law_167 : decode code 167 = .ok (.iadd, 1) := by decide +kernel
theorem d_La_law_168 : decode code 168 = .ok (.iaload, 1) := by decide +kernel
theorem d_La_law_169 : decode code 169 = .ok (.aload_n 0, 1) := by decide +kernel
theorem d_La_law_170 : decode code 170 = .ok (.iload_n 3, 1) := by decide +kernel
theorem d_La_law_171 : decode code 171 = .ok (.iconst 2, 1) := by decide +kernel
theorem d_La_law_172 : decode code 172 = .ok (.iadd, 1) := by decide +kernel
theorem d_La_law_173 : decode code 173 = .ok (.iaload, 1) := by decide +kernel
theorem d_La_law_174 : decode code 174 = .ok (.invokevirtual 18, 3) := by decide +kernel
theorem d_La_law_177 : decode code 177 = .ok (.aload_n 2, 1) := by decide +kernel
theorem d_La_law_178 : decode code 178 = .ok (.aload_n 0, 1) := by decide +kernel
theorem d_La_law_179 : decode code 179 = .ok (.iload_n 3, 1) := by decide +kernel
theorem d_La_law_180 : decode code 180 = .ok (.iconst 1, 1) := by decide +kernel
theorem d_La_law_181 : decode code 181 = .ok (.iadd, 1) := by decide +kernel
theorem d_La_law_182 : decode code 182 = .ok (.iaload, 1) := by decide +kernel
theorem d_La_law_183 : decode code 183 = .ok (.aload_n 0, 1) := by decide +kernel
theorem d_La_law_184 : decode code 184 = .ok (.iload_n 3, 1) := by decide +kernel
theorem d_La_law_185 : decode code 185 = .ok (.iconst 2, 1) := by decide +kernel
theorem d_La_law_186 : decode code 186 = .ok (.iadd, 1) := by decide +kernel
theorem d_La_law_187 : decode code 187 = .ok (.iaload, 1) := by decide +kernel
theorem d_La_law_188 : decode code 188 = .ok (.invokevirtual 22, 3) := by decide +kernel
theorem d_La_law_191 : decode code 191 = .ok (.if_icmp .eq 473, 3) := by decide +kernel
theorem d_La_law_194 : decode code 194 = .ok (.iconst 0, 1) := by decide +kernel
theorem d_La_law_195 : decode code 195 = .ok (.ireturn, 1) := by decide +kernel
theorem d_La_law_196 : decode code 196 = .ok (.aload_n 1, 1) := by decide +kernel
theorem d_La_law_197 : decode code 197 = .ok (.invokevirtual 23, 3) := by decide +kernel
theorem d_La_law_200 : decode code 200 = .ok (.aload_n 2, 1) := by decide +kernel
theorem d_La_law_201 : decode code 201 = .ok (.invokevirtual 27, 3) := by decide +kernel
theorem d_La_law_204 : decode code 204 = .ok (.if_icmp .eq 460, 3) := by decide +kernel
theorem d_La_law_207 : decode code 207 = .ok (.iconst 0, 1) := by decide +kernel
theorem d_La_law_208 : decode code 208 = .ok (.ireturn, 1) := by decide +kernel
theorem d_La_law_209 : decode code 209 = .ok (.aload_n 1, 1) := by decide +kernel
theorem d_La_law_210 : decode code 210 = .ok (.aload_n 0, 1) := by decide +kernel
theorem d_La_law_211 : decode code 211 = .ok (.iload_n 3, 1) := by decide +kernel
theorem d_La_law_212 : decode code 212 = .ok (.iconst 1, 1) := by decide +kernel
theorem d_La_law_213 : decode code 213 = .ok (.iadd, 1) := by decide +kernel
theorem d_La_law_214 : decode code 214 = .ok (.iaload, 1) := by decide +kernel
theorem d_La_law_215 : decode code 215 = .ok (.aload_n 0, 1) := by decide +kernel
theorem d_La_law_216 : decode code 216 = .ok (.iload_n 3, 1) := by decide +kernel
theorem d_La_law_217 : decode code 217 = .ok (.iconst 2, 1) := by decide +kernel
theorem d_La_law_218 : decode code 218 = .ok (.iadd, 1) := by decide +kernel
theorem d_La_law_219 : decode code 219 = .ok (.iaload, 1) := by decide +kernel
theorem d_La_law_220 : decode code 220 = .ok (.aload_n 0, 1) := by decide +kernel
theorem d_La_law_221 : decode code 221 = .ok (.iload_n 3, 1) := by decide +kernel
theorem d_La_law_222 : decode code 222 = .ok (.iconst 3, 1) := by decide +kernel
theorem d_La_law_223 : decode code 223 = .ok (.iadd, 1) := by decide +kernel
theorem d_La_law_224 : decode code 224 = .ok (.iaload, 1) := by decide +kernel
theorem d_La_law_225 : decode code 225 = .ok (.invokevirtual 28, 3) := by decide +kernel
theorem d_La_law_228 : decode code 228 = .ok (.aload_n 2, 1) := by decide +kernel
theorem d_La_law_229 : decode code 229 = .ok (.aload_n 0, 1) := by decide +kernel
theorem d_La_law_230 : decode code 230 = .ok (.iload_n 3, 1) := by decide +kernel
theorem d_La_law_231 : decode code 231 = .ok (.iconst 1, 1) := by decide +kernel
theorem d_La_law_232 : decode code 232 = .ok (.iadd, 1) := by decide +kernel
theorem d_La_law_233 : decode code 233 = .ok (.iaload, 1) := by decide +kernel
theorem d_La_law_234 : decode code 234 = .ok (.aload_n 0, 1) := by decide +kernel
theorem d_La_law_235 : decode code 235 = .ok (.iload_n 3, 1) := by decide +kernel
theorem d_La_law_236 : decode code 236 = .ok (.iconst 2, 1) := by decide +kernel
theorem d_La_law_237 : decode code 237 = .ok (.iadd, 1) := by decide +kernel
theorem d_La_law_238 : decode code 238 = .ok (.iaload, 1) := by decide +kernel
theorem d_La_law_239 : decode code 239 = .ok (.aload_n 0, 1) := by decide +kernel
theorem d_La_law_240 : decode code 240 = .ok (.iload_n 3, 1) := by decide +kernel
theorem d_La_law_241 : decode code 241 = .ok (.iconst 3, 1) := by decide +kernel
theorem d_La_law_242 : decode code 242 = .ok (.iadd, 1) := by decide +kernel
theorem d_La_law_243 : decode code 243 = .ok (.iaload, 1) := by decide +kernel
theorem d_La_law_244 : decode code 244 = .ok (.invokevirtual 32, 3) := by decide +kernel
theorem d_La_law_247 : decode code 247 = .ok (.if_icmp .eq 417, 3) := by decide +kernel
theorem d_La_law_250 : decode code 250 = .ok (.iconst 0, 1) := by decide +kernel
theorem d_La_law_251 : decode code 251 = .ok (.ireturn, 1) := by decide +kernel
theorem d_La_law_252 : decode code 252 = .ok (.aload_n 1, 1) := by decide +kernel
theorem d_La_law_253 : decode code 253 = .ok (.aload_n 0, 1) := by decide +kernel
theorem d_La_law_254 : decode code 254 = .ok (.iload_n 3, 1) := by decide +kernel
theorem d_La_law_255 : decode code 255 = .ok (.iconst 1, 1) := by decide +kernel
theorem d_La_law_256 : decode code 256 = .ok (.iadd, 1) := by decide +kernel
theorem d_La_law_257 : decode code 257 = .ok (.iaload, 1) := by decide +kernel
theorem d_La_law_258 : decode code 258 = .ok (.invokevirtual 33, 3) := by decide +kernel
theorem d_La_law_261 : decode code 261 = .ok (.aload_n 2, 1) := by decide +kernel
theorem d_La_law_262 : decode code 262 = .ok (.aload_n 0, 1) := by decide +kernel
theorem d_La_law_263 : decode code 263 = .ok (.iload_n 3, 1) := by decide +kernel
theorem d_La_law_264 : decode code 264 = .ok (.iconst 1, 1) := by decide +kernel
theorem d_La_law_265 : decode code 265 = .ok (.iadd, 1) := by decide +kernel
theorem d_La_law_266 : decode code 266 = .ok (.iaload, 1) := by decide +kernel
theorem d_La_law_267 : decode code 267 = .ok (.invokevirtual 36, 3) := by decide +kernel
theorem d_La_law_270 : decode code 270 = .ok (.if_icmp .eq 394, 3) := by decide +kernel
theorem d_La_law_273 : decode code 273 = .ok (.iconst 0, 1) := by decide +kernel
theorem d_La_law_274 : decode code 274 = .ok (.ireturn, 1) := by decide +kernel
theorem d_La_law_275 : decode code 275 = .ok (.aload_n 1, 1) := by decide +kernel
theorem d_La_law_276 : decode code 276 = .ok (.invokevirtual 37, 3) := by decide +kernel
theorem d_La_law_279 : decode code 279 = .ok (.aload_n 2, 1) := by decide +kernel
theorem d_La_law_280 : decode code 280 = .ok (.invokevirtual 40, 3) := by decide +kernel
theorem d_La_law_283 : decode code 283 = .ok (.if_icmp .eq 381, 3) := by decide +kernel
theorem d_La_law_286 : decode code 286 = .ok (.iconst 0, 1) := by decide +kernel
theorem d_La_law_287 : decode code 287 = .ok (.ireturn, 1) := by decide +kernel
theorem d_La_law_288 : decode code 288 = .ok (.aload_n 1, 1) := by decide +kernel
theorem d_La_law_289 : decode code 289 = .ok (.aload_n 0, 1) := by decide +kernel
theorem d_La_law_290 : decode code 290 = .ok (.iload_n 3, 1) := by decide +kernel
theorem d_La_law_291 : decode code 291 = .ok (.iconst 1, 1) := by decide +kernel
theorem d_La_law_292 : decode code 292 = .ok (.iadd, 1) := by decide +kernel
theorem d_La_law_293 : decode code 293 = .ok (.iaload, 1) := by decide +kernel
theorem d_La_law_294 : decode code 294 = .ok (.aload_n 0, 1) := by decide +kernel
theorem d_La_law_295 : decode code 295 = .ok (.iload_n 3, 1) := by decide +kernel
theorem d_La_law_296 : decode code 296 = .ok (.iconst 2, 1) := by decide +kernel
theorem d_La_law_297 : decode code 297 = .ok (.iadd, 1) := by decide +kernel
theorem d_La_law_298 : decode code 298 = .ok (.iaload, 1) := by decide +kernel
theorem d_La_law_299 : decode code 299 = .ok (.invokevirtual 41, 3) := by decide +kernel
theorem d_La_law_302 : decode code 302 = .ok (.aload_n 2, 1) := by decide +kernel
theorem d_La_law_303 : decode code 303 = .ok (.aload_n 0, 1) := by decide +kernel
theorem d_La_law_304 : decode code 304 = .ok (.iload_n 3, 1) := by decide +kernel
theorem d_La_law_305 : decode code 305 = .ok (.iconst 1, 1) := by decide +kernel
theorem d_La_law_306 : decode code 306 = .ok (.iadd, 1) := by decide +kernel
theorem d_La_law_307 : decode code 307 = .ok (.iaload, 1) := by decide +kernel
theorem d_La_law_308 : decode code 308 = .ok (.aload_n 0, 1) := by decide +kernel
theorem d_La_law_309 : decode code 309 = .ok (.iload_n 3, 1) := by decide +kernel
theorem d_La_law_310 : decode code 310 = .ok (.iconst 2, 1) := by decide +kernel
theorem d_La_law_311 : decode code 311 = .ok (.iadd, 1) := by decide +kernel
theorem d_La_law_312 : decode code 312 = .ok (.iaload, 1) := by decide +kernel
theorem d_La_law_313 : decode code 313 = .ok (.invokevirtual 44, 3) := by decide +kernel
theorem d_La_law_316 : decode code 316 = .ok (.if_icmp .eq 348, 3) := by decide +kernel
theorem d_La_law_319 : decode code 319 = .ok (.iconst 0, 1) := by decide +kernel
theorem d_La_law_320 : decode code 320 = .ok (.ireturn, 1) := by decide +kernel
theorem d_La_law_321 : decode code 321 = .ok (.aload_n 1, 1) := by decide +kernel
theorem d_La_law_322 : decode code 322 = .ok (.aload_n 0, 1) := by decide +kernel
theorem d_La_law_323 : decode code 323 = .ok (.iload_n 3, 1) := by decide +kernel
theorem d_La_law_324 : decode code 324 = .ok (.iconst 1, 1) := by decide +kernel
theorem d_La_law_325 : decode code 325 = .ok (.iadd, 1) := by decide +kernel
theorem d_La_law_326 : decode code 326 = .ok (.iaload, 1) := by decide +kernel
theorem d_La_law_327 : decode code 327 = .ok (.invokevirtual 45, 3) := by decide +kernel
theorem d_La_law_330 : decode code 330 = .ok (.aload_n 2, 1) := by decide +kernel
theorem d_La_law_331 : decode code 331 = .ok (.aload_n 0, 1) := by decide +kernel
theorem d_La_law_332 : decode code 332 = .ok (.iload_n 3, 1) := by decide +kernel
theorem d_La_law_333 : decode code 333 = .ok (.iconst 1, 1) := by decide +kernel
theorem d_La_law_334 : decode code 334 = .ok (.iadd, 1) := by decide +kernel
theorem d_La_law_335 : decode code 335 = .ok (.iaload, 1) := by decide +kernel
theorem d_La_law_336 : decode code 336 = .ok (.invokevirtual 48, 3) := by decide +kernel
theorem d_La_law_339 : decode code 339 = .ok (.if_icmp .eq 325, 3) := by decide +kernel
theorem d_La_law_342 : decode code 342 = .ok (.iconst 0, 1) := by decide +kernel
theorem d_La_law_343 : decode code 343 = .ok (.ireturn, 1) := by decide +kernel
theorem d_La_law_344 : decode code 344 = .ok (.aload_n 1, 1) := by decide +kernel
theorem d_La_law_345 : decode code 345 = .ok (.invokevirtual 49, 3) := by decide +kernel
theorem d_La_law_348 : decode code 348 = .ok (.aload_n 2, 1) := by decide +kernel
theorem d_La_law_349 : decode code 349 = .ok (.invokevirtual 53, 3) := by decide +kernel
theorem d_La_law_352 : decode code 352 = .ok (.lcmp, 1) := by decide +kernel
theorem d_La_law_353 : decode code 353 = .ok (.ifCond .eq 311, 3) := by decide +kernel
theorem d_La_law_356 : decode code 356 = .ok (.iconst 0, 1) := by decide +kernel
theorem d_La_law_357 : decode code 357 = .ok (.ireturn, 1) := by decide +kernel
theorem d_La_law_358 : decode code 358 = .ok (.aload_n 1, 1) := by decide +kernel
theorem d_La_law_359 : decode code 359 = .ok (.aload_n 0, 1) := by decide +kernel
theorem d_La_law_360 : decode code 360 = .ok (.iload_n 3, 1) := by decide +kernel
theorem d_La_law_361 : decode code 361 = .ok (.iconst 1, 1) := by decide +kernel
theorem d_La_law_362 : decode code 362 = .ok (.iadd, 1) := by decide +kernel
theorem d_La_law_363 : decode code 363 = .ok (.iaload, 1) := by decide +kernel
theorem d_La_law_364 : decode code 364 = .ok (.invokevirtual 54, 3) := by decide +kernel
theorem d_La_law_367 : decode code 367 = .ok (.aload_n 2, 1) := by decide +kernel
theorem d_La_law_368 : decode code 368 = .ok (.aload_n 0, 1) := by decide +kernel
theorem d_La_law_369 : decode code 369 = .ok (.iload_n 3, 1) := by decide +kernel
theorem d_La_law_370 : decode code 370 = .ok (.iconst 1, 1) := by decide +kernel
theorem d_La_law_371 : decode code 371 = .ok (.iadd, 1) := by decide +kernel
theorem d_La_law_372 : decode code 372 = .ok (.iaload, 1) := by decide +kernel
theorem d_La_law_373 : decode code 373 = .ok (.invokevirtual 58, 3) := by decide +kernel
theorem d_La_law_376 : decode code 376 = .ok (.lcmp, 1) := by decide +kernel
theorem d_La_law_377 : decode code 377 = .ok (.ifCond .eq 287, 3) := by decide +kernel
theorem d_La_law_380 : decode code 380 = .ok (.iconst 0, 1) := by decide +kernel
theorem d_La_law_381 : decode code 381 = .ok (.ireturn, 1) := by decide +kernel
theorem d_La_law_382 : decode code 382 = .ok (.aload_n 1, 1) := by decide +kernel
theorem d_La_law_383 : decode code 383 = .ok (.aload_n 0, 1) := by decide +kernel
theorem d_La_law_384 : decode code 384 = .ok (.iload_n 3, 1) := by decide +kernel
theorem d_La_law_385 : decode code 385 = .ok (.iconst 1, 1) := by decide +kernel
theorem d_La_law_386 : decode code 386 = .ok (.iadd, 1) := by decide +kernel
theorem d_La_law_387 : decode code 387 = .ok (.iaload, 1) := by decide +kernel
theorem d_La_law_388 : decode code 388 = .ok (.aload_n 0, 1) := by decide +kernel
theorem d_La_law_389 : decode code 389 = .ok (.iload_n 3, 1) := by decide +kernel
theorem d_La_law_390 : decode code 390 = .ok (.iconst 2, 1) := by decide +kernel
theorem d_La_law_391 : decode code 391 = .ok (.iadd, 1) := by decide +kernel
theorem d_La_law_392 : decode code 392 = .ok (.iaload, 1) := by decide +kernel
theorem d_La_law_393 : decode code 393 = .ok (.invokevirtual 59, 3) := by decide +kernel
theorem d_La_law_396 : decode code 396 = .ok (.aload_n 2, 1) := by decide +kernel
theorem d_La_law_397 : decode code 397 = .ok (.aload_n 0, 1) := by decide +kernel
theorem d_La_law_398 : decode code 398 = .ok (.iload_n 3, 1) := by decide +kernel
theorem d_La_law_399 : decode code 399 = .ok (.iconst 1, 1) := by decide +kernel
theorem d_La_law_400 : decode code 400 = .ok (.iadd, 1) := by decide +kernel
theorem d_La_law_401 : decode code 401 = .ok (.iaload, 1) := by decide +kernel
theorem d_La_law_402 : decode code 402 = .ok (.aload_n 0, 1) := by decide +kernel
theorem d_La_law_403 : decode code 403 = .ok (.iload_n 3, 1) := by decide +kernel
theorem d_La_law_404 : decode code 404 = .ok (.iconst 2, 1) := by decide +kernel
theorem d_La_law_405 : decode code 405 = .ok (.iadd, 1) := by decide +kernel
theorem d_La_law_406 : decode code 406 = .ok (.iaload, 1) := by decide +kernel
theorem d_La_law_407 : decode code 407 = .ok (.invokevirtual 63, 3) := by decide +kernel
theorem d_La_law_410 : decode code 410 = .ok (.lcmp, 1) := by decide +kernel
theorem d_La_law_411 : decode code 411 = .ok (.ifCond .eq 253, 3) := by decide +kernel
theorem d_La_law_414 : decode code 414 = .ok (.iconst 0, 1) := by decide +kernel
theorem d_La_law_415 : decode code 415 = .ok (.ireturn, 1) := by decide +kernel
theorem d_La_law_416 : decode code 416 = .ok (.aload_n 1, 1) := by decide +kernel
theorem d_La_law_417 : decode code 417 = .ok (.aload_n 0, 1) := by decide +kernel
theorem d_La_law_418 : decode code 418 = .ok (.iload_n 3, 1) := by decide +kernel
theorem d_La_law_419 : decode code 419 = .ok (.iconst 1, 1) := by decide +kernel
theorem d_La_law_420 : decode code 420 = .ok (.iadd, 1) := by decide +kernel
theorem d_La_law_421 : decode code 421 = .ok (.iaload, 1) := by decide +kernel
theorem d_La_law_422 : decode code 422 = .ok (.aload_n 0, 1) := by decide +kernel
theorem d_La_law_423 : decode code 423 = .ok (.iload_n 3, 1) := by decide +kernel
theorem d_La_law_424 : decode code 424 = .ok (.iconst 2, 1) := by decide +kernel
theorem d_La_law_425 : decode code 425 = .ok (.iadd, 1) := by decide +kernel
theorem d_La_law_426 : decode code 426 = .ok (.iaload, 1) := by decide +kernel
theorem d_La_law_427 : decode code 427 = .ok (.invokevirtual 64, 3) := by decide +kernel
theorem d_La_law_430 : decode code 430 = .ok (.aload_n 2, 1) := by decide +kernel
theorem d_La_law_431 : decode code 431 = .ok (.aload_n 0, 1) := by decide +kernel
theorem d_La_law_432 : decode code 432 = .ok (.iload_n 3, 1) := by decide +kernel
theorem d_La_law_433 : decode code 433 = .ok (.iconst 1, 1) := by decide +kernel
theorem d_La_law_434 : decode code 434 = .ok (.iadd, 1) := by decide +kernel
theorem d_La_law_435 : decode code 435 = .ok (.iaload, 1) := by decide +kernel
theorem d_La_law_436 : decode code 436 = .ok (.aload_n 0, 1) := by decide +kernel
theorem d_La_law_437 : decode code 437 = .ok (.iload_n 3, 1) := by decide +kernel
theorem d_La_law_438 : decode code 438 = .ok (.iconst 2, 1) := by decide +kernel
theorem d_La_law_439 : decode code 439 = .ok (.iadd, 1) := by decide +kernel
theorem d_La_law_440 : decode code 440 = .ok (.iaload, 1) := by decide +kernel
theorem d_La_law_441 : decode code 441 = .ok (.invokevirtual 67, 3) := by decide +kernel
theorem d_La_law_444 : decode code 444 = .ok (.lcmp, 1) := by decide +kernel
theorem d_La_law_445 : decode code 445 = .ok (.ifCond .eq 219, 3) := by decide +kernel
theorem d_La_law_448 : decode code 448 = .ok (.iconst 0, 1) := by decide +kernel
theorem d_La_law_449 : decode code 449 = .ok (.ireturn, 1) := by decide +kernel
theorem d_La_law_450 : decode code 450 = .ok (.aload_n 1, 1) := by decide +kernel
theorem d_La_law_451 : decode code 451 = .ok (.invokevirtual 68, 3) := by decide +kernel
theorem d_La_law_454 : decode code 454 = .ok (.aload_n 2, 1) := by decide +kernel
theorem d_La_law_455 : decode code 455 = .ok (.invokevirtual 71, 3) := by decide +kernel
theorem d_La_law_458 : decode code 458 = .ok (.if_icmp .eq 206, 3) := by decide +kernel
theorem d_La_law_461 : decode code 461 = .ok (.iconst 0, 1) := by decide +kernel
theorem d_La_law_462 : decode code 462 = .ok (.ireturn, 1) := by decide +kernel
theorem d_La_law_463 : decode code 463 = .ok (.aload_n 1, 1) := by decide +kernel
theorem d_La_law_464 : decode code 464 = .ok (.invokevirtual 72, 3) := by decide +kernel
theorem d_La_law_467 : decode code 467 = .ok (.aload_n 2, 1) := by decide +kernel
theorem d_La_law_468 : decode code 468 = .ok (.invokevirtual 75, 3) := by decide +kernel
theorem d_La_law_471 : decode code 471 = .ok (.if_icmp .eq 193, 3) := by decide +kernel
theorem d_La_law_474 : decode code 474 = .ok (.iconst 0, 1) := by decide +kernel
theorem d_La_law_475 : decode code 475 = .ok (.ireturn, 1) := by decide +kernel
theorem d_La_law_476 : decode code 476 = .ok (.aload_n 1, 1) := by decide +kernel
theorem d_La_law_477 : decode code 477 = .ok (.invokevirtual 76, 3) := by decide +kernel
theorem d_La_law_480 : decode code 480 = .ok (.aload_n 2, 1) := by decide +kernel
theorem d_La_law_481 : decode code 481 = .ok (.invokevirtual 79, 3) := by decide +kernel
theorem d_La_law_484 : decode code 484 = .ok (.if_icmp .eq 180, 3) := by decide +kernel
theorem d_La_law_487 : decode code 487 = .ok (.iconst 0, 1) := by decide +kernel
theorem d_La_law_488 : decode code 488 = .ok (.ireturn, 1) := by decide +kernel
theorem d_La_law_489 : decode code 489 = .ok (.aload_n 1, 1) := by decide +kernel
theorem d_La_law_490 : decode code 490 = .ok (.invokevirtual 80, 3) := by decide +kernel
theorem d_La_law_493 : decode code 493 = .ok (.aload_n 2, 1) := by decide +kernel
theorem d_La_law_494 : decode code 494 = .ok (.invokevirtual 83, 3) := by decide +kernel
theorem d_La_law_497 : decode code 497 = .ok (.if_icmp .eq 167, 3) := by decide +kernel
theorem d_La_law_500 : decode code 500 = .ok (.iconst 0, 1) := by decide +kernel
theorem d_La_law_501 : decode code 501 = .ok (.ireturn, 1) := by decide +kernel
theorem d_La_law_502 : decode code 502 = .ok (.aload_n 1, 1) := by decide +kernel
theorem d_La_law_503 : decode code 503 = .ok (.aload_n 0, 1) := by decide +kernel
theorem d_La_law_504 : decode code 504 = .ok (.iload_n 3, 1) := by decide +kernel
theorem d_La_law_505 : decode code 505 = .ok (.iconst 1, 1) := by decide +kernel
theorem d_La_law_506 : decode code 506 = .ok (.iadd, 1) := by decide +kernel
theorem d_La_law_507 : decode code 507 = .ok (.iaload, 1) := by decide +kernel
theorem d_La_law_508 : decode code 508 = .ok (.invokevirtual 84, 3) := by decide +kernel
theorem d_La_law_511 : decode code 511 = .ok (.aload_n 2, 1) := by decide +kernel
theorem d_La_law_512 : decode code 512 = .ok (.aload_n 0, 1) := by decide +kernel
theorem d_La_law_513 : decode code 513 = .ok (.iload_n 3, 1) := by decide +kernel
theorem d_La_law_514 : decode code 514 = .ok (.iconst 1, 1) := by decide +kernel
theorem d_La_law_515 : decode code 515 = .ok (.iadd, 1) := by decide +kernel
theorem d_La_law_516 : decode code 516 = .ok (.iaload, 1) := by decide +kernel
theorem d_La_law_517 : decode code 517 = .ok (.invokevirtual 87, 3) := by decide +kernel
theorem d_La_law_520 : decode code 520 = .ok (.if_icmp .eq 144, 3) := by decide +kernel
theorem d_La_law_523 : decode code 523 = .ok (.iconst 0, 1) := by decide +kernel
theorem d_La_law_524 : decode code 524 = .ok (.ireturn, 1) := by decide +kernel
theorem d_La_law_525 : decode code 525 = .ok (.aload_n 1, 1) := by decide +kernel
theorem d_La_law_526 : decode code 526 = .ok (.invokevirtual 88, 3) := by decide +kernel
theorem d_La_law_529 : decode code 529 = .ok (.aload_n 2, 1) := by decide +kernel
theorem d_La_law_530 : decode code 530 = .ok (.invokevirtual 91, 3) := by decide +kernel
theorem d_La_law_533 : decode code 533 = .ok (.if_icmp .eq 131, 3) := by decide +kernel
theorem d_La_law_536 : decode code 536 = .ok (.iconst 0, 1) := by decide +kernel
theorem d_La_law_537 : decode code 537 = .ok (.ireturn, 1) := by decide +kernel
theorem d_La_law_538 : decode code 538 = .ok (.aload_n 1, 1) := by decide +kernel
theorem d_La_law_539 : decode code 539 = .ok (.aload_n 0, 1) := by decide +kernel
theorem d_La_law_540 : decode code 540 = .ok (.iload_n 3, 1) := by decide +kernel
theorem d_La_law_541 : decode code 541 = .ok (.iconst 1, 1) := by decide +kernel
theorem d_La_law_542 : decode code 542 = .ok (.iadd, 1) := by decide +kernel
theorem d_La_law_543 : decode code 543 = .ok (.iaload, 1) := by decide +kernel
theorem d_La_law_544 : decode code 544 = .ok (.invokevirtual 92, 3) := by decide +kernel
theorem d_La_law_547 : decode code 547 = .ok (.aload_n 2, 1) := by decide +kernel
theorem d_La_law_548 : decode code 548 = .ok (.aload_n 0, 1) := by decide +kernel
theorem d_La_law_549 : decode code 549 = .ok (.iload_n 3, 1) := by decide +kernel
theorem d_La_law_550 : decode code 550 = .ok (.iconst 1, 1) := by decide +kernel
theorem d_La_law_551 : decode code 551 = .ok (.iadd, 1) := by decide +kernel
theorem d_La_law_552 : decode code 552 = .ok (.iaload, 1) := by decide +kernel
theorem d_La_law_553 : decode code 553 = .ok (.invokevirtual 95, 3) := by decide +kernel
theorem d_La_law_556 : decode code 556 = .ok (.if_icmp .eq 108, 3) := by decide +kernel
theorem d_La_law_559 : decode code 559 = .ok (.iconst 0, 1) := by decide +kernel
theorem d_La_law_560 : decode code 560 = .ok (.ireturn, 1) := by decide +kernel
theorem d_La_law_561 : decode code 561 = .ok (.aload_n 1, 1) := by decide +kernel
theorem d_La_law_562 : decode code 562 = .ok (.aload_n 0, 1) := by decide +kernel
theorem d_La_law_563 : decode code 563 = .ok (.iload_n 3, 1) := by decide +kernel
theorem d_La_law_564 : decode code 564 = .ok (.iconst 1, 1) := by decide +kernel
theorem d_La_law_565 : decode code 565 = .ok (.iadd, 1) := by decide +kernel
theorem d_La_law_566 : decode code 566 = .ok (.iaload, 1) := by decide +kernel
theorem d_La_law_567 : decode code 567 = .ok (.aload_n 0, 1) := by decide +kernel
theorem d_La_law_568 : decode code 568 = .ok (.iload_n 3, 1) := by decide +kernel
theorem d_La_law_569 : decode code 569 = .ok (.iconst 2, 1) := by decide +kernel
theorem d_La_law_570 : decode code 570 = .ok (.iadd, 1) := by decide +kernel
theorem d_La_law_571 : decode code 571 = .ok (.iaload, 1) := by decide +kernel
theorem d_La_law_572 : decode code 572 = .ok (.invokevirtual 96, 3) := by decide +kernel
theorem d_La_law_575 : decode code 575 = .ok (.aload_n 2, 1) := by decide +kernel
theorem d_La_law_576 : decode code 576 = .ok (.aload_n 0, 1) := by decide +kernel
theorem d_La_law_577 : decode code 577 = .ok (.iload_n 3, 1) := by decide +kernel
theorem d_La_law_578 : decode code 578 = .ok (.iconst 1, 1) := by decide +kernel
theorem d_La_law_579 : decode code 579 = .ok (.iadd, 1) := by decide +kernel
theorem d_La_law_580 : decode code 580 = .ok (.iaload, 1) := by decide +kernel
theorem d_La_law_581 : decode code 581 = .ok (.aload_n 0, 1) := by decide +kernel
theorem d_La_law_582 : decode code 582 = .ok (.iload_n 3, 1) := by decide +kernel
theorem d_La_law_583 : decode code 583 = .ok (.iconst 2, 1) := by decide +kernel
theorem d_La_law_584 : decode code 584 = .ok (.iadd, 1) := by decide +kernel
theorem d_La_law_585 : decode code 585 = .ok (.iaload, 1) := by decide +kernel
theorem d_La_law_586 : decode code 586 = .ok (.invokevirtual 99, 3) := by decide +kernel
theorem d_La_law_589 : decode code 589 = .ok (.if_icmp .eq 75, 3) := by decide +kernel
theorem d_La_law_592 : decode code 592 = .ok (.iconst 0, 1) := by decide +kernel
theorem d_La_law_593 : decode code 593 = .ok (.ireturn, 1) := by decide +kernel
theorem d_La_law_594 : decode code 594 = .ok (.aload_n 1, 1) := by decide +kernel
theorem d_La_law_595 : decode code 595 = .ok (.invokevirtual 100, 3) := by decide +kernel
theorem d_La_law_598 : decode code 598 = .ok (.aload_n 2, 1) := by decide +kernel
theorem d_La_law_599 : decode code 599 = .ok (.invokevirtual 103, 3) := by decide +kernel
theorem d_La_law_602 : decode code 602 = .ok (.if_icmp .eq 62, 3) := by decide +kernel
theorem d_La_law_605 : decode code 605 = .ok (.iconst 0, 1) := by decide +kernel
theorem d_La_law_606 : decode code 606 = .ok (.ireturn, 1) := by decide +kernel
theorem d_La_law_607 : decode code 607 = .ok (.aload_n 1, 1) := by decide +kernel
theorem d_La_law_608 : decode code 608 = .ok (.aload_n 0, 1) := by decide +kernel
theorem d_La_law_609 : decode code 609 = .ok (.iload_n 3, 1) := by decide +kernel
theorem d_La_law_610 : decode code 610 = .ok (.iconst 1, 1) := by decide +kernel
theorem d_La_law_611 : decode code 611 = .ok (.iadd, 1) := by decide +kernel
theorem d_La_law_612 : decode code 612 = .ok (.iaload, 1) := by decide +kernel
theorem d_La_law_613 : decode code 613 = .ok (.aload_n 0, 1) := by decide +kernel
theorem d_La_law_614 : decode code 614 = .ok (.iload_n 3, 1) := by decide +kernel
theorem d_La_law_615 : decode code 615 = .ok (.iconst 2, 1) := by decide +kernel
theorem d_La_law_616 : decode code 616 = .ok (.iadd, 1) := by decide +kernel
theorem d_La_law_617 : decode code 617 = .ok (.iaload, 1) := by decide +kernel
theorem d_La_law_618 : decode code 618 = .ok (.invokevirtual 104, 3) := by decide +kernel
theorem d_La_law_621 : decode code 621 = .ok (.aload_n 2, 1) := by decide +kernel
theorem d_La_law_622 : decode code 622 = .ok (.aload_n 0, 1) := by decide +kernel
theorem d_La_law_623 : decode code 623 = .ok (.iload_n 3, 1) := by decide +kernel
theorem d_La_law_624 : decode code 624 = .ok (.iconst 1, 1) := by decide +kernel
theorem d_La_law_625 : decode code 625 = .ok (.iadd, 1) := by decide +kernel
theorem d_La_law_626 : decode code 626 = .ok (.iaload, 1) := by decide +kernel
theorem d_La_law_627 : decode code 627 = .ok (.aload_n 0, 1) := by decide +kernel
theorem d_La_law_628 : decode code 628 = .ok (.iload_n 3, 1) := by decide +kernel
theorem d_La_law_629 : decode code 629 = .ok (.iconst 2, 1) := by decide +kernel
theorem d_La_law_630 : decode code 630 = .ok (.iadd, 1) := by decide +kernel
theorem d_La_law_631 : decode code 631 = .ok (.iaload, 1) := by decide +kernel
theorem d_La_law_632 : decode code 632 = .ok (.invokevirtual 107, 3) := by decide +kernel
theorem d_La_law_635 : decode code 635 = .ok (.lcmp, 1) := by decide +kernel
theorem d_La_law_636 : decode code 636 = .ok (.ifCond .eq 28, 3) := by decide +kernel
theorem d_La_law_639 : decode code 639 = .ok (.iconst 0, 1) := by decide +kernel
theorem d_La_law_640 : decode code 640 = .ok (.ireturn, 1) := by decide +kernel
theorem d_La_law_641 : decode code 641 = .ok (.aload_n 1, 1) := by decide +kernel
theorem d_La_law_642 : decode code 642 = .ok (.aload_n 0, 1) := by decide +kernel
theorem d_La_law_643 : decode code 643 = .ok (.iload_n 3, 1) := by decide +kernel
theorem d_La_law_644 : decode code 644 = .ok (.iconst 1, 1) := by decide +kernel
theorem d_La_law_645 : decode code 645 = .ok (.iadd, 1) := by decide +kernel
theorem d_La_law_646 : decode code 646 = .ok (.iaload, 1) := by decide +kernel
theorem d_La_law_647 : decode code 647 = .ok (.invokevirtual 108, 3) := by decide +kernel
theorem d_La_law_650 : decode code 650 = .ok (.aload_n 2, 1) := by decide +kernel
theorem d_La_law_651 : decode code 651 = .ok (.aload_n 0, 1) := by decide +kernel
theorem d_La_law_652 : decode code 652 = .ok (.iload_n 3, 1) := by decide +kernel
theorem d_La_law_653 : decode code 653 = .ok (.iconst 1, 1) := by decide +kernel
theorem d_La_law_654 : decode code 654 = .ok (.iadd, 1) := by decide +kernel
theorem d_La_law_655 : decode code 655 = .ok (.iaload, 1) := by decide +kernel
theorem d_La_law_656 : decode code 656 = .ok (.invokevirtual 111, 3) := by decide +kernel
theorem d_La_law_659 : decode code 659 = .ok (.if_icmp .eq 5, 3) := by decide +kernel
theorem d_La_law_662 : decode code 662 = .ok (.iconst 0, 1) := by decide +kernel
theorem d_La_law_663 : decode code 663 = .ok (.ireturn, 1) := by decide +kernel
theorem d_La_law_664 : decode code 664 = .ok (.iinc 3 4, 3) := by decide +kernel
theorem d_La_law_667 : decode code 667 = .ok (.goto (-649), 3) := by decide +kernel
theorem d_La_law_670 : decode code 670 = .ok (.iconst 1, 1) := by decide +kernel
theorem d_La_law_671 : decode code 671 = .ok (.ireturn, 1) := by decide +kernel
