theorem d_Mo_moveGain_0 : decode b_Mo_moveGain 0 = .ok (.aload_n 0, 1) := by decide +kernel
theorem d_Mo_moveGain_1 : decode b_Mo_moveGain 1 = .ok (.aload_n 0, 1) := by decide +kernel
theorem d_Mo_moveGain_2 : decode b_Mo_moveGain 2 = .ok (.getfield 30, 3) := by decide +kernel
theorem d_Mo_moveGain_5 : decode b_Mo_moveGain 5 = .ok (.aload_n 0, 1) := by decide +kernel
theorem d_Mo_moveGain_6 : decode b_Mo_moveGain 6 = .ok (.getfield 52, 3) := by decide +kernel
theorem d_Mo_moveGain_9 : decode b_Mo_moveGain 9 = .ok (.invokevirtual 150, 3) := by decide +kernel
theorem d_Mo_moveGain_12 : decode b_Mo_moveGain 12 = .ok (.aload_n 0, 1) := by decide +kernel
theorem d_Mo_moveGain_13 : decode b_Mo_moveGain 13 = .ok (.aload_n 0, 1) := by decide +kernel
theorem d_Mo_moveGain_14 : decode b_Mo_moveGain 14 = .ok (.getfield 52, 3) := by decide +kernel
theorem d_Mo_moveGain_17 : decode b_Mo_moveGain 17 = .ok (.iload_n 1, 1) := by decide +kernel
theorem d_Mo_moveGain_18 : decode b_Mo_moveGain 18 = .ok (.iload_n 2, 1) := by decide +kernel
theorem d_Mo_moveGain_19 : decode b_Mo_moveGain 19 = .ok (.invokevirtual 139, 3) := by decide +kernel
theorem d_Mo_moveGain_22 : decode b_Mo_moveGain 22 = .ok (.aload_n 0, 1) := by decide +kernel
theorem d_Mo_moveGain_23 : decode b_Mo_moveGain 23 = .ok (.aload_n 0, 1) := by decide +kernel
theorem d_Mo_moveGain_24 : decode b_Mo_moveGain 24 = .ok (.getfield 52, 3) := by decide +kernel
theorem d_Mo_moveGain_27 : decode b_Mo_moveGain 27 = .ok (.invokevirtual 146, 3) := by decide +kernel
theorem d_Mo_moveGain_30 : decode b_Mo_moveGain 30 = .ok (.aload_n 0, 1) := by decide +kernel
theorem d_Mo_moveGain_31 : decode b_Mo_moveGain 31 = .ok (.aload_n 0, 1) := by decide +kernel
theorem d_Mo_moveGain_32 : decode b_Mo_moveGain 32 = .ok (.getfield 30, 3) := by decide +kernel
theorem d_Mo_moveGain_35 : decode b_Mo_moveGain 35 = .ok (.invokevirtual 146, 3) := by decide +kernel
theorem d_Mo_moveGain_38 : decode b_Mo_moveGain 38 = .ok (.lsub, 1) := by decide +kernel
theorem d_Mo_moveGain_39 : decode b_Mo_moveGain 39 = .ok (.lreturn, 1) := by decide +kernel
theorem d_Mo_mergeGain_0 : decode b_Mo_mergeGain 0 = .ok (.aload_n 0, 1) := by decide +kernel
theorem d_Mo_mergeGain_1 : decode b_Mo_mergeGain 1 = .ok (.aload_n 0, 1) := by decide +kernel
theorem d_Mo_mergeGain_2 : decode b_Mo_mergeGain 2 = .ok (.getfield 30, 3) := by decide +kernel
theorem d_Mo_mergeGain_5 : decode b_Mo_mergeGain 5 = .ok (.aload_n 0, 1) := by decide +kernel
theorem d_Mo_mergeGain_6 : decode b_Mo_mergeGain 6 = .ok (.getfield 52, 3) := by decide +kernel
theorem d_Mo_mergeGain_9 : decode b_Mo_mergeGain 9 = .ok (.invokevirtual 150, 3) := by decide +kernel
theorem d_Mo_mergeGain_12 : decode b_Mo_mergeGain 12 = .ok (.aload_n 0, 1) := by decide +kernel
theorem d_Mo_mergeGain_13 : decode b_Mo_mergeGain 13 = .ok (.aload_n 0, 1) := by decide +kernel
theorem d_Mo_mergeGain_14 : decode b_Mo_mergeGain 14 = .ok (.getfield 52, 3) := by decide +kernel
theorem d_Mo_mergeGain_17 : decode b_Mo_mergeGain 17 = .ok (.iload_n 1, 1) := by decide +kernel
theorem d_Mo_mergeGain_18 : decode b_Mo_mergeGain 18 = .ok (.iload_n 2, 1) := by decide +kernel
theorem d_Mo_mergeGain_19 : decode b_Mo_mergeGain 19 = .ok (.invokevirtual 154, 3) := by decide +kernel
theorem d_Mo_mergeGain_22 : decode b_Mo_mergeGain 22 = .ok (.aload_n 0, 1) := by decide +kernel
theorem d_Mo_mergeGain_23 : decode b_Mo_mergeGain 23 = .ok (.aload_n 0, 1) := by decide +kernel
theorem d_Mo_mergeGain_24 : decode b_Mo_mergeGain 24 = .ok (.getfield 52, 3) := by decide +kernel
theorem d_Mo_mergeGain_27 : decode b_Mo_mergeGain 27 = .ok (.invokevirtual 146, 3) := by decide +kernel
theorem d_Mo_mergeGain_30 : decode b_Mo_mergeGain 30 = .ok (.aload_n 0, 1) := by decide +kernel
theorem d_Mo_mergeGain_31 : decode b_Mo_mergeGain 31 = .ok (.aload_n 0, 1) := by decide +kernel
theorem d_Mo_mergeGain_32 : decode b_Mo_mergeGain 32 = .ok (.getfield 30, 3) := by decide +kernel
theorem d_Mo_mergeGain_35 : decode b_Mo_mergeGain 35 = .ok (.invokevirtual 146, 3) := by decide +kernel
theorem d_Mo_mergeGain_38 : decode b_Mo_mergeGain 38 = .ok (.lsub, 1) := by decide +kernel
theorem d_Mo_mergeGain_39 : decode b_Mo_mergeGain 39 = .ok (.lreturn, 1) := by decide +kernel
theorem d_Mo_mergeIn_0 : decode b_Mo_mergeIn 0 = .ok (.aload_n 1, 1) := by decide +kernel
theorem d_Mo_mergeIn_1 : decode b_Mo_mergeIn 1 = .ok (.iload_n 3, 1) := by decide +kernel
theorem d_Mo_mergeIn_2 : decode b_Mo_mergeIn 2 = .ok (.iaload, 1) := by decide +kernel
theorem d_Mo_mergeIn_3 : decode b_Mo_mergeIn 3 = .ok (.istore 4, 2) := by decide +kernel
theorem d_Mo_mergeIn_5 : decode b_Mo_mergeIn 5 = .ok (.iconst 0, 1) := by decide +kernel
theorem d_Mo_mergeIn_6 : decode b_Mo_mergeIn 6 = .ok (.istore 5, 2) := by decide +kernel
theorem d_Mo_mergeIn_8 : decode b_Mo_mergeIn 8 = .ok (.iload 5, 2) := by decide +kernel
theorem d_Mo_mergeIn_10 : decode b_Mo_mergeIn 10 = .ok (.aload_n 0, 1) := by decide +kernel
theorem d_Mo_mergeIn_11 : decode b_Mo_mergeIn 11 = .ok (.getfield 95, 3) := by decide +kernel
theorem d_Mo_mergeIn_14 : decode b_Mo_mergeIn 14 = .ok (.if_icmp .ge 32, 3) := by decide +kernel
theorem d_Mo_mergeIn_17 : decode b_Mo_mergeIn 17 = .ok (.aload_n 1, 1) := by decide +kernel
theorem d_Mo_mergeIn_18 : decode b_Mo_mergeIn 18 = .ok (.iload 5, 2) := by decide +kernel
theorem d_Mo_mergeIn_20 : decode b_Mo_mergeIn 20 = .ok (.aload_n 1, 1) := by decide +kernel
theorem d_Mo_mergeIn_21 : decode b_Mo_mergeIn 21 = .ok (.iload 5, 2) := by decide +kernel
theorem d_Mo_mergeIn_23 : decode b_Mo_mergeIn 23 = .ok (.iaload, 1) := by decide +kernel
theorem d_Mo_mergeIn_24 : decode b_Mo_mergeIn 24 = .ok (.iload 4, 2) := by decide +kernel
theorem d_Mo_mergeIn_26 : decode b_Mo_mergeIn 26 = .ok (.if_icmp .ne 9, 3) := by decide +kernel
theorem d_Mo_mergeIn_29 : decode b_Mo_mergeIn 29 = .ok (.aload_n 1, 1) := by decide +kernel
theorem d_Mo_mergeIn_30 : decode b_Mo_mergeIn 30 = .ok (.iload_n 2, 1) := by decide +kernel
theorem d_Mo_mergeIn_31 : decode b_Mo_mergeIn 31 = .ok (.iaload, 1) := by decide +kernel
theorem d_Mo_mergeIn_32 : decode b_Mo_mergeIn 32 = .ok (.goto 7, 3) := by decide +kernel
theorem d_Mo_mergeIn_35 : decode b_Mo_mergeIn 35 = .ok (.aload_n 1, 1) := by decide +kernel
theorem d_Mo_mergeIn_36 : decode b_Mo_mergeIn 36 = .ok (.iload 5, 2) := by decide +kernel
theorem d_Mo_mergeIn_38 : decode b_Mo_mergeIn 38 = .ok (.iaload, 1) := by decide +kernel
theorem d_Mo_mergeIn_39 : decode b_Mo_mergeIn 39 = .ok (.iastore, 1) := by decide +kernel
theorem d_Mo_mergeIn_40 : decode b_Mo_mergeIn 40 = .ok (.iinc 5 1, 3) := by decide +kernel
theorem d_Mo_mergeIn_43 : decode b_Mo_mergeIn 43 = .ok (.goto (-35), 3) := by decide +kernel
theorem d_Mo_mergeIn_46 : decode b_Mo_mergeIn 46 = .ok (.aload_n 0, 1) := by decide +kernel
theorem d_Mo_mergeIn_47 : decode b_Mo_mergeIn 47 = .ok (.aload_n 1, 1) := by decide +kernel
theorem d_Mo_mergeIn_48 : decode b_Mo_mergeIn 48 = .ok (.invokevirtual 136, 3) := by decide +kernel
theorem d_Mo_mergeIn_51 : decode b_Mo_mergeIn 51 = .ok (.istore 5, 2) := by decide +kernel
theorem d_Mo_mergeIn_53 : decode b_Mo_mergeIn 53 = .ok (.return_, 1) := by decide +kernel
theorem d_Mo_move_0 : decode b_Mo_move 0 = .ok (.aload_n 0, 1) := by decide +kernel
theorem d_Mo_move_1 : decode b_Mo_move 1 = .ok (.invokevirtual 143, 3) := by decide +kernel
theorem d_Mo_move_4 : decode b_Mo_move 4 = .ok (.aload_n 0, 1) := by decide +kernel
theorem d_Mo_move_5 : decode b_Mo_move 5 = .ok (.iload_n 1, 1) := by decide +kernel
theorem d_Mo_move_6 : decode b_Mo_move 6 = .ok (.invokevirtual 101, 3) := by decide +kernel
theorem d_Mo_move_9 : decode b_Mo_move 9 = .ok (.ifCond .eq 20, 3) := by decide +kernel
theorem d_Mo_move_12 : decode b_Mo_move 12 = .ok (.aload_n 0, 1) := by decide +kernel
theorem d_Mo_move_13 : decode b_Mo_move 13 = .ok (.iload_n 2, 1) := by decide +kernel
theorem d_Mo_move_14 : decode b_Mo_move 14 = .ok (.invokevirtual 101, 3) := by decide +kernel
theorem d_Mo_move_17 : decode b_Mo_move 17 = .ok (.ifCond .eq 12, 3) := by decide +kernel
theorem d_Mo_move_20 : decode b_Mo_move 20 = .ok (.aload_n 0, 1) := by decide +kernel
theorem d_Mo_move_21 : decode b_Mo_move 21 = .ok (.iload_n 1, 1) := by decide +kernel
theorem d_Mo_move_22 : decode b_Mo_move 22 = .ok (.iload_n 2, 1) := by decide +kernel
theorem d_Mo_move_23 : decode b_Mo_move 23 = .ok (.invokevirtual 157, 3) := by decide +kernel
theorem d_Mo_move_26 : decode b_Mo_move 26 = .ok (.goto 4, 3) := by decide +kernel
theorem d_Mo_move_29 : decode b_Mo_move 29 = .ok (.lconst 0, 1) := by decide +kernel
theorem d_Mo_move_30 : decode b_Mo_move 30 = .ok (.lreturn, 1) := by decide +kernel
theorem d_Mo_merge_0 : decode b_Mo_merge 0 = .ok (.aload_n 0, 1) := by decide +kernel
theorem d_Mo_merge_1 : decode b_Mo_merge 1 = .ok (.invokevirtual 143, 3) := by decide +kernel
theorem d_Mo_merge_4 : decode b_Mo_merge 4 = .ok (.aload_n 0, 1) := by decide +kernel
theorem d_Mo_merge_5 : decode b_Mo_merge 5 = .ok (.iload_n 1, 1) := by decide +kernel
theorem d_Mo_merge_6 : decode b_Mo_merge 6 = .ok (.invokevirtual 101, 3) := by decide +kernel
theorem d_Mo_merge_9 : decode b_Mo_merge 9 = .ok (.ifCond .eq 20, 3) := by decide +kernel
theorem d_Mo_merge_12 : decode b_Mo_merge 12 = .ok (.aload_n 0, 1) := by decide +kernel
theorem d_Mo_merge_13 : decode b_Mo_merge 13 = .ok (.iload_n 2, 1) := by decide +kernel
theorem d_Mo_merge_14 : decode b_Mo_merge 14 = .ok (.invokevirtual 101, 3) := by decide +kernel
theorem d_Mo_merge_17 : decode b_Mo_merge 17 = .ok (.ifCond .eq 12, 3) := by decide +kernel
theorem d_Mo_merge_20 : decode b_Mo_merge 20 = .ok (.aload_n 0, 1) := by decide +kernel
theorem d_Mo_merge_21 : decode b_Mo_merge 21 = .ok (.iload_n 1, 1) := by decide +kernel
theorem d_Mo_merge_22 : decode b_Mo_merge 22 = .ok (.iload_n 2, 1) := by decide +kernel
theorem d_Mo_merge_23 : decode b_Mo_merge 23 = .ok (.invokevirtual 161, 3) := by decide +kernel
theorem d_Mo_merge_26 : decode b_Mo_merge 26 = .ok (.goto 4, 3) := by decide +kernel
theorem d_Mo_merge_29 : decode b_Mo_merge 29 = .ok (.lconst 0, 1) := by decide +kernel
theorem d_Mo_merge_30 : decode b_Mo_merge 30 = .ok (.lreturn, 1) := by decide +kernel
theorem d_Mo_rests_0 : decode b_Mo_rests 0 = .ok (.aload_n 0, 1) := by decide +kernel
theorem d_Mo_rests_1 : decode b_Mo_rests 1 = .ok (.invokevirtual 143, 3) := by decide +kernel
theorem d_Mo_rests_4 : decode b_Mo_rests 4 = .ok (.iconst 0, 1) := by decide +kernel
theorem d_Mo_rests_5 : decode b_Mo_rests 5 = .ok (.istore_n 1, 1) := by decide +kernel
theorem d_Mo_rests_6 : decode b_Mo_rests 6 = .ok (.iload_n 1, 1) := by decide +kernel
theorem d_Mo_rests_7 : decode b_Mo_rests 7 = .ok (.aload_n 0, 1) := by decide +kernel
theorem d_Mo_rests_8 : decode b_Mo_rests 8 = .ok (.getfield 95, 3) := by decide +kernel
theorem d_Mo_rests_11 : decode b_Mo_rests 11 = .ok (.if_icmp .ge 49, 3) := by decide +kernel
theorem d_Mo_rests_14 : decode b_Mo_rests 14 = .ok (.iconst 0, 1) := by decide +kernel
theorem d_Mo_rests_15 : decode b_Mo_rests 15 = .ok (.istore_n 2, 1) := by decide +kernel
theorem d_Mo_rests_16 : decode b_Mo_rests 16 = .ok (.iload_n 2, 1) := by decide +kernel
theorem d_Mo_rests_17 : decode b_Mo_rests 17 = .ok (.aload_n 0, 1) := by decide +kernel
theorem d_Mo_rests_18 : decode b_Mo_rests 18 = .ok (.getfield 95, 3) := by decide +kernel
theorem d_Mo_rests_21 : decode b_Mo_rests 21 = .ok (.if_icmp .ge 33, 3) := by decide +kernel
theorem d_Mo_rests_24 : decode b_Mo_rests 24 = .ok (.aload_n 0, 1) := by decide +kernel
theorem d_Mo_rests_25 : decode b_Mo_rests 25 = .ok (.iload_n 1, 1) := by decide +kernel
theorem d_Mo_rests_26 : decode b_Mo_rests 26 = .ok (.iload_n 2, 1) := by decide +kernel
theorem d_Mo_rests_27 : decode b_Mo_rests 27 = .ok (.invokevirtual 157, 3) := by decide +kernel
theorem d_Mo_rests_30 : decode b_Mo_rests 30 = .ok (.lconst 0, 1) := by decide +kernel
theorem d_Mo_rests_31 : decode b_Mo_rests 31 = .ok (.lcmp, 1) := by decide +kernel
theorem d_Mo_rests_32 : decode b_Mo_rests 32 = .ok (.ifCond .gt 14, 3) := by decide +kernel
theorem d_Mo_rests_35 : decode b_Mo_rests 35 = .ok (.aload_n 0, 1) := by decide +kernel
theorem d_Mo_rests_36 : decode b_Mo_rests 36 = .ok (.iload_n 1, 1) := by decide +kernel
theorem d_Mo_rests_37 : decode b_Mo_rests 37 = .ok (.iload_n 2, 1) := by decide +kernel
theorem d_Mo_rests_38 : decode b_Mo_rests 38 = .ok (.invokevirtual 161, 3) := by decide +kernel
theorem d_Mo_rests_41 : decode b_Mo_rests 41 = .ok (.lconst 0, 1) := by decide +kernel
theorem d_Mo_rests_42 : decode b_Mo_rests 42 = .ok (.lcmp, 1) := by decide +kernel
theorem d_Mo_rests_43 : decode b_Mo_rests 43 = .ok (.ifCond .le 5, 3) := by decide +kernel
theorem d_Mo_rests_46 : decode b_Mo_rests 46 = .ok (.iconst 0, 1) := by decide +kernel
theorem d_Mo_rests_47 : decode b_Mo_rests 47 = .ok (.ireturn, 1) := by decide +kernel
theorem d_Mo_rests_48 : decode b_Mo_rests 48 = .ok (.iinc 2 1, 3) := by decide +kernel
theorem d_Mo_rests_51 : decode b_Mo_rests 51 = .ok (.goto (-35), 3) := by decide +kernel
theorem d_Mo_rests_54 : decode b_Mo_rests 54 = .ok (.iinc 1 1, 3) := by decide +kernel
theorem d_Mo_rests_57 : decode b_Mo_rests 57 = .ok (.goto (-51), 3) := by decide +kernel
theorem d_Mo_rests_60 : decode b_Mo_rests 60 = .ok (.iconst 1, 1) := by decide +kernel
theorem d_Mo_rests_61 : decode b_Mo_rests 61 = .ok (.ireturn, 1) := by decide +kernel
theorem d_Mo_joined_0 : decode b_Mo_joined 0 = .ok (.aload_n 0, 1) := by decide +kernel
theorem d_Mo_joined_1 : decode b_Mo_joined 1 = .ok (.invokevirtual 143, 3) := by decide +kernel
theorem d_Mo_joined_4 : decode b_Mo_joined 4 = .ok (.iconst 0, 1) := by decide +kernel
theorem d_Mo_joined_5 : decode b_Mo_joined 5 = .ok (.istore_n 1, 1) := by decide +kernel
theorem d_Mo_joined_6 : decode b_Mo_joined 6 = .ok (.iload_n 1, 1) := by decide +kernel
theorem d_Mo_joined_7 : decode b_Mo_joined 7 = .ok (.aload_n 0, 1) := by decide +kernel
theorem d_Mo_joined_8 : decode b_Mo_joined 8 = .ok (.getfield 95, 3) := by decide +kernel
theorem d_Mo_joined_11 : decode b_Mo_joined 11 = .ok (.if_icmp .ge 171, 3) := by decide +kernel
theorem d_Mo_joined_14 : decode b_Mo_joined 14 = .ok (.iconst 1, 1) := by decide +kernel
theorem d_Mo_joined_15 : decode b_Mo_joined 15 = .ok (.iload_n 1, 1) := by decide +kernel
theorem d_Mo_joined_16 : decode b_Mo_joined 16 = .ok (.ishl, 1) := by decide +kernel
theorem d_Mo_joined_17 : decode b_Mo_joined 17 = .ok (.istore_n 2, 1) := by decide +kernel
theorem d_Mo_joined_18 : decode b_Mo_joined 18 = .ok (.iconst 0, 1) := by decide +kernel
theorem d_Mo_joined_19 : decode b_Mo_joined 19 = .ok (.istore_n 3, 1) := by decide +kernel
theorem d_Mo_joined_20 : decode b_Mo_joined 20 = .ok (.iload_n 2, 1) := by decide +kernel
theorem d_Mo_joined_21 : decode b_Mo_joined 21 = .ok (.iload_n 3, 1) := by decide +kernel
theorem d_Mo_joined_22 : decode b_Mo_joined 22 = .ok (.if_icmp .eq 109, 3) := by decide +kernel
theorem d_Mo_joined_25 : decode b_Mo_joined 25 = .ok (.iload_n 2, 1) := by decide +kernel
theorem d_Mo_joined_26 : decode b_Mo_joined 26 = .ok (.istore_n 3, 1) := by decide +kernel
theorem d_Mo_joined_27 : decode b_Mo_joined 27 = .ok (.iconst 0, 1) := by decide +kernel
theorem d_Mo_joined_28 : decode b_Mo_joined 28 = .ok (.istore 4, 2) := by decide +kernel
theorem d_Mo_joined_30 : decode b_Mo_joined 30 = .ok (.iload 4, 2) := by decide +kernel
theorem d_Mo_joined_32 : decode b_Mo_joined 32 = .ok (.aload_n 0, 1) := by decide +kernel
theorem d_Mo_joined_33 : decode b_Mo_joined 33 = .ok (.getfield 95, 3) := by decide +kernel
theorem d_Mo_joined_36 : decode b_Mo_joined 36 = .ok (.if_icmp .ge 92, 3) := by decide +kernel
theorem d_Mo_joined_39 : decode b_Mo_joined 39 = .ok (.iconst 0, 1) := by decide +kernel
theorem d_Mo_joined_40 : decode b_Mo_joined 40 = .ok (.istore 5, 2) := by decide +kernel
theorem d_Mo_joined_42 : decode b_Mo_joined 42 = .ok (.iload 5, 2) := by decide +kernel
theorem d_Mo_joined_44 : decode b_Mo_joined 44 = .ok (.aload_n 0, 1) := by decide +kernel
theorem d_Mo_joined_45 : decode b_Mo_joined 45 = .ok (.getfield 95, 3) := by decide +kernel
theorem d_Mo_joined_48 : decode b_Mo_joined 48 = .ok (.if_icmp .ge 74, 3) := by decide +kernel
theorem d_Mo_joined_51 : decode b_Mo_joined 51 = .ok (.iload_n 2, 1) := by decide +kernel
theorem d_Mo_joined_52 : decode b_Mo_joined 52 = .ok (.iload 4, 2) := by decide +kernel
theorem d_Mo_joined_54 : decode b_Mo_joined 54 = .ok (.ishr, 1) := by decide +kernel
theorem d_Mo_joined_55 : decode b_Mo_joined 55 = .ok (.iconst 1, 1) := by decide +kernel
theorem d_Mo_joined_56 : decode b_Mo_joined 56 = .ok (.iand, 1) := by decide +kernel
theorem d_Mo_joined_57 : decode b_Mo_joined 57 = .ok (.iconst 1, 1) := by decide +kernel
theorem d_Mo_joined_58 : decode b_Mo_joined 58 = .ok (.if_icmp .ne 39, 3) := by decide +kernel
theorem d_Mo_joined_61 : decode b_Mo_joined 61 = .ok (.aload_n 0, 1) := by decide +kernel
theorem d_Mo_joined_62 : decode b_Mo_joined 62 = .ok (.getfield 36, 3) := by decide +kernel
theorem d_Mo_joined_65 : decode b_Mo_joined 65 = .ok (.bipush 9, 2) := by decide +kernel
theorem d_Mo_joined_67 : decode b_Mo_joined 67 = .ok (.iload 4, 2) := by decide +kernel
theorem d_Mo_joined_69 : decode b_Mo_joined 69 = .ok (.imul, 1) := by decide +kernel
theorem d_Mo_joined_70 : decode b_Mo_joined 70 = .ok (.iload 5, 2) := by decide +kernel
theorem d_Mo_joined_72 : decode b_Mo_joined 72 = .ok (.iadd, 1) := by decide +kernel
theorem d_Mo_joined_73 : decode b_Mo_joined 73 = .ok (.baload, 1) := by decide +kernel
theorem d_Mo_joined_74 : decode b_Mo_joined 74 = .ok (.ifCond .eq 23, 3) := by decide +kernel
theorem d_Mo_joined_77 : decode b_Mo_joined 77 = .ok (.aload_n 0, 1) := by decide +kernel
theorem d_Mo_joined_78 : decode b_Mo_joined 78 = .ok (.getfield 30, 3) := by decide +kernel
theorem d_Mo_joined_81 : decode b_Mo_joined 81 = .ok (.iload 5, 2) := by decide +kernel
theorem d_Mo_joined_83 : decode b_Mo_joined 83 = .ok (.iaload, 1) := by decide +kernel
theorem d_Mo_joined_84 : decode b_Mo_joined 84 = .ok (.aload_n 0, 1) := by decide +kernel
theorem d_Mo_joined_85 : decode b_Mo_joined 85 = .ok (.getfield 30, 3) := by decide +kernel
theorem d_Mo_joined_88 : decode b_Mo_joined 88 = .ok (.iload_n 1, 1) := by decide +kernel
theorem d_Mo_joined_89 : decode b_Mo_joined 89 = .ok (.iaload, 1) := by decide +kernel
theorem d_Mo_joined_90 : decode b_Mo_joined 90 = .ok (.if_icmp .ne 7, 3) := by decide +kernel
theorem d_Mo_joined_93 : decode b_Mo_joined 93 = .ok (.iconst 1, 1) := by decide +kernel
theorem d_Mo_joined_94 : decode b_Mo_joined 94 = .ok (.goto 4, 3) := by decide +kernel
theorem d_Mo_joined_97 : decode b_Mo_joined 97 = .ok (.iconst 0, 1) := by decide +kernel
theorem d_Mo_joined_98 : decode b_Mo_joined 98 = .ok (.istore 6, 2) := by decide +kernel
theorem d_Mo_joined_100 : decode b_Mo_joined 100 = .ok (.iload_n 2, 1) := by decide +kernel
theorem d_Mo_joined_101 : decode b_Mo_joined 101 = .ok (.iload 6, 2) := by decide +kernel
theorem d_Mo_joined_103 : decode b_Mo_joined 103 = .ok (.ifCond .eq 10, 3) := by decide +kernel
theorem d_Mo_joined_106 : decode b_Mo_joined 106 = .ok (.iconst 1, 1) := by decide +kernel
theorem d_Mo_joined_107 : decode b_Mo_joined 107 = .ok (.iload 5, 2) := by decide +kernel
theorem d_Mo_joined_109 : decode b_Mo_joined 109 = .ok (.ishl, 1) := by decide +kernel
theorem d_Mo_joined_110 : decode b_Mo_joined 110 = .ok (.goto 4, 3) := by decide +kernel
theorem d_Mo_joined_113 : decode b_Mo_joined 113 = .ok (.iconst 0, 1) := by decide +kernel
theorem d_Mo_joined_114 : decode b_Mo_joined 114 = .ok (.ior, 1) := by decide +kernel
theorem d_Mo_joined_115 : decode b_Mo_joined 115 = .ok (.istore_n 2, 1) := by decide +kernel
theorem d_Mo_joined_116 : decode b_Mo_joined 116 = .ok (.iinc 5 1, 3) := by decide +kernel
theorem d_Mo_joined_119 : decode b_Mo_joined 119 = .ok (.goto (-77), 3) := by decide +kernel
theorem d_Mo_joined_122 : decode b_Mo_joined 122 = .ok (.iinc 4 1, 3) := by decide +kernel
theorem d_Mo_joined_125 : decode b_Mo_joined 125 = .ok (.goto (-95), 3) := by decide +kernel
theorem d_Mo_joined_128 : decode b_Mo_joined 128 = .ok (.goto (-108), 3) := by decide +kernel
theorem d_Mo_joined_131 : decode b_Mo_joined 131 = .ok (.iconst 0, 1) := by decide +kernel
theorem d_Mo_joined_132 : decode b_Mo_joined 132 = .ok (.istore 4, 2) := by decide +kernel
theorem d_Mo_joined_134 : decode b_Mo_joined 134 = .ok (.iload 4, 2) := by decide +kernel
theorem d_Mo_joined_136 : decode b_Mo_joined 136 = .ok (.aload_n 0, 1) := by decide +kernel
theorem d_Mo_joined_137 : decode b_Mo_joined 137 = .ok (.getfield 95, 3) := by decide +kernel
theorem d_Mo_joined_140 : decode b_Mo_joined 140 = .ok (.if_icmp .ge 36, 3) := by decide +kernel
theorem d_Mo_joined_143 : decode b_Mo_joined 143 = .ok (.aload_n 0, 1) := by decide +kernel
theorem d_Mo_joined_144 : decode b_Mo_joined 144 = .ok (.getfield 30, 3) := by decide +kernel
theorem d_Mo_joined_147 : decode b_Mo_joined 147 = .ok (.iload 4, 2) := by decide +kernel
theorem d_Mo_joined_149 : decode b_Mo_joined 149 = .ok (.iaload, 1) := by decide +kernel
theorem d_Mo_joined_150 : decode b_Mo_joined 150 = .ok (.aload_n 0, 1) := by decide +kernel
theorem d_Mo_joined_151 : decode b_Mo_joined 151 = .ok (.getfield 30, 3) := by decide +kernel
theorem d_Mo_joined_154 : decode b_Mo_joined 154 = .ok (.iload_n 1, 1) := by decide +kernel
theorem d_Mo_joined_155 : decode b_Mo_joined 155 = .ok (.iaload, 1) := by decide +kernel
theorem d_Mo_joined_156 : decode b_Mo_joined 156 = .ok (.if_icmp .ne 14, 3) := by decide +kernel
theorem d_Mo_joined_159 : decode b_Mo_joined 159 = .ok (.iload_n 2, 1) := by decide +kernel
theorem d_Mo_joined_160 : decode b_Mo_joined 160 = .ok (.iload 4, 2) := by decide +kernel
theorem d_Mo_joined_162 : decode b_Mo_joined 162 = .ok (.ishr, 1) := by decide +kernel
theorem d_Mo_joined_163 : decode b_Mo_joined 163 = .ok (.iconst 1, 1) := by decide +kernel
theorem d_Mo_joined_164 : decode b_Mo_joined 164 = .ok (.iand, 1) := by decide +kernel
theorem d_Mo_joined_165 : decode b_Mo_joined 165 = .ok (.ifCond .ne 5, 3) := by decide +kernel
theorem d_Mo_joined_168 : decode b_Mo_joined 168 = .ok (.iconst 0, 1) := by decide +kernel
theorem d_Mo_joined_169 : decode b_Mo_joined 169 = .ok (.ireturn, 1) := by decide +kernel
theorem d_Mo_joined_170 : decode b_Mo_joined 170 = .ok (.iinc 4 1, 3) := by decide +kernel
theorem d_Mo_joined_173 : decode b_Mo_joined 173 = .ok (.goto (-39), 3) := by decide +kernel
theorem d_Mo_joined_176 : decode b_Mo_joined 176 = .ok (.iinc 1 1, 3) := by decide +kernel
theorem d_Mo_joined_179 : decode b_Mo_joined 179 = .ok (.goto (-173), 3) := by decide +kernel
theorem d_Mo_joined_182 : decode b_Mo_joined 182 = .ok (.iconst 1, 1) := by decide +kernel
theorem d_Mo_joined_183 : decode b_Mo_joined 183 = .ok (.ireturn, 1) := by decide +kernel
theorem d_Mo_first_0 : decode b_Mo_first 0 = .ok (.iconst 0, 1) := by decide +kernel
theorem d_Mo_first_1 : decode b_Mo_first 1 = .ok (.istore_n 1, 1) := by decide +kernel
theorem d_Mo_first_2 : decode b_Mo_first 2 = .ok (.iload_n 1, 1) := by decide +kernel
theorem d_Mo_first_3 : decode b_Mo_first 3 = .ok (.aload_n 0, 1) := by decide +kernel
theorem d_Mo_first_4 : decode b_Mo_first 4 = .ok (.getfield 95, 3) := by decide +kernel
theorem d_Mo_first_7 : decode b_Mo_first 7 = .ok (.if_icmp .ge 16, 3) := by decide +kernel
theorem d_Mo_first_10 : decode b_Mo_first 10 = .ok (.aload_n 0, 1) := by decide +kernel
theorem d_Mo_first_11 : decode b_Mo_first 11 = .ok (.getfield 55, 3) := by decide +kernel
theorem d_Mo_first_14 : decode b_Mo_first 14 = .ok (.iload_n 1, 1) := by decide +kernel
theorem d_Mo_first_15 : decode b_Mo_first 15 = .ok (.iconst 0, 1) := by decide +kernel
theorem d_Mo_first_16 : decode b_Mo_first 16 = .ok (.iastore, 1) := by decide +kernel
theorem d_Mo_first_17 : decode b_Mo_first 17 = .ok (.iinc 1 1, 3) := by decide +kernel
theorem d_Mo_first_20 : decode b_Mo_first 20 = .ok (.goto (-18), 3) := by decide +kernel
theorem d_Mo_first_23 : decode b_Mo_first 23 = .ok (.return_, 1) := by decide +kernel
theorem d_Mo_next_0 : decode b_Mo_next 0 = .ok (.aload_n 0, 1) := by decide +kernel
theorem d_Mo_next_1 : decode b_Mo_next 1 = .ok (.getfield 95, 3) := by decide +kernel
theorem d_Mo_next_4 : decode b_Mo_next 4 = .ok (.iconst 1, 1) := by decide +kernel
theorem d_Mo_next_5 : decode b_Mo_next 5 = .ok (.isub, 1) := by decide +kernel
theorem d_Mo_next_6 : decode b_Mo_next 6 = .ok (.istore_n 1, 1) := by decide +kernel
theorem d_Mo_next_7 : decode b_Mo_next 7 = .ok (.iload_n 1, 1) := by decide +kernel
theorem d_Mo_next_8 : decode b_Mo_next 8 = .ok (.ifCond .le 92, 3) := by decide +kernel
theorem d_Mo_next_11 : decode b_Mo_next 11 = .ok (.iconst 0, 1) := by decide +kernel
theorem d_Mo_next_12 : decode b_Mo_next 12 = .ok (.istore_n 2, 1) := by decide +kernel
theorem d_Mo_next_13 : decode b_Mo_next 13 = .ok (.iconst 0, 1) := by decide +kernel
theorem d_Mo_next_14 : decode b_Mo_next 14 = .ok (.istore_n 3, 1) := by decide +kernel
theorem d_Mo_next_15 : decode b_Mo_next 15 = .ok (.iload_n 3, 1) := by decide +kernel
theorem d_Mo_next_16 : decode b_Mo_next 16 = .ok (.iload_n 1, 1) := by decide +kernel
theorem d_Mo_next_17 : decode b_Mo_next 17 = .ok (.if_icmp .ge 30, 3) := by decide +kernel
theorem d_Mo_next_20 : decode b_Mo_next 20 = .ok (.aload_n 0, 1) := by decide +kernel
theorem d_Mo_next_21 : decode b_Mo_next 21 = .ok (.getfield 55, 3) := by decide +kernel
theorem d_Mo_next_24 : decode b_Mo_next 24 = .ok (.iload_n 3, 1) := by decide +kernel
theorem d_Mo_next_25 : decode b_Mo_next 25 = .ok (.iaload, 1) := by decide +kernel
theorem d_Mo_next_26 : decode b_Mo_next 26 = .ok (.iload_n 2, 1) := by decide +kernel
theorem d_Mo_next_27 : decode b_Mo_next 27 = .ok (.if_icmp .le 12, 3) := by decide +kernel
theorem d_Mo_next_30 : decode b_Mo_next 30 = .ok (.aload_n 0, 1) := by decide +kernel
theorem d_Mo_next_31 : decode b_Mo_next 31 = .ok (.getfield 55, 3) := by decide +kernel
theorem d_Mo_next_34 : decode b_Mo_next 34 = .ok (.iload_n 3, 1) := by decide +kernel
theorem d_Mo_next_35 : decode b_Mo_next 35 = .ok (.iaload, 1) := by decide +kernel
theorem d_Mo_next_36 : decode b_Mo_next 36 = .ok (.goto 4, 3) := by decide +kernel
theorem d_Mo_next_39 : decode b_Mo_next 39 = .ok (.iload_n 2, 1) := by decide +kernel
theorem d_Mo_next_40 : decode b_Mo_next 40 = .ok (.istore_n 2, 1) := by decide +kernel
theorem d_Mo_next_41 : decode b_Mo_next 41 = .ok (.iinc 3 1, 3) := by decide +kernel
theorem d_Mo_next_44 : decode b_Mo_next 44 = .ok (.goto (-29), 3) := by decide +kernel
theorem d_Mo_next_47 : decode b_Mo_next 47 = .ok (.aload_n 0, 1) := by decide +kernel
theorem d_Mo_next_48 : decode b_Mo_next 48 = .ok (.getfield 55, 3) := by decide +kernel
theorem d_Mo_next_51 : decode b_Mo_next 51 = .ok (.iload_n 1, 1) := by decide +kernel
theorem d_Mo_next_52 : decode b_Mo_next 52 = .ok (.iaload, 1) := by decide +kernel
theorem d_Mo_next_53 : decode b_Mo_next 53 = .ok (.iload_n 2, 1) := by decide +kernel
theorem d_Mo_next_54 : decode b_Mo_next 54 = .ok (.if_icmp .gt 40, 3) := by decide +kernel
theorem d_Mo_next_57 : decode b_Mo_next 57 = .ok (.aload_n 0, 1) := by decide +kernel
theorem d_Mo_next_58 : decode b_Mo_next 58 = .ok (.getfield 55, 3) := by decide +kernel
theorem d_Mo_next_61 : decode b_Mo_next 61 = .ok (.iload_n 1, 1) := by decide +kernel
theorem d_Mo_next_62 : decode b_Mo_next 62 = .ok (.dup2, 1) := by decide +kernel
theorem d_Mo_next_63 : decode b_Mo_next 63 = .ok (.iaload, 1) := by decide +kernel
theorem d_Mo_next_64 : decode b_Mo_next 64 = .ok (.iconst 1, 1) := by decide +kernel
theorem d_Mo_next_65 : decode b_Mo_next 65 = .ok (.iadd, 1) := by decide +kernel
theorem d_Mo_next_66 : decode b_Mo_next 66 = .ok (.iastore, 1) := by decide +kernel
theorem d_Mo_next_67 : decode b_Mo_next 67 = .ok (.iload_n 1, 1) := by decide +kernel
theorem d_Mo_next_68 : decode b_Mo_next 68 = .ok (.iconst 1, 1) := by decide +kernel
theorem d_Mo_next_69 : decode b_Mo_next 69 = .ok (.iadd, 1) := by decide +kernel
theorem d_Mo_next_70 : decode b_Mo_next 70 = .ok (.istore_n 3, 1) := by decide +kernel
theorem d_Mo_next_71 : decode b_Mo_next 71 = .ok (.iload_n 3, 1) := by decide +kernel
theorem d_Mo_next_72 : decode b_Mo_next 72 = .ok (.aload_n 0, 1) := by decide +kernel
theorem d_Mo_next_73 : decode b_Mo_next 73 = .ok (.getfield 95, 3) := by decide +kernel
theorem d_Mo_next_76 : decode b_Mo_next 76 = .ok (.if_icmp .ge 16, 3) := by decide +kernel
theorem d_Mo_next_79 : decode b_Mo_next 79 = .ok (.aload_n 0, 1) := by decide +kernel
theorem d_Mo_next_80 : decode b_Mo_next 80 = .ok (.getfield 55, 3) := by decide +kernel
theorem d_Mo_next_83 : decode b_Mo_next 83 = .ok (.iload_n 3, 1) := by decide +kernel
theorem d_Mo_next_84 : decode b_Mo_next 84 = .ok (.iconst 0, 1) := by decide +kernel
theorem d_Mo_next_85 : decode b_Mo_next 85 = .ok (.iastore, 1) := by decide +kernel
theorem d_Mo_next_86 : decode b_Mo_next 86 = .ok (.iinc 3 1, 3) := by decide +kernel
theorem d_Mo_next_89 : decode b_Mo_next 89 = .ok (.goto (-18), 3) := by decide +kernel
theorem d_Mo_next_92 : decode b_Mo_next 92 = .ok (.iconst 1, 1) := by decide +kernel
theorem d_Mo_next_93 : decode b_Mo_next 93 = .ok (.ireturn, 1) := by decide +kernel
theorem d_Mo_next_94 : decode b_Mo_next 94 = .ok (.iinc 1 (-1), 3) := by decide +kernel
theorem d_Mo_next_97 : decode b_Mo_next 97 = .ok (.goto (-90), 3) := by decide +kernel
theorem d_Mo_next_100 : decode b_Mo_next 100 = .ok (.iconst 0, 1) := by decide +kernel
theorem d_Mo_next_101 : decode b_Mo_next 101 = .ok (.ireturn, 1) := by decide +kernel
theorem d_Mo_findBest_0 : decode b_Mo_findBest 0 = .ok (.aload_n 0, 1) := by decide +kernel
theorem d_Mo_findBest_1 : decode b_Mo_findBest 1 = .ok (.getfield 88, 3) := by decide +kernel
theorem d_Mo_findBest_4 : decode b_Mo_findBest 4 = .ok (.ifCond .eq 4, 3) := by decide +kernel
theorem d_Mo_findBest_7 : decode b_Mo_findBest 7 = .ok (.return_, 1) := by decide +kernel
theorem d_Mo_findBest_8 : decode b_Mo_findBest 8 = .ok (.aload_n 0, 1) := by decide +kernel
theorem d_Mo_findBest_9 : decode b_Mo_findBest 9 = .ok (.iconst 1, 1) := by decide +kernel
theorem d_Mo_findBest_10 : decode b_Mo_findBest 10 = .ok (.putfield 88, 3) := by decide +kernel
theorem d_Mo_findBest_13 : decode b_Mo_findBest 13 = .ok (.aload_n 0, 1) := by decide +kernel
theorem d_Mo_findBest_14 : decode b_Mo_findBest 14 = .ok (.invokevirtual 143, 3) := by decide +kernel
theorem d_Mo_findBest_17 : decode b_Mo_findBest 17 = .ok (.aload_n 0, 1) := by decide +kernel
theorem d_Mo_findBest_18 : decode b_Mo_findBest 18 = .ok (.invokevirtual 164, 3) := by decide +kernel
theorem d_Mo_findBest_21 : decode b_Mo_findBest 21 = .ok (.aload_n 0, 1) := by decide +kernel
theorem d_Mo_findBest_22 : decode b_Mo_findBest 22 = .ok (.aload_n 0, 1) := by decide +kernel
theorem d_Mo_findBest_23 : decode b_Mo_findBest 23 = .ok (.getfield 55, 3) := by decide +kernel
theorem d_Mo_findBest_26 : decode b_Mo_findBest 26 = .ok (.invokevirtual 146, 3) := by decide +kernel
theorem d_Mo_findBest_29 : decode b_Mo_findBest 29 = .ok (.lstore_n 1, 1) := by decide +kernel
theorem d_Mo_findBest_30 : decode b_Mo_findBest 30 = .ok (.aload_n 0, 1) := by decide +kernel
theorem d_Mo_findBest_31 : decode b_Mo_findBest 31 = .ok (.aload_n 0, 1) := by decide +kernel
theorem d_Mo_findBest_32 : decode b_Mo_findBest 32 = .ok (.getfield 55, 3) := by decide +kernel
theorem d_Mo_findBest_35 : decode b_Mo_findBest 35 = .ok (.aload_n 0, 1) := by decide +kernel
theorem d_Mo_findBest_36 : decode b_Mo_findBest 36 = .ok (.getfield 61, 3) := by decide +kernel
theorem d_Mo_findBest_39 : decode b_Mo_findBest 39 = .ok (.invokevirtual 150, 3) := by decide +kernel
theorem d_Mo_findBest_42 : decode b_Mo_findBest 42 = .ok (.aload_n 0, 1) := by decide +kernel
theorem d_Mo_findBest_43 : decode b_Mo_findBest 43 = .ok (.iconst 1, 1) := by decide +kernel
theorem d_Mo_findBest_44 : decode b_Mo_findBest 44 = .ok (.putfield 167, 3) := by decide +kernel
theorem d_Mo_findBest_47 : decode b_Mo_findBest 47 = .ok (.aload_n 0, 1) := by decide +kernel
theorem d_Mo_findBest_48 : decode b_Mo_findBest 48 = .ok (.invokevirtual 170, 3) := by decide +kernel
theorem d_Mo_findBest_51 : decode b_Mo_findBest 51 = .ok (.ifCond .eq 59, 3) := by decide +kernel
theorem d_Mo_findBest_54 : decode b_Mo_findBest 54 = .ok (.aload_n 0, 1) := by decide +kernel
theorem d_Mo_findBest_55 : decode b_Mo_findBest 55 = .ok (.aload_n 0, 1) := by decide +kernel
theorem d_Mo_findBest_56 : decode b_Mo_findBest 56 = .ok (.getfield 55, 3) := by decide +kernel
theorem d_Mo_findBest_59 : decode b_Mo_findBest 59 = .ok (.invokevirtual 146, 3) := by decide +kernel
theorem d_Mo_findBest_62 : decode b_Mo_findBest 62 = .ok (.lstore_n 3, 1) := by decide +kernel
theorem d_Mo_findBest_63 : decode b_Mo_findBest 63 = .ok (.lload_n 3, 1) := by decide +kernel
theorem d_Mo_findBest_64 : decode b_Mo_findBest 64 = .ok (.lload_n 1, 1) := by decide +kernel
theorem d_Mo_findBest_65 : decode b_Mo_findBest 65 = .ok (.lcmp, 1) := by decide +kernel
theorem d_Mo_findBest_66 : decode b_Mo_findBest 66 = .ok (.ifCond .le 25, 3) := by decide +kernel
theorem d_Mo_findBest_69 : decode b_Mo_findBest 69 = .ok (.lload_n 3, 1) := by decide +kernel
theorem d_Mo_findBest_70 : decode b_Mo_findBest 70 = .ok (.lstore_n 1, 1) := by decide +kernel
theorem d_Mo_findBest_71 : decode b_Mo_findBest 71 = .ok (.aload_n 0, 1) := by decide +kernel
theorem d_Mo_findBest_72 : decode b_Mo_findBest 72 = .ok (.aload_n 0, 1) := by decide +kernel
theorem d_Mo_findBest_73 : decode b_Mo_findBest 73 = .ok (.getfield 55, 3) := by decide +kernel
theorem d_Mo_findBest_76 : decode b_Mo_findBest 76 = .ok (.aload_n 0, 1) := by decide +kernel
theorem d_Mo_findBest_77 : decode b_Mo_findBest 77 = .ok (.getfield 61, 3) := by decide +kernel
theorem d_Mo_findBest_80 : decode b_Mo_findBest 80 = .ok (.invokevirtual 150, 3) := by decide +kernel
theorem d_Mo_findBest_83 : decode b_Mo_findBest 83 = .ok (.aload_n 0, 1) := by decide +kernel
theorem d_Mo_findBest_84 : decode b_Mo_findBest 84 = .ok (.iconst 1, 1) := by decide +kernel
theorem d_Mo_findBest_85 : decode b_Mo_findBest 85 = .ok (.putfield 167, 3) := by decide +kernel
theorem d_Mo_findBest_88 : decode b_Mo_findBest 88 = .ok (.goto 19, 3) := by decide +kernel
theorem d_Mo_findBest_91 : decode b_Mo_findBest 91 = .ok (.lload_n 3, 1) := by decide +kernel
theorem d_Mo_findBest_92 : decode b_Mo_findBest 92 = .ok (.lload_n 1, 1) := by decide +kernel
theorem d_Mo_findBest_93 : decode b_Mo_findBest 93 = .ok (.lcmp, 1) := by decide +kernel
theorem d_Mo_findBest_94 : decode b_Mo_findBest 94 = .ok (.ifCond .ne 13, 3) := by decide +kernel
theorem d_Mo_findBest_97 : decode b_Mo_findBest 97 = .ok (.aload_n 0, 1) := by decide +kernel
theorem d_Mo_findBest_98 : decode b_Mo_findBest 98 = .ok (.dup, 1) := by decide +kernel
theorem d_Mo_findBest_99 : decode b_Mo_findBest 99 = .ok (.getfield 167, 3) := by decide +kernel
theorem d_Mo_findBest_102 : decode b_Mo_findBest 102 = .ok (.iconst 1, 1) := by decide +kernel
theorem d_Mo_findBest_103 : decode b_Mo_findBest 103 = .ok (.iadd, 1) := by decide +kernel
theorem d_Mo_findBest_104 : decode b_Mo_findBest 104 = .ok (.putfield 167, 3) := by decide +kernel
theorem d_Mo_findBest_107 : decode b_Mo_findBest 107 = .ok (.goto (-60), 3) := by decide +kernel
theorem d_Mo_findBest_110 : decode b_Mo_findBest 110 = .ok (.return_, 1) := by decide +kernel
theorem d_Mo_best_0 : decode b_Mo_best 0 = .ok (.aload_n 0, 1) := by decide +kernel
theorem d_Mo_best_1 : decode b_Mo_best 1 = .ok (.invokevirtual 174, 3) := by decide +kernel
theorem d_Mo_best_4 : decode b_Mo_best 4 = .ok (.aload_n 0, 1) := by decide +kernel
theorem d_Mo_best_5 : decode b_Mo_best 5 = .ok (.aload_n 0, 1) := by decide +kernel
theorem d_Mo_best_6 : decode b_Mo_best 6 = .ok (.getfield 61, 3) := by decide +kernel
theorem d_Mo_best_9 : decode b_Mo_best 9 = .ok (.aload_n 0, 1) := by decide +kernel
theorem d_Mo_best_10 : decode b_Mo_best 10 = .ok (.getfield 30, 3) := by decide +kernel
theorem d_Mo_best_13 : decode b_Mo_best 13 = .ok (.invokevirtual 150, 3) := by decide +kernel
theorem d_Mo_best_16 : decode b_Mo_best 16 = .ok (.aload_n 0, 1) := by decide +kernel
theorem d_Mo_best_17 : decode b_Mo_best 17 = .ok (.aload_n 0, 1) := by decide +kernel
theorem d_Mo_best_18 : decode b_Mo_best 18 = .ok (.getfield 30, 3) := by decide +kernel
theorem d_Mo_best_21 : decode b_Mo_best 21 = .ok (.invokevirtual 136, 3) := by decide +kernel
theorem d_Mo_best_24 : decode b_Mo_best 24 = .ok (.ireturn, 1) := by decide +kernel
theorem d_Mo_ties_0 : decode b_Mo_ties 0 = .ok (.aload_n 0, 1) := by decide +kernel
theorem d_Mo_ties_1 : decode b_Mo_ties 1 = .ok (.invokevirtual 174, 3) := by decide +kernel
theorem d_Mo_ties_4 : decode b_Mo_ties 4 = .ok (.aload_n 0, 1) := by decide +kernel
theorem d_Mo_ties_5 : decode b_Mo_ties 5 = .ok (.getfield 167, 3) := by decide +kernel
theorem d_Mo_ties_8 : decode b_Mo_ties 8 = .ok (.ireturn, 1) := by decide +kernel
theorem d_Mo_mergeOnce_0 : decode b_Mo_mergeOnce 0 = .ok (.iconst 0, 1) := by decide +kernel
theorem d_Mo_mergeOnce_1 : decode b_Mo_mergeOnce 1 = .ok (.istore_n 1, 1) := by decide +kernel
theorem d_Mo_mergeOnce_2 : decode b_Mo_mergeOnce 2 = .ok (.lconst 0, 1) := by decide +kernel
theorem d_Mo_mergeOnce_3 : decode b_Mo_mergeOnce 3 = .ok (.lstore_n 2, 1) := by decide +kernel
theorem d_Mo_mergeOnce_4 : decode b_Mo_mergeOnce 4 = .ok (.iconst 0, 1) := by decide +kernel
theorem d_Mo_mergeOnce_5 : decode b_Mo_mergeOnce 5 = .ok (.istore 4, 2) := by decide +kernel
theorem d_Mo_mergeOnce_7 : decode b_Mo_mergeOnce 7 = .ok (.iconst 0, 1) := by decide +kernel
theorem d_Mo_mergeOnce_8 : decode b_Mo_mergeOnce 8 = .ok (.istore 5, 2) := by decide +kernel
theorem d_Mo_mergeOnce_10 : decode b_Mo_mergeOnce 10 = .ok (.iconst 0, 1) := by decide +kernel
theorem d_Mo_mergeOnce_11 : decode b_Mo_mergeOnce 11 = .ok (.istore 6, 2) := by decide +kernel
theorem d_Mo_mergeOnce_13 : decode b_Mo_mergeOnce 13 = .ok (.iload 6, 2) := by decide +kernel
theorem d_Mo_mergeOnce_15 : decode b_Mo_mergeOnce 15 = .ok (.aload_n 0, 1) := by decide +kernel
theorem d_Mo_mergeOnce_16 : decode b_Mo_mergeOnce 16 = .ok (.getfield 95, 3) := by decide +kernel
theorem d_Mo_mergeOnce_19 : decode b_Mo_mergeOnce 19 = .ok (.if_icmp .ge 109, 3) := by decide +kernel
theorem d_Mo_mergeOnce_22 : decode b_Mo_mergeOnce 22 = .ok (.iload 6, 2) := by decide +kernel
theorem d_Mo_mergeOnce_24 : decode b_Mo_mergeOnce 24 = .ok (.iconst 1, 1) := by decide +kernel
theorem d_Mo_mergeOnce_25 : decode b_Mo_mergeOnce 25 = .ok (.iadd, 1) := by decide +kernel
theorem d_Mo_mergeOnce_26 : decode b_Mo_mergeOnce 26 = .ok (.istore 7, 2) := by decide +kernel
theorem d_Mo_mergeOnce_28 : decode b_Mo_mergeOnce 28 = .ok (.iload 7, 2) := by decide +kernel
theorem d_Mo_mergeOnce_30 : decode b_Mo_mergeOnce 30 = .ok (.aload_n 0, 1) := by decide +kernel
theorem d_Mo_mergeOnce_31 : decode b_Mo_mergeOnce 31 = .ok (.getfield 95, 3) := by decide +kernel
theorem d_Mo_mergeOnce_34 : decode b_Mo_mergeOnce 34 = .ok (.if_icmp .ge 88, 3) := by decide +kernel
theorem d_Mo_mergeOnce_37 : decode b_Mo_mergeOnce 37 = .ok (.aload_n 0, 1) := by decide +kernel
theorem d_Mo_mergeOnce_38 : decode b_Mo_mergeOnce 38 = .ok (.iload 6, 2) := by decide +kernel
theorem d_Mo_mergeOnce_40 : decode b_Mo_mergeOnce 40 = .ok (.invokevirtual 177, 3) := by decide +kernel
theorem d_Mo_mergeOnce_43 : decode b_Mo_mergeOnce 43 = .ok (.ifCond .eq 73, 3) := by decide +kernel
theorem d_Mo_mergeOnce_46 : decode b_Mo_mergeOnce 46 = .ok (.aload_n 0, 1) := by decide +kernel
theorem d_Mo_mergeOnce_47 : decode b_Mo_mergeOnce 47 = .ok (.iload 7, 2) := by decide +kernel
theorem d_Mo_mergeOnce_49 : decode b_Mo_mergeOnce 49 = .ok (.invokevirtual 177, 3) := by decide +kernel
theorem d_Mo_mergeOnce_52 : decode b_Mo_mergeOnce 52 = .ok (.ifCond .ne 6, 3) := by decide +kernel
theorem d_Mo_mergeOnce_55 : decode b_Mo_mergeOnce 55 = .ok (.goto 61, 3) := by decide +kernel
theorem d_Mo_mergeOnce_58 : decode b_Mo_mergeOnce 58 = .ok (.aload_n 0, 1) := by decide +kernel
theorem d_Mo_mergeOnce_59 : decode b_Mo_mergeOnce 59 = .ok (.aload_n 0, 1) := by decide +kernel
theorem d_Mo_mergeOnce_60 : decode b_Mo_mergeOnce 60 = .ok (.getfield 58, 3) := by decide +kernel
theorem d_Mo_mergeOnce_63 : decode b_Mo_mergeOnce 63 = .ok (.aload_n 0, 1) := by decide +kernel
theorem d_Mo_mergeOnce_64 : decode b_Mo_mergeOnce 64 = .ok (.getfield 64, 3) := by decide +kernel
theorem d_Mo_mergeOnce_67 : decode b_Mo_mergeOnce 67 = .ok (.invokevirtual 150, 3) := by decide +kernel
theorem d_Mo_mergeOnce_70 : decode b_Mo_mergeOnce 70 = .ok (.aload_n 0, 1) := by decide +kernel
theorem d_Mo_mergeOnce_71 : decode b_Mo_mergeOnce 71 = .ok (.aload_n 0, 1) := by decide +kernel
theorem d_Mo_mergeOnce_72 : decode b_Mo_mergeOnce 72 = .ok (.getfield 64, 3) := by decide +kernel
theorem d_Mo_mergeOnce_75 : decode b_Mo_mergeOnce 75 = .ok (.iload 6, 2) := by decide +kernel
theorem d_Mo_mergeOnce_77 : decode b_Mo_mergeOnce 77 = .ok (.iload 7, 2) := by decide +kernel
theorem d_Mo_mergeOnce_79 : decode b_Mo_mergeOnce 79 = .ok (.invokevirtual 154, 3) := by decide +kernel
theorem d_Mo_mergeOnce_82 : decode b_Mo_mergeOnce 82 = .ok (.aload_n 0, 1) := by decide +kernel
theorem d_Mo_mergeOnce_83 : decode b_Mo_mergeOnce 83 = .ok (.aload_n 0, 1) := by decide +kernel
theorem d_Mo_mergeOnce_84 : decode b_Mo_mergeOnce 84 = .ok (.getfield 64, 3) := by decide +kernel
theorem d_Mo_mergeOnce_87 : decode b_Mo_mergeOnce 87 = .ok (.invokevirtual 146, 3) := by decide +kernel
theorem d_Mo_mergeOnce_90 : decode b_Mo_mergeOnce 90 = .ok (.lstore 8, 2) := by decide +kernel
theorem d_Mo_mergeOnce_92 : decode b_Mo_mergeOnce 92 = .ok (.iload_n 1, 1) := by decide +kernel
theorem d_Mo_mergeOnce_93 : decode b_Mo_mergeOnce 93 = .ok (.ifCond .eq 10, 3) := by decide +kernel
theorem d_Mo_mergeOnce_96 : decode b_Mo_mergeOnce 96 = .ok (.lload 8, 2) := by decide +kernel
theorem d_Mo_mergeOnce_98 : decode b_Mo_mergeOnce 98 = .ok (.lload_n 2, 1) := by decide +kernel
theorem d_Mo_mergeOnce_99 : decode b_Mo_mergeOnce 99 = .ok (.lcmp, 1) := by decide +kernel
theorem d_Mo_mergeOnce_100 : decode b_Mo_mergeOnce 100 = .ok (.ifCond .le 16, 3) := by decide +kernel
theorem d_Mo_mergeOnce_103 : decode b_Mo_mergeOnce 103 = .ok (.iconst 1, 1) := by decide +kernel
theorem d_Mo_mergeOnce_104 : decode b_Mo_mergeOnce 104 = .ok (.istore_n 1, 1) := by decide +kernel
theorem d_Mo_mergeOnce_105 : decode b_Mo_mergeOnce 105 = .ok (.lload 8, 2) := by decide +kernel
theorem d_Mo_mergeOnce_107 : decode b_Mo_mergeOnce 107 = .ok (.lstore_n 2, 1) := by decide +kernel
theorem d_Mo_mergeOnce_108 : decode b_Mo_mergeOnce 108 = .ok (.iload 6, 2) := by decide +kernel
theorem d_Mo_mergeOnce_110 : decode b_Mo_mergeOnce 110 = .ok (.istore 4, 2) := by decide +kernel
theorem d_Mo_mergeOnce_112 : decode b_Mo_mergeOnce 112 = .ok (.iload 7, 2) := by decide +kernel
theorem d_Mo_mergeOnce_114 : decode b_Mo_mergeOnce 114 = .ok (.istore 5, 2) := by decide +kernel
theorem d_Mo_mergeOnce_116 : decode b_Mo_mergeOnce 116 = .ok (.iinc 7 1, 3) := by decide +kernel
theorem d_Mo_mergeOnce_119 : decode b_Mo_mergeOnce 119 = .ok (.goto (-91), 3) := by decide +kernel
theorem d_Mo_mergeOnce_122 : decode b_Mo_mergeOnce 122 = .ok (.iinc 6 1, 3) := by decide +kernel
theorem d_Mo_mergeOnce_125 : decode b_Mo_mergeOnce 125 = .ok (.goto (-112), 3) := by decide +kernel
theorem d_Mo_mergeOnce_128 : decode b_Mo_mergeOnce 128 = .ok (.aload_n 0, 1) := by decide +kernel
theorem d_Mo_mergeOnce_129 : decode b_Mo_mergeOnce 129 = .ok (.aload_n 0, 1) := by decide +kernel
theorem d_Mo_mergeOnce_130 : decode b_Mo_mergeOnce 130 = .ok (.getfield 58, 3) := by decide +kernel
theorem d_Mo_mergeOnce_133 : decode b_Mo_mergeOnce 133 = .ok (.iload 4, 2) := by decide +kernel
theorem d_Mo_mergeOnce_135 : decode b_Mo_mergeOnce 135 = .ok (.iload 5, 2) := by decide +kernel
theorem d_Mo_mergeOnce_137 : decode b_Mo_mergeOnce 137 = .ok (.invokevirtual 154, 3) := by decide +kernel
theorem d_Mo_mergeOnce_140 : decode b_Mo_mergeOnce 140 = .ok (.return_, 1) := by decide +kernel
theorem d_Mo_isLeast_0 : decode b_Mo_isLeast 0 = .ok (.iconst 0, 1) := by decide +kernel
theorem d_Mo_isLeast_1 : decode b_Mo_isLeast 1 = .ok (.istore_n 2, 1) := by decide +kernel
theorem d_Mo_isLeast_2 : decode b_Mo_isLeast 2 = .ok (.iload_n 2, 1) := by decide +kernel
theorem d_Mo_isLeast_3 : decode b_Mo_isLeast 3 = .ok (.iload_n 1, 1) := by decide +kernel
theorem d_Mo_isLeast_4 : decode b_Mo_isLeast 4 = .ok (.if_icmp .ge 26, 3) := by decide +kernel
theorem d_Mo_isLeast_7 : decode b_Mo_isLeast 7 = .ok (.aload_n 0, 1) := by decide +kernel
theorem d_Mo_isLeast_8 : decode b_Mo_isLeast 8 = .ok (.getfield 58, 3) := by decide +kernel
theorem d_Mo_isLeast_11 : decode b_Mo_isLeast 11 = .ok (.iload_n 2, 1) := by decide +kernel
theorem d_Mo_isLeast_12 : decode b_Mo_isLeast 12 = .ok (.iaload, 1) := by decide +kernel
theorem d_Mo_isLeast_13 : decode b_Mo_isLeast 13 = .ok (.aload_n 0, 1) := by decide +kernel
theorem d_Mo_isLeast_14 : decode b_Mo_isLeast 14 = .ok (.getfield 58, 3) := by decide +kernel
theorem d_Mo_isLeast_17 : decode b_Mo_isLeast 17 = .ok (.iload_n 1, 1) := by decide +kernel
theorem d_Mo_isLeast_18 : decode b_Mo_isLeast 18 = .ok (.iaload, 1) := by decide +kernel
theorem d_Mo_isLeast_19 : decode b_Mo_isLeast 19 = .ok (.if_icmp .ne 5, 3) := by decide +kernel
theorem d_Mo_isLeast_22 : decode b_Mo_isLeast 22 = .ok (.iconst 0, 1) := by decide +kernel
theorem d_Mo_isLeast_23 : decode b_Mo_isLeast 23 = .ok (.ireturn, 1) := by decide +kernel
theorem d_Mo_isLeast_24 : decode b_Mo_isLeast 24 = .ok (.iinc 2 1, 3) := by decide +kernel
theorem d_Mo_isLeast_27 : decode b_Mo_isLeast 27 = .ok (.goto (-25), 3) := by decide +kernel
theorem d_Mo_isLeast_30 : decode b_Mo_isLeast 30 = .ok (.iconst 1, 1) := by decide +kernel
theorem d_Mo_isLeast_31 : decode b_Mo_isLeast 31 = .ok (.ireturn, 1) := by decide +kernel
theorem d_Mo_beginMerging_0 : decode b_Mo_beginMerging 0 = .ok (.aload_n 0, 1) := by decide +kernel
theorem d_Mo_beginMerging_1 : decode b_Mo_beginMerging 1 = .ok (.invokevirtual 143, 3) := by decide +kernel
theorem d_Mo_beginMerging_4 : decode b_Mo_beginMerging 4 = .ok (.iconst 0, 1) := by decide +kernel
theorem d_Mo_beginMerging_5 : decode b_Mo_beginMerging 5 = .ok (.istore_n 1, 1) := by decide +kernel
theorem d_Mo_beginMerging_6 : decode b_Mo_beginMerging 6 = .ok (.iload_n 1, 1) := by decide +kernel
theorem d_Mo_beginMerging_7 : decode b_Mo_beginMerging 7 = .ok (.aload_n 0, 1) := by decide +kernel
theorem d_Mo_beginMerging_8 : decode b_Mo_beginMerging 8 = .ok (.getfield 95, 3) := by decide +kernel
theorem d_Mo_beginMerging_11 : decode b_Mo_beginMerging 11 = .ok (.if_icmp .ge 16, 3) := by decide +kernel
theorem d_Mo_beginMerging_14 : decode b_Mo_beginMerging 14 = .ok (.aload_n 0, 1) := by decide +kernel
theorem d_Mo_beginMerging_15 : decode b_Mo_beginMerging 15 = .ok (.getfield 58, 3) := by decide +kernel
theorem d_Mo_beginMerging_18 : decode b_Mo_beginMerging 18 = .ok (.iload_n 1, 1) := by decide +kernel
theorem d_Mo_beginMerging_19 : decode b_Mo_beginMerging 19 = .ok (.iload_n 1, 1) := by decide +kernel
theorem d_Mo_beginMerging_20 : decode b_Mo_beginMerging 20 = .ok (.iastore, 1) := by decide +kernel
theorem d_Mo_beginMerging_21 : decode b_Mo_beginMerging 21 = .ok (.iinc 1 1, 3) := by decide +kernel
theorem d_Mo_beginMerging_24 : decode b_Mo_beginMerging 24 = .ok (.goto (-18), 3) := by decide +kernel
theorem d_Mo_beginMerging_27 : decode b_Mo_beginMerging 27 = .ok (.return_, 1) := by decide +kernel
theorem d_Mo_merged_0 : decode b_Mo_merged 0 = .ok (.iload_n 1, 1) := by decide +kernel
theorem d_Mo_merged_1 : decode b_Mo_merged 1 = .ok (.ifCond .lt 15, 3) := by decide +kernel
theorem d_Mo_merged_4 : decode b_Mo_merged 4 = .ok (.iload_n 1, 1) := by decide +kernel
theorem d_Mo_merged_5 : decode b_Mo_merged 5 = .ok (.aload_n 0, 1) := by decide +kernel
theorem d_Mo_merged_6 : decode b_Mo_merged 6 = .ok (.getfield 95, 3) := by decide +kernel
theorem d_Mo_merged_9 : decode b_Mo_merged 9 = .ok (.if_icmp .lt 10, 3) := by decide +kernel
theorem d_Mo_merged_12 : decode b_Mo_merged 12 = .ok (.iload_n 1, 1) := by decide +kernel
theorem d_Mo_merged_13 : decode b_Mo_merged 13 = .ok (.ifCond .le 6, 3) := by decide +kernel
theorem d_Mo_merged_16 : decode b_Mo_merged 16 = .ok (.bipush (-2), 2) := by decide +kernel
theorem d_Mo_merged_18 : decode b_Mo_merged 18 = .ok (.ireturn, 1) := by decide +kernel
theorem d_Mo_merged_19 : decode b_Mo_merged 19 = .ok (.aload_n 0, 1) := by decide +kernel
theorem d_Mo_merged_20 : decode b_Mo_merged 20 = .ok (.invokevirtual 180, 3) := by decide +kernel
theorem d_Mo_merged_23 : decode b_Mo_merged 23 = .ok (.iconst 0, 1) := by decide +kernel
theorem d_Mo_merged_24 : decode b_Mo_merged 24 = .ok (.istore_n 2, 1) := by decide +kernel
theorem d_Mo_merged_25 : decode b_Mo_merged 25 = .ok (.iload_n 2, 1) := by decide +kernel
theorem d_Mo_merged_26 : decode b_Mo_merged 26 = .ok (.iload_n 1, 1) := by decide +kernel
theorem d_Mo_merged_27 : decode b_Mo_merged 27 = .ok (.if_icmp .ge 13, 3) := by decide +kernel
theorem d_Mo_merged_30 : decode b_Mo_merged 30 = .ok (.aload_n 0, 1) := by decide +kernel
theorem d_Mo_merged_31 : decode b_Mo_merged 31 = .ok (.invokevirtual 183, 3) := by decide +kernel
theorem d_Mo_merged_34 : decode b_Mo_merged 34 = .ok (.iinc 2 1, 3) := by decide +kernel
theorem d_Mo_merged_37 : decode b_Mo_merged 37 = .ok (.goto (-12), 3) := by decide +kernel
theorem d_Mo_merged_40 : decode b_Mo_merged 40 = .ok (.aload_n 0, 1) := by decide +kernel
theorem d_Mo_merged_41 : decode b_Mo_merged 41 = .ok (.aload_n 0, 1) := by decide +kernel
theorem d_Mo_merged_42 : decode b_Mo_merged 42 = .ok (.getfield 58, 3) := by decide +kernel
theorem d_Mo_merged_45 : decode b_Mo_merged 45 = .ok (.aload_n 0, 1) := by decide +kernel
theorem d_Mo_merged_46 : decode b_Mo_merged 46 = .ok (.getfield 30, 3) := by decide +kernel
theorem d_Mo_merged_49 : decode b_Mo_merged 49 = .ok (.invokevirtual 150, 3) := by decide +kernel
theorem d_Mo_merged_52 : decode b_Mo_merged 52 = .ok (.aload_n 0, 1) := by decide +kernel
theorem d_Mo_merged_53 : decode b_Mo_merged 53 = .ok (.aload_n 0, 1) := by decide +kernel
theorem d_Mo_merged_54 : decode b_Mo_merged 54 = .ok (.getfield 30, 3) := by decide +kernel
theorem d_Mo_merged_57 : decode b_Mo_merged 57 = .ok (.invokevirtual 136, 3) := by decide +kernel
theorem d_Mo_merged_60 : decode b_Mo_merged 60 = .ok (.ireturn, 1) := by decide +kernel
theorem d_Mo_mergedBest_0 : decode b_Mo_mergedBest 0 = .ok (.aload_n 0, 1) := by decide +kernel
theorem d_Mo_mergedBest_1 : decode b_Mo_mergedBest 1 = .ok (.invokevirtual 180, 3) := by decide +kernel
theorem d_Mo_mergedBest_4 : decode b_Mo_mergedBest 4 = .ok (.aload_n 0, 1) := by decide +kernel
theorem d_Mo_mergedBest_5 : decode b_Mo_mergedBest 5 = .ok (.aload_n 0, 1) := by decide +kernel
theorem d_Mo_mergedBest_6 : decode b_Mo_mergedBest 6 = .ok (.getfield 58, 3) := by decide +kernel
theorem d_Mo_mergedBest_9 : decode b_Mo_mergedBest 9 = .ok (.invokevirtual 146, 3) := by decide +kernel
theorem d_Mo_mergedBest_12 : decode b_Mo_mergedBest 12 = .ok (.lstore_n 1, 1) := by decide +kernel
theorem d_Mo_mergedBest_13 : decode b_Mo_mergedBest 13 = .ok (.iconst 0, 1) := by decide +kernel
theorem d_Mo_mergedBest_14 : decode b_Mo_mergedBest 14 = .ok (.istore_n 3, 1) := by decide +kernel
theorem d_Mo_mergedBest_15 : decode b_Mo_mergedBest 15 = .ok (.iconst 1, 1) := by decide +kernel
theorem d_Mo_mergedBest_16 : decode b_Mo_mergedBest 16 = .ok (.istore 4, 2) := by decide +kernel
theorem d_Mo_mergedBest_18 : decode b_Mo_mergedBest 18 = .ok (.iload 4, 2) := by decide +kernel
theorem d_Mo_mergedBest_20 : decode b_Mo_mergedBest 20 = .ok (.aload_n 0, 1) := by decide +kernel
theorem d_Mo_mergedBest_21 : decode b_Mo_mergedBest 21 = .ok (.getfield 95, 3) := by decide +kernel
theorem d_Mo_mergedBest_24 : decode b_Mo_mergedBest 24 = .ok (.if_icmp .ge 36, 3) := by decide +kernel
theorem d_Mo_mergedBest_27 : decode b_Mo_mergedBest 27 = .ok (.aload_n 0, 1) := by decide +kernel
theorem d_Mo_mergedBest_28 : decode b_Mo_mergedBest 28 = .ok (.invokevirtual 183, 3) := by decide +kernel
theorem d_Mo_mergedBest_31 : decode b_Mo_mergedBest 31 = .ok (.aload_n 0, 1) := by decide +kernel
theorem d_Mo_mergedBest_32 : decode b_Mo_mergedBest 32 = .ok (.aload_n 0, 1) := by decide +kernel
theorem d_Mo_mergedBest_33 : decode b_Mo_mergedBest 33 = .ok (.getfield 58, 3) := by decide +kernel
theorem d_Mo_mergedBest_36 : decode b_Mo_mergedBest 36 = .ok (.invokevirtual 146, 3) := by decide +kernel
theorem d_Mo_mergedBest_39 : decode b_Mo_mergedBest 39 = .ok (.lstore 5, 2) := by decide +kernel
theorem d_Mo_mergedBest_41 : decode b_Mo_mergedBest 41 = .ok (.lload 5, 2) := by decide +kernel
theorem d_Mo_mergedBest_43 : decode b_Mo_mergedBest 43 = .ok (.lload_n 1, 1) := by decide +kernel
theorem d_Mo_mergedBest_44 : decode b_Mo_mergedBest 44 = .ok (.lcmp, 1) := by decide +kernel
theorem d_Mo_mergedBest_45 : decode b_Mo_mergedBest 45 = .ok (.ifCond .le 9, 3) := by decide +kernel
theorem d_Mo_mergedBest_48 : decode b_Mo_mergedBest 48 = .ok (.lload 5, 2) := by decide +kernel
theorem d_Mo_mergedBest_50 : decode b_Mo_mergedBest 50 = .ok (.lstore_n 1, 1) := by decide +kernel
theorem d_Mo_mergedBest_51 : decode b_Mo_mergedBest 51 = .ok (.iload 4, 2) := by decide +kernel
theorem d_Mo_mergedBest_53 : decode b_Mo_mergedBest 53 = .ok (.istore_n 3, 1) := by decide +kernel
theorem d_Mo_mergedBest_54 : decode b_Mo_mergedBest 54 = .ok (.iinc 4 1, 3) := by decide +kernel
theorem d_Mo_mergedBest_57 : decode b_Mo_mergedBest 57 = .ok (.goto (-39), 3) := by decide +kernel
theorem d_Mo_mergedBest_60 : decode b_Mo_mergedBest 60 = .ok (.iload_n 3, 1) := by decide +kernel
theorem d_Mo_mergedBest_61 : decode b_Mo_mergedBest 61 = .ok (.ireturn, 1) := by decide +kernel
theorem d_Mo_round_0 : decode b_Mo_round 0 = .ok (.iconst 0, 1) := by decide +kernel
theorem d_Mo_round_1 : decode b_Mo_round 1 = .ok (.istore_n 1, 1) := by decide +kernel
theorem d_Mo_round_2 : decode b_Mo_round 2 = .ok (.iload_n 1, 1) := by decide +kernel
theorem d_Mo_round_3 : decode b_Mo_round 3 = .ok (.aload_n 0, 1) := by decide +kernel
theorem d_Mo_round_4 : decode b_Mo_round 4 = .ok (.getfield 95, 3) := by decide +kernel
theorem d_Mo_round_7 : decode b_Mo_round 7 = .ok (.if_icmp .ge 16, 3) := by decide +kernel
theorem d_Mo_round_10 : decode b_Mo_round 10 = .ok (.aload_n 0, 1) := by decide +kernel
theorem d_Mo_round_11 : decode b_Mo_round 11 = .ok (.getfield 67, 3) := by decide +kernel
theorem d_Mo_round_14 : decode b_Mo_round 14 = .ok (.iload_n 1, 1) := by decide +kernel
theorem d_Mo_round_15 : decode b_Mo_round 15 = .ok (.iload_n 1, 1) := by decide +kernel
theorem d_Mo_round_16 : decode b_Mo_round 16 = .ok (.iastore, 1) := by decide +kernel
theorem d_Mo_round_17 : decode b_Mo_round 17 = .ok (.iinc 1 1, 3) := by decide +kernel
theorem d_Mo_round_20 : decode b_Mo_round 20 = .ok (.goto (-18), 3) := by decide +kernel
theorem d_Mo_round_23 : decode b_Mo_round 23 = .ok (.aload_n 0, 1) := by decide +kernel
theorem d_Mo_round_24 : decode b_Mo_round 24 = .ok (.getfield 95, 3) := by decide +kernel
theorem d_Mo_round_27 : decode b_Mo_round 27 = .ok (.iconst 1, 1) := by decide +kernel
theorem d_Mo_round_28 : decode b_Mo_round 28 = .ok (.isub, 1) := by decide +kernel
theorem d_Mo_round_29 : decode b_Mo_round 29 = .ok (.istore_n 1, 1) := by decide +kernel
theorem d_Mo_round_30 : decode b_Mo_round 30 = .ok (.iload_n 1, 1) := by decide +kernel
theorem d_Mo_round_31 : decode b_Mo_round 31 = .ok (.ifCond .le 60, 3) := by decide +kernel
theorem d_Mo_round_34 : decode b_Mo_round 34 = .ok (.aload_n 0, 1) := by decide +kernel
theorem d_Mo_round_35 : decode b_Mo_round 35 = .ok (.aload_n 0, 1) := by decide +kernel
theorem d_Mo_round_36 : decode b_Mo_round 36 = .ok (.getfield 186, 3) := by decide +kernel
theorem d_Mo_round_39 : decode b_Mo_round 39 = .ok (.ldc 189, 2) := by decide +kernel
theorem d_Mo_round_41 : decode b_Mo_round 41 = .ok (.imul, 1) := by decide +kernel
theorem d_Mo_round_42 : decode b_Mo_round 42 = .ok (.ldc 190, 2) := by decide +kernel
theorem d_Mo_round_44 : decode b_Mo_round 44 = .ok (.iadd, 1) := by decide +kernel
theorem d_Mo_round_45 : decode b_Mo_round 45 = .ok (.putfield 186, 3) := by decide +kernel
theorem d_Mo_round_48 : decode b_Mo_round 48 = .ok (.aload_n 0, 1) := by decide +kernel
theorem d_Mo_round_49 : decode b_Mo_round 49 = .ok (.getfield 186, 3) := by decide +kernel
theorem d_Mo_round_52 : decode b_Mo_round 52 = .ok (.iconst 1, 1) := by decide +kernel
theorem d_Mo_round_53 : decode b_Mo_round 53 = .ok (.iushr, 1) := by decide +kernel
theorem d_Mo_round_54 : decode b_Mo_round 54 = .ok (.iload_n 1, 1) := by decide +kernel
theorem d_Mo_round_55 : decode b_Mo_round 55 = .ok (.iconst 1, 1) := by decide +kernel
theorem d_Mo_round_56 : decode b_Mo_round 56 = .ok (.iadd, 1) := by decide +kernel
theorem d_Mo_round_57 : decode b_Mo_round 57 = .ok (.irem, 1) := by decide +kernel
theorem d_Mo_round_58 : decode b_Mo_round 58 = .ok (.istore_n 2, 1) := by decide +kernel
theorem d_Mo_round_59 : decode b_Mo_round 59 = .ok (.aload_n 0, 1) := by decide +kernel
theorem d_Mo_round_60 : decode b_Mo_round 60 = .ok (.getfield 67, 3) := by decide +kernel
theorem d_Mo_round_63 : decode b_Mo_round 63 = .ok (.iload_n 1, 1) := by decide +kernel
theorem d_Mo_round_64 : decode b_Mo_round 64 = .ok (.iaload, 1) := by decide +kernel
theorem d_Mo_round_65 : decode b_Mo_round 65 = .ok (.istore_n 3, 1) := by decide +kernel
theorem d_Mo_round_66 : decode b_Mo_round 66 = .ok (.aload_n 0, 1) := by decide +kernel
theorem d_Mo_round_67 : decode b_Mo_round 67 = .ok (.getfield 67, 3) := by decide +kernel
theorem d_Mo_round_70 : decode b_Mo_round 70 = .ok (.iload_n 1, 1) := by decide +kernel
theorem d_Mo_round_71 : decode b_Mo_round 71 = .ok (.aload_n 0, 1) := by decide +kernel
theorem d_Mo_round_72 : decode b_Mo_round 72 = .ok (.getfield 67, 3) := by decide +kernel
theorem d_Mo_round_75 : decode b_Mo_round 75 = .ok (.iload_n 2, 1) := by decide +kernel
theorem d_Mo_round_76 : decode b_Mo_round 76 = .ok (.iaload, 1) := by decide +kernel
theorem d_Mo_round_77 : decode b_Mo_round 77 = .ok (.iastore, 1) := by decide +kernel
theorem d_Mo_round_78 : decode b_Mo_round 78 = .ok (.aload_n 0, 1) := by decide +kernel
theorem d_Mo_round_79 : decode b_Mo_round 79 = .ok (.getfield 67, 3) := by decide +kernel
theorem d_Mo_round_82 : decode b_Mo_round 82 = .ok (.iload_n 2, 1) := by decide +kernel
theorem d_Mo_round_83 : decode b_Mo_round 83 = .ok (.iload_n 3, 1) := by decide +kernel
theorem d_Mo_round_84 : decode b_Mo_round 84 = .ok (.iastore, 1) := by decide +kernel
theorem d_Mo_round_85 : decode b_Mo_round 85 = .ok (.iinc 1 (-1), 3) := by decide +kernel
theorem d_Mo_round_88 : decode b_Mo_round 88 = .ok (.goto (-58), 3) := by decide +kernel
theorem d_Mo_round_91 : decode b_Mo_round 91 = .ok (.iconst 0, 1) := by decide +kernel
theorem d_Mo_round_92 : decode b_Mo_round 92 = .ok (.istore_n 1, 1) := by decide +kernel
theorem d_Mo_round_93 : decode b_Mo_round 93 = .ok (.iconst 0, 1) := by decide +kernel
theorem d_Mo_round_94 : decode b_Mo_round 94 = .ok (.istore_n 2, 1) := by decide +kernel
theorem d_Mo_round_95 : decode b_Mo_round 95 = .ok (.iload_n 2, 1) := by decide +kernel
theorem d_Mo_round_96 : decode b_Mo_round 96 = .ok (.aload_n 0, 1) := by decide +kernel
theorem d_Mo_round_97 : decode b_Mo_round 97 = .ok (.getfield 95, 3) := by decide +kernel
theorem d_Mo_round_100 : decode b_Mo_round 100 = .ok (.if_icmp .ge 52, 3) := by decide +kernel
theorem d_Mo_round_103 : decode b_Mo_round 103 = .ok (.aload_n 0, 1) := by decide +kernel
theorem d_Mo_round_104 : decode b_Mo_round 104 = .ok (.getfield 67, 3) := by decide +kernel
theorem d_Mo_round_107 : decode b_Mo_round 107 = .ok (.iload_n 2, 1) := by decide +kernel
theorem d_Mo_round_108 : decode b_Mo_round 108 = .ok (.iaload, 1) := by decide +kernel
theorem d_Mo_round_109 : decode b_Mo_round 109 = .ok (.istore_n 3, 1) := by decide +kernel
theorem d_Mo_round_110 : decode b_Mo_round 110 = .ok (.aload_n 0, 1) := by decide +kernel
theorem d_Mo_round_111 : decode b_Mo_round 111 = .ok (.iload_n 3, 1) := by decide +kernel
theorem d_Mo_round_112 : decode b_Mo_round 112 = .ok (.invokevirtual 191, 3) := by decide +kernel
theorem d_Mo_round_115 : decode b_Mo_round 115 = .ok (.istore 4, 2) := by decide +kernel
theorem d_Mo_round_117 : decode b_Mo_round 117 = .ok (.iload_n 1, 1) := by decide +kernel
theorem d_Mo_round_118 : decode b_Mo_round 118 = .ok (.ifCond .ne 14, 3) := by decide +kernel
theorem d_Mo_round_121 : decode b_Mo_round 121 = .ok (.iload 4, 2) := by decide +kernel
theorem d_Mo_round_123 : decode b_Mo_round 123 = .ok (.aload_n 0, 1) := by decide +kernel
theorem d_Mo_round_124 : decode b_Mo_round 124 = .ok (.getfield 70, 3) := by decide +kernel
theorem d_Mo_round_127 : decode b_Mo_round 127 = .ok (.iload_n 3, 1) := by decide +kernel
theorem d_Mo_round_128 : decode b_Mo_round 128 = .ok (.iaload, 1) := by decide +kernel
theorem d_Mo_round_129 : decode b_Mo_round 129 = .ok (.if_icmp .eq 7, 3) := by decide +kernel
theorem d_Mo_round_132 : decode b_Mo_round 132 = .ok (.iconst 1, 1) := by decide +kernel
theorem d_Mo_round_133 : decode b_Mo_round 133 = .ok (.goto 4, 3) := by decide +kernel
theorem d_Mo_round_136 : decode b_Mo_round 136 = .ok (.iconst 0, 1) := by decide +kernel
theorem d_Mo_round_137 : decode b_Mo_round 137 = .ok (.istore_n 1, 1) := by decide +kernel
theorem d_Mo_round_138 : decode b_Mo_round 138 = .ok (.aload_n 0, 1) := by decide +kernel
theorem d_Mo_round_139 : decode b_Mo_round 139 = .ok (.getfield 70, 3) := by decide +kernel
theorem d_Mo_round_142 : decode b_Mo_round 142 = .ok (.iload_n 3, 1) := by decide +kernel
theorem d_Mo_round_143 : decode b_Mo_round 143 = .ok (.iload 4, 2) := by decide +kernel
theorem d_Mo_round_145 : decode b_Mo_round 145 = .ok (.iastore, 1) := by decide +kernel
theorem d_Mo_round_146 : decode b_Mo_round 146 = .ok (.iinc 2 1, 3) := by decide +kernel
theorem d_Mo_round_149 : decode b_Mo_round 149 = .ok (.goto (-54), 3) := by decide +kernel
theorem d_Mo_round_152 : decode b_Mo_round 152 = .ok (.iload_n 1, 1) := by decide +kernel
theorem d_Mo_round_153 : decode b_Mo_round 153 = .ok (.ireturn, 1) := by decide +kernel
theorem d_Mo_wanted_0 : decode b_Mo_wanted 0 = .ok (.iconst 0, 1) := by decide +kernel
theorem d_Mo_wanted_1 : decode b_Mo_wanted 1 = .ok (.istore_n 2, 1) := by decide +kernel
theorem d_Mo_wanted_2 : decode b_Mo_wanted 2 = .ok (.iconst 0, 1) := by decide +kernel
theorem d_Mo_wanted_3 : decode b_Mo_wanted 3 = .ok (.istore_n 3, 1) := by decide +kernel
theorem d_Mo_wanted_4 : decode b_Mo_wanted 4 = .ok (.aload_n 0, 1) := by decide +kernel
theorem d_Mo_wanted_5 : decode b_Mo_wanted 5 = .ok (.getfield 70, 3) := by decide +kernel
theorem d_Mo_wanted_8 : decode b_Mo_wanted 8 = .ok (.iload_n 1, 1) := by decide +kernel
theorem d_Mo_wanted_9 : decode b_Mo_wanted 9 = .ok (.iaload, 1) := by decide +kernel
theorem d_Mo_wanted_10 : decode b_Mo_wanted 10 = .ok (.istore 4, 2) := by decide +kernel
theorem d_Mo_wanted_12 : decode b_Mo_wanted 12 = .ok (.iconst 0, 1) := by decide +kernel
theorem d_Mo_wanted_13 : decode b_Mo_wanted 13 = .ok (.istore 5, 2) := by decide +kernel
theorem d_Mo_wanted_15 : decode b_Mo_wanted 15 = .ok (.iload 5, 2) := by decide +kernel
theorem d_Mo_wanted_17 : decode b_Mo_wanted 17 = .ok (.aload_n 0, 1) := by decide +kernel
theorem d_Mo_wanted_18 : decode b_Mo_wanted 18 = .ok (.getfield 95, 3) := by decide +kernel
theorem d_Mo_wanted_21 : decode b_Mo_wanted 21 = .ok (.if_icmp .ge 121, 3) := by decide +kernel
theorem d_Mo_wanted_24 : decode b_Mo_wanted 24 = .ok (.iconst 0, 1) := by decide +kernel
theorem d_Mo_wanted_25 : decode b_Mo_wanted 25 = .ok (.istore 6, 2) := by decide +kernel
theorem d_Mo_wanted_27 : decode b_Mo_wanted 27 = .ok (.iconst 0, 1) := by decide +kernel
theorem d_Mo_wanted_28 : decode b_Mo_wanted 28 = .ok (.istore 7, 2) := by decide +kernel
theorem d_Mo_wanted_30 : decode b_Mo_wanted 30 = .ok (.iconst 0, 1) := by decide +kernel
theorem d_Mo_wanted_31 : decode b_Mo_wanted 31 = .ok (.istore 8, 2) := by decide +kernel
theorem d_Mo_wanted_33 : decode b_Mo_wanted 33 = .ok (.iload 8, 2) := by decide +kernel
theorem d_Mo_wanted_35 : decode b_Mo_wanted 35 = .ok (.aload_n 0, 1) := by decide +kernel
theorem d_Mo_wanted_36 : decode b_Mo_wanted 36 = .ok (.getfield 95, 3) := by decide +kernel
theorem d_Mo_wanted_39 : decode b_Mo_wanted 39 = .ok (.if_icmp .ge 56, 3) := by decide +kernel
theorem d_Mo_wanted_42 : decode b_Mo_wanted 42 = .ok (.aload_n 0, 1) := by decide +kernel
theorem d_Mo_wanted_43 : decode b_Mo_wanted 43 = .ok (.getfield 36, 3) := by decide +kernel
theorem d_Mo_wanted_46 : decode b_Mo_wanted 46 = .ok (.bipush 9, 2) := by decide +kernel
theorem d_Mo_wanted_48 : decode b_Mo_wanted 48 = .ok (.iload_n 1, 1) := by decide +kernel
theorem d_Mo_wanted_49 : decode b_Mo_wanted 49 = .ok (.imul, 1) := by decide +kernel
theorem d_Mo_wanted_50 : decode b_Mo_wanted 50 = .ok (.iload 8, 2) := by decide +kernel
theorem d_Mo_wanted_52 : decode b_Mo_wanted 52 = .ok (.iadd, 1) := by decide +kernel
theorem d_Mo_wanted_53 : decode b_Mo_wanted 53 = .ok (.baload, 1) := by decide +kernel
theorem d_Mo_wanted_54 : decode b_Mo_wanted 54 = .ok (.ifCond .eq 35, 3) := by decide +kernel
theorem d_Mo_wanted_57 : decode b_Mo_wanted 57 = .ok (.aload_n 0, 1) := by decide +kernel
theorem d_Mo_wanted_58 : decode b_Mo_wanted 58 = .ok (.getfield 70, 3) := by decide +kernel
theorem d_Mo_wanted_61 : decode b_Mo_wanted 61 = .ok (.iload 8, 2) := by decide +kernel
theorem d_Mo_wanted_63 : decode b_Mo_wanted 63 = .ok (.iaload, 1) := by decide +kernel
theorem d_Mo_wanted_64 : decode b_Mo_wanted 64 = .ok (.iload 5, 2) := by decide +kernel
theorem d_Mo_wanted_66 : decode b_Mo_wanted 66 = .ok (.if_icmp .ne 23, 3) := by decide +kernel
theorem d_Mo_wanted_69 : decode b_Mo_wanted 69 = .ok (.iconst 1, 1) := by decide +kernel
theorem d_Mo_wanted_70 : decode b_Mo_wanted 70 = .ok (.istore 6, 2) := by decide +kernel
theorem d_Mo_wanted_72 : decode b_Mo_wanted 72 = .ok (.iload 7, 2) := by decide +kernel
theorem d_Mo_wanted_74 : decode b_Mo_wanted 74 = .ok (.aload_n 0, 1) := by decide +kernel
theorem d_Mo_wanted_75 : decode b_Mo_wanted 75 = .ok (.getfield 33, 3) := by decide +kernel
theorem d_Mo_wanted_78 : decode b_Mo_wanted 78 = .ok (.bipush 9, 2) := by decide +kernel
theorem d_Mo_wanted_80 : decode b_Mo_wanted 80 = .ok (.iload_n 1, 1) := by decide +kernel
theorem d_Mo_wanted_81 : decode b_Mo_wanted 81 = .ok (.imul, 1) := by decide +kernel
theorem d_Mo_wanted_82 : decode b_Mo_wanted 82 = .ok (.iload 8, 2) := by decide +kernel
theorem d_Mo_wanted_84 : decode b_Mo_wanted 84 = .ok (.iadd, 1) := by decide +kernel
theorem d_Mo_wanted_85 : decode b_Mo_wanted 85 = .ok (.iaload, 1) := by decide +kernel
theorem d_Mo_wanted_86 : decode b_Mo_wanted 86 = .ok (.iadd, 1) := by decide +kernel
theorem d_Mo_wanted_87 : decode b_Mo_wanted 87 = .ok (.istore 7, 2) := by decide +kernel
theorem d_Mo_wanted_89 : decode b_Mo_wanted 89 = .ok (.iinc 8 1, 3) := by decide +kernel
theorem d_Mo_wanted_92 : decode b_Mo_wanted 92 = .ok (.goto (-59), 3) := by decide +kernel
theorem d_Mo_wanted_95 : decode b_Mo_wanted 95 = .ok (.iload 6, 2) := by decide +kernel
theorem d_Mo_wanted_97 : decode b_Mo_wanted 97 = .ok (.ifCond .eq 39, 3) := by decide +kernel
theorem d_Mo_wanted_100 : decode b_Mo_wanted 100 = .ok (.iload_n 2, 1) := by decide +kernel
theorem d_Mo_wanted_101 : decode b_Mo_wanted 101 = .ok (.ifCond .eq 26, 3) := by decide +kernel
theorem d_Mo_wanted_104 : decode b_Mo_wanted 104 = .ok (.iload 7, 2) := by decide +kernel
theorem d_Mo_wanted_106 : decode b_Mo_wanted 106 = .ok (.iload_n 3, 1) := by decide +kernel
theorem d_Mo_wanted_107 : decode b_Mo_wanted 107 = .ok (.if_icmp .gt 20, 3) := by decide +kernel
theorem d_Mo_wanted_110 : decode b_Mo_wanted 110 = .ok (.iload 7, 2) := by decide +kernel
theorem d_Mo_wanted_112 : decode b_Mo_wanted 112 = .ok (.iload_n 3, 1) := by decide +kernel
theorem d_Mo_wanted_113 : decode b_Mo_wanted 113 = .ok (.if_icmp .ne 23, 3) := by decide +kernel
theorem d_Mo_wanted_116 : decode b_Mo_wanted 116 = .ok (.iload 5, 2) := by decide +kernel
theorem d_Mo_wanted_118 : decode b_Mo_wanted 118 = .ok (.aload_n 0, 1) := by decide +kernel
theorem d_Mo_wanted_119 : decode b_Mo_wanted 119 = .ok (.getfield 70, 3) := by decide +kernel
theorem d_Mo_wanted_122 : decode b_Mo_wanted 122 = .ok (.iload_n 1, 1) := by decide +kernel
theorem d_Mo_wanted_123 : decode b_Mo_wanted 123 = .ok (.iaload, 1) := by decide +kernel
theorem d_Mo_wanted_124 : decode b_Mo_wanted 124 = .ok (.if_icmp .ne 12, 3) := by decide +kernel
theorem d_Mo_wanted_127 : decode b_Mo_wanted 127 = .ok (.iconst 1, 1) := by decide +kernel
theorem d_Mo_wanted_128 : decode b_Mo_wanted 128 = .ok (.istore_n 2, 1) := by decide +kernel
theorem d_Mo_wanted_129 : decode b_Mo_wanted 129 = .ok (.iload 7, 2) := by decide +kernel
theorem d_Mo_wanted_131 : decode b_Mo_wanted 131 = .ok (.istore_n 3, 1) := by decide +kernel
theorem d_Mo_wanted_132 : decode b_Mo_wanted 132 = .ok (.iload 5, 2) := by decide +kernel
theorem d_Mo_wanted_134 : decode b_Mo_wanted 134 = .ok (.istore 4, 2) := by decide +kernel
theorem d_Mo_wanted_136 : decode b_Mo_wanted 136 = .ok (.iinc 5 1, 3) := by decide +kernel
theorem d_Mo_wanted_139 : decode b_Mo_wanted 139 = .ok (.goto (-124), 3) := by decide +kernel
theorem d_Mo_wanted_142 : decode b_Mo_wanted 142 = .ok (.iload 4, 2) := by decide +kernel
theorem d_Mo_wanted_144 : decode b_Mo_wanted 144 = .ok (.ireturn, 1) := by decide +kernel
theorem d_Mo_spread_0 : decode b_Mo_spread 0 = .ok (.aload_n 0, 1) := by decide +kernel
theorem d_Mo_spread_1 : decode b_Mo_spread 1 = .ok (.invokevirtual 143, 3) := by decide +kernel
theorem d_Mo_spread_4 : decode b_Mo_spread 4 = .ok (.aload_n 0, 1) := by decide +kernel
theorem d_Mo_spread_5 : decode b_Mo_spread 5 = .ok (.iload_n 1, 1) := by decide +kernel
theorem d_Mo_spread_6 : decode b_Mo_spread 6 = .ok (.putfield 186, 3) := by decide +kernel
theorem d_Mo_spread_9 : decode b_Mo_spread 9 = .ok (.iconst 0, 1) := by decide +kernel
theorem d_Mo_spread_10 : decode b_Mo_spread 10 = .ok (.istore_n 2, 1) := by decide +kernel
theorem d_Mo_spread_11 : decode b_Mo_spread 11 = .ok (.iload_n 2, 1) := by decide +kernel
theorem d_Mo_spread_12 : decode b_Mo_spread 12 = .ok (.aload_n 0, 1) := by decide +kernel
theorem d_Mo_spread_13 : decode b_Mo_spread 13 = .ok (.getfield 95, 3) := by decide +kernel
theorem d_Mo_spread_16 : decode b_Mo_spread 16 = .ok (.if_icmp .ge 16, 3) := by decide +kernel
theorem d_Mo_spread_19 : decode b_Mo_spread 19 = .ok (.aload_n 0, 1) := by decide +kernel
theorem d_Mo_spread_20 : decode b_Mo_spread 20 = .ok (.getfield 70, 3) := by decide +kernel
theorem d_Mo_spread_23 : decode b_Mo_spread 23 = .ok (.iload_n 2, 1) := by decide +kernel
theorem d_Mo_spread_24 : decode b_Mo_spread 24 = .ok (.iload_n 2, 1) := by decide +kernel
theorem d_Mo_spread_25 : decode b_Mo_spread 25 = .ok (.iastore, 1) := by decide +kernel
theorem d_Mo_spread_26 : decode b_Mo_spread 26 = .ok (.iinc 2 1, 3) := by decide +kernel
theorem d_Mo_spread_29 : decode b_Mo_spread 29 = .ok (.goto (-18), 3) := by decide +kernel
theorem d_Mo_spread_32 : decode b_Mo_spread 32 = .ok (.iconst 1, 1) := by decide +kernel
theorem d_Mo_spread_33 : decode b_Mo_spread 33 = .ok (.istore_n 2, 1) := by decide +kernel
theorem d_Mo_spread_34 : decode b_Mo_spread 34 = .ok (.aload_n 0, 1) := by decide +kernel
theorem d_Mo_spread_35 : decode b_Mo_spread 35 = .ok (.invokevirtual 195, 3) := by decide +kernel
theorem d_Mo_spread_38 : decode b_Mo_spread 38 = .ok (.ifCond .eq 15, 3) := by decide +kernel
theorem d_Mo_spread_41 : decode b_Mo_spread 41 = .ok (.iload_n 2, 1) := by decide +kernel
theorem d_Mo_spread_42 : decode b_Mo_spread 42 = .ok (.bipush 20, 2) := by decide +kernel
theorem d_Mo_spread_44 : decode b_Mo_spread 44 = .ok (.if_icmp .ge 9, 3) := by decide +kernel
theorem d_Mo_spread_47 : decode b_Mo_spread 47 = .ok (.iinc 2 1, 3) := by decide +kernel
theorem d_Mo_spread_50 : decode b_Mo_spread 50 = .ok (.goto (-16), 3) := by decide +kernel
theorem d_Mo_spread_53 : decode b_Mo_spread 53 = .ok (.iload_n 2, 1) := by decide +kernel
theorem d_Mo_spread_54 : decode b_Mo_spread 54 = .ok (.ireturn, 1) := by decide +kernel
theorem d_Mo_labels_0 : decode b_Mo_labels 0 = .ok (.aload_n 0, 1) := by decide +kernel
theorem d_Mo_labels_1 : decode b_Mo_labels 1 = .ok (.iload_n 1, 1) := by decide +kernel
theorem d_Mo_labels_2 : decode b_Mo_labels 2 = .ok (.invokevirtual 198, 3) := by decide +kernel
theorem d_Mo_labels_5 : decode b_Mo_labels 5 = .ok (.istore_n 2, 1) := by decide +kernel
theorem d_Mo_labels_6 : decode b_Mo_labels 6 = .ok (.aload_n 0, 1) := by decide +kernel
theorem d_Mo_labels_7 : decode b_Mo_labels 7 = .ok (.aload_n 0, 1) := by decide +kernel
theorem d_Mo_labels_8 : decode b_Mo_labels 8 = .ok (.getfield 70, 3) := by decide +kernel
theorem d_Mo_labels_11 : decode b_Mo_labels 11 = .ok (.aload_n 0, 1) := by decide +kernel
theorem d_Mo_labels_12 : decode b_Mo_labels 12 = .ok (.getfield 30, 3) := by decide +kernel
theorem d_Mo_labels_15 : decode b_Mo_labels 15 = .ok (.invokevirtual 150, 3) := by decide +kernel
theorem d_Mo_labels_18 : decode b_Mo_labels 18 = .ok (.aload_n 0, 1) := by decide +kernel
theorem d_Mo_labels_19 : decode b_Mo_labels 19 = .ok (.aload_n 0, 1) := by decide +kernel
theorem d_Mo_labels_20 : decode b_Mo_labels 20 = .ok (.getfield 30, 3) := by decide +kernel
theorem d_Mo_labels_23 : decode b_Mo_labels 23 = .ok (.invokevirtual 136, 3) := by decide +kernel
theorem d_Mo_labels_26 : decode b_Mo_labels 26 = .ok (.istore_n 3, 1) := by decide +kernel
theorem d_Mo_labels_27 : decode b_Mo_labels 27 = .ok (.iload_n 2, 1) := by decide +kernel
theorem d_Mo_labels_28 : decode b_Mo_labels 28 = .ok (.ireturn, 1) := by decide +kernel
theorem d_Mo_together_0 : decode b_Mo_together 0 = .ok (.aload_n 0, 1) := by decide +kernel
theorem d_Mo_together_1 : decode b_Mo_together 1 = .ok (.iload_n 1, 1) := by decide +kernel
theorem d_Mo_together_2 : decode b_Mo_together 2 = .ok (.invokevirtual 101, 3) := by decide +kernel
theorem d_Mo_together_5 : decode b_Mo_together 5 = .ok (.ifCond .eq 11, 3) := by decide +kernel
theorem d_Mo_together_8 : decode b_Mo_together 8 = .ok (.aload_n 0, 1) := by decide +kernel
theorem d_Mo_together_9 : decode b_Mo_together 9 = .ok (.iload_n 2, 1) := by decide +kernel
theorem d_Mo_together_10 : decode b_Mo_together 10 = .ok (.invokevirtual 101, 3) := by decide +kernel
theorem d_Mo_together_13 : decode b_Mo_together 13 = .ok (.ifCond .ne 5, 3) := by decide +kernel
theorem d_Mo_together_16 : decode b_Mo_together 16 = .ok (.iconst (-1), 1) := by decide +kernel
theorem d_Mo_together_17 : decode b_Mo_together 17 = .ok (.ireturn, 1) := by decide +kernel
theorem d_Mo_together_18 : decode b_Mo_together 18 = .ok (.iconst 0, 1) := by decide +kernel
theorem d_Mo_together_19 : decode b_Mo_together 19 = .ok (.istore_n 3, 1) := by decide +kernel
theorem d_Mo_together_20 : decode b_Mo_together 20 = .ok (.iconst 0, 1) := by decide +kernel
theorem d_Mo_together_21 : decode b_Mo_together 21 = .ok (.istore 4, 2) := by decide +kernel
theorem d_Mo_together_23 : decode b_Mo_together 23 = .ok (.iload 4, 2) := by decide +kernel
theorem d_Mo_together_25 : decode b_Mo_together 25 = .ok (.bipush 20, 2) := by decide +kernel
theorem d_Mo_together_27 : decode b_Mo_together 27 = .ok (.if_icmp .ge 40, 3) := by decide +kernel
theorem d_Mo_together_30 : decode b_Mo_together 30 = .ok (.aload_n 0, 1) := by decide +kernel
theorem d_Mo_together_31 : decode b_Mo_together 31 = .ok (.iload 4, 2) := by decide +kernel
theorem d_Mo_together_33 : decode b_Mo_together 33 = .ok (.invokevirtual 198, 3) := by decide +kernel
theorem d_Mo_together_36 : decode b_Mo_together 36 = .ok (.istore 5, 2) := by decide +kernel
theorem d_Mo_together_38 : decode b_Mo_together 38 = .ok (.iload_n 3, 1) := by decide +kernel
theorem d_Mo_together_39 : decode b_Mo_together 39 = .ok (.aload_n 0, 1) := by decide +kernel
theorem d_Mo_together_40 : decode b_Mo_together 40 = .ok (.getfield 70, 3) := by decide +kernel
theorem d_Mo_together_43 : decode b_Mo_together 43 = .ok (.iload_n 1, 1) := by decide +kernel
theorem d_Mo_together_44 : decode b_Mo_together 44 = .ok (.iaload, 1) := by decide +kernel
theorem d_Mo_together_45 : decode b_Mo_together 45 = .ok (.aload_n 0, 1) := by decide +kernel
theorem d_Mo_together_46 : decode b_Mo_together 46 = .ok (.getfield 70, 3) := by decide +kernel
theorem d_Mo_together_49 : decode b_Mo_together 49 = .ok (.iload_n 2, 1) := by decide +kernel
theorem d_Mo_together_50 : decode b_Mo_together 50 = .ok (.iaload, 1) := by decide +kernel
theorem d_Mo_together_51 : decode b_Mo_together 51 = .ok (.if_icmp .ne 7, 3) := by decide +kernel
theorem d_Mo_together_54 : decode b_Mo_together 54 = .ok (.iconst 1, 1) := by decide +kernel
theorem d_Mo_together_55 : decode b_Mo_together 55 = .ok (.goto 4, 3) := by decide +kernel
theorem d_Mo_together_58 : decode b_Mo_together 58 = .ok (.iconst 0, 1) := by decide +kernel
theorem d_Mo_together_59 : decode b_Mo_together 59 = .ok (.iadd, 1) := by decide +kernel
theorem d_Mo_together_60 : decode b_Mo_together 60 = .ok (.istore_n 3, 1) := by decide +kernel
theorem d_Mo_together_61 : decode b_Mo_together 61 = .ok (.iinc 4 1, 3) := by decide +kernel
theorem d_Mo_together_64 : decode b_Mo_together 64 = .ok (.goto (-41), 3) := by decide +kernel
theorem d_Mo_together_67 : decode b_Mo_together 67 = .ok (.iload_n 3, 1) := by decide +kernel
theorem d_Mo_together_68 : decode b_Mo_together 68 = .ok (.ireturn, 1) := by decide +kernel
theorem d_Mo_show_0 : decode b_Mo_show 0 = .ok (.aload_n 0, 1) := by decide +kernel
theorem d_Mo_show_1 : decode b_Mo_show 1 = .ok (.getfield 82, 3) := by decide +kernel
theorem d_Mo_show_4 : decode b_Mo_show 4 = .ok (.iload_n 1, 1) := by decide +kernel
theorem d_Mo_show_5 : decode b_Mo_show 5 = .ok (.lconst 0, 1) := by decide +kernel
theorem d_Mo_show_6 : decode b_Mo_show 6 = .ok (.lastore, 1) := by decide +kernel
theorem d_Mo_show_7 : decode b_Mo_show 7 = .ok (.iconst 0, 1) := by decide +kernel
theorem d_Mo_show_8 : decode b_Mo_show 8 = .ok (.istore_n 2, 1) := by decide +kernel
theorem d_Mo_show_9 : decode b_Mo_show 9 = .ok (.iload_n 2, 1) := by decide +kernel
theorem d_Mo_show_10 : decode b_Mo_show 10 = .ok (.aload_n 0, 1) := by decide +kernel
theorem d_Mo_show_11 : decode b_Mo_show 11 = .ok (.getfield 95, 3) := by decide +kernel
theorem d_Mo_show_14 : decode b_Mo_show 14 = .ok (.if_icmp .ge 29, 3) := by decide +kernel
theorem d_Mo_show_17 : decode b_Mo_show 17 = .ok (.aload_n 0, 1) := by decide +kernel
theorem d_Mo_show_18 : decode b_Mo_show 18 = .ok (.getfield 82, 3) := by decide +kernel
theorem d_Mo_show_21 : decode b_Mo_show 21 = .ok (.iload_n 1, 1) := by decide +kernel
theorem d_Mo_show_22 : decode b_Mo_show 22 = .ok (.dup2, 1) := by decide +kernel
theorem d_Mo_show_23 : decode b_Mo_show 23 = .ok (.laload, 1) := by decide +kernel
theorem d_Mo_show_24 : decode b_Mo_show 24 = .ok (.aload_n 0, 1) := by decide +kernel
theorem d_Mo_show_25 : decode b_Mo_show 25 = .ok (.getfield 73, 3) := by decide +kernel
theorem d_Mo_show_28 : decode b_Mo_show 28 = .ok (.iload_n 2, 1) := by decide +kernel
theorem d_Mo_show_29 : decode b_Mo_show 29 = .ok (.iaload, 1) := by decide +kernel
theorem d_Mo_show_30 : decode b_Mo_show 30 = .ok (.i2l, 1) := by decide +kernel
theorem d_Mo_show_31 : decode b_Mo_show 31 = .ok (.iconst 4, 1) := by decide +kernel
theorem d_Mo_show_32 : decode b_Mo_show 32 = .ok (.iload_n 2, 1) := by decide +kernel
theorem d_Mo_show_33 : decode b_Mo_show 33 = .ok (.imul, 1) := by decide +kernel
theorem d_Mo_show_34 : decode b_Mo_show 34 = .ok (.lshl, 1) := by decide +kernel
theorem d_Mo_show_35 : decode b_Mo_show 35 = .ok (.lor, 1) := by decide +kernel
theorem d_Mo_show_36 : decode b_Mo_show 36 = .ok (.lastore, 1) := by decide +kernel
theorem d_Mo_show_37 : decode b_Mo_show 37 = .ok (.iinc 2 1, 3) := by decide +kernel
theorem d_Mo_show_40 : decode b_Mo_show 40 = .ok (.goto (-31), 3) := by decide +kernel
theorem d_Mo_show_43 : decode b_Mo_show 43 = .ok (.return_, 1) := by decide +kernel
theorem d_Mo_findPlateaus_0 : decode b_Mo_findPlateaus 0 = .ok (.aload_n 0, 1) := by decide +kernel
theorem d_Mo_findPlateaus_1 : decode b_Mo_findPlateaus 1 = .ok (.getfield 92, 3) := by decide +kernel
theorem d_Mo_findPlateaus_4 : decode b_Mo_findPlateaus 4 = .ok (.ifCond .eq 4, 3) := by decide +kernel
theorem d_Mo_findPlateaus_7 : decode b_Mo_findPlateaus 7 = .ok (.return_, 1) := by decide +kernel
theorem d_Mo_findPlateaus_8 : decode b_Mo_findPlateaus 8 = .ok (.aload_n 0, 1) := by decide +kernel
theorem d_Mo_findPlateaus_9 : decode b_Mo_findPlateaus 9 = .ok (.iconst 1, 1) := by decide +kernel
theorem d_Mo_findPlateaus_10 : decode b_Mo_findPlateaus 10 = .ok (.putfield 92, 3) := by decide +kernel
theorem d_Mo_findPlateaus_13 : decode b_Mo_findPlateaus 13 = .ok (.aload_n 0, 1) := by decide +kernel
theorem d_Mo_findPlateaus_14 : decode b_Mo_findPlateaus 14 = .ok (.invokevirtual 143, 3) := by decide +kernel
theorem d_Mo_findPlateaus_17 : decode b_Mo_findPlateaus 17 = .ok (.aload_n 0, 1) := by decide +kernel
theorem d_Mo_findPlateaus_18 : decode b_Mo_findPlateaus 18 = .ok (.invokevirtual 164, 3) := by decide +kernel
theorem d_Mo_findPlateaus_21 : decode b_Mo_findPlateaus 21 = .ok (.aload_n 0, 1) := by decide +kernel
theorem d_Mo_findPlateaus_22 : decode b_Mo_findPlateaus 22 = .ok (.aload_n 0, 1) := by decide +kernel
theorem d_Mo_findPlateaus_23 : decode b_Mo_findPlateaus 23 = .ok (.getfield 55, 3) := by decide +kernel
theorem d_Mo_findPlateaus_26 : decode b_Mo_findPlateaus 26 = .ok (.invokevirtual 128, 3) := by decide +kernel
theorem d_Mo_findPlateaus_29 : decode b_Mo_findPlateaus 29 = .ok (.aload_n 0, 1) := by decide +kernel
theorem d_Mo_findPlateaus_30 : decode b_Mo_findPlateaus 30 = .ok (.getfield 120, 3) := by decide +kernel
theorem d_Mo_findPlateaus_33 : decode b_Mo_findPlateaus 33 = .ok (.lstore_n 1, 1) := by decide +kernel
theorem d_Mo_findPlateaus_34 : decode b_Mo_findPlateaus 34 = .ok (.aload_n 0, 1) := by decide +kernel
theorem d_Mo_findPlateaus_35 : decode b_Mo_findPlateaus 35 = .ok (.getfield 123, 3) := by decide +kernel
theorem d_Mo_findPlateaus_38 : decode b_Mo_findPlateaus 38 = .ok (.lstore_n 3, 1) := by decide +kernel
theorem d_Mo_findPlateaus_39 : decode b_Mo_findPlateaus 39 = .ok (.aload_n 0, 1) := by decide +kernel
theorem d_Mo_findPlateaus_40 : decode b_Mo_findPlateaus 40 = .ok (.aload_n 0, 1) := by decide +kernel
theorem d_Mo_findPlateaus_41 : decode b_Mo_findPlateaus 41 = .ok (.getfield 55, 3) := by decide +kernel
theorem d_Mo_findPlateaus_44 : decode b_Mo_findPlateaus 44 = .ok (.aload_n 0, 1) := by decide +kernel
theorem d_Mo_findPlateaus_45 : decode b_Mo_findPlateaus 45 = .ok (.getfield 73, 3) := by decide +kernel
theorem d_Mo_findPlateaus_48 : decode b_Mo_findPlateaus 48 = .ok (.invokevirtual 150, 3) := by decide +kernel
theorem d_Mo_findPlateaus_51 : decode b_Mo_findPlateaus 51 = .ok (.aload_n 0, 1) := by decide +kernel
theorem d_Mo_findPlateaus_52 : decode b_Mo_findPlateaus 52 = .ok (.invokevirtual 170, 3) := by decide +kernel
theorem d_Mo_findPlateaus_55 : decode b_Mo_findPlateaus 55 = .ok (.ifCond .eq 63, 3) := by decide +kernel
theorem d_Mo_findPlateaus_58 : decode b_Mo_findPlateaus 58 = .ok (.aload_n 0, 1) := by decide +kernel
theorem d_Mo_findPlateaus_59 : decode b_Mo_findPlateaus 59 = .ok (.aload_n 0, 1) := by decide +kernel
theorem d_Mo_findPlateaus_60 : decode b_Mo_findPlateaus 60 = .ok (.getfield 55, 3) := by decide +kernel
theorem d_Mo_findPlateaus_63 : decode b_Mo_findPlateaus 63 = .ok (.invokevirtual 128, 3) := by decide +kernel
theorem d_Mo_findPlateaus_66 : decode b_Mo_findPlateaus 66 = .ok (.aload_n 0, 1) := by decide +kernel
theorem d_Mo_findPlateaus_67 : decode b_Mo_findPlateaus 67 = .ok (.getfield 120, 3) := by decide +kernel
theorem d_Mo_findPlateaus_70 : decode b_Mo_findPlateaus 70 = .ok (.lload_n 1, 1) := by decide +kernel
theorem d_Mo_findPlateaus_71 : decode b_Mo_findPlateaus 71 = .ok (.lcmp, 1) := by decide +kernel
theorem d_Mo_findPlateaus_72 : decode b_Mo_findPlateaus 72 = .ok (.ifCond .gt 21, 3) := by decide +kernel
theorem d_Mo_findPlateaus_75 : decode b_Mo_findPlateaus 75 = .ok (.aload_n 0, 1) := by decide +kernel
theorem d_Mo_findPlateaus_76 : decode b_Mo_findPlateaus 76 = .ok (.getfield 120, 3) := by decide +kernel
theorem d_Mo_findPlateaus_79 : decode b_Mo_findPlateaus 79 = .ok (.lload_n 1, 1) := by decide +kernel
theorem d_Mo_findPlateaus_80 : decode b_Mo_findPlateaus 80 = .ok (.lcmp, 1) := by decide +kernel
theorem d_Mo_findPlateaus_81 : decode b_Mo_findPlateaus 81 = .ok (.ifCond .ne (-30), 3) := by decide +kernel
theorem d_Mo_findPlateaus_84 : decode b_Mo_findPlateaus 84 = .ok (.aload_n 0, 1) := by decide +kernel
theorem d_Mo_findPlateaus_85 : decode b_Mo_findPlateaus 85 = .ok (.getfield 123, 3) := by decide +kernel
theorem d_Mo_findPlateaus_88 : decode b_Mo_findPlateaus 88 = .ok (.lload_n 3, 1) := by decide +kernel
theorem d_Mo_findPlateaus_89 : decode b_Mo_findPlateaus 89 = .ok (.lcmp, 1) := by decide +kernel
theorem d_Mo_findPlateaus_90 : decode b_Mo_findPlateaus 90 = .ok (.ifCond .ge (-39), 3) := by decide +kernel
theorem d_Mo_findPlateaus_93 : decode b_Mo_findPlateaus 93 = .ok (.aload_n 0, 1) := by decide +kernel
theorem d_Mo_findPlateaus_94 : decode b_Mo_findPlateaus 94 = .ok (.getfield 120, 3) := by decide +kernel
theorem d_Mo_findPlateaus_97 : decode b_Mo_findPlateaus 97 = .ok (.lstore_n 1, 1) := by decide +kernel
theorem d_Mo_findPlateaus_98 : decode b_Mo_findPlateaus 98 = .ok (.aload_n 0, 1) := by decide +kernel
theorem d_Mo_findPlateaus_99 : decode b_Mo_findPlateaus 99 = .ok (.getfield 123, 3) := by decide +kernel
theorem d_Mo_findPlateaus_102 : decode b_Mo_findPlateaus 102 = .ok (.lstore_n 3, 1) := by decide +kernel
theorem d_Mo_findPlateaus_103 : decode b_Mo_findPlateaus 103 = .ok (.aload_n 0, 1) := by decide +kernel
theorem d_Mo_findPlateaus_104 : decode b_Mo_findPlateaus 104 = .ok (.aload_n 0, 1) := by decide +kernel
theorem d_Mo_findPlateaus_105 : decode b_Mo_findPlateaus 105 = .ok (.getfield 55, 3) := by decide +kernel
theorem d_Mo_findPlateaus_108 : decode b_Mo_findPlateaus 108 = .ok (.aload_n 0, 1) := by decide +kernel
theorem d_Mo_findPlateaus_109 : decode b_Mo_findPlateaus 109 = .ok (.getfield 73, 3) := by decide +kernel
theorem d_Mo_findPlateaus_112 : decode b_Mo_findPlateaus 112 = .ok (.invokevirtual 150, 3) := by decide +kernel
theorem d_Mo_findPlateaus_115 : decode b_Mo_findPlateaus 115 = .ok (.goto (-64), 3) := by decide +kernel
theorem d_Mo_findPlateaus_118 : decode b_Mo_findPlateaus 118 = .ok (.aload_n 0, 1) := by decide +kernel
theorem d_Mo_findPlateaus_119 : decode b_Mo_findPlateaus 119 = .ok (.iconst 1, 1) := by decide +kernel
theorem d_Mo_findPlateaus_120 : decode b_Mo_findPlateaus 120 = .ok (.putfield 201, 3) := by decide +kernel
theorem d_Mo_findPlateaus_123 : decode b_Mo_findPlateaus 123 = .ok (.aload_n 0, 1) := by decide +kernel
theorem d_Mo_findPlateaus_124 : decode b_Mo_findPlateaus 124 = .ok (.iconst 0, 1) := by decide +kernel
theorem d_Mo_findPlateaus_125 : decode b_Mo_findPlateaus 125 = .ok (.invokevirtual 204, 3) := by decide +kernel
theorem d_Mo_findPlateaus_128 : decode b_Mo_findPlateaus 128 = .ok (.aload_n 0, 1) := by decide +kernel
theorem d_Mo_findPlateaus_129 : decode b_Mo_findPlateaus 129 = .ok (.getfield 76, 3) := by decide +kernel
theorem d_Mo_findPlateaus_132 : decode b_Mo_findPlateaus 132 = .ok (.iconst 0, 1) := by decide +kernel
theorem d_Mo_findPlateaus_133 : decode b_Mo_findPlateaus 133 = .ok (.lconst 0, 1) := by decide +kernel
theorem d_Mo_findPlateaus_134 : decode b_Mo_findPlateaus 134 = .ok (.lastore, 1) := by decide +kernel
theorem d_Mo_findPlateaus_135 : decode b_Mo_findPlateaus 135 = .ok (.aload_n 0, 1) := by decide +kernel
theorem d_Mo_findPlateaus_136 : decode b_Mo_findPlateaus 136 = .ok (.getfield 79, 3) := by decide +kernel
theorem d_Mo_findPlateaus_139 : decode b_Mo_findPlateaus 139 = .ok (.iconst 0, 1) := by decide +kernel
theorem d_Mo_findPlateaus_140 : decode b_Mo_findPlateaus 140 = .ok (.lconst 1, 1) := by decide +kernel
theorem d_Mo_findPlateaus_141 : decode b_Mo_findPlateaus 141 = .ok (.lastore, 1) := by decide +kernel
theorem d_Mo_findPlateaus_142 : decode b_Mo_findPlateaus 142 = .ok (.iconst 1, 1) := by decide +kernel
theorem d_Mo_findPlateaus_143 : decode b_Mo_findPlateaus 143 = .ok (.istore 5, 2) := by decide +kernel
theorem d_Mo_findPlateaus_145 : decode b_Mo_findPlateaus 145 = .ok (.iload 5, 2) := by decide +kernel
theorem d_Mo_findPlateaus_147 : decode b_Mo_findPlateaus 147 = .ok (.ifCond .eq 260, 3) := by decide +kernel
theorem d_Mo_findPlateaus_150 : decode b_Mo_findPlateaus 150 = .ok (.aload_n 0, 1) := by decide +kernel
theorem d_Mo_findPlateaus_151 : decode b_Mo_findPlateaus 151 = .ok (.getfield 201, 3) := by decide +kernel
theorem d_Mo_findPlateaus_154 : decode b_Mo_findPlateaus 154 = .ok (.sipush 1801, 3) := by decide +kernel
theorem d_Mo_findPlateaus_157 : decode b_Mo_findPlateaus 157 = .ok (.if_icmp .ge 250, 3) := by decide +kernel
theorem d_Mo_findPlateaus_160 : decode b_Mo_findPlateaus 160 = .ok (.iconst 0, 1) := by decide +kernel
theorem d_Mo_findPlateaus_161 : decode b_Mo_findPlateaus 161 = .ok (.istore 5, 2) := by decide +kernel
theorem d_Mo_findPlateaus_163 : decode b_Mo_findPlateaus 163 = .ok (.lconst 0, 1) := by decide +kernel
theorem d_Mo_findPlateaus_164 : decode b_Mo_findPlateaus 164 = .ok (.lstore 6, 2) := by decide +kernel
theorem d_Mo_findPlateaus_166 : decode b_Mo_findPlateaus 166 = .ok (.lconst 1, 1) := by decide +kernel
theorem d_Mo_findPlateaus_167 : decode b_Mo_findPlateaus 167 = .ok (.lstore 8, 2) := by decide +kernel
theorem d_Mo_findPlateaus_169 : decode b_Mo_findPlateaus 169 = .ok (.lconst 0, 1) := by decide +kernel
theorem d_Mo_findPlateaus_170 : decode b_Mo_findPlateaus 170 = .ok (.lstore 10, 2) := by decide +kernel
theorem d_Mo_findPlateaus_172 : decode b_Mo_findPlateaus 172 = .ok (.lconst 0, 1) := by decide +kernel
theorem d_Mo_findPlateaus_173 : decode b_Mo_findPlateaus 173 = .ok (.lstore 12, 2) := by decide +kernel
theorem d_Mo_findPlateaus_175 : decode b_Mo_findPlateaus 175 = .ok (.aload_n 0, 1) := by decide +kernel
theorem d_Mo_findPlateaus_176 : decode b_Mo_findPlateaus 176 = .ok (.invokevirtual 164, 3) := by decide +kernel
theorem d_Mo_findPlateaus_179 : decode b_Mo_findPlateaus 179 = .ok (.iconst 1, 1) := by decide +kernel
theorem d_Mo_findPlateaus_180 : decode b_Mo_findPlateaus 180 = .ok (.istore 14, 2) := by decide +kernel
theorem d_Mo_findPlateaus_182 : decode b_Mo_findPlateaus 182 = .ok (.iload 14, 2) := by decide +kernel
theorem d_Mo_findPlateaus_184 : decode b_Mo_findPlateaus 184 = .ok (.ifCond .eq 157, 3) := by decide +kernel
theorem d_Mo_findPlateaus_187 : decode b_Mo_findPlateaus 187 = .ok (.aload_n 0, 1) := by decide +kernel
theorem d_Mo_findPlateaus_188 : decode b_Mo_findPlateaus 188 = .ok (.aload_n 0, 1) := by decide +kernel
theorem d_Mo_findPlateaus_189 : decode b_Mo_findPlateaus 189 = .ok (.getfield 55, 3) := by decide +kernel
theorem d_Mo_findPlateaus_192 : decode b_Mo_findPlateaus 192 = .ok (.invokevirtual 128, 3) := by decide +kernel
theorem d_Mo_findPlateaus_195 : decode b_Mo_findPlateaus 195 = .ok (.lload_n 1, 1) := by decide +kernel
theorem d_Mo_findPlateaus_196 : decode b_Mo_findPlateaus 196 = .ok (.aload_n 0, 1) := by decide +kernel
theorem d_Mo_findPlateaus_197 : decode b_Mo_findPlateaus 197 = .ok (.getfield 120, 3) := by decide +kernel
theorem d_Mo_findPlateaus_200 : decode b_Mo_findPlateaus 200 = .ok (.lsub, 1) := by decide +kernel
theorem d_Mo_findPlateaus_201 : decode b_Mo_findPlateaus 201 = .ok (.lstore 15, 2) := by decide +kernel
theorem d_Mo_findPlateaus_203 : decode b_Mo_findPlateaus 203 = .ok (.lload_n 3, 1) := by decide +kernel
theorem d_Mo_findPlateaus_204 : decode b_Mo_findPlateaus 204 = .ok (.aload_n 0, 1) := by decide +kernel
theorem d_Mo_findPlateaus_205 : decode b_Mo_findPlateaus 205 = .ok (.getfield 123, 3) := by decide +kernel
theorem d_Mo_findPlateaus_208 : decode b_Mo_findPlateaus 208 = .ok (.lsub, 1) := by decide +kernel
theorem d_Mo_findPlateaus_209 : decode b_Mo_findPlateaus 209 = .ok (.lstore 17, 2) := by decide +kernel
theorem d_Mo_findPlateaus_211 : decode b_Mo_findPlateaus 211 = .ok (.lload 17, 2) := by decide +kernel
theorem d_Mo_findPlateaus_213 : decode b_Mo_findPlateaus 213 = .ok (.lconst 0, 1) := by decide +kernel
theorem d_Mo_findPlateaus_214 : decode b_Mo_findPlateaus 214 = .ok (.lcmp, 1) := by decide +kernel
theorem d_Mo_findPlateaus_215 : decode b_Mo_findPlateaus 215 = .ok (.ifCond .le 26, 3) := by decide +kernel
theorem d_Mo_findPlateaus_218 : decode b_Mo_findPlateaus 218 = .ok (.iload 5, 2) := by decide +kernel
theorem d_Mo_findPlateaus_220 : decode b_Mo_findPlateaus 220 = .ok (.ifCond .eq 17, 3) := by decide +kernel
theorem d_Mo_findPlateaus_223 : decode b_Mo_findPlateaus 223 = .ok (.lload 15, 2) := by decide +kernel
theorem d_Mo_findPlateaus_225 : decode b_Mo_findPlateaus 225 = .ok (.lload 8, 2) := by decide +kernel
theorem d_Mo_findPlateaus_227 : decode b_Mo_findPlateaus 227 = .ok (.lmul, 1) := by decide +kernel
theorem d_Mo_findPlateaus_228 : decode b_Mo_findPlateaus 228 = .ok (.lload 6, 2) := by decide +kernel
theorem d_Mo_findPlateaus_230 : decode b_Mo_findPlateaus 230 = .ok (.lload 17, 2) := by decide +kernel
theorem d_Mo_findPlateaus_232 : decode b_Mo_findPlateaus 232 = .ok (.lmul, 1) := by decide +kernel
theorem d_Mo_findPlateaus_233 : decode b_Mo_findPlateaus 233 = .ok (.lcmp, 1) := by decide +kernel
theorem d_Mo_findPlateaus_234 : decode b_Mo_findPlateaus 234 = .ok (.ifCond .ge 7, 3) := by decide +kernel
theorem d_Mo_findPlateaus_237 : decode b_Mo_findPlateaus 237 = .ok (.iconst 1, 1) := by decide +kernel
theorem d_Mo_findPlateaus_238 : decode b_Mo_findPlateaus 238 = .ok (.goto 4, 3) := by decide +kernel
theorem d_Mo_findPlateaus_241 : decode b_Mo_findPlateaus 241 = .ok (.iconst 0, 1) := by decide +kernel
theorem d_Mo_findPlateaus_242 : decode b_Mo_findPlateaus 242 = .ok (.istore 19, 2) := by decide +kernel
theorem d_Mo_findPlateaus_244 : decode b_Mo_findPlateaus 244 = .ok (.lload 17, 2) := by decide +kernel
theorem d_Mo_findPlateaus_246 : decode b_Mo_findPlateaus 246 = .ok (.lconst 0, 1) := by decide +kernel
theorem d_Mo_findPlateaus_247 : decode b_Mo_findPlateaus 247 = .ok (.lcmp, 1) := by decide +kernel
theorem d_Mo_findPlateaus_248 : decode b_Mo_findPlateaus 248 = .ok (.ifCond .le 36, 3) := by decide +kernel
theorem d_Mo_findPlateaus_251 : decode b_Mo_findPlateaus 251 = .ok (.iload 5, 2) := by decide +kernel
theorem d_Mo_findPlateaus_253 : decode b_Mo_findPlateaus 253 = .ok (.ifCond .eq 31, 3) := by decide +kernel
theorem d_Mo_findPlateaus_256 : decode b_Mo_findPlateaus 256 = .ok (.lload 15, 2) := by decide +kernel
theorem d_Mo_findPlateaus_258 : decode b_Mo_findPlateaus 258 = .ok (.lload 8, 2) := by decide +kernel
theorem d_Mo_findPlateaus_260 : decode b_Mo_findPlateaus 260 = .ok (.lmul, 1) := by decide +kernel
theorem d_Mo_findPlateaus_261 : decode b_Mo_findPlateaus 261 = .ok (.lload 6, 2) := by decide +kernel
theorem d_Mo_findPlateaus_263 : decode b_Mo_findPlateaus 263 = .ok (.lload 17, 2) := by decide +kernel
theorem d_Mo_findPlateaus_265 : decode b_Mo_findPlateaus 265 = .ok (.lmul, 1) := by decide +kernel
theorem d_Mo_findPlateaus_266 : decode b_Mo_findPlateaus 266 = .ok (.lcmp, 1) := by decide +kernel
theorem d_Mo_findPlateaus_267 : decode b_Mo_findPlateaus 267 = .ok (.ifCond .ne 17, 3) := by decide +kernel
theorem d_Mo_findPlateaus_270 : decode b_Mo_findPlateaus 270 = .ok (.aload_n 0, 1) := by decide +kernel
theorem d_Mo_findPlateaus_271 : decode b_Mo_findPlateaus 271 = .ok (.getfield 123, 3) := by decide +kernel
theorem d_Mo_findPlateaus_274 : decode b_Mo_findPlateaus 274 = .ok (.lload 12, 2) := by decide +kernel
theorem d_Mo_findPlateaus_276 : decode b_Mo_findPlateaus 276 = .ok (.lcmp, 1) := by decide +kernel
theorem d_Mo_findPlateaus_277 : decode b_Mo_findPlateaus 277 = .ok (.ifCond .ge 7, 3) := by decide +kernel
theorem d_Mo_findPlateaus_280 : decode b_Mo_findPlateaus 280 = .ok (.iconst 1, 1) := by decide +kernel
theorem d_Mo_findPlateaus_281 : decode b_Mo_findPlateaus 281 = .ok (.goto 4, 3) := by decide +kernel
theorem d_Mo_findPlateaus_284 : decode b_Mo_findPlateaus 284 = .ok (.iconst 0, 1) := by decide +kernel
theorem d_Mo_findPlateaus_285 : decode b_Mo_findPlateaus 285 = .ok (.istore 20, 2) := by decide +kernel
theorem d_Mo_findPlateaus_287 : decode b_Mo_findPlateaus 287 = .ok (.iload 19, 2) := by decide +kernel
theorem d_Mo_findPlateaus_289 : decode b_Mo_findPlateaus 289 = .ok (.ifCond .ne 8, 3) := by decide +kernel
theorem d_Mo_findPlateaus_292 : decode b_Mo_findPlateaus 292 = .ok (.iload 20, 2) := by decide +kernel
theorem d_Mo_findPlateaus_294 : decode b_Mo_findPlateaus 294 = .ok (.ifCond .eq 38, 3) := by decide +kernel
theorem d_Mo_findPlateaus_297 : decode b_Mo_findPlateaus 297 = .ok (.iconst 1, 1) := by decide +kernel
theorem d_Mo_findPlateaus_298 : decode b_Mo_findPlateaus 298 = .ok (.istore 5, 2) := by decide +kernel
theorem d_Mo_findPlateaus_300 : decode b_Mo_findPlateaus 300 = .ok (.lload 15, 2) := by decide +kernel
theorem d_Mo_findPlateaus_302 : decode b_Mo_findPlateaus 302 = .ok (.lstore 6, 2) := by decide +kernel
theorem d_Mo_findPlateaus_304 : decode b_Mo_findPlateaus 304 = .ok (.lload 17, 2) := by decide +kernel
theorem d_Mo_findPlateaus_306 : decode b_Mo_findPlateaus 306 = .ok (.lstore 8, 2) := by decide +kernel
theorem d_Mo_findPlateaus_308 : decode b_Mo_findPlateaus 308 = .ok (.aload_n 0, 1) := by decide +kernel
theorem d_Mo_findPlateaus_309 : decode b_Mo_findPlateaus 309 = .ok (.getfield 120, 3) := by decide +kernel
theorem d_Mo_findPlateaus_312 : decode b_Mo_findPlateaus 312 = .ok (.lstore 10, 2) := by decide +kernel
theorem d_Mo_findPlateaus_314 : decode b_Mo_findPlateaus 314 = .ok (.aload_n 0, 1) := by decide +kernel
theorem d_Mo_findPlateaus_315 : decode b_Mo_findPlateaus 315 = .ok (.getfield 123, 3) := by decide +kernel
theorem d_Mo_findPlateaus_318 : decode b_Mo_findPlateaus 318 = .ok (.lstore 12, 2) := by decide +kernel
theorem d_Mo_findPlateaus_320 : decode b_Mo_findPlateaus 320 = .ok (.aload_n 0, 1) := by decide +kernel
theorem d_Mo_findPlateaus_321 : decode b_Mo_findPlateaus 321 = .ok (.aload_n 0, 1) := by decide +kernel
theorem d_Mo_findPlateaus_322 : decode b_Mo_findPlateaus 322 = .ok (.getfield 55, 3) := by decide +kernel
theorem d_Mo_findPlateaus_325 : decode b_Mo_findPlateaus 325 = .ok (.aload_n 0, 1) := by decide +kernel
theorem d_Mo_findPlateaus_326 : decode b_Mo_findPlateaus 326 = .ok (.getfield 58, 3) := by decide +kernel
theorem d_Mo_findPlateaus_329 : decode b_Mo_findPlateaus 329 = .ok (.invokevirtual 150, 3) := by decide +kernel
theorem d_Mo_findPlateaus_332 : decode b_Mo_findPlateaus 332 = .ok (.aload_n 0, 1) := by decide +kernel
theorem d_Mo_findPlateaus_333 : decode b_Mo_findPlateaus 333 = .ok (.invokevirtual 170, 3) := by decide +kernel
theorem d_Mo_findPlateaus_336 : decode b_Mo_findPlateaus 336 = .ok (.istore 14, 2) := by decide +kernel
theorem d_Mo_findPlateaus_338 : decode b_Mo_findPlateaus 338 = .ok (.goto (-156), 3) := by decide +kernel
theorem d_Mo_findPlateaus_341 : decode b_Mo_findPlateaus 341 = .ok (.iload 5, 2) := by decide +kernel
theorem d_Mo_findPlateaus_343 : decode b_Mo_findPlateaus 343 = .ok (.ifCond .eq 61, 3) := by decide +kernel
theorem d_Mo_findPlateaus_346 : decode b_Mo_findPlateaus 346 = .ok (.lload 10, 2) := by decide +kernel
theorem d_Mo_findPlateaus_348 : decode b_Mo_findPlateaus 348 = .ok (.lstore_n 1, 1) := by decide +kernel
theorem d_Mo_findPlateaus_349 : decode b_Mo_findPlateaus 349 = .ok (.lload 12, 2) := by decide +kernel
theorem d_Mo_findPlateaus_351 : decode b_Mo_findPlateaus 351 = .ok (.lstore_n 3, 1) := by decide +kernel
theorem d_Mo_findPlateaus_352 : decode b_Mo_findPlateaus 352 = .ok (.aload_n 0, 1) := by decide +kernel
theorem d_Mo_findPlateaus_353 : decode b_Mo_findPlateaus 353 = .ok (.aload_n 0, 1) := by decide +kernel
theorem d_Mo_findPlateaus_354 : decode b_Mo_findPlateaus 354 = .ok (.getfield 58, 3) := by decide +kernel
theorem d_Mo_findPlateaus_357 : decode b_Mo_findPlateaus 357 = .ok (.aload_n 0, 1) := by decide +kernel
theorem d_Mo_findPlateaus_358 : decode b_Mo_findPlateaus 358 = .ok (.getfield 73, 3) := by decide +kernel
theorem d_Mo_findPlateaus_361 : decode b_Mo_findPlateaus 361 = .ok (.invokevirtual 150, 3) := by decide +kernel
theorem d_Mo_findPlateaus_364 : decode b_Mo_findPlateaus 364 = .ok (.aload_n 0, 1) := by decide +kernel
theorem d_Mo_findPlateaus_365 : decode b_Mo_findPlateaus 365 = .ok (.aload_n 0, 1) := by decide +kernel
theorem d_Mo_findPlateaus_366 : decode b_Mo_findPlateaus 366 = .ok (.getfield 201, 3) := by decide +kernel
theorem d_Mo_findPlateaus_369 : decode b_Mo_findPlateaus 369 = .ok (.invokevirtual 204, 3) := by decide +kernel
theorem d_Mo_findPlateaus_372 : decode b_Mo_findPlateaus 372 = .ok (.aload_n 0, 1) := by decide +kernel
theorem d_Mo_findPlateaus_373 : decode b_Mo_findPlateaus 373 = .ok (.getfield 76, 3) := by decide +kernel
theorem d_Mo_findPlateaus_376 : decode b_Mo_findPlateaus 376 = .ok (.aload_n 0, 1) := by decide +kernel
theorem d_Mo_findPlateaus_377 : decode b_Mo_findPlateaus 377 = .ok (.getfield 201, 3) := by decide +kernel
theorem d_Mo_findPlateaus_380 : decode b_Mo_findPlateaus 380 = .ok (.lload 6, 2) := by decide +kernel
theorem d_Mo_findPlateaus_382 : decode b_Mo_findPlateaus 382 = .ok (.lastore, 1) := by decide +kernel
theorem d_Mo_findPlateaus_383 : decode b_Mo_findPlateaus 383 = .ok (.aload_n 0, 1) := by decide +kernel
theorem d_Mo_findPlateaus_384 : decode b_Mo_findPlateaus 384 = .ok (.getfield 79, 3) := by decide +kernel
theorem d_Mo_findPlateaus_387 : decode b_Mo_findPlateaus 387 = .ok (.aload_n 0, 1) := by decide +kernel
theorem d_Mo_findPlateaus_388 : decode b_Mo_findPlateaus 388 = .ok (.getfield 201, 3) := by decide +kernel
theorem d_Mo_findPlateaus_391 : decode b_Mo_findPlateaus 391 = .ok (.lload 8, 2) := by decide +kernel
theorem d_Mo_findPlateaus_393 : decode b_Mo_findPlateaus 393 = .ok (.lastore, 1) := by decide +kernel
theorem d_Mo_findPlateaus_394 : decode b_Mo_findPlateaus 394 = .ok (.aload_n 0, 1) := by decide +kernel
theorem d_Mo_findPlateaus_395 : decode b_Mo_findPlateaus 395 = .ok (.dup, 1) := by decide +kernel
theorem d_Mo_findPlateaus_396 : decode b_Mo_findPlateaus 396 = .ok (.getfield 201, 3) := by decide +kernel
theorem d_Mo_findPlateaus_399 : decode b_Mo_findPlateaus 399 = .ok (.iconst 1, 1) := by decide +kernel
theorem d_Mo_findPlateaus_400 : decode b_Mo_findPlateaus 400 = .ok (.iadd, 1) := by decide +kernel
theorem d_Mo_findPlateaus_401 : decode b_Mo_findPlateaus 401 = .ok (.putfield 201, 3) := by decide +kernel
theorem d_Mo_findPlateaus_404 : decode b_Mo_findPlateaus 404 = .ok (.goto (-259), 3) := by decide +kernel
theorem d_Mo_findPlateaus_407 : decode b_Mo_findPlateaus 407 = .ok (.return_, 1) := by decide +kernel
theorem d_Mo_plateaus_0 : decode b_Mo_plateaus 0 = .ok (.aload_n 0, 1) := by decide +kernel
theorem d_Mo_plateaus_1 : decode b_Mo_plateaus 1 = .ok (.invokevirtual 208, 3) := by decide +kernel
theorem d_Mo_plateaus_4 : decode b_Mo_plateaus 4 = .ok (.aload_n 0, 1) := by decide +kernel
theorem d_Mo_plateaus_5 : decode b_Mo_plateaus 5 = .ok (.getfield 201, 3) := by decide +kernel
theorem d_Mo_plateaus_8 : decode b_Mo_plateaus 8 = .ok (.ireturn, 1) := by decide +kernel
theorem d_Mo_begins_0 : decode b_Mo_begins 0 = .ok (.aload_n 0, 1) := by decide +kernel
theorem d_Mo_begins_1 : decode b_Mo_begins 1 = .ok (.invokevirtual 208, 3) := by decide +kernel
theorem d_Mo_begins_4 : decode b_Mo_begins 4 = .ok (.iload_n 1, 1) := by decide +kernel
theorem d_Mo_begins_5 : decode b_Mo_begins 5 = .ok (.ifCond .lt 11, 3) := by decide +kernel
theorem d_Mo_begins_8 : decode b_Mo_begins 8 = .ok (.iload_n 1, 1) := by decide +kernel
theorem d_Mo_begins_9 : decode b_Mo_begins 9 = .ok (.aload_n 0, 1) := by decide +kernel
theorem d_Mo_begins_10 : decode b_Mo_begins 10 = .ok (.getfield 201, 3) := by decide +kernel
theorem d_Mo_begins_13 : decode b_Mo_begins 13 = .ok (.if_icmp .lt 7, 3) := by decide +kernel
theorem d_Mo_begins_16 : decode b_Mo_begins 16 = .ok (.ldc2_w 211, 3) := by decide +kernel
theorem d_Mo_begins_19 : decode b_Mo_begins 19 = .ok (.lreturn, 1) := by decide +kernel
theorem d_Mo_begins_20 : decode b_Mo_begins 20 = .ok (.iload_n 2, 1) := by decide +kernel
theorem d_Mo_begins_21 : decode b_Mo_begins 21 = .ok (.ifCond .eq 12, 3) := by decide +kernel
theorem d_Mo_begins_24 : decode b_Mo_begins 24 = .ok (.iload_n 2, 1) := by decide +kernel
theorem d_Mo_begins_25 : decode b_Mo_begins 25 = .ok (.iconst 1, 1) := by decide +kernel
theorem d_Mo_begins_26 : decode b_Mo_begins 26 = .ok (.if_icmp .eq 7, 3) := by decide +kernel
theorem d_Mo_begins_29 : decode b_Mo_begins 29 = .ok (.ldc2_w 213, 3) := by decide +kernel
theorem d_Mo_begins_32 : decode b_Mo_begins 32 = .ok (.lreturn, 1) := by decide +kernel
theorem d_Mo_begins_33 : decode b_Mo_begins 33 = .ok (.aload_n 0, 1) := by decide +kernel
theorem d_Mo_begins_34 : decode b_Mo_begins 34 = .ok (.getfield 76, 3) := by decide +kernel
theorem d_Mo_begins_37 : decode b_Mo_begins 37 = .ok (.iload_n 1, 1) := by decide +kernel
theorem d_Mo_begins_38 : decode b_Mo_begins 38 = .ok (.laload, 1) := by decide +kernel
theorem d_Mo_begins_39 : decode b_Mo_begins 39 = .ok (.lstore_n 3, 1) := by decide +kernel
theorem d_Mo_begins_40 : decode b_Mo_begins 40 = .ok (.aload_n 0, 1) := by decide +kernel
theorem d_Mo_begins_41 : decode b_Mo_begins 41 = .ok (.getfield 79, 3) := by decide +kernel
theorem d_Mo_begins_44 : decode b_Mo_begins 44 = .ok (.iload_n 1, 1) := by decide +kernel
theorem d_Mo_begins_45 : decode b_Mo_begins 45 = .ok (.laload, 1) := by decide +kernel
theorem d_Mo_begins_46 : decode b_Mo_begins 46 = .ok (.lstore 5, 2) := by decide +kernel
theorem d_Mo_begins_48 : decode b_Mo_begins 48 = .ok (.lload 5, 2) := by decide +kernel
theorem d_Mo_begins_50 : decode b_Mo_begins 50 = .ok (.lconst 0, 1) := by decide +kernel
theorem d_Mo_begins_51 : decode b_Mo_begins 51 = .ok (.lcmp, 1) := by decide +kernel
theorem d_Mo_begins_52 : decode b_Mo_begins 52 = .ok (.ifCond .eq 19, 3) := by decide +kernel
theorem d_Mo_begins_55 : decode b_Mo_begins 55 = .ok (.lload_n 3, 1) := by decide +kernel
theorem d_Mo_begins_56 : decode b_Mo_begins 56 = .ok (.lload 5, 2) := by decide +kernel
theorem d_Mo_begins_58 : decode b_Mo_begins 58 = .ok (.lrem, 1) := by decide +kernel
theorem d_Mo_begins_59 : decode b_Mo_begins 59 = .ok (.lstore 7, 2) := by decide +kernel
theorem d_Mo_begins_61 : decode b_Mo_begins 61 = .ok (.lload 5, 2) := by decide +kernel
theorem d_Mo_begins_63 : decode b_Mo_begins 63 = .ok (.lstore_n 3, 1) := by decide +kernel
theorem d_Mo_begins_64 : decode b_Mo_begins 64 = .ok (.lload 7, 2) := by decide +kernel
theorem d_Mo_begins_66 : decode b_Mo_begins 66 = .ok (.lstore 5, 2) := by decide +kernel
theorem d_Mo_begins_68 : decode b_Mo_begins 68 = .ok (.goto (-20), 3) := by decide +kernel
theorem d_Mo_begins_71 : decode b_Mo_begins 71 = .ok (.iload_n 2, 1) := by decide +kernel
theorem d_Mo_begins_72 : decode b_Mo_begins 72 = .ok (.ifCond .ne 12, 3) := by decide +kernel
theorem d_Mo_begins_75 : decode b_Mo_begins 75 = .ok (.aload_n 0, 1) := by decide +kernel
theorem d_Mo_begins_76 : decode b_Mo_begins 76 = .ok (.getfield 76, 3) := by decide +kernel
theorem d_Mo_begins_79 : decode b_Mo_begins 79 = .ok (.iload_n 1, 1) := by decide +kernel
theorem d_Mo_begins_80 : decode b_Mo_begins 80 = .ok (.laload, 1) := by decide +kernel
theorem d_Mo_begins_81 : decode b_Mo_begins 81 = .ok (.goto 9, 3) := by decide +kernel
theorem d_Mo_begins_84 : decode b_Mo_begins 84 = .ok (.aload_n 0, 1) := by decide +kernel
theorem d_Mo_begins_85 : decode b_Mo_begins 85 = .ok (.getfield 79, 3) := by decide +kernel
theorem d_Mo_begins_88 : decode b_Mo_begins 88 = .ok (.iload_n 1, 1) := by decide +kernel
theorem d_Mo_begins_89 : decode b_Mo_begins 89 = .ok (.laload, 1) := by decide +kernel
theorem d_Mo_begins_90 : decode b_Mo_begins 90 = .ok (.lload_n 3, 1) := by decide +kernel
theorem d_Mo_begins_91 : decode b_Mo_begins 91 = .ok (.ldiv, 1) := by decide +kernel
theorem d_Mo_begins_92 : decode b_Mo_begins 92 = .ok (.lreturn, 1) := by decide +kernel
theorem d_Mo_plateau_0 : decode b_Mo_plateau 0 = .ok (.aload_n 0, 1) := by decide +kernel
theorem d_Mo_plateau_1 : decode b_Mo_plateau 1 = .ok (.invokevirtual 208, 3) := by decide +kernel
theorem d_Mo_plateau_4 : decode b_Mo_plateau 4 = .ok (.iload_n 1, 1) := by decide +kernel
theorem d_Mo_plateau_5 : decode b_Mo_plateau 5 = .ok (.ifCond .lt 11, 3) := by decide +kernel
theorem d_Mo_plateau_8 : decode b_Mo_plateau 8 = .ok (.iload_n 1, 1) := by decide +kernel
theorem d_Mo_plateau_9 : decode b_Mo_plateau 9 = .ok (.aload_n 0, 1) := by decide +kernel
theorem d_Mo_plateau_10 : decode b_Mo_plateau 10 = .ok (.getfield 201, 3) := by decide +kernel
theorem d_Mo_plateau_13 : decode b_Mo_plateau 13 = .ok (.if_icmp .lt 5, 3) := by decide +kernel
theorem d_Mo_plateau_16 : decode b_Mo_plateau 16 = .ok (.iconst (-1), 1) := by decide +kernel
theorem d_Mo_plateau_17 : decode b_Mo_plateau 17 = .ok (.ireturn, 1) := by decide +kernel
theorem d_Mo_plateau_18 : decode b_Mo_plateau 18 = .ok (.iconst 0, 1) := by decide +kernel
theorem d_Mo_plateau_19 : decode b_Mo_plateau 19 = .ok (.istore_n 2, 1) := by decide +kernel
theorem d_Mo_plateau_20 : decode b_Mo_plateau 20 = .ok (.iload_n 2, 1) := by decide +kernel
theorem d_Mo_plateau_21 : decode b_Mo_plateau 21 = .ok (.aload_n 0, 1) := by decide +kernel
theorem d_Mo_plateau_22 : decode b_Mo_plateau 22 = .ok (.getfield 95, 3) := by decide +kernel
theorem d_Mo_plateau_25 : decode b_Mo_plateau 25 = .ok (.if_icmp .ge 29, 3) := by decide +kernel
theorem d_Mo_plateau_28 : decode b_Mo_plateau 28 = .ok (.aload_n 0, 1) := by decide +kernel
theorem d_Mo_plateau_29 : decode b_Mo_plateau 29 = .ok (.getfield 30, 3) := by decide +kernel
theorem d_Mo_plateau_32 : decode b_Mo_plateau 32 = .ok (.iload_n 2, 1) := by decide +kernel
theorem d_Mo_plateau_33 : decode b_Mo_plateau 33 = .ok (.aload_n 0, 1) := by decide +kernel
theorem d_Mo_plateau_34 : decode b_Mo_plateau 34 = .ok (.getfield 82, 3) := by decide +kernel
theorem d_Mo_plateau_37 : decode b_Mo_plateau 37 = .ok (.iload_n 1, 1) := by decide +kernel
theorem d_Mo_plateau_38 : decode b_Mo_plateau 38 = .ok (.laload, 1) := by decide +kernel
theorem d_Mo_plateau_39 : decode b_Mo_plateau 39 = .ok (.iconst 4, 1) := by decide +kernel
theorem d_Mo_plateau_40 : decode b_Mo_plateau 40 = .ok (.iload_n 2, 1) := by decide +kernel
theorem d_Mo_plateau_41 : decode b_Mo_plateau 41 = .ok (.imul, 1) := by decide +kernel
theorem d_Mo_plateau_42 : decode b_Mo_plateau 42 = .ok (.lshr, 1) := by decide +kernel
theorem d_Mo_plateau_43 : decode b_Mo_plateau 43 = .ok (.l2i, 1) := by decide +kernel
theorem d_Mo_plateau_44 : decode b_Mo_plateau 44 = .ok (.bipush 15, 2) := by decide +kernel
theorem d_Mo_plateau_46 : decode b_Mo_plateau 46 = .ok (.iand, 1) := by decide +kernel
theorem d_Mo_plateau_47 : decode b_Mo_plateau 47 = .ok (.iastore, 1) := by decide +kernel
theorem d_Mo_plateau_48 : decode b_Mo_plateau 48 = .ok (.iinc 2 1, 3) := by decide +kernel
theorem d_Mo_plateau_51 : decode b_Mo_plateau 51 = .ok (.goto (-31), 3) := by decide +kernel
theorem d_Mo_plateau_54 : decode b_Mo_plateau 54 = .ok (.aload_n 0, 1) := by decide +kernel
theorem d_Mo_plateau_55 : decode b_Mo_plateau 55 = .ok (.aload_n 0, 1) := by decide +kernel
theorem d_Mo_plateau_56 : decode b_Mo_plateau 56 = .ok (.getfield 30, 3) := by decide +kernel
theorem d_Mo_plateau_59 : decode b_Mo_plateau 59 = .ok (.invokevirtual 136, 3) := by decide +kernel
theorem d_Mo_plateau_62 : decode b_Mo_plateau 62 = .ok (.ireturn, 1) := by decide +kernel
theorem d_Ga_init_0 : decode b_Ga_init 0 = .ok (.aload_n 0, 1) := by decide +kernel
theorem d_Ga_init_1 : decode b_Ga_init 1 = .ok (.invokespecial 3, 3) := by decide +kernel
theorem d_Ga_init_4 : decode b_Ga_init 4 = .ok (.aload_n 0, 1) := by decide +kernel
theorem d_Ga_init_5 : decode b_Ga_init 5 = .ok (.iconst 1, 1) := by decide +kernel
theorem d_Ga_init_6 : decode b_Ga_init 6 = .ok (.putfield 9, 3) := by decide +kernel
theorem d_Ga_init_9 : decode b_Ga_init 9 = .ok (.aload_n 0, 1) := by decide +kernel
theorem d_Ga_init_10 : decode b_Ga_init 10 = .ok (.iconst 1, 1) := by decide +kernel
theorem d_Ga_init_11 : decode b_Ga_init 11 = .ok (.putfield 15, 3) := by decide +kernel
theorem d_Ga_init_14 : decode b_Ga_init 14 = .ok (.aload_n 0, 1) := by decide +kernel
theorem d_Ga_init_15 : decode b_Ga_init 15 = .ok (.bipush 9, 2) := by decide +kernel
theorem d_Ga_init_17 : decode b_Ga_init 17 = .ok (.bipush 9, 2) := by decide +kernel
theorem d_Ga_init_19 : decode b_Ga_init 19 = .ok (.multianewarray 18 2, 4) := by decide +kernel
theorem d_Ga_init_23 : decode b_Ga_init 23 = .ok (.putfield 20, 3) := by decide +kernel
theorem d_Ga_init_26 : decode b_Ga_init 26 = .ok (.aload_n 0, 1) := by decide +kernel
theorem d_Ga_init_27 : decode b_Ga_init 27 = .ok (.bipush 9, 2) := by decide +kernel
theorem d_Ga_init_29 : decode b_Ga_init 29 = .ok (.bipush 9, 2) := by decide +kernel
theorem d_Ga_init_31 : decode b_Ga_init 31 = .ok (.multianewarray 18 2, 4) := by decide +kernel
theorem d_Ga_init_35 : decode b_Ga_init 35 = .ok (.putfield 23, 3) := by decide +kernel
theorem d_Ga_init_38 : decode b_Ga_init 38 = .ok (.aload_n 0, 1) := by decide +kernel
theorem d_Ga_init_39 : decode b_Ga_init 39 = .ok (.bipush 9, 2) := by decide +kernel
theorem d_Ga_init_41 : decode b_Ga_init 41 = .ok (.bipush 9, 2) := by decide +kernel
theorem d_Ga_init_43 : decode b_Ga_init 43 = .ok (.multianewarray 26 2, 4) := by decide +kernel
theorem d_Ga_init_47 : decode b_Ga_init 47 = .ok (.putfield 28, 3) := by decide +kernel
theorem d_Ga_init_50 : decode b_Ga_init 50 = .ok (.aload_n 0, 1) := by decide +kernel
theorem d_Ga_init_51 : decode b_Ga_init 51 = .ok (.bipush 9, 2) := by decide +kernel
theorem d_Ga_init_53 : decode b_Ga_init 53 = .ok (.newarray .int, 2) := by decide +kernel
theorem d_Ga_init_55 : decode b_Ga_init 55 = .ok (.putfield 31, 3) := by decide +kernel
theorem d_Ga_init_58 : decode b_Ga_init 58 = .ok (.aload_n 0, 1) := by decide +kernel
theorem d_Ga_init_59 : decode b_Ga_init 59 = .ok (.bipush 9, 2) := by decide +kernel
theorem d_Ga_init_61 : decode b_Ga_init 61 = .ok (.newarray .long, 2) := by decide +kernel
theorem d_Ga_init_63 : decode b_Ga_init 63 = .ok (.putfield 35, 3) := by decide +kernel
theorem d_Ga_init_66 : decode b_Ga_init 66 = .ok (.return_, 1) := by decide +kernel
theorem d_Ga_build_0 : decode b_Ga_build 0 = .ok (.aload_n 0, 1) := by decide +kernel
theorem d_Ga_build_1 : decode b_Ga_build 1 = .ok (.aload_n 1, 1) := by decide +kernel
theorem d_Ga_build_2 : decode b_Ga_build 2 = .ok (.getfield 39, 3) := by decide +kernel
theorem d_Ga_build_5 : decode b_Ga_build 5 = .ok (.putfield 44, 3) := by decide +kernel
theorem d_Ga_build_8 : decode b_Ga_build 8 = .ok (.aload_n 0, 1) := by decide +kernel
theorem d_Ga_build_9 : decode b_Ga_build 9 = .ok (.invokevirtual 45, 3) := by decide +kernel
theorem d_Ga_build_12 : decode b_Ga_build 12 = .ok (.lconst 0, 1) := by decide +kernel
theorem d_Ga_build_13 : decode b_Ga_build 13 = .ok (.lstore_n 2, 1) := by decide +kernel
theorem d_Ga_build_14 : decode b_Ga_build 14 = .ok (.iconst 0, 1) := by decide +kernel
theorem d_Ga_build_15 : decode b_Ga_build 15 = .ok (.istore 4, 2) := by decide +kernel
theorem d_Ga_build_17 : decode b_Ga_build 17 = .ok (.iload 4, 2) := by decide +kernel
theorem d_Ga_build_19 : decode b_Ga_build 19 = .ok (.aload_n 1, 1) := by decide +kernel
theorem d_Ga_build_20 : decode b_Ga_build 20 = .ok (.getfield 48, 3) := by decide +kernel
theorem d_Ga_build_23 : decode b_Ga_build 23 = .ok (.if_icmp .ge 54, 3) := by decide +kernel
theorem d_Ga_build_26 : decode b_Ga_build 26 = .ok (.aload_n 1, 1) := by decide +kernel
theorem d_Ga_build_27 : decode b_Ga_build 27 = .ok (.iload 4, 2) := by decide +kernel
theorem d_Ga_build_29 : decode b_Ga_build 29 = .ok (.invokevirtual 51, 3) := by decide +kernel
theorem d_Ga_build_32 : decode b_Ga_build 32 = .ok (.ifCond .eq 39, 3) := by decide +kernel
theorem d_Ga_build_35 : decode b_Ga_build 35 = .ok (.aload_n 0, 1) := by decide +kernel
theorem d_Ga_build_36 : decode b_Ga_build 36 = .ok (.aload_n 1, 1) := by decide +kernel
theorem d_Ga_build_37 : decode b_Ga_build 37 = .ok (.getfield 55, 3) := by decide +kernel
theorem d_Ga_build_40 : decode b_Ga_build 40 = .ok (.iload 4, 2) := by decide +kernel
theorem d_Ga_build_42 : decode b_Ga_build 42 = .ok (.iaload, 1) := by decide +kernel
theorem d_Ga_build_43 : decode b_Ga_build 43 = .ok (.aload_n 1, 1) := by decide +kernel
theorem d_Ga_build_44 : decode b_Ga_build 44 = .ok (.getfield 58, 3) := by decide +kernel
theorem d_Ga_build_47 : decode b_Ga_build 47 = .ok (.iload 4, 2) := by decide +kernel
theorem d_Ga_build_49 : decode b_Ga_build 49 = .ok (.iaload, 1) := by decide +kernel
theorem d_Ga_build_50 : decode b_Ga_build 50 = .ok (.aload_n 1, 1) := by decide +kernel
theorem d_Ga_build_51 : decode b_Ga_build 51 = .ok (.getfield 61, 3) := by decide +kernel
theorem d_Ga_build_54 : decode b_Ga_build 54 = .ok (.iload 4, 2) := by decide +kernel
theorem d_Ga_build_56 : decode b_Ga_build 56 = .ok (.iaload, 1) := by decide +kernel
theorem d_Ga_build_57 : decode b_Ga_build 57 = .ok (.invokevirtual 64, 3) := by decide +kernel
theorem d_Ga_build_60 : decode b_Ga_build 60 = .ok (.lload_n 2, 1) := by decide +kernel
theorem d_Ga_build_61 : decode b_Ga_build 61 = .ok (.aload_n 1, 1) := by decide +kernel
theorem d_Ga_build_62 : decode b_Ga_build 62 = .ok (.getfield 61, 3) := by decide +kernel
theorem d_Ga_build_65 : decode b_Ga_build 65 = .ok (.iload 4, 2) := by decide +kernel
theorem d_Ga_build_67 : decode b_Ga_build 67 = .ok (.iaload, 1) := by decide +kernel
theorem d_Ga_build_68 : decode b_Ga_build 68 = .ok (.i2l, 1) := by decide +kernel
theorem d_Ga_build_69 : decode b_Ga_build 69 = .ok (.ladd, 1) := by decide +kernel
theorem d_Ga_build_70 : decode b_Ga_build 70 = .ok (.lstore_n 2, 1) := by decide +kernel
theorem d_Ga_build_71 : decode b_Ga_build 71 = .ok (.iinc 4 1, 3) := by decide +kernel
theorem d_Ga_build_74 : decode b_Ga_build 74 = .ok (.goto (-57), 3) := by decide +kernel
theorem d_Ga_build_77 : decode b_Ga_build 77 = .ok (.aload_n 1, 1) := by decide +kernel
theorem d_Ga_build_78 : decode b_Ga_build 78 = .ok (.getfield 68, 3) := by decide +kernel
theorem d_Ga_build_81 : decode b_Ga_build 81 = .ok (.ifCond .ne 15, 3) := by decide +kernel
theorem d_Ga_build_84 : decode b_Ga_build 84 = .ok (.aload_n 0, 1) := by decide +kernel
theorem d_Ga_build_85 : decode b_Ga_build 85 = .ok (.ldc2_w 71, 3) := by decide +kernel
theorem d_Ga_build_88 : decode b_Ga_build 88 = .ok (.lload_n 2, 1) := by decide +kernel
theorem d_Ga_build_89 : decode b_Ga_build 89 = .ok (.lmul, 1) := by decide +kernel
theorem d_Ga_build_90 : decode b_Ga_build 90 = .ok (.invokevirtual 73, 3) := by decide +kernel
theorem d_Ga_build_93 : decode b_Ga_build 93 = .ok (.goto 7, 3) := by decide +kernel
theorem d_Ga_build_96 : decode b_Ga_build 96 = .ok (.aload_n 0, 1) := by decide +kernel
theorem d_Ga_build_97 : decode b_Ga_build 97 = .ok (.invokevirtual 77, 3) := by decide +kernel
theorem d_Ga_build_100 : decode b_Ga_build 100 = .ok (.return_, 1) := by decide +kernel
theorem d_Ga_forgetLinks_0 : decode b_Ga_forgetLinks 0 = .ok (.aload_n 0, 1) := by decide +kernel
theorem d_Ga_forgetLinks_1 : decode b_Ga_forgetLinks 1 = .ok (.getfield 31, 3) := by decide +kernel
theorem d_Ga_forgetLinks_4 : decode b_Ga_forgetLinks 4 = .ok (.iconst 0, 1) := by decide +kernel
theorem d_Ga_forgetLinks_5 : decode b_Ga_forgetLinks 5 = .ok (.invokestatic 80, 3) := by decide +kernel
theorem d_Ga_forgetLinks_8 : decode b_Ga_forgetLinks 8 = .ok (.aload_n 0, 1) := by decide +kernel
theorem d_Ga_forgetLinks_9 : decode b_Ga_forgetLinks 9 = .ok (.getfield 35, 3) := by decide +kernel
theorem d_Ga_forgetLinks_12 : decode b_Ga_forgetLinks 12 = .ok (.lconst 0, 1) := by decide +kernel
theorem d_Ga_forgetLinks_13 : decode b_Ga_forgetLinks 13 = .ok (.invokestatic 86, 3) := by decide +kernel
theorem d_Ga_forgetLinks_16 : decode b_Ga_forgetLinks 16 = .ok (.iconst 0, 1) := by decide +kernel
theorem d_Ga_forgetLinks_17 : decode b_Ga_forgetLinks 17 = .ok (.istore_n 1, 1) := by decide +kernel
theorem d_Ga_forgetLinks_18 : decode b_Ga_forgetLinks 18 = .ok (.iload_n 1, 1) := by decide +kernel
theorem d_Ga_forgetLinks_19 : decode b_Ga_forgetLinks 19 = .ok (.bipush 9, 2) := by decide +kernel
theorem d_Ga_forgetLinks_21 : decode b_Ga_forgetLinks 21 = .ok (.if_icmp .ge 19, 3) := by decide +kernel
theorem d_Ga_forgetLinks_24 : decode b_Ga_forgetLinks 24 = .ok (.aload_n 0, 1) := by decide +kernel
theorem d_Ga_forgetLinks_25 : decode b_Ga_forgetLinks 25 = .ok (.getfield 28, 3) := by decide +kernel
theorem d_Ga_forgetLinks_28 : decode b_Ga_forgetLinks 28 = .ok (.iload_n 1, 1) := by decide +kernel
theorem d_Ga_forgetLinks_29 : decode b_Ga_forgetLinks 29 = .ok (.aaload, 1) := by decide +kernel
theorem d_Ga_forgetLinks_30 : decode b_Ga_forgetLinks 30 = .ok (.iconst 0, 1) := by decide +kernel
theorem d_Ga_forgetLinks_31 : decode b_Ga_forgetLinks 31 = .ok (.invokestatic 80, 3) := by decide +kernel
theorem d_Ga_forgetLinks_34 : decode b_Ga_forgetLinks 34 = .ok (.iinc 1 1, 3) := by decide +kernel
theorem d_Ga_forgetLinks_37 : decode b_Ga_forgetLinks 37 = .ok (.goto (-19), 3) := by decide +kernel
theorem d_Ga_forgetLinks_40 : decode b_Ga_forgetLinks 40 = .ok (.return_, 1) := by decide +kernel
theorem d_Ga_addLink_0 : decode b_Ga_addLink 0 = .ok (.aload_n 0, 1) := by decide +kernel
theorem d_Ga_addLink_1 : decode b_Ga_addLink 1 = .ok (.getfield 28, 3) := by decide +kernel
theorem d_Ga_addLink_4 : decode b_Ga_addLink 4 = .ok (.iload_n 1, 1) := by decide +kernel
theorem d_Ga_addLink_5 : decode b_Ga_addLink 5 = .ok (.aaload, 1) := by decide +kernel
theorem d_Ga_addLink_6 : decode b_Ga_addLink 6 = .ok (.iload_n 2, 1) := by decide +kernel
theorem d_Ga_addLink_7 : decode b_Ga_addLink 7 = .ok (.dup2, 1) := by decide +kernel
theorem d_Ga_addLink_8 : decode b_Ga_addLink 8 = .ok (.iaload, 1) := by decide +kernel
theorem d_Ga_addLink_9 : decode b_Ga_addLink 9 = .ok (.iload_n 3, 1) := by decide +kernel
theorem d_Ga_addLink_10 : decode b_Ga_addLink 10 = .ok (.iadd, 1) := by decide +kernel
theorem d_Ga_addLink_11 : decode b_Ga_addLink 11 = .ok (.iastore, 1) := by decide +kernel
theorem d_Ga_addLink_12 : decode b_Ga_addLink 12 = .ok (.aload_n 0, 1) := by decide +kernel
theorem d_Ga_addLink_13 : decode b_Ga_addLink 13 = .ok (.getfield 28, 3) := by decide +kernel
theorem d_Ga_addLink_16 : decode b_Ga_addLink 16 = .ok (.iload_n 2, 1) := by decide +kernel
theorem d_Ga_addLink_17 : decode b_Ga_addLink 17 = .ok (.aaload, 1) := by decide +kernel
theorem d_Ga_addLink_18 : decode b_Ga_addLink 18 = .ok (.iload_n 1, 1) := by decide +kernel
theorem d_Ga_addLink_19 : decode b_Ga_addLink 19 = .ok (.dup2, 1) := by decide +kernel
theorem d_Ga_addLink_20 : decode b_Ga_addLink 20 = .ok (.iaload, 1) := by decide +kernel
theorem d_Ga_addLink_21 : decode b_Ga_addLink 21 = .ok (.iload_n 3, 1) := by decide +kernel
theorem d_Ga_addLink_22 : decode b_Ga_addLink 22 = .ok (.iadd, 1) := by decide +kernel
theorem d_Ga_addLink_23 : decode b_Ga_addLink 23 = .ok (.iastore, 1) := by decide +kernel
theorem d_Ga_addLink_24 : decode b_Ga_addLink 24 = .ok (.aload_n 0, 1) := by decide +kernel
theorem d_Ga_addLink_25 : decode b_Ga_addLink 25 = .ok (.getfield 31, 3) := by decide +kernel
theorem d_Ga_addLink_28 : decode b_Ga_addLink 28 = .ok (.iload_n 1, 1) := by decide +kernel
theorem d_Ga_addLink_29 : decode b_Ga_addLink 29 = .ok (.dup2, 1) := by decide +kernel
theorem d_Ga_addLink_30 : decode b_Ga_addLink 30 = .ok (.iaload, 1) := by decide +kernel
theorem d_Ga_addLink_31 : decode b_Ga_addLink 31 = .ok (.iconst 1, 1) := by decide +kernel
theorem d_Ga_addLink_32 : decode b_Ga_addLink 32 = .ok (.iload_n 2, 1) := by decide +kernel
theorem d_Ga_addLink_33 : decode b_Ga_addLink 33 = .ok (.ishl, 1) := by decide +kernel
theorem d_Ga_addLink_34 : decode b_Ga_addLink 34 = .ok (.ior, 1) := by decide +kernel
theorem d_Ga_addLink_35 : decode b_Ga_addLink 35 = .ok (.iastore, 1) := by decide +kernel
theorem d_Ga_addLink_36 : decode b_Ga_addLink 36 = .ok (.aload_n 0, 1) := by decide +kernel
theorem d_Ga_addLink_37 : decode b_Ga_addLink 37 = .ok (.getfield 31, 3) := by decide +kernel
theorem d_Ga_addLink_40 : decode b_Ga_addLink 40 = .ok (.iload_n 2, 1) := by decide +kernel
theorem d_Ga_addLink_41 : decode b_Ga_addLink 41 = .ok (.dup2, 1) := by decide +kernel
theorem d_Ga_addLink_42 : decode b_Ga_addLink 42 = .ok (.iaload, 1) := by decide +kernel
theorem d_Ga_addLink_43 : decode b_Ga_addLink 43 = .ok (.iconst 1, 1) := by decide +kernel
theorem d_Ga_addLink_44 : decode b_Ga_addLink 44 = .ok (.iload_n 1, 1) := by decide +kernel
theorem d_Ga_addLink_45 : decode b_Ga_addLink 45 = .ok (.ishl, 1) := by decide +kernel
theorem d_Ga_addLink_46 : decode b_Ga_addLink 46 = .ok (.ior, 1) := by decide +kernel
theorem d_Ga_addLink_47 : decode b_Ga_addLink 47 = .ok (.iastore, 1) := by decide +kernel
theorem d_Ga_addLink_48 : decode b_Ga_addLink 48 = .ok (.aload_n 0, 1) := by decide +kernel
theorem d_Ga_addLink_49 : decode b_Ga_addLink 49 = .ok (.getfield 35, 3) := by decide +kernel
theorem d_Ga_addLink_52 : decode b_Ga_addLink 52 = .ok (.iload_n 1, 1) := by decide +kernel
theorem d_Ga_addLink_53 : decode b_Ga_addLink 53 = .ok (.dup2, 1) := by decide +kernel
theorem d_Ga_addLink_54 : decode b_Ga_addLink 54 = .ok (.laload, 1) := by decide +kernel
theorem d_Ga_addLink_55 : decode b_Ga_addLink 55 = .ok (.iload_n 3, 1) := by decide +kernel
theorem d_Ga_addLink_56 : decode b_Ga_addLink 56 = .ok (.i2l, 1) := by decide +kernel
theorem d_Ga_addLink_57 : decode b_Ga_addLink 57 = .ok (.ladd, 1) := by decide +kernel
theorem d_Ga_addLink_58 : decode b_Ga_addLink 58 = .ok (.lastore, 1) := by decide +kernel
theorem d_Ga_addLink_59 : decode b_Ga_addLink 59 = .ok (.aload_n 0, 1) := by decide +kernel
theorem d_Ga_addLink_60 : decode b_Ga_addLink 60 = .ok (.getfield 35, 3) := by decide +kernel
theorem d_Ga_addLink_63 : decode b_Ga_addLink 63 = .ok (.iload_n 2, 1) := by decide +kernel
theorem d_Ga_addLink_64 : decode b_Ga_addLink 64 = .ok (.dup2, 1) := by decide +kernel
theorem d_Ga_addLink_65 : decode b_Ga_addLink 65 = .ok (.laload, 1) := by decide +kernel
theorem d_Ga_addLink_66 : decode b_Ga_addLink 66 = .ok (.iload_n 3, 1) := by decide +kernel
theorem d_Ga_addLink_67 : decode b_Ga_addLink 67 = .ok (.i2l, 1) := by decide +kernel
theorem d_Ga_addLink_68 : decode b_Ga_addLink 68 = .ok (.ladd, 1) := by decide +kernel
theorem d_Ga_addLink_69 : decode b_Ga_addLink 69 = .ok (.lastore, 1) := by decide +kernel
theorem d_Ga_addLink_70 : decode b_Ga_addLink 70 = .ok (.return_, 1) := by decide +kernel
theorem d_Ga_pairByWeights_0 : decode b_Ga_pairByWeights 0 = .ok (.aload_n 0, 1) := by decide +kernel
theorem d_Ga_pairByWeights_1 : decode b_Ga_pairByWeights 1 = .ok (.lconst 0, 1) := by decide +kernel
theorem d_Ga_pairByWeights_2 : decode b_Ga_pairByWeights 2 = .ok (.putfield 89, 3) := by decide +kernel
theorem d_Ga_pairByWeights_5 : decode b_Ga_pairByWeights 5 = .ok (.iconst 0, 1) := by decide +kernel
theorem d_Ga_pairByWeights_6 : decode b_Ga_pairByWeights 6 = .ok (.istore_n 3, 1) := by decide +kernel
theorem d_Ga_pairByWeights_7 : decode b_Ga_pairByWeights 7 = .ok (.iload_n 3, 1) := by decide +kernel
theorem d_Ga_pairByWeights_8 : decode b_Ga_pairByWeights 8 = .ok (.aload_n 0, 1) := by decide +kernel
theorem d_Ga_pairByWeights_9 : decode b_Ga_pairByWeights 9 = .ok (.getfield 44, 3) := by decide +kernel
theorem d_Ga_pairByWeights_12 : decode b_Ga_pairByWeights 12 = .ok (.if_icmp .ge 97, 3) := by decide +kernel
theorem d_Ga_pairByWeights_15 : decode b_Ga_pairByWeights 15 = .ok (.aload_n 0, 1) := by decide +kernel
theorem d_Ga_pairByWeights_16 : decode b_Ga_pairByWeights 16 = .ok (.dup, 1) := by decide +kernel
theorem d_Ga_pairByWeights_17 : decode b_Ga_pairByWeights 17 = .ok (.getfield 89, 3) := by decide +kernel
theorem d_Ga_pairByWeights_20 : decode b_Ga_pairByWeights 20 = .ok (.aload_n 0, 1) := by decide +kernel
theorem d_Ga_pairByWeights_21 : decode b_Ga_pairByWeights 21 = .ok (.getfield 35, 3) := by decide +kernel
theorem d_Ga_pairByWeights_24 : decode b_Ga_pairByWeights 24 = .ok (.iload_n 3, 1) := by decide +kernel
theorem d_Ga_pairByWeights_25 : decode b_Ga_pairByWeights 25 = .ok (.laload, 1) := by decide +kernel
theorem d_Ga_pairByWeights_26 : decode b_Ga_pairByWeights 26 = .ok (.aload_n 0, 1) := by decide +kernel
theorem d_Ga_pairByWeights_27 : decode b_Ga_pairByWeights 27 = .ok (.getfield 35, 3) := by decide +kernel
theorem d_Ga_pairByWeights_30 : decode b_Ga_pairByWeights 30 = .ok (.iload_n 3, 1) := by decide +kernel
theorem d_Ga_pairByWeights_31 : decode b_Ga_pairByWeights 31 = .ok (.laload, 1) := by decide +kernel
theorem d_Ga_pairByWeights_32 : decode b_Ga_pairByWeights 32 = .ok (.lmul, 1) := by decide +kernel
theorem d_Ga_pairByWeights_33 : decode b_Ga_pairByWeights 33 = .ok (.ladd, 1) := by decide +kernel
theorem d_Ga_pairByWeights_34 : decode b_Ga_pairByWeights 34 = .ok (.putfield 89, 3) := by decide +kernel
theorem d_Ga_pairByWeights_37 : decode b_Ga_pairByWeights 37 = .ok (.iconst 0, 1) := by decide +kernel
theorem d_Ga_pairByWeights_38 : decode b_Ga_pairByWeights 38 = .ok (.istore 4, 2) := by decide +kernel
theorem d_Ga_pairByWeights_40 : decode b_Ga_pairByWeights 40 = .ok (.iload 4, 2) := by decide +kernel
theorem d_Ga_pairByWeights_42 : decode b_Ga_pairByWeights 42 = .ok (.aload_n 0, 1) := by decide +kernel
theorem d_Ga_pairByWeights_43 : decode b_Ga_pairByWeights 43 = .ok (.getfield 44, 3) := by decide +kernel
theorem d_Ga_pairByWeights_46 : decode b_Ga_pairByWeights 46 = .ok (.if_icmp .ge 57, 3) := by decide +kernel
theorem d_Ga_pairByWeights_49 : decode b_Ga_pairByWeights 49 = .ok (.aload_n 0, 1) := by decide +kernel
theorem d_Ga_pairByWeights_50 : decode b_Ga_pairByWeights 50 = .ok (.getfield 20, 3) := by decide +kernel
theorem d_Ga_pairByWeights_53 : decode b_Ga_pairByWeights 53 = .ok (.iload_n 3, 1) := by decide +kernel
theorem d_Ga_pairByWeights_54 : decode b_Ga_pairByWeights 54 = .ok (.aaload, 1) := by decide +kernel
theorem d_Ga_pairByWeights_55 : decode b_Ga_pairByWeights 55 = .ok (.iload 4, 2) := by decide +kernel
theorem d_Ga_pairByWeights_57 : decode b_Ga_pairByWeights 57 = .ok (.lload_n 1, 1) := by decide +kernel
theorem d_Ga_pairByWeights_58 : decode b_Ga_pairByWeights 58 = .ok (.aload_n 0, 1) := by decide +kernel
theorem d_Ga_pairByWeights_59 : decode b_Ga_pairByWeights 59 = .ok (.getfield 28, 3) := by decide +kernel
theorem d_Ga_pairByWeights_62 : decode b_Ga_pairByWeights 62 = .ok (.iload_n 3, 1) := by decide +kernel
theorem d_Ga_pairByWeights_63 : decode b_Ga_pairByWeights 63 = .ok (.aaload, 1) := by decide +kernel
theorem d_Ga_pairByWeights_64 : decode b_Ga_pairByWeights 64 = .ok (.iload 4, 2) := by decide +kernel
theorem d_Ga_pairByWeights_66 : decode b_Ga_pairByWeights 66 = .ok (.iaload, 1) := by decide +kernel
theorem d_Ga_pairByWeights_67 : decode b_Ga_pairByWeights 67 = .ok (.i2l, 1) := by decide +kernel
theorem d_Ga_pairByWeights_68 : decode b_Ga_pairByWeights 68 = .ok (.lmul, 1) := by decide +kernel
theorem d_Ga_pairByWeights_69 : decode b_Ga_pairByWeights 69 = .ok (.lastore, 1) := by decide +kernel
theorem d_Ga_pairByWeights_70 : decode b_Ga_pairByWeights 70 = .ok (.aload_n 0, 1) := by decide +kernel
theorem d_Ga_pairByWeights_71 : decode b_Ga_pairByWeights 71 = .ok (.getfield 23, 3) := by decide +kernel
theorem d_Ga_pairByWeights_74 : decode b_Ga_pairByWeights 74 = .ok (.iload_n 3, 1) := by decide +kernel
theorem d_Ga_pairByWeights_75 : decode b_Ga_pairByWeights 75 = .ok (.aaload, 1) := by decide +kernel
theorem d_Ga_pairByWeights_76 : decode b_Ga_pairByWeights 76 = .ok (.iload 4, 2) := by decide +kernel
theorem d_Ga_pairByWeights_78 : decode b_Ga_pairByWeights 78 = .ok (.ldc2_w 93, 3) := by decide +kernel
theorem d_Ga_pairByWeights_81 : decode b_Ga_pairByWeights 81 = .ok (.aload_n 0, 1) := by decide +kernel
theorem d_Ga_pairByWeights_82 : decode b_Ga_pairByWeights 82 = .ok (.getfield 35, 3) := by decide +kernel
theorem d_Ga_pairByWeights_85 : decode b_Ga_pairByWeights 85 = .ok (.iload_n 3, 1) := by decide +kernel
theorem d_Ga_pairByWeights_86 : decode b_Ga_pairByWeights 86 = .ok (.laload, 1) := by decide +kernel
theorem d_Ga_pairByWeights_87 : decode b_Ga_pairByWeights 87 = .ok (.lmul, 1) := by decide +kernel
theorem d_Ga_pairByWeights_88 : decode b_Ga_pairByWeights 88 = .ok (.aload_n 0, 1) := by decide +kernel
theorem d_Ga_pairByWeights_89 : decode b_Ga_pairByWeights 89 = .ok (.getfield 35, 3) := by decide +kernel
theorem d_Ga_pairByWeights_92 : decode b_Ga_pairByWeights 92 = .ok (.iload 4, 2) := by decide +kernel
theorem d_Ga_pairByWeights_94 : decode b_Ga_pairByWeights 94 = .ok (.laload, 1) := by decide +kernel
theorem d_Ga_pairByWeights_95 : decode b_Ga_pairByWeights 95 = .ok (.lmul, 1) := by decide +kernel
theorem d_Ga_pairByWeights_96 : decode b_Ga_pairByWeights 96 = .ok (.lastore, 1) := by decide +kernel
theorem d_Ga_pairByWeights_97 : decode b_Ga_pairByWeights 97 = .ok (.iinc 4 1, 3) := by decide +kernel
theorem d_Ga_pairByWeights_100 : decode b_Ga_pairByWeights 100 = .ok (.goto (-60), 3) := by decide +kernel
theorem d_Ga_pairByWeights_103 : decode b_Ga_pairByWeights 103 = .ok (.iinc 3 1, 3) := by decide +kernel
theorem d_Ga_pairByWeights_106 : decode b_Ga_pairByWeights 106 = .ok (.goto (-99), 3) := by decide +kernel
theorem d_Ga_pairByWeights_109 : decode b_Ga_pairByWeights 109 = .ok (.return_, 1) := by decide +kernel
theorem d_Ga_pairByNumbers_0 : decode b_Ga_pairByNumbers 0 = .ok (.aload_n 0, 1) := by decide +kernel
theorem d_Ga_pairByNumbers_1 : decode b_Ga_pairByNumbers 1 = .ok (.lconst 0, 1) := by decide +kernel
theorem d_Ga_pairByNumbers_2 : decode b_Ga_pairByNumbers 2 = .ok (.putfield 89, 3) := by decide +kernel
theorem d_Ga_pairByNumbers_5 : decode b_Ga_pairByNumbers 5 = .ok (.iconst 0, 1) := by decide +kernel
theorem d_Ga_pairByNumbers_6 : decode b_Ga_pairByNumbers 6 = .ok (.istore_n 1, 1) := by decide +kernel
theorem d_Ga_pairByNumbers_7 : decode b_Ga_pairByNumbers 7 = .ok (.iload_n 1, 1) := by decide +kernel
theorem d_Ga_pairByNumbers_8 : decode b_Ga_pairByNumbers 8 = .ok (.aload_n 0, 1) := by decide +kernel
theorem d_Ga_pairByNumbers_9 : decode b_Ga_pairByNumbers 9 = .ok (.getfield 44, 3) := by decide +kernel
theorem d_Ga_pairByNumbers_12 : decode b_Ga_pairByNumbers 12 = .ok (.if_icmp .ge 51, 3) := by decide +kernel
theorem d_Ga_pairByNumbers_15 : decode b_Ga_pairByNumbers 15 = .ok (.iconst 0, 1) := by decide +kernel
theorem d_Ga_pairByNumbers_16 : decode b_Ga_pairByNumbers 16 = .ok (.istore_n 2, 1) := by decide +kernel
theorem d_Ga_pairByNumbers_17 : decode b_Ga_pairByNumbers 17 = .ok (.iload_n 2, 1) := by decide +kernel
theorem d_Ga_pairByNumbers_18 : decode b_Ga_pairByNumbers 18 = .ok (.aload_n 0, 1) := by decide +kernel
theorem d_Ga_pairByNumbers_19 : decode b_Ga_pairByNumbers 19 = .ok (.getfield 44, 3) := by decide +kernel
theorem d_Ga_pairByNumbers_22 : decode b_Ga_pairByNumbers 22 = .ok (.if_icmp .ge 35, 3) := by decide +kernel
theorem d_Ga_pairByNumbers_25 : decode b_Ga_pairByNumbers 25 = .ok (.aload_n 0, 1) := by decide +kernel
theorem d_Ga_pairByNumbers_26 : decode b_Ga_pairByNumbers 26 = .ok (.getfield 20, 3) := by decide +kernel
theorem d_Ga_pairByNumbers_29 : decode b_Ga_pairByNumbers 29 = .ok (.iload_n 1, 1) := by decide +kernel
theorem d_Ga_pairByNumbers_30 : decode b_Ga_pairByNumbers 30 = .ok (.aaload, 1) := by decide +kernel
theorem d_Ga_pairByNumbers_31 : decode b_Ga_pairByNumbers 31 = .ok (.iload_n 2, 1) := by decide +kernel
theorem d_Ga_pairByNumbers_32 : decode b_Ga_pairByNumbers 32 = .ok (.aload_n 0, 1) := by decide +kernel
theorem d_Ga_pairByNumbers_33 : decode b_Ga_pairByNumbers 33 = .ok (.getfield 28, 3) := by decide +kernel
theorem d_Ga_pairByNumbers_36 : decode b_Ga_pairByNumbers 36 = .ok (.iload_n 1, 1) := by decide +kernel
theorem d_Ga_pairByNumbers_37 : decode b_Ga_pairByNumbers 37 = .ok (.aaload, 1) := by decide +kernel
theorem d_Ga_pairByNumbers_38 : decode b_Ga_pairByNumbers 38 = .ok (.iload_n 2, 1) := by decide +kernel
theorem d_Ga_pairByNumbers_39 : decode b_Ga_pairByNumbers 39 = .ok (.iaload, 1) := by decide +kernel
theorem d_Ga_pairByNumbers_40 : decode b_Ga_pairByNumbers 40 = .ok (.i2l, 1) := by decide +kernel
theorem d_Ga_pairByNumbers_41 : decode b_Ga_pairByNumbers 41 = .ok (.lastore, 1) := by decide +kernel
theorem d_Ga_pairByNumbers_42 : decode b_Ga_pairByNumbers 42 = .ok (.aload_n 0, 1) := by decide +kernel
theorem d_Ga_pairByNumbers_43 : decode b_Ga_pairByNumbers 43 = .ok (.getfield 23, 3) := by decide +kernel
theorem d_Ga_pairByNumbers_46 : decode b_Ga_pairByNumbers 46 = .ok (.iload_n 1, 1) := by decide +kernel
theorem d_Ga_pairByNumbers_47 : decode b_Ga_pairByNumbers 47 = .ok (.aaload, 1) := by decide +kernel
theorem d_Ga_pairByNumbers_48 : decode b_Ga_pairByNumbers 48 = .ok (.iload_n 2, 1) := by decide +kernel
theorem d_Ga_pairByNumbers_49 : decode b_Ga_pairByNumbers 49 = .ok (.lconst 1, 1) := by decide +kernel
theorem d_Ga_pairByNumbers_50 : decode b_Ga_pairByNumbers 50 = .ok (.lastore, 1) := by decide +kernel
theorem d_Ga_pairByNumbers_51 : decode b_Ga_pairByNumbers 51 = .ok (.iinc 2 1, 3) := by decide +kernel
theorem d_Ga_pairByNumbers_54 : decode b_Ga_pairByNumbers 54 = .ok (.goto (-37), 3) := by decide +kernel
theorem d_Ga_pairByNumbers_57 : decode b_Ga_pairByNumbers 57 = .ok (.iinc 1 1, 3) := by decide +kernel
theorem d_Ga_pairByNumbers_60 : decode b_Ga_pairByNumbers 60 = .ok (.goto (-53), 3) := by decide +kernel
theorem d_Ga_pairByNumbers_63 : decode b_Ga_pairByNumbers 63 = .ok (.return_, 1) := by decide +kernel
theorem d_Ga_worth_0 : decode b_Ga_worth 0 = .ok (.aload_n 0, 1) := by decide +kernel
theorem d_Ga_worth_1 : decode b_Ga_worth 1 = .ok (.getfield 15, 3) := by decide +kernel
theorem d_Ga_worth_4 : decode b_Ga_worth 4 = .ok (.i2l, 1) := by decide +kernel
theorem d_Ga_worth_5 : decode b_Ga_worth 5 = .ok (.lload_n 1, 1) := by decide +kernel
theorem d_Ga_worth_6 : decode b_Ga_worth 6 = .ok (.lmul, 1) := by decide +kernel
theorem d_Ga_worth_7 : decode b_Ga_worth 7 = .ok (.aload_n 0, 1) := by decide +kernel
theorem d_Ga_worth_8 : decode b_Ga_worth 8 = .ok (.getfield 9, 3) := by decide +kernel
theorem d_Ga_worth_11 : decode b_Ga_worth 11 = .ok (.i2l, 1) := by decide +kernel
theorem d_Ga_worth_12 : decode b_Ga_worth 12 = .ok (.lload_n 3, 1) := by decide +kernel
theorem d_Ga_worth_13 : decode b_Ga_worth 13 = .ok (.lmul, 1) := by decide +kernel
theorem d_Ga_worth_14 : decode b_Ga_worth 14 = .ok (.lsub, 1) := by decide +kernel
theorem d_Ga_worth_15 : decode b_Ga_worth 15 = .ok (.lreturn, 1) := by decide +kernel
theorem d_Ga_worthOf_0 : decode b_Ga_worthOf 0 = .ok (.aload_n 0, 1) := by decide +kernel
theorem d_Ga_worthOf_1 : decode b_Ga_worthOf 1 = .ok (.aload_n 0, 1) := by decide +kernel
theorem d_Ga_worthOf_2 : decode b_Ga_worthOf 2 = .ok (.aload_n 1, 1) := by decide +kernel
theorem d_Ga_worthOf_3 : decode b_Ga_worthOf 3 = .ok (.invokevirtual 95, 3) := by decide +kernel
theorem d_Ga_worthOf_6 : decode b_Ga_worthOf 6 = .ok (.aload_n 0, 1) := by decide +kernel
theorem d_Ga_worthOf_7 : decode b_Ga_worthOf 7 = .ok (.aload_n 1, 1) := by decide +kernel
theorem d_Ga_worthOf_8 : decode b_Ga_worthOf 8 = .ok (.invokevirtual 99, 3) := by decide +kernel
theorem d_Ga_worthOf_11 : decode b_Ga_worthOf 11 = .ok (.invokevirtual 102, 3) := by decide +kernel
theorem d_Ga_worthOf_14 : decode b_Ga_worthOf 14 = .ok (.lreturn, 1) := by decide +kernel
theorem d_Ga_sumA_0 : decode b_Ga_sumA 0 = .ok (.aload_n 0, 1) := by decide +kernel
theorem d_Ga_sumA_1 : decode b_Ga_sumA 1 = .ok (.aload_n 0, 1) := by decide +kernel
theorem d_Ga_sumA_2 : decode b_Ga_sumA 2 = .ok (.getfield 20, 3) := by decide +kernel
theorem d_Ga_sumA_5 : decode b_Ga_sumA 5 = .ok (.aload_n 1, 1) := by decide +kernel
theorem d_Ga_sumA_6 : decode b_Ga_sumA 6 = .ok (.invokevirtual 106, 3) := by decide +kernel
theorem d_Ga_sumA_9 : decode b_Ga_sumA 9 = .ok (.lreturn, 1) := by decide +kernel
theorem d_Ga_sumB_0 : decode b_Ga_sumB 0 = .ok (.aload_n 0, 1) := by decide +kernel
theorem d_Ga_sumB_1 : decode b_Ga_sumB 1 = .ok (.getfield 89, 3) := by decide +kernel
theorem d_Ga_sumB_4 : decode b_Ga_sumB 4 = .ok (.aload_n 0, 1) := by decide +kernel
theorem d_Ga_sumB_5 : decode b_Ga_sumB 5 = .ok (.aload_n 0, 1) := by decide +kernel
theorem d_Ga_sumB_6 : decode b_Ga_sumB 6 = .ok (.getfield 23, 3) := by decide +kernel
theorem d_Ga_sumB_9 : decode b_Ga_sumB 9 = .ok (.aload_n 1, 1) := by decide +kernel
theorem d_Ga_sumB_10 : decode b_Ga_sumB 10 = .ok (.invokevirtual 106, 3) := by decide +kernel
theorem d_Ga_sumB_13 : decode b_Ga_sumB 13 = .ok (.ladd, 1) := by decide +kernel
theorem d_Ga_sumB_14 : decode b_Ga_sumB 14 = .ok (.lreturn, 1) := by decide +kernel
theorem d_Ga_sumWithin_0 : decode b_Ga_sumWithin 0 = .ok (.lconst 0, 1) := by decide +kernel
theorem d_Ga_sumWithin_1 : decode b_Ga_sumWithin 1 = .ok (.lstore_n 3, 1) := by decide +kernel
theorem d_Ga_sumWithin_2 : decode b_Ga_sumWithin 2 = .ok (.iconst 1, 1) := by decide +kernel
theorem d_Ga_sumWithin_3 : decode b_Ga_sumWithin 3 = .ok (.istore 5, 2) := by decide +kernel
theorem d_Ga_sumWithin_5 : decode b_Ga_sumWithin 5 = .ok (.iload 5, 2) := by decide +kernel
theorem d_Ga_sumWithin_7 : decode b_Ga_sumWithin 7 = .ok (.aload_n 0, 1) := by decide +kernel
theorem d_Ga_sumWithin_8 : decode b_Ga_sumWithin 8 = .ok (.getfield 44, 3) := by decide +kernel
theorem d_Ga_sumWithin_11 : decode b_Ga_sumWithin 11 = .ok (.if_icmp .ge 52, 3) := by decide +kernel
theorem d_Ga_sumWithin_14 : decode b_Ga_sumWithin 14 = .ok (.iconst 0, 1) := by decide +kernel
theorem d_Ga_sumWithin_15 : decode b_Ga_sumWithin 15 = .ok (.istore 6, 2) := by decide +kernel
theorem d_Ga_sumWithin_17 : decode b_Ga_sumWithin 17 = .ok (.iload 6, 2) := by decide +kernel
theorem d_Ga_sumWithin_19 : decode b_Ga_sumWithin 19 = .ok (.iload 5, 2) := by decide +kernel
theorem d_Ga_sumWithin_21 : decode b_Ga_sumWithin 21 = .ok (.if_icmp .ge 36, 3) := by decide +kernel
theorem d_Ga_sumWithin_24 : decode b_Ga_sumWithin 24 = .ok (.aload_n 2, 1) := by decide +kernel
theorem d_Ga_sumWithin_25 : decode b_Ga_sumWithin 25 = .ok (.getfield 110, 3) := by decide +kernel
theorem d_Ga_sumWithin_28 : decode b_Ga_sumWithin 28 = .ok (.iload 5, 2) := by decide +kernel
theorem d_Ga_sumWithin_30 : decode b_Ga_sumWithin 30 = .ok (.iaload, 1) := by decide +kernel
theorem d_Ga_sumWithin_31 : decode b_Ga_sumWithin 31 = .ok (.aload_n 2, 1) := by decide +kernel
theorem d_Ga_sumWithin_32 : decode b_Ga_sumWithin 32 = .ok (.getfield 110, 3) := by decide +kernel
theorem d_Ga_sumWithin_35 : decode b_Ga_sumWithin 35 = .ok (.iload 6, 2) := by decide +kernel
theorem d_Ga_sumWithin_37 : decode b_Ga_sumWithin 37 = .ok (.iaload, 1) := by decide +kernel
theorem d_Ga_sumWithin_38 : decode b_Ga_sumWithin 38 = .ok (.if_icmp .ne 13, 3) := by decide +kernel
theorem d_Ga_sumWithin_41 : decode b_Ga_sumWithin 41 = .ok (.lload_n 3, 1) := by decide +kernel
theorem d_Ga_sumWithin_42 : decode b_Ga_sumWithin 42 = .ok (.aload_n 1, 1) := by decide +kernel
theorem d_Ga_sumWithin_43 : decode b_Ga_sumWithin 43 = .ok (.iload 5, 2) := by decide +kernel
theorem d_Ga_sumWithin_45 : decode b_Ga_sumWithin 45 = .ok (.aaload, 1) := by decide +kernel
theorem d_Ga_sumWithin_46 : decode b_Ga_sumWithin 46 = .ok (.iload 6, 2) := by decide +kernel
theorem d_Ga_sumWithin_48 : decode b_Ga_sumWithin 48 = .ok (.laload, 1) := by decide +kernel
theorem d_Ga_sumWithin_49 : decode b_Ga_sumWithin 49 = .ok (.ladd, 1) := by decide +kernel
theorem d_Ga_sumWithin_50 : decode b_Ga_sumWithin 50 = .ok (.lstore_n 3, 1) := by decide +kernel
theorem d_Ga_sumWithin_51 : decode b_Ga_sumWithin 51 = .ok (.iinc 6 1, 3) := by decide +kernel
theorem d_Ga_sumWithin_54 : decode b_Ga_sumWithin 54 = .ok (.goto (-37), 3) := by decide +kernel
theorem d_Ga_sumWithin_57 : decode b_Ga_sumWithin 57 = .ok (.iinc 5 1, 3) := by decide +kernel
theorem d_Ga_sumWithin_60 : decode b_Ga_sumWithin 60 = .ok (.goto (-55), 3) := by decide +kernel
theorem d_Ga_sumWithin_63 : decode b_Ga_sumWithin 63 = .ok (.lload_n 3, 1) := by decide +kernel
theorem d_Ga_sumWithin_64 : decode b_Ga_sumWithin 64 = .ok (.lreturn, 1) := by decide +kernel
