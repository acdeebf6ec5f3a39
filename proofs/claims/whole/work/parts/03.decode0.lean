theorem d_MG_init_0 : decode b_MG_init 0 = .ok (.aload_n 0, 1) := by decide +kernel
theorem d_MG_init_1 : decode b_MG_init 1 = .ok (.invokespecial 1, 3) := by decide +kernel
theorem d_MG_init_4 : decode b_MG_init 4 = .ok (.aload_n 0, 1) := by decide +kernel
theorem d_MG_init_5 : decode b_MG_init 5 = .ok (.new 7, 3) := by decide +kernel
theorem d_MG_init_8 : decode b_MG_init 8 = .ok (.dup, 1) := by decide +kernel
theorem d_MG_init_9 : decode b_MG_init 9 = .ok (.invokespecial 9, 3) := by decide +kernel
theorem d_MG_init_12 : decode b_MG_init 12 = .ok (.putfield 10, 3) := by decide +kernel
theorem d_MG_init_15 : decode b_MG_init 15 = .ok (.aload_n 0, 1) := by decide +kernel
theorem d_MG_init_16 : decode b_MG_init 16 = .ok (.new 16, 3) := by decide +kernel
theorem d_MG_init_19 : decode b_MG_init 19 = .ok (.dup, 1) := by decide +kernel
theorem d_MG_init_20 : decode b_MG_init 20 = .ok (.invokespecial 18, 3) := by decide +kernel
theorem d_MG_init_23 : decode b_MG_init 23 = .ok (.putfield 19, 3) := by decide +kernel
theorem d_MG_init_26 : decode b_MG_init 26 = .ok (.aload_n 0, 1) := by decide +kernel
theorem d_MG_init_27 : decode b_MG_init 27 = .ok (.new 23, 3) := by decide +kernel
theorem d_MG_init_30 : decode b_MG_init 30 = .ok (.dup, 1) := by decide +kernel
theorem d_MG_init_31 : decode b_MG_init 31 = .ok (.invokespecial 25, 3) := by decide +kernel
theorem d_MG_init_34 : decode b_MG_init 34 = .ok (.putfield 26, 3) := by decide +kernel
theorem d_MG_init_37 : decode b_MG_init 37 = .ok (.aload_n 0, 1) := by decide +kernel
theorem d_MG_init_38 : decode b_MG_init 38 = .ok (.new 23, 3) := by decide +kernel
theorem d_MG_init_41 : decode b_MG_init 41 = .ok (.dup, 1) := by decide +kernel
theorem d_MG_init_42 : decode b_MG_init 42 = .ok (.invokespecial 25, 3) := by decide +kernel
theorem d_MG_init_45 : decode b_MG_init 45 = .ok (.putfield 30, 3) := by decide +kernel
theorem d_MG_init_48 : decode b_MG_init 48 = .ok (.new 33, 3) := by decide +kernel
theorem d_MG_init_51 : decode b_MG_init 51 = .ok (.dup, 1) := by decide +kernel
theorem d_MG_init_52 : decode b_MG_init 52 = .ok (.aload_n 0, 1) := by decide +kernel
theorem d_MG_init_53 : decode b_MG_init 53 = .ok (.getfield 19, 3) := by decide +kernel
theorem d_MG_init_56 : decode b_MG_init 56 = .ok (.invokespecial 35, 3) := by decide +kernel
theorem d_MG_init_59 : decode b_MG_init 59 = .ok (.astore_n 1, 1) := by decide +kernel
theorem d_MG_init_60 : decode b_MG_init 60 = .ok (.aload_n 0, 1) := by decide +kernel
theorem d_MG_init_61 : decode b_MG_init 61 = .ok (.new 38, 3) := by decide +kernel
theorem d_MG_init_64 : decode b_MG_init 64 = .ok (.dup, 1) := by decide +kernel
theorem d_MG_init_65 : decode b_MG_init 65 = .ok (.aload_n 0, 1) := by decide +kernel
theorem d_MG_init_66 : decode b_MG_init 66 = .ok (.getfield 19, 3) := by decide +kernel
theorem d_MG_init_69 : decode b_MG_init 69 = .ok (.aload_n 1, 1) := by decide +kernel
theorem d_MG_init_70 : decode b_MG_init 70 = .ok (.invokespecial 40, 3) := by decide +kernel
theorem d_MG_init_73 : decode b_MG_init 73 = .ok (.putfield 43, 3) := by decide +kernel
theorem d_MG_init_76 : decode b_MG_init 76 = .ok (.aload_n 0, 1) := by decide +kernel
theorem d_MG_init_77 : decode b_MG_init 77 = .ok (.new 47, 3) := by decide +kernel
theorem d_MG_init_80 : decode b_MG_init 80 = .ok (.dup, 1) := by decide +kernel
theorem d_MG_init_81 : decode b_MG_init 81 = .ok (.aload_n 0, 1) := by decide +kernel
theorem d_MG_init_82 : decode b_MG_init 82 = .ok (.getfield 19, 3) := by decide +kernel
theorem d_MG_init_85 : decode b_MG_init 85 = .ok (.invokespecial 49, 3) := by decide +kernel
theorem d_MG_init_88 : decode b_MG_init 88 = .ok (.putfield 50, 3) := by decide +kernel
theorem d_MG_init_91 : decode b_MG_init 91 = .ok (.aload_n 0, 1) := by decide +kernel
theorem d_MG_init_92 : decode b_MG_init 92 = .ok (.new 54, 3) := by decide +kernel
theorem d_MG_init_95 : decode b_MG_init 95 = .ok (.dup, 1) := by decide +kernel
theorem d_MG_init_96 : decode b_MG_init 96 = .ok (.aload_n 1, 1) := by decide +kernel
theorem d_MG_init_97 : decode b_MG_init 97 = .ok (.invokespecial 56, 3) := by decide +kernel
theorem d_MG_init_100 : decode b_MG_init 100 = .ok (.putfield 59, 3) := by decide +kernel
theorem d_MG_init_103 : decode b_MG_init 103 = .ok (.return_, 1) := by decide +kernel
theorem d_MG_manner_0 : decode b_MG_manner 0 = .ok (.iload_n 1, 1) := by decide +kernel
theorem d_MG_manner_1 : decode b_MG_manner 1 = .ok (.ifCond .lt 8, 3) := by decide +kernel
theorem d_MG_manner_4 : decode b_MG_manner 4 = .ok (.iload_n 1, 1) := by decide +kernel
theorem d_MG_manner_5 : decode b_MG_manner 5 = .ok (.iconst 1, 1) := by decide +kernel
theorem d_MG_manner_6 : decode b_MG_manner 6 = .ok (.if_icmp .le 6, 3) := by decide +kernel
theorem d_MG_manner_9 : decode b_MG_manner 9 = .ok (.bipush (-2), 2) := by decide +kernel
theorem d_MG_manner_11 : decode b_MG_manner 11 = .ok (.ireturn, 1) := by decide +kernel
theorem d_MG_manner_12 : decode b_MG_manner 12 = .ok (.aload_n 0, 1) := by decide +kernel
theorem d_MG_manner_13 : decode b_MG_manner 13 = .ok (.getfield 10, 3) := by decide +kernel
theorem d_MG_manner_16 : decode b_MG_manner 16 = .ok (.getfield 63, 3) := by decide +kernel
theorem d_MG_manner_19 : decode b_MG_manner 19 = .ok (.istore_n 2, 1) := by decide +kernel
theorem d_MG_manner_20 : decode b_MG_manner 20 = .ok (.aload_n 0, 1) := by decide +kernel
theorem d_MG_manner_21 : decode b_MG_manner 21 = .ok (.getfield 10, 3) := by decide +kernel
theorem d_MG_manner_24 : decode b_MG_manner 24 = .ok (.iload_n 1, 1) := by decide +kernel
theorem d_MG_manner_25 : decode b_MG_manner 25 = .ok (.putfield 63, 3) := by decide +kernel
theorem d_MG_manner_28 : decode b_MG_manner 28 = .ok (.aload_n 0, 1) := by decide +kernel
theorem d_MG_manner_29 : decode b_MG_manner 29 = .ok (.invokevirtual 67, 3) := by decide +kernel
theorem d_MG_manner_32 : decode b_MG_manner 32 = .ok (.iload_n 2, 1) := by decide +kernel
theorem d_MG_manner_33 : decode b_MG_manner 33 = .ok (.ireturn, 1) := by decide +kernel
theorem d_MG_resolution_0 : decode b_MG_resolution 0 = .ok (.iload_n 1, 1) := by decide +kernel
theorem d_MG_resolution_1 : decode b_MG_resolution 1 = .ok (.ifCond .lt 21, 3) := by decide +kernel
theorem d_MG_resolution_4 : decode b_MG_resolution 4 = .ok (.iload_n 1, 1) := by decide +kernel
theorem d_MG_resolution_5 : decode b_MG_resolution 5 = .ok (.sipush 1000, 3) := by decide +kernel
theorem d_MG_resolution_8 : decode b_MG_resolution 8 = .ok (.if_icmp .gt 14, 3) := by decide +kernel
theorem d_MG_resolution_11 : decode b_MG_resolution 11 = .ok (.iload_n 2, 1) := by decide +kernel
theorem d_MG_resolution_12 : decode b_MG_resolution 12 = .ok (.iconst 1, 1) := by decide +kernel
theorem d_MG_resolution_13 : decode b_MG_resolution 13 = .ok (.if_icmp .lt 9, 3) := by decide +kernel
theorem d_MG_resolution_16 : decode b_MG_resolution 16 = .ok (.iload_n 2, 1) := by decide +kernel
theorem d_MG_resolution_17 : decode b_MG_resolution 17 = .ok (.bipush 100, 2) := by decide +kernel
theorem d_MG_resolution_19 : decode b_MG_resolution 19 = .ok (.if_icmp .le 6, 3) := by decide +kernel
theorem d_MG_resolution_22 : decode b_MG_resolution 22 = .ok (.bipush (-2), 2) := by decide +kernel
theorem d_MG_resolution_24 : decode b_MG_resolution 24 = .ok (.ireturn, 1) := by decide +kernel
theorem d_MG_resolution_25 : decode b_MG_resolution 25 = .ok (.aload_n 0, 1) := by decide +kernel
theorem d_MG_resolution_26 : decode b_MG_resolution 26 = .ok (.getfield 19, 3) := by decide +kernel
theorem d_MG_resolution_29 : decode b_MG_resolution 29 = .ok (.iload_n 1, 1) := by decide +kernel
theorem d_MG_resolution_30 : decode b_MG_resolution 30 = .ok (.putfield 70, 3) := by decide +kernel
theorem d_MG_resolution_33 : decode b_MG_resolution 33 = .ok (.aload_n 0, 1) := by decide +kernel
theorem d_MG_resolution_34 : decode b_MG_resolution 34 = .ok (.getfield 19, 3) := by decide +kernel
theorem d_MG_resolution_37 : decode b_MG_resolution 37 = .ok (.iload_n 2, 1) := by decide +kernel
theorem d_MG_resolution_38 : decode b_MG_resolution 38 = .ok (.putfield 73, 3) := by decide +kernel
theorem d_MG_resolution_41 : decode b_MG_resolution 41 = .ok (.iconst 1, 1) := by decide +kernel
theorem d_MG_resolution_42 : decode b_MG_resolution 42 = .ok (.ireturn, 1) := by decide +kernel
theorem d_MG_node_0 : decode b_MG_node 0 = .ok (.aload_n 0, 1) := by decide +kernel
theorem d_MG_node_1 : decode b_MG_node 1 = .ok (.getfield 10, 3) := by decide +kernel
theorem d_MG_node_4 : decode b_MG_node 4 = .ok (.getfield 76, 3) := by decide +kernel
theorem d_MG_node_7 : decode b_MG_node 7 = .ok (.bipush 9, 2) := by decide +kernel
theorem d_MG_node_9 : decode b_MG_node 9 = .ok (.if_icmp .lt 6, 3) := by decide +kernel
theorem d_MG_node_12 : decode b_MG_node 12 = .ok (.bipush (-4), 2) := by decide +kernel
theorem d_MG_node_14 : decode b_MG_node 14 = .ok (.ireturn, 1) := by decide +kernel
theorem d_MG_node_15 : decode b_MG_node 15 = .ok (.aload_n 0, 1) := by decide +kernel
theorem d_MG_node_16 : decode b_MG_node 16 = .ok (.getfield 10, 3) := by decide +kernel
theorem d_MG_node_19 : decode b_MG_node 19 = .ok (.getfield 76, 3) := by decide +kernel
theorem d_MG_node_22 : decode b_MG_node 22 = .ok (.istore_n 1, 1) := by decide +kernel
theorem d_MG_node_23 : decode b_MG_node 23 = .ok (.aload_n 0, 1) := by decide +kernel
theorem d_MG_node_24 : decode b_MG_node 24 = .ok (.getfield 10, 3) := by decide +kernel
theorem d_MG_node_27 : decode b_MG_node 27 = .ok (.dup, 1) := by decide +kernel
theorem d_MG_node_28 : decode b_MG_node 28 = .ok (.getfield 76, 3) := by decide +kernel
theorem d_MG_node_31 : decode b_MG_node 31 = .ok (.iconst 1, 1) := by decide +kernel
theorem d_MG_node_32 : decode b_MG_node 32 = .ok (.iadd, 1) := by decide +kernel
theorem d_MG_node_33 : decode b_MG_node 33 = .ok (.putfield 76, 3) := by decide +kernel
theorem d_MG_node_36 : decode b_MG_node 36 = .ok (.aload_n 0, 1) := by decide +kernel
theorem d_MG_node_37 : decode b_MG_node 37 = .ok (.invokevirtual 79, 3) := by decide +kernel
theorem d_MG_node_40 : decode b_MG_node 40 = .ok (.iload_n 1, 1) := by decide +kernel
theorem d_MG_node_41 : decode b_MG_node 41 = .ok (.ireturn, 1) := by decide +kernel
theorem d_MG_arc_0 : decode b_MG_arc 0 = .ok (.aload_n 0, 1) := by decide +kernel
theorem d_MG_arc_1 : decode b_MG_arc 1 = .ok (.getfield 10, 3) := by decide +kernel
theorem d_MG_arc_4 : decode b_MG_arc 4 = .ok (.iload_n 1, 1) := by decide +kernel
theorem d_MG_arc_5 : decode b_MG_arc 5 = .ok (.iload_n 2, 1) := by decide +kernel
theorem d_MG_arc_6 : decode b_MG_arc 6 = .ok (.invokevirtual 82, 3) := by decide +kernel
theorem d_MG_arc_9 : decode b_MG_arc 9 = .ok (.ifCond .eq 8, 3) := by decide +kernel
theorem d_MG_arc_12 : decode b_MG_arc 12 = .ok (.iload_n 1, 1) := by decide +kernel
theorem d_MG_arc_13 : decode b_MG_arc 13 = .ok (.iload_n 2, 1) := by decide +kernel
theorem d_MG_arc_14 : decode b_MG_arc 14 = .ok (.if_icmp .ne 5, 3) := by decide +kernel
theorem d_MG_arc_17 : decode b_MG_arc 17 = .ok (.iconst (-1), 1) := by decide +kernel
theorem d_MG_arc_18 : decode b_MG_arc 18 = .ok (.ireturn, 1) := by decide +kernel
theorem d_MG_arc_19 : decode b_MG_arc 19 = .ok (.iload_n 3, 1) := by decide +kernel
theorem d_MG_arc_20 : decode b_MG_arc 20 = .ok (.bipush (-50), 2) := by decide +kernel
theorem d_MG_arc_22 : decode b_MG_arc 22 = .ok (.if_icmp .lt 13, 3) := by decide +kernel
theorem d_MG_arc_25 : decode b_MG_arc 25 = .ok (.iload_n 3, 1) := by decide +kernel
theorem d_MG_arc_26 : decode b_MG_arc 26 = .ok (.bipush 50, 2) := by decide +kernel
theorem d_MG_arc_28 : decode b_MG_arc 28 = .ok (.if_icmp .gt 7, 3) := by decide +kernel
theorem d_MG_arc_31 : decode b_MG_arc 31 = .ok (.iload_n 3, 1) := by decide +kernel
theorem d_MG_arc_32 : decode b_MG_arc 32 = .ok (.ifCond .ne 6, 3) := by decide +kernel
theorem d_MG_arc_35 : decode b_MG_arc 35 = .ok (.bipush (-2), 2) := by decide +kernel
theorem d_MG_arc_37 : decode b_MG_arc 37 = .ok (.ireturn, 1) := by decide +kernel
theorem d_MG_arc_38 : decode b_MG_arc 38 = .ok (.aload_n 0, 1) := by decide +kernel
theorem d_MG_arc_39 : decode b_MG_arc 39 = .ok (.getfield 10, 3) := by decide +kernel
theorem d_MG_arc_42 : decode b_MG_arc 42 = .ok (.getfield 86, 3) := by decide +kernel
theorem d_MG_arc_45 : decode b_MG_arc 45 = .ok (.bipush 36, 2) := by decide +kernel
theorem d_MG_arc_47 : decode b_MG_arc 47 = .ok (.if_icmp .lt 6, 3) := by decide +kernel
theorem d_MG_arc_50 : decode b_MG_arc 50 = .ok (.bipush (-4), 2) := by decide +kernel
theorem d_MG_arc_52 : decode b_MG_arc 52 = .ok (.ireturn, 1) := by decide +kernel
theorem d_MG_arc_53 : decode b_MG_arc 53 = .ok (.aload_n 0, 1) := by decide +kernel
theorem d_MG_arc_54 : decode b_MG_arc 54 = .ok (.getfield 10, 3) := by decide +kernel
theorem d_MG_arc_57 : decode b_MG_arc 57 = .ok (.iload_n 1, 1) := by decide +kernel
theorem d_MG_arc_58 : decode b_MG_arc 58 = .ok (.iload_n 2, 1) := by decide +kernel
theorem d_MG_arc_59 : decode b_MG_arc 59 = .ok (.iload_n 3, 1) := by decide +kernel
theorem d_MG_arc_60 : decode b_MG_arc 60 = .ok (.invokevirtual 89, 3) := by decide +kernel
theorem d_MG_arc_63 : decode b_MG_arc 63 = .ok (.istore 4, 2) := by decide +kernel
theorem d_MG_arc_65 : decode b_MG_arc 65 = .ok (.aload_n 0, 1) := by decide +kernel
theorem d_MG_arc_66 : decode b_MG_arc 66 = .ok (.invokevirtual 79, 3) := by decide +kernel
theorem d_MG_arc_69 : decode b_MG_arc 69 = .ok (.iload 4, 2) := by decide +kernel
theorem d_MG_arc_71 : decode b_MG_arc 71 = .ok (.ireturn, 1) := by decide +kernel
theorem d_MG_drop_0 : decode b_MG_drop 0 = .ok (.aload_n 0, 1) := by decide +kernel
theorem d_MG_drop_1 : decode b_MG_drop 1 = .ok (.getfield 10, 3) := by decide +kernel
theorem d_MG_drop_4 : decode b_MG_drop 4 = .ok (.iload_n 1, 1) := by decide +kernel
theorem d_MG_drop_5 : decode b_MG_drop 5 = .ok (.invokevirtual 93, 3) := by decide +kernel
theorem d_MG_drop_8 : decode b_MG_drop 8 = .ok (.ifCond .ne 5, 3) := by decide +kernel
theorem d_MG_drop_11 : decode b_MG_drop 11 = .ok (.iconst (-1), 1) := by decide +kernel
theorem d_MG_drop_12 : decode b_MG_drop 12 = .ok (.ireturn, 1) := by decide +kernel
theorem d_MG_drop_13 : decode b_MG_drop 13 = .ok (.aload_n 0, 1) := by decide +kernel
theorem d_MG_drop_14 : decode b_MG_drop 14 = .ok (.getfield 10, 3) := by decide +kernel
theorem d_MG_drop_17 : decode b_MG_drop 17 = .ok (.getfield 97, 3) := by decide +kernel
theorem d_MG_drop_20 : decode b_MG_drop 20 = .ok (.iload_n 1, 1) := by decide +kernel
theorem d_MG_drop_21 : decode b_MG_drop 21 = .ok (.iconst 0, 1) := by decide +kernel
theorem d_MG_drop_22 : decode b_MG_drop 22 = .ok (.iastore, 1) := by decide +kernel
theorem d_MG_drop_23 : decode b_MG_drop 23 = .ok (.aload_n 0, 1) := by decide +kernel
theorem d_MG_drop_24 : decode b_MG_drop 24 = .ok (.invokevirtual 79, 3) := by decide +kernel
theorem d_MG_drop_27 : decode b_MG_drop 27 = .ok (.aload_n 0, 1) := by decide +kernel
theorem d_MG_drop_28 : decode b_MG_drop 28 = .ok (.getfield 10, 3) := by decide +kernel
theorem d_MG_drop_31 : decode b_MG_drop 31 = .ok (.invokevirtual 101, 3) := by decide +kernel
theorem d_MG_drop_34 : decode b_MG_drop 34 = .ok (.ireturn, 1) := by decide +kernel
theorem d_MG_clear_0 : decode b_MG_clear 0 = .ok (.aload_n 0, 1) := by decide +kernel
theorem d_MG_clear_1 : decode b_MG_clear 1 = .ok (.getfield 10, 3) := by decide +kernel
theorem d_MG_clear_4 : decode b_MG_clear 4 = .ok (.getfield 76, 3) := by decide +kernel
theorem d_MG_clear_7 : decode b_MG_clear 7 = .ok (.istore_n 1, 1) := by decide +kernel
theorem d_MG_clear_8 : decode b_MG_clear 8 = .ok (.aload_n 0, 1) := by decide +kernel
theorem d_MG_clear_9 : decode b_MG_clear 9 = .ok (.getfield 10, 3) := by decide +kernel
theorem d_MG_clear_12 : decode b_MG_clear 12 = .ok (.iconst 0, 1) := by decide +kernel
theorem d_MG_clear_13 : decode b_MG_clear 13 = .ok (.putfield 76, 3) := by decide +kernel
theorem d_MG_clear_16 : decode b_MG_clear 16 = .ok (.aload_n 0, 1) := by decide +kernel
theorem d_MG_clear_17 : decode b_MG_clear 17 = .ok (.getfield 10, 3) := by decide +kernel
theorem d_MG_clear_20 : decode b_MG_clear 20 = .ok (.iconst 0, 1) := by decide +kernel
theorem d_MG_clear_21 : decode b_MG_clear 21 = .ok (.putfield 86, 3) := by decide +kernel
theorem d_MG_clear_24 : decode b_MG_clear 24 = .ok (.aload_n 0, 1) := by decide +kernel
theorem d_MG_clear_25 : decode b_MG_clear 25 = .ok (.invokevirtual 79, 3) := by decide +kernel
theorem d_MG_clear_28 : decode b_MG_clear 28 = .ok (.iload_n 1, 1) := by decide +kernel
theorem d_MG_clear_29 : decode b_MG_clear 29 = .ok (.ireturn, 1) := by decide +kernel
theorem d_MG_put_0 : decode b_MG_put 0 = .ok (.aload_n 0, 1) := by decide +kernel
theorem d_MG_put_1 : decode b_MG_put 1 = .ok (.getfield 10, 3) := by decide +kernel
theorem d_MG_put_4 : decode b_MG_put 4 = .ok (.iload_n 1, 1) := by decide +kernel
theorem d_MG_put_5 : decode b_MG_put 5 = .ok (.iload_n 2, 1) := by decide +kernel
theorem d_MG_put_6 : decode b_MG_put 6 = .ok (.invokevirtual 82, 3) := by decide +kernel
theorem d_MG_put_9 : decode b_MG_put 9 = .ok (.ifCond .ne 5, 3) := by decide +kernel
theorem d_MG_put_12 : decode b_MG_put 12 = .ok (.iconst (-1), 1) := by decide +kernel
theorem d_MG_put_13 : decode b_MG_put 13 = .ok (.ireturn, 1) := by decide +kernel
theorem d_MG_put_14 : decode b_MG_put 14 = .ok (.aload_n 0, 1) := by decide +kernel
theorem d_MG_put_15 : decode b_MG_put 15 = .ok (.getfield 26, 3) := by decide +kernel
theorem d_MG_put_18 : decode b_MG_put 18 = .ok (.iload_n 1, 1) := by decide +kernel
theorem d_MG_put_19 : decode b_MG_put 19 = .ok (.iload_n 2, 1) := by decide +kernel
theorem d_MG_put_20 : decode b_MG_put 20 = .ok (.invokevirtual 105, 3) := by decide +kernel
theorem d_MG_put_23 : decode b_MG_put 23 = .ok (.aload_n 0, 1) := by decide +kernel
theorem d_MG_put_24 : decode b_MG_put 24 = .ok (.getfield 26, 3) := by decide +kernel
theorem d_MG_put_27 : decode b_MG_put 27 = .ok (.getfield 109, 3) := by decide +kernel
theorem d_MG_put_30 : decode b_MG_put 30 = .ok (.ireturn, 1) := by decide +kernel
theorem d_MG_group_0 : decode b_MG_group 0 = .ok (.aload_n 0, 1) := by decide +kernel
theorem d_MG_group_1 : decode b_MG_group 1 = .ok (.getfield 10, 3) := by decide +kernel
theorem d_MG_group_4 : decode b_MG_group 4 = .ok (.iload_n 1, 1) := by decide +kernel
theorem d_MG_group_5 : decode b_MG_group 5 = .ok (.invokevirtual 112, 3) := by decide +kernel
theorem d_MG_group_8 : decode b_MG_group 8 = .ok (.ifCond .eq 15, 3) := by decide +kernel
theorem d_MG_group_11 : decode b_MG_group 11 = .ok (.aload_n 0, 1) := by decide +kernel
theorem d_MG_group_12 : decode b_MG_group 12 = .ok (.getfield 26, 3) := by decide +kernel
theorem d_MG_group_15 : decode b_MG_group 15 = .ok (.getfield 115, 3) := by decide +kernel
theorem d_MG_group_18 : decode b_MG_group 18 = .ok (.iload_n 1, 1) := by decide +kernel
theorem d_MG_group_19 : decode b_MG_group 19 = .ok (.iaload, 1) := by decide +kernel
theorem d_MG_group_20 : decode b_MG_group 20 = .ok (.goto 4, 3) := by decide +kernel
theorem d_MG_group_23 : decode b_MG_group 23 = .ok (.iconst (-1), 1) := by decide +kernel
theorem d_MG_group_24 : decode b_MG_group 24 = .ok (.ireturn, 1) := by decide +kernel
theorem d_MG_value_0 : decode b_MG_value 0 = .ok (.aload_n 0, 1) := by decide +kernel
theorem d_MG_value_1 : decode b_MG_value 1 = .ok (.getfield 19, 3) := by decide +kernel
theorem d_MG_value_4 : decode b_MG_value 4 = .ok (.aload_n 0, 1) := by decide +kernel
theorem d_MG_value_5 : decode b_MG_value 5 = .ok (.getfield 26, 3) := by decide +kernel
theorem d_MG_value_8 : decode b_MG_value 8 = .ok (.invokevirtual 118, 3) := by decide +kernel
theorem d_MG_value_11 : decode b_MG_value 11 = .ok (.lreturn, 1) := by decide +kernel
theorem d_MG_part_0 : decode b_MG_part 0 = .ok (.iload_n 1, 1) := by decide +kernel
theorem d_MG_part_1 : decode b_MG_part 1 = .ok (.ifCond .ne 15, 3) := by decide +kernel
theorem d_MG_part_4 : decode b_MG_part 4 = .ok (.aload_n 0, 1) := by decide +kernel
theorem d_MG_part_5 : decode b_MG_part 5 = .ok (.getfield 19, 3) := by decide +kernel
theorem d_MG_part_8 : decode b_MG_part 8 = .ok (.aload_n 0, 1) := by decide +kernel
theorem d_MG_part_9 : decode b_MG_part 9 = .ok (.getfield 26, 3) := by decide +kernel
theorem d_MG_part_12 : decode b_MG_part 12 = .ok (.invokevirtual 122, 3) := by decide +kernel
theorem d_MG_part_15 : decode b_MG_part 15 = .ok (.lreturn, 1) := by decide +kernel
theorem d_MG_part_16 : decode b_MG_part 16 = .ok (.iload_n 1, 1) := by decide +kernel
theorem d_MG_part_17 : decode b_MG_part 17 = .ok (.iconst 1, 1) := by decide +kernel
theorem d_MG_part_18 : decode b_MG_part 18 = .ok (.if_icmp .ne 17, 3) := by decide +kernel
theorem d_MG_part_21 : decode b_MG_part 21 = .ok (.aload_n 0, 1) := by decide +kernel
theorem d_MG_part_22 : decode b_MG_part 22 = .ok (.getfield 19, 3) := by decide +kernel
theorem d_MG_part_25 : decode b_MG_part 25 = .ok (.aload_n 0, 1) := by decide +kernel
theorem d_MG_part_26 : decode b_MG_part 26 = .ok (.getfield 26, 3) := by decide +kernel
theorem d_MG_part_29 : decode b_MG_part 29 = .ok (.invokevirtual 125, 3) := by decide +kernel
theorem d_MG_part_32 : decode b_MG_part 32 = .ok (.goto 4, 3) := by decide +kernel
theorem d_MG_part_35 : decode b_MG_part 35 = .ok (.lconst 0, 1) := by decide +kernel
theorem d_MG_part_36 : decode b_MG_part 36 = .ok (.lreturn, 1) := by decide +kernel
theorem d_MG_move_0 : decode b_MG_move 0 = .ok (.aload_n 0, 1) := by decide +kernel
theorem d_MG_move_1 : decode b_MG_move 1 = .ok (.getfield 10, 3) := by decide +kernel
theorem d_MG_move_4 : decode b_MG_move 4 = .ok (.iload_n 1, 1) := by decide +kernel
theorem d_MG_move_5 : decode b_MG_move 5 = .ok (.iload_n 2, 1) := by decide +kernel
theorem d_MG_move_6 : decode b_MG_move 6 = .ok (.invokevirtual 82, 3) := by decide +kernel
theorem d_MG_move_9 : decode b_MG_move 9 = .ok (.ifCond .eq 12, 3) := by decide +kernel
theorem d_MG_move_12 : decode b_MG_move 12 = .ok (.aload_n 0, 1) := by decide +kernel
theorem d_MG_move_13 : decode b_MG_move 13 = .ok (.iload_n 1, 1) := by decide +kernel
theorem d_MG_move_14 : decode b_MG_move 14 = .ok (.iload_n 2, 1) := by decide +kernel
theorem d_MG_move_15 : decode b_MG_move 15 = .ok (.invokevirtual 128, 3) := by decide +kernel
theorem d_MG_move_18 : decode b_MG_move 18 = .ok (.goto 4, 3) := by decide +kernel
theorem d_MG_move_21 : decode b_MG_move 21 = .ok (.lconst 0, 1) := by decide +kernel
theorem d_MG_move_22 : decode b_MG_move 22 = .ok (.lreturn, 1) := by decide +kernel
theorem d_MG_merge_0 : decode b_MG_merge 0 = .ok (.aload_n 0, 1) := by decide +kernel
theorem d_MG_merge_1 : decode b_MG_merge 1 = .ok (.getfield 10, 3) := by decide +kernel
theorem d_MG_merge_4 : decode b_MG_merge 4 = .ok (.iload_n 1, 1) := by decide +kernel
theorem d_MG_merge_5 : decode b_MG_merge 5 = .ok (.iload_n 2, 1) := by decide +kernel
theorem d_MG_merge_6 : decode b_MG_merge 6 = .ok (.invokevirtual 82, 3) := by decide +kernel
theorem d_MG_merge_9 : decode b_MG_merge 9 = .ok (.ifCond .eq 12, 3) := by decide +kernel
theorem d_MG_merge_12 : decode b_MG_merge 12 = .ok (.aload_n 0, 1) := by decide +kernel
theorem d_MG_merge_13 : decode b_MG_merge 13 = .ok (.iload_n 1, 1) := by decide +kernel
theorem d_MG_merge_14 : decode b_MG_merge 14 = .ok (.iload_n 2, 1) := by decide +kernel
theorem d_MG_merge_15 : decode b_MG_merge 15 = .ok (.invokevirtual 132, 3) := by decide +kernel
theorem d_MG_merge_18 : decode b_MG_merge 18 = .ok (.goto 4, 3) := by decide +kernel
theorem d_MG_merge_21 : decode b_MG_merge 21 = .ok (.lconst 0, 1) := by decide +kernel
theorem d_MG_merge_22 : decode b_MG_merge 22 = .ok (.lreturn, 1) := by decide +kernel
theorem d_MG_rests_0 : decode b_MG_rests 0 = .ok (.iconst 0, 1) := by decide +kernel
theorem d_MG_rests_1 : decode b_MG_rests 1 = .ok (.istore_n 1, 1) := by decide +kernel
theorem d_MG_rests_2 : decode b_MG_rests 2 = .ok (.iload_n 1, 1) := by decide +kernel
theorem d_MG_rests_3 : decode b_MG_rests 3 = .ok (.aload_n 0, 1) := by decide +kernel
theorem d_MG_rests_4 : decode b_MG_rests 4 = .ok (.getfield 10, 3) := by decide +kernel
theorem d_MG_rests_7 : decode b_MG_rests 7 = .ok (.getfield 76, 3) := by decide +kernel
theorem d_MG_rests_10 : decode b_MG_rests 10 = .ok (.if_icmp .ge 52, 3) := by decide +kernel
theorem d_MG_rests_13 : decode b_MG_rests 13 = .ok (.iconst 0, 1) := by decide +kernel
theorem d_MG_rests_14 : decode b_MG_rests 14 = .ok (.istore_n 2, 1) := by decide +kernel
theorem d_MG_rests_15 : decode b_MG_rests 15 = .ok (.iload_n 2, 1) := by decide +kernel
theorem d_MG_rests_16 : decode b_MG_rests 16 = .ok (.aload_n 0, 1) := by decide +kernel
theorem d_MG_rests_17 : decode b_MG_rests 17 = .ok (.getfield 10, 3) := by decide +kernel
theorem d_MG_rests_20 : decode b_MG_rests 20 = .ok (.getfield 76, 3) := by decide +kernel
theorem d_MG_rests_23 : decode b_MG_rests 23 = .ok (.if_icmp .ge 33, 3) := by decide +kernel
theorem d_MG_rests_26 : decode b_MG_rests 26 = .ok (.aload_n 0, 1) := by decide +kernel
theorem d_MG_rests_27 : decode b_MG_rests 27 = .ok (.iload_n 1, 1) := by decide +kernel
theorem d_MG_rests_28 : decode b_MG_rests 28 = .ok (.iload_n 2, 1) := by decide +kernel
theorem d_MG_rests_29 : decode b_MG_rests 29 = .ok (.invokevirtual 128, 3) := by decide +kernel
theorem d_MG_rests_32 : decode b_MG_rests 32 = .ok (.lconst 0, 1) := by decide +kernel
theorem d_MG_rests_33 : decode b_MG_rests 33 = .ok (.lcmp, 1) := by decide +kernel
theorem d_MG_rests_34 : decode b_MG_rests 34 = .ok (.ifCond .gt 14, 3) := by decide +kernel
theorem d_MG_rests_37 : decode b_MG_rests 37 = .ok (.aload_n 0, 1) := by decide +kernel
theorem d_MG_rests_38 : decode b_MG_rests 38 = .ok (.iload_n 1, 1) := by decide +kernel
theorem d_MG_rests_39 : decode b_MG_rests 39 = .ok (.iload_n 2, 1) := by decide +kernel
theorem d_MG_rests_40 : decode b_MG_rests 40 = .ok (.invokevirtual 132, 3) := by decide +kernel
theorem d_MG_rests_43 : decode b_MG_rests 43 = .ok (.lconst 0, 1) := by decide +kernel
theorem d_MG_rests_44 : decode b_MG_rests 44 = .ok (.lcmp, 1) := by decide +kernel
theorem d_MG_rests_45 : decode b_MG_rests 45 = .ok (.ifCond .le 5, 3) := by decide +kernel
theorem d_MG_rests_48 : decode b_MG_rests 48 = .ok (.iconst 0, 1) := by decide +kernel
theorem d_MG_rests_49 : decode b_MG_rests 49 = .ok (.ireturn, 1) := by decide +kernel
theorem d_MG_rests_50 : decode b_MG_rests 50 = .ok (.iinc 2 1, 3) := by decide +kernel
theorem d_MG_rests_53 : decode b_MG_rests 53 = .ok (.goto (-38), 3) := by decide +kernel
theorem d_MG_rests_56 : decode b_MG_rests 56 = .ok (.iinc 1 1, 3) := by decide +kernel
theorem d_MG_rests_59 : decode b_MG_rests 59 = .ok (.goto (-57), 3) := by decide +kernel
theorem d_MG_rests_62 : decode b_MG_rests 62 = .ok (.iconst 1, 1) := by decide +kernel
theorem d_MG_rests_63 : decode b_MG_rests 63 = .ok (.ireturn, 1) := by decide +kernel
theorem d_MG_joined_0 : decode b_MG_joined 0 = .ok (.iconst 0, 1) := by decide +kernel
theorem d_MG_joined_1 : decode b_MG_joined 1 = .ok (.istore_n 1, 1) := by decide +kernel
theorem d_MG_joined_2 : decode b_MG_joined 2 = .ok (.iload_n 1, 1) := by decide +kernel
theorem d_MG_joined_3 : decode b_MG_joined 3 = .ok (.aload_n 0, 1) := by decide +kernel
theorem d_MG_joined_4 : decode b_MG_joined 4 = .ok (.getfield 26, 3) := by decide +kernel
theorem d_MG_joined_7 : decode b_MG_joined 7 = .ok (.getfield 109, 3) := by decide +kernel
theorem d_MG_joined_10 : decode b_MG_joined 10 = .ok (.if_icmp .ge 29, 3) := by decide +kernel
theorem d_MG_joined_13 : decode b_MG_joined 13 = .ok (.aload_n 0, 1) := by decide +kernel
theorem d_MG_joined_14 : decode b_MG_joined 14 = .ok (.getfield 19, 3) := by decide +kernel
theorem d_MG_joined_17 : decode b_MG_joined 17 = .ok (.aload_n 0, 1) := by decide +kernel
theorem d_MG_joined_18 : decode b_MG_joined 18 = .ok (.getfield 26, 3) := by decide +kernel
theorem d_MG_joined_21 : decode b_MG_joined 21 = .ok (.iload_n 1, 1) := by decide +kernel
theorem d_MG_joined_22 : decode b_MG_joined 22 = .ok (.invokevirtual 135, 3) := by decide +kernel
theorem d_MG_joined_25 : decode b_MG_joined 25 = .ok (.invokevirtual 139, 3) := by decide +kernel
theorem d_MG_joined_28 : decode b_MG_joined 28 = .ok (.ifCond .ne 5, 3) := by decide +kernel
theorem d_MG_joined_31 : decode b_MG_joined 31 = .ok (.iconst 0, 1) := by decide +kernel
theorem d_MG_joined_32 : decode b_MG_joined 32 = .ok (.ireturn, 1) := by decide +kernel
theorem d_MG_joined_33 : decode b_MG_joined 33 = .ok (.iinc 1 1, 3) := by decide +kernel
theorem d_MG_joined_36 : decode b_MG_joined 36 = .ok (.goto (-34), 3) := by decide +kernel
theorem d_MG_joined_39 : decode b_MG_joined 39 = .ok (.iconst 1, 1) := by decide +kernel
theorem d_MG_joined_40 : decode b_MG_joined 40 = .ok (.ireturn, 1) := by decide +kernel
theorem d_MG_best_0 : decode b_MG_best 0 = .ok (.aload_n 0, 1) := by decide +kernel
theorem d_MG_best_1 : decode b_MG_best 1 = .ok (.getfield 43, 3) := by decide +kernel
theorem d_MG_best_4 : decode b_MG_best 4 = .ok (.invokevirtual 142, 3) := by decide +kernel
theorem d_MG_best_7 : decode b_MG_best 7 = .ok (.aload_n 0, 1) := by decide +kernel
theorem d_MG_best_8 : decode b_MG_best 8 = .ok (.getfield 26, 3) := by decide +kernel
theorem d_MG_best_11 : decode b_MG_best 11 = .ok (.aload_n 0, 1) := by decide +kernel
theorem d_MG_best_12 : decode b_MG_best 12 = .ok (.getfield 43, 3) := by decide +kernel
theorem d_MG_best_15 : decode b_MG_best 15 = .ok (.getfield 145, 3) := by decide +kernel
theorem d_MG_best_18 : decode b_MG_best 18 = .ok (.aload_n 0, 1) := by decide +kernel
theorem d_MG_best_19 : decode b_MG_best 19 = .ok (.getfield 10, 3) := by decide +kernel
theorem d_MG_best_22 : decode b_MG_best 22 = .ok (.getfield 76, 3) := by decide +kernel
theorem d_MG_best_25 : decode b_MG_best 25 = .ok (.invokevirtual 149, 3) := by decide +kernel
theorem d_MG_best_28 : decode b_MG_best 28 = .ok (.aload_n 0, 1) := by decide +kernel
theorem d_MG_best_29 : decode b_MG_best 29 = .ok (.getfield 26, 3) := by decide +kernel
theorem d_MG_best_32 : decode b_MG_best 32 = .ok (.getfield 109, 3) := by decide +kernel
theorem d_MG_best_35 : decode b_MG_best 35 = .ok (.ireturn, 1) := by decide +kernel
theorem d_MG_ties_0 : decode b_MG_ties 0 = .ok (.aload_n 0, 1) := by decide +kernel
theorem d_MG_ties_1 : decode b_MG_ties 1 = .ok (.getfield 43, 3) := by decide +kernel
theorem d_MG_ties_4 : decode b_MG_ties 4 = .ok (.invokevirtual 142, 3) := by decide +kernel
theorem d_MG_ties_7 : decode b_MG_ties 7 = .ok (.aload_n 0, 1) := by decide +kernel
theorem d_MG_ties_8 : decode b_MG_ties 8 = .ok (.getfield 43, 3) := by decide +kernel
theorem d_MG_ties_11 : decode b_MG_ties 11 = .ok (.getfield 153, 3) := by decide +kernel
theorem d_MG_ties_14 : decode b_MG_ties 14 = .ok (.ireturn, 1) := by decide +kernel
theorem d_MG_merged_0 : decode b_MG_merged 0 = .ok (.iload_n 1, 1) := by decide +kernel
theorem d_MG_merged_1 : decode b_MG_merged 1 = .ok (.ifCond .lt 20, 3) := by decide +kernel
theorem d_MG_merged_4 : decode b_MG_merged 4 = .ok (.iload_n 1, 1) := by decide +kernel
theorem d_MG_merged_5 : decode b_MG_merged 5 = .ok (.iconst 0, 1) := by decide +kernel
theorem d_MG_merged_6 : decode b_MG_merged 6 = .ok (.aload_n 0, 1) := by decide +kernel
theorem d_MG_merged_7 : decode b_MG_merged 7 = .ok (.getfield 10, 3) := by decide +kernel
theorem d_MG_merged_10 : decode b_MG_merged 10 = .ok (.getfield 76, 3) := by decide +kernel
theorem d_MG_merged_13 : decode b_MG_merged 13 = .ok (.iconst 1, 1) := by decide +kernel
theorem d_MG_merged_14 : decode b_MG_merged 14 = .ok (.isub, 1) := by decide +kernel
theorem d_MG_merged_15 : decode b_MG_merged 15 = .ok (.invokestatic 156, 3) := by decide +kernel
theorem d_MG_merged_18 : decode b_MG_merged 18 = .ok (.if_icmp .le 6, 3) := by decide +kernel
theorem d_MG_merged_21 : decode b_MG_merged 21 = .ok (.bipush (-2), 2) := by decide +kernel
theorem d_MG_merged_23 : decode b_MG_merged 23 = .ok (.ireturn, 1) := by decide +kernel
theorem d_MG_merged_24 : decode b_MG_merged 24 = .ok (.aload_n 0, 1) := by decide +kernel
theorem d_MG_merged_25 : decode b_MG_merged 25 = .ok (.getfield 26, 3) := by decide +kernel
theorem d_MG_merged_28 : decode b_MG_merged 28 = .ok (.aload_n 0, 1) := by decide +kernel
theorem d_MG_merged_29 : decode b_MG_merged 29 = .ok (.getfield 10, 3) := by decide +kernel
theorem d_MG_merged_32 : decode b_MG_merged 32 = .ok (.getfield 76, 3) := by decide +kernel
theorem d_MG_merged_35 : decode b_MG_merged 35 = .ok (.invokevirtual 162, 3) := by decide +kernel
theorem d_MG_merged_38 : decode b_MG_merged 38 = .ok (.iconst 0, 1) := by decide +kernel
theorem d_MG_merged_39 : decode b_MG_merged 39 = .ok (.istore_n 2, 1) := by decide +kernel
theorem d_MG_merged_40 : decode b_MG_merged 40 = .ok (.iload_n 2, 1) := by decide +kernel
theorem d_MG_merged_41 : decode b_MG_merged 41 = .ok (.iload_n 1, 1) := by decide +kernel
theorem d_MG_merged_42 : decode b_MG_merged 42 = .ok (.if_icmp .ge 17, 3) := by decide +kernel
theorem d_MG_merged_45 : decode b_MG_merged 45 = .ok (.aload_n 0, 1) := by decide +kernel
theorem d_MG_merged_46 : decode b_MG_merged 46 = .ok (.aload_n 0, 1) := by decide +kernel
theorem d_MG_merged_47 : decode b_MG_merged 47 = .ok (.getfield 26, 3) := by decide +kernel
theorem d_MG_merged_50 : decode b_MG_merged 50 = .ok (.invokevirtual 166, 3) := by decide +kernel
theorem d_MG_merged_53 : decode b_MG_merged 53 = .ok (.iinc 2 1, 3) := by decide +kernel
theorem d_MG_merged_56 : decode b_MG_merged 56 = .ok (.goto (-16), 3) := by decide +kernel
theorem d_MG_merged_59 : decode b_MG_merged 59 = .ok (.aload_n 0, 1) := by decide +kernel
theorem d_MG_merged_60 : decode b_MG_merged 60 = .ok (.getfield 26, 3) := by decide +kernel
theorem d_MG_merged_63 : decode b_MG_merged 63 = .ok (.getfield 109, 3) := by decide +kernel
theorem d_MG_merged_66 : decode b_MG_merged 66 = .ok (.ireturn, 1) := by decide +kernel
theorem d_MG_mergedBest_0 : decode b_MG_mergedBest 0 = .ok (.aload_n 0, 1) := by decide +kernel
theorem d_MG_mergedBest_1 : decode b_MG_mergedBest 1 = .ok (.getfield 30, 3) := by decide +kernel
theorem d_MG_mergedBest_4 : decode b_MG_mergedBest 4 = .ok (.aload_n 0, 1) := by decide +kernel
theorem d_MG_mergedBest_5 : decode b_MG_mergedBest 5 = .ok (.getfield 10, 3) := by decide +kernel
theorem d_MG_mergedBest_8 : decode b_MG_mergedBest 8 = .ok (.getfield 76, 3) := by decide +kernel
theorem d_MG_mergedBest_11 : decode b_MG_mergedBest 11 = .ok (.invokevirtual 162, 3) := by decide +kernel
theorem d_MG_mergedBest_14 : decode b_MG_mergedBest 14 = .ok (.aload_n 0, 1) := by decide +kernel
theorem d_MG_mergedBest_15 : decode b_MG_mergedBest 15 = .ok (.getfield 19, 3) := by decide +kernel
theorem d_MG_mergedBest_18 : decode b_MG_mergedBest 18 = .ok (.aload_n 0, 1) := by decide +kernel
theorem d_MG_mergedBest_19 : decode b_MG_mergedBest 19 = .ok (.getfield 30, 3) := by decide +kernel
theorem d_MG_mergedBest_22 : decode b_MG_mergedBest 22 = .ok (.invokevirtual 118, 3) := by decide +kernel
theorem d_MG_mergedBest_25 : decode b_MG_mergedBest 25 = .ok (.lstore_n 1, 1) := by decide +kernel
theorem d_MG_mergedBest_26 : decode b_MG_mergedBest 26 = .ok (.iconst 0, 1) := by decide +kernel
theorem d_MG_mergedBest_27 : decode b_MG_mergedBest 27 = .ok (.istore_n 3, 1) := by decide +kernel
theorem d_MG_mergedBest_28 : decode b_MG_mergedBest 28 = .ok (.iconst 1, 1) := by decide +kernel
theorem d_MG_mergedBest_29 : decode b_MG_mergedBest 29 = .ok (.istore 4, 2) := by decide +kernel
theorem d_MG_mergedBest_31 : decode b_MG_mergedBest 31 = .ok (.iload 4, 2) := by decide +kernel
theorem d_MG_mergedBest_33 : decode b_MG_mergedBest 33 = .ok (.aload_n 0, 1) := by decide +kernel
theorem d_MG_mergedBest_34 : decode b_MG_mergedBest 34 = .ok (.getfield 10, 3) := by decide +kernel
theorem d_MG_mergedBest_37 : decode b_MG_mergedBest 37 = .ok (.getfield 76, 3) := by decide +kernel
theorem d_MG_mergedBest_40 : decode b_MG_mergedBest 40 = .ok (.if_icmp .ge 43, 3) := by decide +kernel
theorem d_MG_mergedBest_43 : decode b_MG_mergedBest 43 = .ok (.aload_n 0, 1) := by decide +kernel
theorem d_MG_mergedBest_44 : decode b_MG_mergedBest 44 = .ok (.aload_n 0, 1) := by decide +kernel
theorem d_MG_mergedBest_45 : decode b_MG_mergedBest 45 = .ok (.getfield 30, 3) := by decide +kernel
theorem d_MG_mergedBest_48 : decode b_MG_mergedBest 48 = .ok (.invokevirtual 166, 3) := by decide +kernel
theorem d_MG_mergedBest_51 : decode b_MG_mergedBest 51 = .ok (.aload_n 0, 1) := by decide +kernel
theorem d_MG_mergedBest_52 : decode b_MG_mergedBest 52 = .ok (.getfield 19, 3) := by decide +kernel
theorem d_MG_mergedBest_55 : decode b_MG_mergedBest 55 = .ok (.aload_n 0, 1) := by decide +kernel
theorem d_MG_mergedBest_56 : decode b_MG_mergedBest 56 = .ok (.getfield 30, 3) := by decide +kernel
theorem d_MG_mergedBest_59 : decode b_MG_mergedBest 59 = .ok (.invokevirtual 118, 3) := by decide +kernel
theorem d_MG_mergedBest_62 : decode b_MG_mergedBest 62 = .ok (.lstore 5, 2) := by decide +kernel
theorem d_MG_mergedBest_64 : decode b_MG_mergedBest 64 = .ok (.lload 5, 2) := by decide +kernel
theorem d_MG_mergedBest_66 : decode b_MG_mergedBest 66 = .ok (.lload_n 1, 1) := by decide +kernel
theorem d_MG_mergedBest_67 : decode b_MG_mergedBest 67 = .ok (.lcmp, 1) := by decide +kernel
theorem d_MG_mergedBest_68 : decode b_MG_mergedBest 68 = .ok (.ifCond .le 9, 3) := by decide +kernel
theorem d_MG_mergedBest_71 : decode b_MG_mergedBest 71 = .ok (.lload 5, 2) := by decide +kernel
theorem d_MG_mergedBest_73 : decode b_MG_mergedBest 73 = .ok (.lstore_n 1, 1) := by decide +kernel
theorem d_MG_mergedBest_74 : decode b_MG_mergedBest 74 = .ok (.iload 4, 2) := by decide +kernel
theorem d_MG_mergedBest_76 : decode b_MG_mergedBest 76 = .ok (.istore_n 3, 1) := by decide +kernel
theorem d_MG_mergedBest_77 : decode b_MG_mergedBest 77 = .ok (.iinc 4 1, 3) := by decide +kernel
theorem d_MG_mergedBest_80 : decode b_MG_mergedBest 80 = .ok (.goto (-49), 3) := by decide +kernel
theorem d_MG_mergedBest_83 : decode b_MG_mergedBest 83 = .ok (.iload_n 3, 1) := by decide +kernel
theorem d_MG_mergedBest_84 : decode b_MG_mergedBest 84 = .ok (.ireturn, 1) := by decide +kernel
theorem d_MG_labels_0 : decode b_MG_labels 0 = .ok (.aload_n 0, 1) := by decide +kernel
theorem d_MG_labels_1 : decode b_MG_labels 1 = .ok (.getfield 50, 3) := by decide +kernel
theorem d_MG_labels_4 : decode b_MG_labels 4 = .ok (.iload_n 1, 1) := by decide +kernel
theorem d_MG_labels_5 : decode b_MG_labels 5 = .ok (.invokevirtual 170, 3) := by decide +kernel
theorem d_MG_labels_8 : decode b_MG_labels 8 = .ok (.istore_n 2, 1) := by decide +kernel
theorem d_MG_labels_9 : decode b_MG_labels 9 = .ok (.aload_n 0, 1) := by decide +kernel
theorem d_MG_labels_10 : decode b_MG_labels 10 = .ok (.getfield 26, 3) := by decide +kernel
theorem d_MG_labels_13 : decode b_MG_labels 13 = .ok (.aload_n 0, 1) := by decide +kernel
theorem d_MG_labels_14 : decode b_MG_labels 14 = .ok (.getfield 50, 3) := by decide +kernel
theorem d_MG_labels_17 : decode b_MG_labels 17 = .ok (.getfield 173, 3) := by decide +kernel
theorem d_MG_labels_20 : decode b_MG_labels 20 = .ok (.aload_n 0, 1) := by decide +kernel
theorem d_MG_labels_21 : decode b_MG_labels 21 = .ok (.getfield 10, 3) := by decide +kernel
theorem d_MG_labels_24 : decode b_MG_labels 24 = .ok (.getfield 76, 3) := by decide +kernel
theorem d_MG_labels_27 : decode b_MG_labels 27 = .ok (.invokevirtual 176, 3) := by decide +kernel
theorem d_MG_labels_30 : decode b_MG_labels 30 = .ok (.iload_n 2, 1) := by decide +kernel
theorem d_MG_labels_31 : decode b_MG_labels 31 = .ok (.ireturn, 1) := by decide +kernel
theorem d_MG_together_0 : decode b_MG_together 0 = .ok (.aload_n 0, 1) := by decide +kernel
theorem d_MG_together_1 : decode b_MG_together 1 = .ok (.getfield 10, 3) := by decide +kernel
theorem d_MG_together_4 : decode b_MG_together 4 = .ok (.iload_n 1, 1) := by decide +kernel
theorem d_MG_together_5 : decode b_MG_together 5 = .ok (.iload_n 2, 1) := by decide +kernel
theorem d_MG_together_6 : decode b_MG_together 6 = .ok (.invokevirtual 82, 3) := by decide +kernel
theorem d_MG_together_9 : decode b_MG_together 9 = .ok (.ifCond .ne 5, 3) := by decide +kernel
theorem d_MG_together_12 : decode b_MG_together 12 = .ok (.iconst (-1), 1) := by decide +kernel
theorem d_MG_together_13 : decode b_MG_together 13 = .ok (.ireturn, 1) := by decide +kernel
theorem d_MG_together_14 : decode b_MG_together 14 = .ok (.iconst 0, 1) := by decide +kernel
theorem d_MG_together_15 : decode b_MG_together 15 = .ok (.istore_n 3, 1) := by decide +kernel
theorem d_MG_together_16 : decode b_MG_together 16 = .ok (.iconst 0, 1) := by decide +kernel
theorem d_MG_together_17 : decode b_MG_together 17 = .ok (.istore 4, 2) := by decide +kernel
theorem d_MG_together_19 : decode b_MG_together 19 = .ok (.iload 4, 2) := by decide +kernel
theorem d_MG_together_21 : decode b_MG_together 21 = .ok (.bipush 20, 2) := by decide +kernel
theorem d_MG_together_23 : decode b_MG_together 23 = .ok (.if_icmp .ge 43, 3) := by decide +kernel
theorem d_MG_together_26 : decode b_MG_together 26 = .ok (.aload_n 0, 1) := by decide +kernel
theorem d_MG_together_27 : decode b_MG_together 27 = .ok (.getfield 50, 3) := by decide +kernel
theorem d_MG_together_30 : decode b_MG_together 30 = .ok (.iload 4, 2) := by decide +kernel
theorem d_MG_together_32 : decode b_MG_together 32 = .ok (.invokevirtual 170, 3) := by decide +kernel
theorem d_MG_together_35 : decode b_MG_together 35 = .ok (.pop, 1) := by decide +kernel
theorem d_MG_together_36 : decode b_MG_together 36 = .ok (.aload_n 0, 1) := by decide +kernel
theorem d_MG_together_37 : decode b_MG_together 37 = .ok (.getfield 50, 3) := by decide +kernel
theorem d_MG_together_40 : decode b_MG_together 40 = .ok (.getfield 173, 3) := by decide +kernel
theorem d_MG_together_43 : decode b_MG_together 43 = .ok (.iload_n 1, 1) := by decide +kernel
theorem d_MG_together_44 : decode b_MG_together 44 = .ok (.iaload, 1) := by decide +kernel
theorem d_MG_together_45 : decode b_MG_together 45 = .ok (.aload_n 0, 1) := by decide +kernel
theorem d_MG_together_46 : decode b_MG_together 46 = .ok (.getfield 50, 3) := by decide +kernel
theorem d_MG_together_49 : decode b_MG_together 49 = .ok (.getfield 173, 3) := by decide +kernel
theorem d_MG_together_52 : decode b_MG_together 52 = .ok (.iload_n 2, 1) := by decide +kernel
theorem d_MG_together_53 : decode b_MG_together 53 = .ok (.iaload, 1) := by decide +kernel
theorem d_MG_together_54 : decode b_MG_together 54 = .ok (.if_icmp .ne 6, 3) := by decide +kernel
theorem d_MG_together_57 : decode b_MG_together 57 = .ok (.iinc 3 1, 3) := by decide +kernel
theorem d_MG_together_60 : decode b_MG_together 60 = .ok (.iinc 4 1, 3) := by decide +kernel
theorem d_MG_together_63 : decode b_MG_together 63 = .ok (.goto (-44), 3) := by decide +kernel
theorem d_MG_together_66 : decode b_MG_together 66 = .ok (.iload_n 3, 1) := by decide +kernel
theorem d_MG_together_67 : decode b_MG_together 67 = .ok (.ireturn, 1) := by decide +kernel
theorem d_MG_plateaus_0 : decode b_MG_plateaus 0 = .ok (.aload_n 0, 1) := by decide +kernel
theorem d_MG_plateaus_1 : decode b_MG_plateaus 1 = .ok (.getfield 59, 3) := by decide +kernel
theorem d_MG_plateaus_4 : decode b_MG_plateaus 4 = .ok (.invokevirtual 180, 3) := by decide +kernel
theorem d_MG_plateaus_7 : decode b_MG_plateaus 7 = .ok (.aload_n 0, 1) := by decide +kernel
theorem d_MG_plateaus_8 : decode b_MG_plateaus 8 = .ok (.getfield 59, 3) := by decide +kernel
theorem d_MG_plateaus_11 : decode b_MG_plateaus 11 = .ok (.getfield 183, 3) := by decide +kernel
theorem d_MG_plateaus_14 : decode b_MG_plateaus 14 = .ok (.ireturn, 1) := by decide +kernel
theorem d_MG_begins_0 : decode b_MG_begins 0 = .ok (.aload_n 0, 1) := by decide +kernel
theorem d_MG_begins_1 : decode b_MG_begins 1 = .ok (.getfield 59, 3) := by decide +kernel
theorem d_MG_begins_4 : decode b_MG_begins 4 = .ok (.invokevirtual 180, 3) := by decide +kernel
theorem d_MG_begins_7 : decode b_MG_begins 7 = .ok (.aload_n 0, 1) := by decide +kernel
theorem d_MG_begins_8 : decode b_MG_begins 8 = .ok (.getfield 59, 3) := by decide +kernel
theorem d_MG_begins_11 : decode b_MG_begins 11 = .ok (.iload_n 1, 1) := by decide +kernel
theorem d_MG_begins_12 : decode b_MG_begins 12 = .ok (.invokevirtual 184, 3) := by decide +kernel
theorem d_MG_begins_15 : decode b_MG_begins 15 = .ok (.ifCond .ne 7, 3) := by decide +kernel
theorem d_MG_begins_18 : decode b_MG_begins 18 = .ok (.ldc2_w 187, 3) := by decide +kernel
theorem d_MG_begins_21 : decode b_MG_begins 21 = .ok (.lreturn, 1) := by decide +kernel
theorem d_MG_begins_22 : decode b_MG_begins 22 = .ok (.iload_n 2, 1) := by decide +kernel
theorem d_MG_begins_23 : decode b_MG_begins 23 = .ok (.ifCond .lt 8, 3) := by decide +kernel
theorem d_MG_begins_26 : decode b_MG_begins 26 = .ok (.iload_n 2, 1) := by decide +kernel
theorem d_MG_begins_27 : decode b_MG_begins 27 = .ok (.iconst 1, 1) := by decide +kernel
theorem d_MG_begins_28 : decode b_MG_begins 28 = .ok (.if_icmp .le 7, 3) := by decide +kernel
theorem d_MG_begins_31 : decode b_MG_begins 31 = .ok (.ldc2_w 189, 3) := by decide +kernel
theorem d_MG_begins_34 : decode b_MG_begins 34 = .ok (.lreturn, 1) := by decide +kernel
theorem d_MG_begins_35 : decode b_MG_begins 35 = .ok (.iload_n 2, 1) := by decide +kernel
theorem d_MG_begins_36 : decode b_MG_begins 36 = .ok (.ifCond .ne 15, 3) := by decide +kernel
theorem d_MG_begins_39 : decode b_MG_begins 39 = .ok (.aload_n 0, 1) := by decide +kernel
theorem d_MG_begins_40 : decode b_MG_begins 40 = .ok (.getfield 59, 3) := by decide +kernel
theorem d_MG_begins_43 : decode b_MG_begins 43 = .ok (.getfield 191, 3) := by decide +kernel
theorem d_MG_begins_46 : decode b_MG_begins 46 = .ok (.iload_n 1, 1) := by decide +kernel
theorem d_MG_begins_47 : decode b_MG_begins 47 = .ok (.laload, 1) := by decide +kernel
theorem d_MG_begins_48 : decode b_MG_begins 48 = .ok (.goto 12, 3) := by decide +kernel
theorem d_MG_begins_51 : decode b_MG_begins 51 = .ok (.aload_n 0, 1) := by decide +kernel
theorem d_MG_begins_52 : decode b_MG_begins 52 = .ok (.getfield 59, 3) := by decide +kernel
theorem d_MG_begins_55 : decode b_MG_begins 55 = .ok (.getfield 195, 3) := by decide +kernel
theorem d_MG_begins_58 : decode b_MG_begins 58 = .ok (.iload_n 1, 1) := by decide +kernel
theorem d_MG_begins_59 : decode b_MG_begins 59 = .ok (.laload, 1) := by decide +kernel
theorem d_MG_begins_60 : decode b_MG_begins 60 = .ok (.lreturn, 1) := by decide +kernel
theorem d_MG_plateau_0 : decode b_MG_plateau 0 = .ok (.aload_n 0, 1) := by decide +kernel
theorem d_MG_plateau_1 : decode b_MG_plateau 1 = .ok (.getfield 59, 3) := by decide +kernel
theorem d_MG_plateau_4 : decode b_MG_plateau 4 = .ok (.invokevirtual 180, 3) := by decide +kernel
theorem d_MG_plateau_7 : decode b_MG_plateau 7 = .ok (.aload_n 0, 1) := by decide +kernel
theorem d_MG_plateau_8 : decode b_MG_plateau 8 = .ok (.getfield 59, 3) := by decide +kernel
theorem d_MG_plateau_11 : decode b_MG_plateau 11 = .ok (.iload_n 1, 1) := by decide +kernel
theorem d_MG_plateau_12 : decode b_MG_plateau 12 = .ok (.invokevirtual 184, 3) := by decide +kernel
theorem d_MG_plateau_15 : decode b_MG_plateau 15 = .ok (.ifCond .ne 5, 3) := by decide +kernel
theorem d_MG_plateau_18 : decode b_MG_plateau 18 = .ok (.iconst (-1), 1) := by decide +kernel
theorem d_MG_plateau_19 : decode b_MG_plateau 19 = .ok (.ireturn, 1) := by decide +kernel
theorem d_MG_plateau_20 : decode b_MG_plateau 20 = .ok (.aload_n 0, 1) := by decide +kernel
theorem d_MG_plateau_21 : decode b_MG_plateau 21 = .ok (.getfield 26, 3) := by decide +kernel
theorem d_MG_plateau_24 : decode b_MG_plateau 24 = .ok (.aload_n 0, 1) := by decide +kernel
theorem d_MG_plateau_25 : decode b_MG_plateau 25 = .ok (.getfield 59, 3) := by decide +kernel
theorem d_MG_plateau_28 : decode b_MG_plateau 28 = .ok (.getfield 198, 3) := by decide +kernel
theorem d_MG_plateau_31 : decode b_MG_plateau 31 = .ok (.iload_n 1, 1) := by decide +kernel
theorem d_MG_plateau_32 : decode b_MG_plateau 32 = .ok (.laload, 1) := by decide +kernel
theorem d_MG_plateau_33 : decode b_MG_plateau 33 = .ok (.aload_n 0, 1) := by decide +kernel
theorem d_MG_plateau_34 : decode b_MG_plateau 34 = .ok (.getfield 10, 3) := by decide +kernel
theorem d_MG_plateau_37 : decode b_MG_plateau 37 = .ok (.getfield 76, 3) := by decide +kernel
theorem d_MG_plateau_40 : decode b_MG_plateau 40 = .ok (.invokevirtual 149, 3) := by decide +kernel
theorem d_MG_plateau_43 : decode b_MG_plateau 43 = .ok (.aload_n 0, 1) := by decide +kernel
theorem d_MG_plateau_44 : decode b_MG_plateau 44 = .ok (.getfield 26, 3) := by decide +kernel
theorem d_MG_plateau_47 : decode b_MG_plateau 47 = .ok (.getfield 109, 3) := by decide +kernel
theorem d_MG_plateau_50 : decode b_MG_plateau 50 = .ok (.ireturn, 1) := by decide +kernel
theorem d_MG_refresh_0 : decode b_MG_refresh 0 = .ok (.aload_n 0, 1) := by decide +kernel
theorem d_MG_refresh_1 : decode b_MG_refresh 1 = .ok (.getfield 19, 3) := by decide +kernel
theorem d_MG_refresh_4 : decode b_MG_refresh 4 = .ok (.aload_n 0, 1) := by decide +kernel
theorem d_MG_refresh_5 : decode b_MG_refresh 5 = .ok (.getfield 10, 3) := by decide +kernel
theorem d_MG_refresh_8 : decode b_MG_refresh 8 = .ok (.invokevirtual 201, 3) := by decide +kernel
theorem d_MG_refresh_11 : decode b_MG_refresh 11 = .ok (.aload_n 0, 1) := by decide +kernel
theorem d_MG_refresh_12 : decode b_MG_refresh 12 = .ok (.getfield 59, 3) := by decide +kernel
theorem d_MG_refresh_15 : decode b_MG_refresh 15 = .ok (.invokevirtual 205, 3) := by decide +kernel
theorem d_MG_refresh_18 : decode b_MG_refresh 18 = .ok (.return_, 1) := by decide +kernel
theorem d_MG_startAnew_0 : decode b_MG_startAnew 0 = .ok (.aload_n 0, 1) := by decide +kernel
theorem d_MG_startAnew_1 : decode b_MG_startAnew 1 = .ok (.invokevirtual 67, 3) := by decide +kernel
theorem d_MG_startAnew_4 : decode b_MG_startAnew 4 = .ok (.aload_n 0, 1) := by decide +kernel
theorem d_MG_startAnew_5 : decode b_MG_startAnew 5 = .ok (.getfield 26, 3) := by decide +kernel
theorem d_MG_startAnew_8 : decode b_MG_startAnew 8 = .ok (.aload_n 0, 1) := by decide +kernel
theorem d_MG_startAnew_9 : decode b_MG_startAnew 9 = .ok (.getfield 10, 3) := by decide +kernel
theorem d_MG_startAnew_12 : decode b_MG_startAnew 12 = .ok (.getfield 76, 3) := by decide +kernel
theorem d_MG_startAnew_15 : decode b_MG_startAnew 15 = .ok (.invokevirtual 162, 3) := by decide +kernel
theorem d_MG_startAnew_18 : decode b_MG_startAnew 18 = .ok (.return_, 1) := by decide +kernel
theorem d_MG_moveGain_0 : decode b_MG_moveGain 0 = .ok (.aload_n 0, 1) := by decide +kernel
theorem d_MG_moveGain_1 : decode b_MG_moveGain 1 = .ok (.getfield 30, 3) := by decide +kernel
theorem d_MG_moveGain_4 : decode b_MG_moveGain 4 = .ok (.aload_n 0, 1) := by decide +kernel
theorem d_MG_moveGain_5 : decode b_MG_moveGain 5 = .ok (.getfield 26, 3) := by decide +kernel
theorem d_MG_moveGain_8 : decode b_MG_moveGain 8 = .ok (.invokevirtual 208, 3) := by decide +kernel
theorem d_MG_moveGain_11 : decode b_MG_moveGain 11 = .ok (.aload_n 0, 1) := by decide +kernel
theorem d_MG_moveGain_12 : decode b_MG_moveGain 12 = .ok (.getfield 30, 3) := by decide +kernel
theorem d_MG_moveGain_15 : decode b_MG_moveGain 15 = .ok (.iload_n 1, 1) := by decide +kernel
theorem d_MG_moveGain_16 : decode b_MG_moveGain 16 = .ok (.iload_n 2, 1) := by decide +kernel
theorem d_MG_moveGain_17 : decode b_MG_moveGain 17 = .ok (.invokevirtual 105, 3) := by decide +kernel
theorem d_MG_moveGain_20 : decode b_MG_moveGain 20 = .ok (.aload_n 0, 1) := by decide +kernel
theorem d_MG_moveGain_21 : decode b_MG_moveGain 21 = .ok (.getfield 19, 3) := by decide +kernel
theorem d_MG_moveGain_24 : decode b_MG_moveGain 24 = .ok (.aload_n 0, 1) := by decide +kernel
theorem d_MG_moveGain_25 : decode b_MG_moveGain 25 = .ok (.getfield 30, 3) := by decide +kernel
theorem d_MG_moveGain_28 : decode b_MG_moveGain 28 = .ok (.invokevirtual 118, 3) := by decide +kernel
theorem d_MG_moveGain_31 : decode b_MG_moveGain 31 = .ok (.aload_n 0, 1) := by decide +kernel
theorem d_MG_moveGain_32 : decode b_MG_moveGain 32 = .ok (.getfield 19, 3) := by decide +kernel
theorem d_MG_moveGain_35 : decode b_MG_moveGain 35 = .ok (.aload_n 0, 1) := by decide +kernel
theorem d_MG_moveGain_36 : decode b_MG_moveGain 36 = .ok (.getfield 26, 3) := by decide +kernel
theorem d_MG_moveGain_39 : decode b_MG_moveGain 39 = .ok (.invokevirtual 118, 3) := by decide +kernel
theorem d_MG_moveGain_42 : decode b_MG_moveGain 42 = .ok (.lsub, 1) := by decide +kernel
theorem d_MG_moveGain_43 : decode b_MG_moveGain 43 = .ok (.lreturn, 1) := by decide +kernel
theorem d_MG_mergeGain_0 : decode b_MG_mergeGain 0 = .ok (.aload_n 0, 1) := by decide +kernel
theorem d_MG_mergeGain_1 : decode b_MG_mergeGain 1 = .ok (.getfield 26, 3) := by decide +kernel
theorem d_MG_mergeGain_4 : decode b_MG_mergeGain 4 = .ok (.getfield 115, 3) := by decide +kernel
theorem d_MG_mergeGain_7 : decode b_MG_mergeGain 7 = .ok (.iload_n 1, 1) := by decide +kernel
theorem d_MG_mergeGain_8 : decode b_MG_mergeGain 8 = .ok (.iaload, 1) := by decide +kernel
theorem d_MG_mergeGain_9 : decode b_MG_mergeGain 9 = .ok (.istore_n 3, 1) := by decide +kernel
theorem d_MG_mergeGain_10 : decode b_MG_mergeGain 10 = .ok (.aload_n 0, 1) := by decide +kernel
theorem d_MG_mergeGain_11 : decode b_MG_mergeGain 11 = .ok (.getfield 26, 3) := by decide +kernel
theorem d_MG_mergeGain_14 : decode b_MG_mergeGain 14 = .ok (.getfield 115, 3) := by decide +kernel
theorem d_MG_mergeGain_17 : decode b_MG_mergeGain 17 = .ok (.iload_n 2, 1) := by decide +kernel
theorem d_MG_mergeGain_18 : decode b_MG_mergeGain 18 = .ok (.iaload, 1) := by decide +kernel
theorem d_MG_mergeGain_19 : decode b_MG_mergeGain 19 = .ok (.istore 4, 2) := by decide +kernel
theorem d_MG_mergeGain_21 : decode b_MG_mergeGain 21 = .ok (.iload_n 3, 1) := by decide +kernel
theorem d_MG_mergeGain_22 : decode b_MG_mergeGain 22 = .ok (.iload 4, 2) := by decide +kernel
theorem d_MG_mergeGain_24 : decode b_MG_mergeGain 24 = .ok (.if_icmp .ne 7, 3) := by decide +kernel
theorem d_MG_mergeGain_27 : decode b_MG_mergeGain 27 = .ok (.lconst 0, 1) := by decide +kernel
theorem d_MG_mergeGain_28 : decode b_MG_mergeGain 28 = .ok (.goto 17, 3) := by decide +kernel
theorem d_MG_mergeGain_31 : decode b_MG_mergeGain 31 = .ok (.aload_n 0, 1) := by decide +kernel
theorem d_MG_mergeGain_32 : decode b_MG_mergeGain 32 = .ok (.getfield 19, 3) := by decide +kernel
theorem d_MG_mergeGain_35 : decode b_MG_mergeGain 35 = .ok (.aload_n 0, 1) := by decide +kernel
theorem d_MG_mergeGain_36 : decode b_MG_mergeGain 36 = .ok (.getfield 26, 3) := by decide +kernel
theorem d_MG_mergeGain_39 : decode b_MG_mergeGain 39 = .ok (.iload_n 3, 1) := by decide +kernel
theorem d_MG_mergeGain_40 : decode b_MG_mergeGain 40 = .ok (.iload 4, 2) := by decide +kernel
theorem d_MG_mergeGain_42 : decode b_MG_mergeGain 42 = .ok (.invokevirtual 211, 3) := by decide +kernel
theorem d_MG_mergeGain_45 : decode b_MG_mergeGain 45 = .ok (.lreturn, 1) := by decide +kernel
theorem d_MG_mergeOnce_0 : decode b_MG_mergeOnce 0 = .ok (.iconst (-1), 1) := by decide +kernel
theorem d_MG_mergeOnce_1 : decode b_MG_mergeOnce 1 = .ok (.istore_n 2, 1) := by decide +kernel
theorem d_MG_mergeOnce_2 : decode b_MG_mergeOnce 2 = .ok (.iconst (-1), 1) := by decide +kernel
theorem d_MG_mergeOnce_3 : decode b_MG_mergeOnce 3 = .ok (.istore_n 3, 1) := by decide +kernel
theorem d_MG_mergeOnce_4 : decode b_MG_mergeOnce 4 = .ok (.lconst 0, 1) := by decide +kernel
theorem d_MG_mergeOnce_5 : decode b_MG_mergeOnce 5 = .ok (.lstore 4, 2) := by decide +kernel
theorem d_MG_mergeOnce_7 : decode b_MG_mergeOnce 7 = .ok (.iconst 0, 1) := by decide +kernel
theorem d_MG_mergeOnce_8 : decode b_MG_mergeOnce 8 = .ok (.istore 6, 2) := by decide +kernel
theorem d_MG_mergeOnce_10 : decode b_MG_mergeOnce 10 = .ok (.iload 6, 2) := by decide +kernel
theorem d_MG_mergeOnce_12 : decode b_MG_mergeOnce 12 = .ok (.aload_n 1, 1) := by decide +kernel
theorem d_MG_mergeOnce_13 : decode b_MG_mergeOnce 13 = .ok (.getfield 109, 3) := by decide +kernel
theorem d_MG_mergeOnce_16 : decode b_MG_mergeOnce 16 = .ok (.if_icmp .ge 66, 3) := by decide +kernel
theorem d_MG_mergeOnce_19 : decode b_MG_mergeOnce 19 = .ok (.iload 6, 2) := by decide +kernel
theorem d_MG_mergeOnce_21 : decode b_MG_mergeOnce 21 = .ok (.iconst 1, 1) := by decide +kernel
theorem d_MG_mergeOnce_22 : decode b_MG_mergeOnce 22 = .ok (.iadd, 1) := by decide +kernel
theorem d_MG_mergeOnce_23 : decode b_MG_mergeOnce 23 = .ok (.istore 7, 2) := by decide +kernel
theorem d_MG_mergeOnce_25 : decode b_MG_mergeOnce 25 = .ok (.iload 7, 2) := by decide +kernel
theorem d_MG_mergeOnce_27 : decode b_MG_mergeOnce 27 = .ok (.aload_n 1, 1) := by decide +kernel
theorem d_MG_mergeOnce_28 : decode b_MG_mergeOnce 28 = .ok (.getfield 109, 3) := by decide +kernel
theorem d_MG_mergeOnce_31 : decode b_MG_mergeOnce 31 = .ok (.if_icmp .ge 45, 3) := by decide +kernel
theorem d_MG_mergeOnce_34 : decode b_MG_mergeOnce 34 = .ok (.aload_n 0, 1) := by decide +kernel
theorem d_MG_mergeOnce_35 : decode b_MG_mergeOnce 35 = .ok (.getfield 19, 3) := by decide +kernel
theorem d_MG_mergeOnce_38 : decode b_MG_mergeOnce 38 = .ok (.aload_n 1, 1) := by decide +kernel
theorem d_MG_mergeOnce_39 : decode b_MG_mergeOnce 39 = .ok (.iload 6, 2) := by decide +kernel
theorem d_MG_mergeOnce_41 : decode b_MG_mergeOnce 41 = .ok (.iload 7, 2) := by decide +kernel
theorem d_MG_mergeOnce_43 : decode b_MG_mergeOnce 43 = .ok (.invokevirtual 211, 3) := by decide +kernel
theorem d_MG_mergeOnce_46 : decode b_MG_mergeOnce 46 = .ok (.lstore 8, 2) := by decide +kernel
theorem d_MG_mergeOnce_48 : decode b_MG_mergeOnce 48 = .ok (.iload_n 2, 1) := by decide +kernel
theorem d_MG_mergeOnce_49 : decode b_MG_mergeOnce 49 = .ok (.ifCond .lt 11, 3) := by decide +kernel
theorem d_MG_mergeOnce_52 : decode b_MG_mergeOnce 52 = .ok (.lload 8, 2) := by decide +kernel
theorem d_MG_mergeOnce_54 : decode b_MG_mergeOnce 54 = .ok (.lload 4, 2) := by decide +kernel
theorem d_MG_mergeOnce_56 : decode b_MG_mergeOnce 56 = .ok (.lcmp, 1) := by decide +kernel
theorem d_MG_mergeOnce_57 : decode b_MG_mergeOnce 57 = .ok (.ifCond .le 13, 3) := by decide +kernel
theorem d_MG_mergeOnce_60 : decode b_MG_mergeOnce 60 = .ok (.iload 6, 2) := by decide +kernel
theorem d_MG_mergeOnce_62 : decode b_MG_mergeOnce 62 = .ok (.istore_n 2, 1) := by decide +kernel
theorem d_MG_mergeOnce_63 : decode b_MG_mergeOnce 63 = .ok (.iload 7, 2) := by decide +kernel
theorem d_MG_mergeOnce_65 : decode b_MG_mergeOnce 65 = .ok (.istore_n 3, 1) := by decide +kernel
theorem d_MG_mergeOnce_66 : decode b_MG_mergeOnce 66 = .ok (.lload 8, 2) := by decide +kernel
theorem d_MG_mergeOnce_68 : decode b_MG_mergeOnce 68 = .ok (.lstore 4, 2) := by decide +kernel
theorem d_MG_mergeOnce_70 : decode b_MG_mergeOnce 70 = .ok (.iinc 7 1, 3) := by decide +kernel
theorem d_MG_mergeOnce_73 : decode b_MG_mergeOnce 73 = .ok (.goto (-48), 3) := by decide +kernel
theorem d_MG_mergeOnce_76 : decode b_MG_mergeOnce 76 = .ok (.iinc 6 1, 3) := by decide +kernel
theorem d_MG_mergeOnce_79 : decode b_MG_mergeOnce 79 = .ok (.goto (-69), 3) := by decide +kernel
theorem d_MG_mergeOnce_82 : decode b_MG_mergeOnce 82 = .ok (.iload_n 2, 1) := by decide +kernel
theorem d_MG_mergeOnce_83 : decode b_MG_mergeOnce 83 = .ok (.ifCond .lt 9, 3) := by decide +kernel
theorem d_MG_mergeOnce_86 : decode b_MG_mergeOnce 86 = .ok (.aload_n 1, 1) := by decide +kernel
theorem d_MG_mergeOnce_87 : decode b_MG_mergeOnce 87 = .ok (.iload_n 2, 1) := by decide +kernel
theorem d_MG_mergeOnce_88 : decode b_MG_mergeOnce 88 = .ok (.iload_n 3, 1) := by decide +kernel
theorem d_MG_mergeOnce_89 : decode b_MG_mergeOnce 89 = .ok (.invokevirtual 215, 3) := by decide +kernel
theorem d_MG_mergeOnce_92 : decode b_MG_mergeOnce 92 = .ok (.return_, 1) := by decide +kernel
theorem d_Mo_init_0 : decode b_Mo_init 0 = .ok (.aload_n 0, 1) := by decide +kernel
theorem d_Mo_init_1 : decode b_Mo_init 1 = .ok (.invokespecial 1, 3) := by decide +kernel
theorem d_Mo_init_4 : decode b_Mo_init 4 = .ok (.aload_n 0, 1) := by decide +kernel
theorem d_Mo_init_5 : decode b_Mo_init 5 = .ok (.iconst 1, 1) := by decide +kernel
theorem d_Mo_init_6 : decode b_Mo_init 6 = .ok (.putfield 7, 3) := by decide +kernel
theorem d_Mo_init_9 : decode b_Mo_init 9 = .ok (.aload_n 0, 1) := by decide +kernel
theorem d_Mo_init_10 : decode b_Mo_init 10 = .ok (.iconst 1, 1) := by decide +kernel
theorem d_Mo_init_11 : decode b_Mo_init 11 = .ok (.putfield 13, 3) := by decide +kernel
theorem d_Mo_init_14 : decode b_Mo_init 14 = .ok (.aload_n 0, 1) := by decide +kernel
theorem d_Mo_init_15 : decode b_Mo_init 15 = .ok (.bipush 36, 2) := by decide +kernel
theorem d_Mo_init_17 : decode b_Mo_init 17 = .ok (.newarray .int, 2) := by decide +kernel
theorem d_Mo_init_19 : decode b_Mo_init 19 = .ok (.putfield 16, 3) := by decide +kernel
theorem d_Mo_init_22 : decode b_Mo_init 22 = .ok (.aload_n 0, 1) := by decide +kernel
theorem d_Mo_init_23 : decode b_Mo_init 23 = .ok (.bipush 36, 2) := by decide +kernel
theorem d_Mo_init_25 : decode b_Mo_init 25 = .ok (.newarray .int, 2) := by decide +kernel
theorem d_Mo_init_27 : decode b_Mo_init 27 = .ok (.putfield 20, 3) := by decide +kernel
theorem d_Mo_init_30 : decode b_Mo_init 30 = .ok (.aload_n 0, 1) := by decide +kernel
theorem d_Mo_init_31 : decode b_Mo_init 31 = .ok (.bipush 36, 2) := by decide +kernel
theorem d_Mo_init_33 : decode b_Mo_init 33 = .ok (.newarray .int, 2) := by decide +kernel
theorem d_Mo_init_35 : decode b_Mo_init 35 = .ok (.putfield 23, 3) := by decide +kernel
theorem d_Mo_init_38 : decode b_Mo_init 38 = .ok (.aload_n 0, 1) := by decide +kernel
theorem d_Mo_init_39 : decode b_Mo_init 39 = .ok (.bipush 36, 2) := by decide +kernel
theorem d_Mo_init_41 : decode b_Mo_init 41 = .ok (.newarray .boolean, 2) := by decide +kernel
theorem d_Mo_init_43 : decode b_Mo_init 43 = .ok (.putfield 26, 3) := by decide +kernel
theorem d_Mo_init_46 : decode b_Mo_init 46 = .ok (.aload_n 0, 1) := by decide +kernel
theorem d_Mo_init_47 : decode b_Mo_init 47 = .ok (.bipush 9, 2) := by decide +kernel
theorem d_Mo_init_49 : decode b_Mo_init 49 = .ok (.newarray .int, 2) := by decide +kernel
theorem d_Mo_init_51 : decode b_Mo_init 51 = .ok (.putfield 30, 3) := by decide +kernel
theorem d_Mo_init_54 : decode b_Mo_init 54 = .ok (.aload_n 0, 1) := by decide +kernel
theorem d_Mo_init_55 : decode b_Mo_init 55 = .ok (.bipush 81, 2) := by decide +kernel
theorem d_Mo_init_57 : decode b_Mo_init 57 = .ok (.newarray .int, 2) := by decide +kernel
theorem d_Mo_init_59 : decode b_Mo_init 59 = .ok (.putfield 33, 3) := by decide +kernel
theorem d_Mo_init_62 : decode b_Mo_init 62 = .ok (.aload_n 0, 1) := by decide +kernel
theorem d_Mo_init_63 : decode b_Mo_init 63 = .ok (.bipush 81, 2) := by decide +kernel
theorem d_Mo_init_65 : decode b_Mo_init 65 = .ok (.newarray .boolean, 2) := by decide +kernel
theorem d_Mo_init_67 : decode b_Mo_init 67 = .ok (.putfield 36, 3) := by decide +kernel
theorem d_Mo_init_70 : decode b_Mo_init 70 = .ok (.aload_n 0, 1) := by decide +kernel
theorem d_Mo_init_71 : decode b_Mo_init 71 = .ok (.bipush 9, 2) := by decide +kernel
theorem d_Mo_init_73 : decode b_Mo_init 73 = .ok (.newarray .int, 2) := by decide +kernel
theorem d_Mo_init_75 : decode b_Mo_init 75 = .ok (.putfield 39, 3) := by decide +kernel
theorem d_Mo_init_78 : decode b_Mo_init 78 = .ok (.aload_n 0, 1) := by decide +kernel
theorem d_Mo_init_79 : decode b_Mo_init 79 = .ok (.bipush 9, 2) := by decide +kernel
theorem d_Mo_init_81 : decode b_Mo_init 81 = .ok (.newarray .long, 2) := by decide +kernel
theorem d_Mo_init_83 : decode b_Mo_init 83 = .ok (.putfield 42, 3) := by decide +kernel
theorem d_Mo_init_86 : decode b_Mo_init 86 = .ok (.aload_n 0, 1) := by decide +kernel
theorem d_Mo_init_87 : decode b_Mo_init 87 = .ok (.bipush 9, 2) := by decide +kernel
theorem d_Mo_init_89 : decode b_Mo_init 89 = .ok (.newarray .long, 2) := by decide +kernel
theorem d_Mo_init_91 : decode b_Mo_init 91 = .ok (.putfield 46, 3) := by decide +kernel
theorem d_Mo_init_94 : decode b_Mo_init 94 = .ok (.aload_n 0, 1) := by decide +kernel
theorem d_Mo_init_95 : decode b_Mo_init 95 = .ok (.bipush 9, 2) := by decide +kernel
theorem d_Mo_init_97 : decode b_Mo_init 97 = .ok (.newarray .int, 2) := by decide +kernel
theorem d_Mo_init_99 : decode b_Mo_init 99 = .ok (.putfield 49, 3) := by decide +kernel
theorem d_Mo_init_102 : decode b_Mo_init 102 = .ok (.aload_n 0, 1) := by decide +kernel
theorem d_Mo_init_103 : decode b_Mo_init 103 = .ok (.bipush 9, 2) := by decide +kernel
theorem d_Mo_init_105 : decode b_Mo_init 105 = .ok (.newarray .int, 2) := by decide +kernel
theorem d_Mo_init_107 : decode b_Mo_init 107 = .ok (.putfield 52, 3) := by decide +kernel
theorem d_Mo_init_110 : decode b_Mo_init 110 = .ok (.aload_n 0, 1) := by decide +kernel
theorem d_Mo_init_111 : decode b_Mo_init 111 = .ok (.bipush 9, 2) := by decide +kernel
theorem d_Mo_init_113 : decode b_Mo_init 113 = .ok (.newarray .int, 2) := by decide +kernel
theorem d_Mo_init_115 : decode b_Mo_init 115 = .ok (.putfield 55, 3) := by decide +kernel
theorem d_Mo_init_118 : decode b_Mo_init 118 = .ok (.aload_n 0, 1) := by decide +kernel
theorem d_Mo_init_119 : decode b_Mo_init 119 = .ok (.bipush 9, 2) := by decide +kernel
theorem d_Mo_init_121 : decode b_Mo_init 121 = .ok (.newarray .int, 2) := by decide +kernel
theorem d_Mo_init_123 : decode b_Mo_init 123 = .ok (.putfield 58, 3) := by decide +kernel
theorem d_Mo_init_126 : decode b_Mo_init 126 = .ok (.aload_n 0, 1) := by decide +kernel
theorem d_Mo_init_127 : decode b_Mo_init 127 = .ok (.bipush 9, 2) := by decide +kernel
theorem d_Mo_init_129 : decode b_Mo_init 129 = .ok (.newarray .int, 2) := by decide +kernel
theorem d_Mo_init_131 : decode b_Mo_init 131 = .ok (.putfield 61, 3) := by decide +kernel
theorem d_Mo_init_134 : decode b_Mo_init 134 = .ok (.aload_n 0, 1) := by decide +kernel
theorem d_Mo_init_135 : decode b_Mo_init 135 = .ok (.bipush 9, 2) := by decide +kernel
theorem d_Mo_init_137 : decode b_Mo_init 137 = .ok (.newarray .int, 2) := by decide +kernel
theorem d_Mo_init_139 : decode b_Mo_init 139 = .ok (.putfield 64, 3) := by decide +kernel
theorem d_Mo_init_142 : decode b_Mo_init 142 = .ok (.aload_n 0, 1) := by decide +kernel
theorem d_Mo_init_143 : decode b_Mo_init 143 = .ok (.bipush 9, 2) := by decide +kernel
theorem d_Mo_init_145 : decode b_Mo_init 145 = .ok (.newarray .int, 2) := by decide +kernel
theorem d_Mo_init_147 : decode b_Mo_init 147 = .ok (.putfield 67, 3) := by decide +kernel
theorem d_Mo_init_150 : decode b_Mo_init 150 = .ok (.aload_n 0, 1) := by decide +kernel
theorem d_Mo_init_151 : decode b_Mo_init 151 = .ok (.bipush 9, 2) := by decide +kernel
theorem d_Mo_init_153 : decode b_Mo_init 153 = .ok (.newarray .int, 2) := by decide +kernel
theorem d_Mo_init_155 : decode b_Mo_init 155 = .ok (.putfield 70, 3) := by decide +kernel
theorem d_Mo_init_158 : decode b_Mo_init 158 = .ok (.aload_n 0, 1) := by decide +kernel
theorem d_Mo_init_159 : decode b_Mo_init 159 = .ok (.bipush 9, 2) := by decide +kernel
theorem d_Mo_init_161 : decode b_Mo_init 161 = .ok (.newarray .int, 2) := by decide +kernel
theorem d_Mo_init_163 : decode b_Mo_init 163 = .ok (.putfield 73, 3) := by decide +kernel
theorem d_Mo_init_166 : decode b_Mo_init 166 = .ok (.aload_n 0, 1) := by decide +kernel
theorem d_Mo_init_167 : decode b_Mo_init 167 = .ok (.sipush 1801, 3) := by decide +kernel
theorem d_Mo_init_170 : decode b_Mo_init 170 = .ok (.newarray .long, 2) := by decide +kernel
theorem d_Mo_init_172 : decode b_Mo_init 172 = .ok (.putfield 76, 3) := by decide +kernel
theorem d_Mo_init_175 : decode b_Mo_init 175 = .ok (.aload_n 0, 1) := by decide +kernel
theorem d_Mo_init_176 : decode b_Mo_init 176 = .ok (.sipush 1801, 3) := by decide +kernel
theorem d_Mo_init_179 : decode b_Mo_init 179 = .ok (.newarray .long, 2) := by decide +kernel
theorem d_Mo_init_181 : decode b_Mo_init 181 = .ok (.putfield 79, 3) := by decide +kernel
theorem d_Mo_init_184 : decode b_Mo_init 184 = .ok (.aload_n 0, 1) := by decide +kernel
theorem d_Mo_init_185 : decode b_Mo_init 185 = .ok (.sipush 1801, 3) := by decide +kernel
theorem d_Mo_init_188 : decode b_Mo_init 188 = .ok (.newarray .long, 2) := by decide +kernel
theorem d_Mo_init_190 : decode b_Mo_init 190 = .ok (.putfield 82, 3) := by decide +kernel
theorem d_Mo_init_193 : decode b_Mo_init 193 = .ok (.return_, 1) := by decide +kernel
theorem d_Mo_manner_0 : decode b_Mo_manner 0 = .ok (.iload_n 1, 1) := by decide +kernel
theorem d_Mo_manner_1 : decode b_Mo_manner 1 = .ok (.ifCond .lt 8, 3) := by decide +kernel
theorem d_Mo_manner_4 : decode b_Mo_manner 4 = .ok (.iload_n 1, 1) := by decide +kernel
theorem d_Mo_manner_5 : decode b_Mo_manner 5 = .ok (.iconst 1, 1) := by decide +kernel
theorem d_Mo_manner_6 : decode b_Mo_manner 6 = .ok (.if_icmp .le 6, 3) := by decide +kernel
theorem d_Mo_manner_9 : decode b_Mo_manner 9 = .ok (.bipush (-2), 2) := by decide +kernel
theorem d_Mo_manner_11 : decode b_Mo_manner 11 = .ok (.ireturn, 1) := by decide +kernel
theorem d_Mo_manner_12 : decode b_Mo_manner 12 = .ok (.aload_n 0, 1) := by decide +kernel
theorem d_Mo_manner_13 : decode b_Mo_manner 13 = .ok (.getfield 85, 3) := by decide +kernel
theorem d_Mo_manner_16 : decode b_Mo_manner 16 = .ok (.istore_n 2, 1) := by decide +kernel
theorem d_Mo_manner_17 : decode b_Mo_manner 17 = .ok (.aload_n 0, 1) := by decide +kernel
theorem d_Mo_manner_18 : decode b_Mo_manner 18 = .ok (.iload_n 1, 1) := by decide +kernel
theorem d_Mo_manner_19 : decode b_Mo_manner 19 = .ok (.putfield 85, 3) := by decide +kernel
theorem d_Mo_manner_22 : decode b_Mo_manner 22 = .ok (.aload_n 0, 1) := by decide +kernel
theorem d_Mo_manner_23 : decode b_Mo_manner 23 = .ok (.iconst 0, 1) := by decide +kernel
theorem d_Mo_manner_24 : decode b_Mo_manner 24 = .ok (.putfield 88, 3) := by decide +kernel
theorem d_Mo_manner_27 : decode b_Mo_manner 27 = .ok (.aload_n 0, 1) := by decide +kernel
theorem d_Mo_manner_28 : decode b_Mo_manner 28 = .ok (.iconst 0, 1) := by decide +kernel
theorem d_Mo_manner_29 : decode b_Mo_manner 29 = .ok (.putfield 92, 3) := by decide +kernel
theorem d_Mo_manner_32 : decode b_Mo_manner 32 = .ok (.iload_n 2, 1) := by decide +kernel
theorem d_Mo_manner_33 : decode b_Mo_manner 33 = .ok (.ireturn, 1) := by decide +kernel
theorem d_Mo_resolution_0 : decode b_Mo_resolution 0 = .ok (.iload_n 1, 1) := by decide +kernel
theorem d_Mo_resolution_1 : decode b_Mo_resolution 1 = .ok (.ifCond .lt 21, 3) := by decide +kernel
theorem d_Mo_resolution_4 : decode b_Mo_resolution 4 = .ok (.iload_n 1, 1) := by decide +kernel
theorem d_Mo_resolution_5 : decode b_Mo_resolution 5 = .ok (.sipush 1000, 3) := by decide +kernel
theorem d_Mo_resolution_8 : decode b_Mo_resolution 8 = .ok (.if_icmp .gt 14, 3) := by decide +kernel
theorem d_Mo_resolution_11 : decode b_Mo_resolution 11 = .ok (.iload_n 2, 1) := by decide +kernel
theorem d_Mo_resolution_12 : decode b_Mo_resolution 12 = .ok (.iconst 1, 1) := by decide +kernel
theorem d_Mo_resolution_13 : decode b_Mo_resolution 13 = .ok (.if_icmp .lt 9, 3) := by decide +kernel
theorem d_Mo_resolution_16 : decode b_Mo_resolution 16 = .ok (.iload_n 2, 1) := by decide +kernel
theorem d_Mo_resolution_17 : decode b_Mo_resolution 17 = .ok (.bipush 100, 2) := by decide +kernel
theorem d_Mo_resolution_19 : decode b_Mo_resolution 19 = .ok (.if_icmp .le 6, 3) := by decide +kernel
theorem d_Mo_resolution_22 : decode b_Mo_resolution 22 = .ok (.bipush (-2), 2) := by decide +kernel
theorem d_Mo_resolution_24 : decode b_Mo_resolution 24 = .ok (.ireturn, 1) := by decide +kernel
theorem d_Mo_resolution_25 : decode b_Mo_resolution 25 = .ok (.aload_n 0, 1) := by decide +kernel
theorem d_Mo_resolution_26 : decode b_Mo_resolution 26 = .ok (.iload_n 1, 1) := by decide +kernel
theorem d_Mo_resolution_27 : decode b_Mo_resolution 27 = .ok (.putfield 7, 3) := by decide +kernel
theorem d_Mo_resolution_30 : decode b_Mo_resolution 30 = .ok (.aload_n 0, 1) := by decide +kernel
theorem d_Mo_resolution_31 : decode b_Mo_resolution 31 = .ok (.iload_n 2, 1) := by decide +kernel
theorem d_Mo_resolution_32 : decode b_Mo_resolution 32 = .ok (.putfield 13, 3) := by decide +kernel
theorem d_Mo_resolution_35 : decode b_Mo_resolution 35 = .ok (.aload_n 0, 1) := by decide +kernel
theorem d_Mo_resolution_36 : decode b_Mo_resolution 36 = .ok (.iconst 0, 1) := by decide +kernel
theorem d_Mo_resolution_37 : decode b_Mo_resolution 37 = .ok (.putfield 88, 3) := by decide +kernel
theorem d_Mo_resolution_40 : decode b_Mo_resolution 40 = .ok (.iconst 1, 1) := by decide +kernel
theorem d_Mo_resolution_41 : decode b_Mo_resolution 41 = .ok (.ireturn, 1) := by decide +kernel
theorem d_Mo_alone_0 : decode b_Mo_alone 0 = .ok (.aload_n 0, 1) := by decide +kernel
theorem d_Mo_alone_1 : decode b_Mo_alone 1 = .ok (.iconst 0, 1) := by decide +kernel
theorem d_Mo_alone_2 : decode b_Mo_alone 2 = .ok (.putfield 88, 3) := by decide +kernel
theorem d_Mo_alone_5 : decode b_Mo_alone 5 = .ok (.aload_n 0, 1) := by decide +kernel
theorem d_Mo_alone_6 : decode b_Mo_alone 6 = .ok (.iconst 0, 1) := by decide +kernel
theorem d_Mo_alone_7 : decode b_Mo_alone 7 = .ok (.putfield 92, 3) := by decide +kernel
theorem d_Mo_alone_10 : decode b_Mo_alone 10 = .ok (.iconst 0, 1) := by decide +kernel
theorem d_Mo_alone_11 : decode b_Mo_alone 11 = .ok (.istore_n 1, 1) := by decide +kernel
theorem d_Mo_alone_12 : decode b_Mo_alone 12 = .ok (.iload_n 1, 1) := by decide +kernel
theorem d_Mo_alone_13 : decode b_Mo_alone 13 = .ok (.aload_n 0, 1) := by decide +kernel
theorem d_Mo_alone_14 : decode b_Mo_alone 14 = .ok (.getfield 95, 3) := by decide +kernel
theorem d_Mo_alone_17 : decode b_Mo_alone 17 = .ok (.if_icmp .ge 16, 3) := by decide +kernel
theorem d_Mo_alone_20 : decode b_Mo_alone 20 = .ok (.aload_n 0, 1) := by decide +kernel
theorem d_Mo_alone_21 : decode b_Mo_alone 21 = .ok (.getfield 30, 3) := by decide +kernel
theorem d_Mo_alone_24 : decode b_Mo_alone 24 = .ok (.iload_n 1, 1) := by decide +kernel
theorem d_Mo_alone_25 : decode b_Mo_alone 25 = .ok (.iload_n 1, 1) := by decide +kernel
theorem d_Mo_alone_26 : decode b_Mo_alone 26 = .ok (.iastore, 1) := by decide +kernel
theorem d_Mo_alone_27 : decode b_Mo_alone 27 = .ok (.iinc 1 1, 3) := by decide +kernel
theorem d_Mo_alone_30 : decode b_Mo_alone 30 = .ok (.goto (-18), 3) := by decide +kernel
theorem d_Mo_alone_33 : decode b_Mo_alone 33 = .ok (.return_, 1) := by decide +kernel
theorem d_Mo_isNode_0 : decode b_Mo_isNode 0 = .ok (.iload_n 1, 1) := by decide +kernel
theorem d_Mo_isNode_1 : decode b_Mo_isNode 1 = .ok (.ifCond .lt 15, 3) := by decide +kernel
theorem d_Mo_isNode_4 : decode b_Mo_isNode 4 = .ok (.iload_n 1, 1) := by decide +kernel
theorem d_Mo_isNode_5 : decode b_Mo_isNode 5 = .ok (.aload_n 0, 1) := by decide +kernel
theorem d_Mo_isNode_6 : decode b_Mo_isNode 6 = .ok (.getfield 95, 3) := by decide +kernel
theorem d_Mo_isNode_9 : decode b_Mo_isNode 9 = .ok (.if_icmp .ge 7, 3) := by decide +kernel
theorem d_Mo_isNode_12 : decode b_Mo_isNode 12 = .ok (.iconst 1, 1) := by decide +kernel
theorem d_Mo_isNode_13 : decode b_Mo_isNode 13 = .ok (.goto 4, 3) := by decide +kernel
theorem d_Mo_isNode_16 : decode b_Mo_isNode 16 = .ok (.iconst 0, 1) := by decide +kernel
theorem d_Mo_isNode_17 : decode b_Mo_isNode 17 = .ok (.ireturn, 1) := by decide +kernel
theorem d_Mo_node_0 : decode b_Mo_node 0 = .ok (.aload_n 0, 1) := by decide +kernel
theorem d_Mo_node_1 : decode b_Mo_node 1 = .ok (.getfield 95, 3) := by decide +kernel
theorem d_Mo_node_4 : decode b_Mo_node 4 = .ok (.bipush 9, 2) := by decide +kernel
theorem d_Mo_node_6 : decode b_Mo_node 6 = .ok (.if_icmp .ne 6, 3) := by decide +kernel
theorem d_Mo_node_9 : decode b_Mo_node 9 = .ok (.bipush (-4), 2) := by decide +kernel
theorem d_Mo_node_11 : decode b_Mo_node 11 = .ok (.ireturn, 1) := by decide +kernel
theorem d_Mo_node_12 : decode b_Mo_node 12 = .ok (.aload_n 0, 1) := by decide +kernel
theorem d_Mo_node_13 : decode b_Mo_node 13 = .ok (.dup, 1) := by decide +kernel
theorem d_Mo_node_14 : decode b_Mo_node 14 = .ok (.getfield 95, 3) := by decide +kernel
theorem d_Mo_node_17 : decode b_Mo_node 17 = .ok (.iconst 1, 1) := by decide +kernel
theorem d_Mo_node_18 : decode b_Mo_node 18 = .ok (.iadd, 1) := by decide +kernel
theorem d_Mo_node_19 : decode b_Mo_node 19 = .ok (.putfield 95, 3) := by decide +kernel
theorem d_Mo_node_22 : decode b_Mo_node 22 = .ok (.aload_n 0, 1) := by decide +kernel
theorem d_Mo_node_23 : decode b_Mo_node 23 = .ok (.invokevirtual 98, 3) := by decide +kernel
theorem d_Mo_node_26 : decode b_Mo_node 26 = .ok (.aload_n 0, 1) := by decide +kernel
theorem d_Mo_node_27 : decode b_Mo_node 27 = .ok (.getfield 95, 3) := by decide +kernel
theorem d_Mo_node_30 : decode b_Mo_node 30 = .ok (.iconst 1, 1) := by decide +kernel
theorem d_Mo_node_31 : decode b_Mo_node 31 = .ok (.isub, 1) := by decide +kernel
theorem d_Mo_node_32 : decode b_Mo_node 32 = .ok (.ireturn, 1) := by decide +kernel
theorem d_Mo_arc_0 : decode b_Mo_arc 0 = .ok (.aload_n 0, 1) := by decide +kernel
theorem d_Mo_arc_1 : decode b_Mo_arc 1 = .ok (.iload_n 1, 1) := by decide +kernel
theorem d_Mo_arc_2 : decode b_Mo_arc 2 = .ok (.invokevirtual 101, 3) := by decide +kernel
theorem d_Mo_arc_5 : decode b_Mo_arc 5 = .ok (.ifCond .eq 16, 3) := by decide +kernel
theorem d_Mo_arc_8 : decode b_Mo_arc 8 = .ok (.aload_n 0, 1) := by decide +kernel
theorem d_Mo_arc_9 : decode b_Mo_arc 9 = .ok (.iload_n 2, 1) := by decide +kernel
theorem d_Mo_arc_10 : decode b_Mo_arc 10 = .ok (.invokevirtual 101, 3) := by decide +kernel
theorem d_Mo_arc_13 : decode b_Mo_arc 13 = .ok (.ifCond .eq 8, 3) := by decide +kernel
theorem d_Mo_arc_16 : decode b_Mo_arc 16 = .ok (.iload_n 1, 1) := by decide +kernel
theorem d_Mo_arc_17 : decode b_Mo_arc 17 = .ok (.iload_n 2, 1) := by decide +kernel
theorem d_Mo_arc_18 : decode b_Mo_arc 18 = .ok (.if_icmp .ne 5, 3) := by decide +kernel
theorem d_Mo_arc_21 : decode b_Mo_arc 21 = .ok (.iconst (-1), 1) := by decide +kernel
theorem d_Mo_arc_22 : decode b_Mo_arc 22 = .ok (.ireturn, 1) := by decide +kernel
theorem d_Mo_arc_23 : decode b_Mo_arc 23 = .ok (.iload_n 3, 1) := by decide +kernel
theorem d_Mo_arc_24 : decode b_Mo_arc 24 = .ok (.bipush (-50), 2) := by decide +kernel
theorem d_Mo_arc_26 : decode b_Mo_arc 26 = .ok (.if_icmp .lt 13, 3) := by decide +kernel
theorem d_Mo_arc_29 : decode b_Mo_arc 29 = .ok (.iload_n 3, 1) := by decide +kernel
theorem d_Mo_arc_30 : decode b_Mo_arc 30 = .ok (.bipush 50, 2) := by decide +kernel
theorem d_Mo_arc_32 : decode b_Mo_arc 32 = .ok (.if_icmp .gt 7, 3) := by decide +kernel
theorem d_Mo_arc_35 : decode b_Mo_arc 35 = .ok (.iload_n 3, 1) := by decide +kernel
theorem d_Mo_arc_36 : decode b_Mo_arc 36 = .ok (.ifCond .ne 6, 3) := by decide +kernel
theorem d_Mo_arc_39 : decode b_Mo_arc 39 = .ok (.bipush (-2), 2) := by decide +kernel
theorem d_Mo_arc_41 : decode b_Mo_arc 41 = .ok (.ireturn, 1) := by decide +kernel
theorem d_Mo_arc_42 : decode b_Mo_arc 42 = .ok (.aload_n 0, 1) := by decide +kernel
theorem d_Mo_arc_43 : decode b_Mo_arc 43 = .ok (.getfield 105, 3) := by decide +kernel
theorem d_Mo_arc_46 : decode b_Mo_arc 46 = .ok (.bipush 36, 2) := by decide +kernel
theorem d_Mo_arc_48 : decode b_Mo_arc 48 = .ok (.if_icmp .ne 6, 3) := by decide +kernel
theorem d_Mo_arc_51 : decode b_Mo_arc 51 = .ok (.bipush (-4), 2) := by decide +kernel
theorem d_Mo_arc_53 : decode b_Mo_arc 53 = .ok (.ireturn, 1) := by decide +kernel
theorem d_Mo_arc_54 : decode b_Mo_arc 54 = .ok (.aload_n 0, 1) := by decide +kernel
theorem d_Mo_arc_55 : decode b_Mo_arc 55 = .ok (.getfield 16, 3) := by decide +kernel
theorem d_Mo_arc_58 : decode b_Mo_arc 58 = .ok (.aload_n 0, 1) := by decide +kernel
theorem d_Mo_arc_59 : decode b_Mo_arc 59 = .ok (.getfield 105, 3) := by decide +kernel
theorem d_Mo_arc_62 : decode b_Mo_arc 62 = .ok (.iload_n 1, 1) := by decide +kernel
theorem d_Mo_arc_63 : decode b_Mo_arc 63 = .ok (.iastore, 1) := by decide +kernel
theorem d_Mo_arc_64 : decode b_Mo_arc 64 = .ok (.aload_n 0, 1) := by decide +kernel
theorem d_Mo_arc_65 : decode b_Mo_arc 65 = .ok (.getfield 20, 3) := by decide +kernel
theorem d_Mo_arc_68 : decode b_Mo_arc 68 = .ok (.aload_n 0, 1) := by decide +kernel
theorem d_Mo_arc_69 : decode b_Mo_arc 69 = .ok (.getfield 105, 3) := by decide +kernel
theorem d_Mo_arc_72 : decode b_Mo_arc 72 = .ok (.iload_n 2, 1) := by decide +kernel
theorem d_Mo_arc_73 : decode b_Mo_arc 73 = .ok (.iastore, 1) := by decide +kernel
theorem d_Mo_arc_74 : decode b_Mo_arc 74 = .ok (.aload_n 0, 1) := by decide +kernel
theorem d_Mo_arc_75 : decode b_Mo_arc 75 = .ok (.getfield 23, 3) := by decide +kernel
theorem d_Mo_arc_78 : decode b_Mo_arc 78 = .ok (.aload_n 0, 1) := by decide +kernel
theorem d_Mo_arc_79 : decode b_Mo_arc 79 = .ok (.getfield 105, 3) := by decide +kernel
theorem d_Mo_arc_82 : decode b_Mo_arc 82 = .ok (.iload_n 3, 1) := by decide +kernel
theorem d_Mo_arc_83 : decode b_Mo_arc 83 = .ok (.iastore, 1) := by decide +kernel
theorem d_Mo_arc_84 : decode b_Mo_arc 84 = .ok (.aload_n 0, 1) := by decide +kernel
theorem d_Mo_arc_85 : decode b_Mo_arc 85 = .ok (.getfield 26, 3) := by decide +kernel
theorem d_Mo_arc_88 : decode b_Mo_arc 88 = .ok (.aload_n 0, 1) := by decide +kernel
theorem d_Mo_arc_89 : decode b_Mo_arc 89 = .ok (.getfield 105, 3) := by decide +kernel
theorem d_Mo_arc_92 : decode b_Mo_arc 92 = .ok (.iconst 1, 1) := by decide +kernel
theorem d_Mo_arc_93 : decode b_Mo_arc 93 = .ok (.bastore, 1) := by decide +kernel
theorem d_Mo_arc_94 : decode b_Mo_arc 94 = .ok (.aload_n 0, 1) := by decide +kernel
theorem d_Mo_arc_95 : decode b_Mo_arc 95 = .ok (.dup, 1) := by decide +kernel
theorem d_Mo_arc_96 : decode b_Mo_arc 96 = .ok (.getfield 105, 3) := by decide +kernel
theorem d_Mo_arc_99 : decode b_Mo_arc 99 = .ok (.iconst 1, 1) := by decide +kernel
theorem d_Mo_arc_100 : decode b_Mo_arc 100 = .ok (.iadd, 1) := by decide +kernel
theorem d_Mo_arc_101 : decode b_Mo_arc 101 = .ok (.putfield 105, 3) := by decide +kernel
theorem d_Mo_arc_104 : decode b_Mo_arc 104 = .ok (.aload_n 0, 1) := by decide +kernel
theorem d_Mo_arc_105 : decode b_Mo_arc 105 = .ok (.dup, 1) := by decide +kernel
theorem d_Mo_arc_106 : decode b_Mo_arc 106 = .ok (.getfield 108, 3) := by decide +kernel
theorem d_Mo_arc_109 : decode b_Mo_arc 109 = .ok (.iconst 1, 1) := by decide +kernel
theorem d_Mo_arc_110 : decode b_Mo_arc 110 = .ok (.iadd, 1) := by decide +kernel
theorem d_Mo_arc_111 : decode b_Mo_arc 111 = .ok (.putfield 108, 3) := by decide +kernel
theorem d_Mo_arc_114 : decode b_Mo_arc 114 = .ok (.aload_n 0, 1) := by decide +kernel
theorem d_Mo_arc_115 : decode b_Mo_arc 115 = .ok (.invokevirtual 98, 3) := by decide +kernel
theorem d_Mo_arc_118 : decode b_Mo_arc 118 = .ok (.aload_n 0, 1) := by decide +kernel
theorem d_Mo_arc_119 : decode b_Mo_arc 119 = .ok (.getfield 105, 3) := by decide +kernel
theorem d_Mo_arc_122 : decode b_Mo_arc 122 = .ok (.iconst 1, 1) := by decide +kernel
theorem d_Mo_arc_123 : decode b_Mo_arc 123 = .ok (.isub, 1) := by decide +kernel
theorem d_Mo_arc_124 : decode b_Mo_arc 124 = .ok (.ireturn, 1) := by decide +kernel
theorem d_Mo_drop_0 : decode b_Mo_drop 0 = .ok (.iload_n 1, 1) := by decide +kernel
theorem d_Mo_drop_1 : decode b_Mo_drop 1 = .ok (.ifCond .lt 20, 3) := by decide +kernel
theorem d_Mo_drop_4 : decode b_Mo_drop 4 = .ok (.iload_n 1, 1) := by decide +kernel
theorem d_Mo_drop_5 : decode b_Mo_drop 5 = .ok (.aload_n 0, 1) := by decide +kernel
theorem d_Mo_drop_6 : decode b_Mo_drop 6 = .ok (.getfield 105, 3) := by decide +kernel
theorem d_Mo_drop_9 : decode b_Mo_drop 9 = .ok (.if_icmp .ge 12, 3) := by decide +kernel
theorem d_Mo_drop_12 : decode b_Mo_drop 12 = .ok (.aload_n 0, 1) := by decide +kernel
theorem d_Mo_drop_13 : decode b_Mo_drop 13 = .ok (.getfield 26, 3) := by decide +kernel
theorem d_Mo_drop_16 : decode b_Mo_drop 16 = .ok (.iload_n 1, 1) := by decide +kernel
theorem d_Mo_drop_17 : decode b_Mo_drop 17 = .ok (.baload, 1) := by decide +kernel
theorem d_Mo_drop_18 : decode b_Mo_drop 18 = .ok (.ifCond .ne 5, 3) := by decide +kernel
theorem d_Mo_drop_21 : decode b_Mo_drop 21 = .ok (.iconst (-1), 1) := by decide +kernel
theorem d_Mo_drop_22 : decode b_Mo_drop 22 = .ok (.ireturn, 1) := by decide +kernel
theorem d_Mo_drop_23 : decode b_Mo_drop 23 = .ok (.aload_n 0, 1) := by decide +kernel
theorem d_Mo_drop_24 : decode b_Mo_drop 24 = .ok (.getfield 26, 3) := by decide +kernel
theorem d_Mo_drop_27 : decode b_Mo_drop 27 = .ok (.iload_n 1, 1) := by decide +kernel
theorem d_Mo_drop_28 : decode b_Mo_drop 28 = .ok (.iconst 0, 1) := by decide +kernel
theorem d_Mo_drop_29 : decode b_Mo_drop 29 = .ok (.bastore, 1) := by decide +kernel
theorem d_Mo_drop_30 : decode b_Mo_drop 30 = .ok (.aload_n 0, 1) := by decide +kernel
theorem d_Mo_drop_31 : decode b_Mo_drop 31 = .ok (.dup, 1) := by decide +kernel
theorem d_Mo_drop_32 : decode b_Mo_drop 32 = .ok (.getfield 108, 3) := by decide +kernel
theorem d_Mo_drop_35 : decode b_Mo_drop 35 = .ok (.iconst 1, 1) := by decide +kernel
theorem d_Mo_drop_36 : decode b_Mo_drop 36 = .ok (.isub, 1) := by decide +kernel
theorem d_Mo_drop_37 : decode b_Mo_drop 37 = .ok (.putfield 108, 3) := by decide +kernel
theorem d_Mo_drop_40 : decode b_Mo_drop 40 = .ok (.aload_n 0, 1) := by decide +kernel
theorem d_Mo_drop_41 : decode b_Mo_drop 41 = .ok (.invokevirtual 98, 3) := by decide +kernel
theorem d_Mo_drop_44 : decode b_Mo_drop 44 = .ok (.aload_n 0, 1) := by decide +kernel
theorem d_Mo_drop_45 : decode b_Mo_drop 45 = .ok (.getfield 108, 3) := by decide +kernel
theorem d_Mo_drop_48 : decode b_Mo_drop 48 = .ok (.ireturn, 1) := by decide +kernel
theorem d_Mo_clear_0 : decode b_Mo_clear 0 = .ok (.aload_n 0, 1) := by decide +kernel
theorem d_Mo_clear_1 : decode b_Mo_clear 1 = .ok (.getfield 95, 3) := by decide +kernel
theorem d_Mo_clear_4 : decode b_Mo_clear 4 = .ok (.istore_n 1, 1) := by decide +kernel
theorem d_Mo_clear_5 : decode b_Mo_clear 5 = .ok (.aload_n 0, 1) := by decide +kernel
theorem d_Mo_clear_6 : decode b_Mo_clear 6 = .ok (.iconst 0, 1) := by decide +kernel
theorem d_Mo_clear_7 : decode b_Mo_clear 7 = .ok (.putfield 95, 3) := by decide +kernel
theorem d_Mo_clear_10 : decode b_Mo_clear 10 = .ok (.aload_n 0, 1) := by decide +kernel
theorem d_Mo_clear_11 : decode b_Mo_clear 11 = .ok (.iconst 0, 1) := by decide +kernel
theorem d_Mo_clear_12 : decode b_Mo_clear 12 = .ok (.putfield 105, 3) := by decide +kernel
theorem d_Mo_clear_15 : decode b_Mo_clear 15 = .ok (.aload_n 0, 1) := by decide +kernel
theorem d_Mo_clear_16 : decode b_Mo_clear 16 = .ok (.iconst 0, 1) := by decide +kernel
theorem d_Mo_clear_17 : decode b_Mo_clear 17 = .ok (.putfield 108, 3) := by decide +kernel
theorem d_Mo_clear_20 : decode b_Mo_clear 20 = .ok (.aload_n 0, 1) := by decide +kernel
theorem d_Mo_clear_21 : decode b_Mo_clear 21 = .ok (.invokevirtual 98, 3) := by decide +kernel
theorem d_Mo_clear_24 : decode b_Mo_clear 24 = .ok (.iload_n 1, 1) := by decide +kernel
theorem d_Mo_clear_25 : decode b_Mo_clear 25 = .ok (.ireturn, 1) := by decide +kernel
theorem d_Mo_counts_0 : decode b_Mo_counts 0 = .ok (.aload_n 0, 1) := by decide +kernel
theorem d_Mo_counts_1 : decode b_Mo_counts 1 = .ok (.getfield 26, 3) := by decide +kernel
theorem d_Mo_counts_4 : decode b_Mo_counts 4 = .ok (.iload_n 1, 1) := by decide +kernel
theorem d_Mo_counts_5 : decode b_Mo_counts 5 = .ok (.baload, 1) := by decide +kernel
theorem d_Mo_counts_6 : decode b_Mo_counts 6 = .ok (.ifCond .eq 24, 3) := by decide +kernel
theorem d_Mo_counts_9 : decode b_Mo_counts 9 = .ok (.aload_n 0, 1) := by decide +kernel
theorem d_Mo_counts_10 : decode b_Mo_counts 10 = .ok (.getfield 85, 3) := by decide +kernel
theorem d_Mo_counts_13 : decode b_Mo_counts 13 = .ok (.iconst 1, 1) := by decide +kernel
theorem d_Mo_counts_14 : decode b_Mo_counts 14 = .ok (.if_icmp .eq 12, 3) := by decide +kernel
theorem d_Mo_counts_17 : decode b_Mo_counts 17 = .ok (.aload_n 0, 1) := by decide +kernel
theorem d_Mo_counts_18 : decode b_Mo_counts 18 = .ok (.getfield 23, 3) := by decide +kernel
theorem d_Mo_counts_21 : decode b_Mo_counts 21 = .ok (.iload_n 1, 1) := by decide +kernel
theorem d_Mo_counts_22 : decode b_Mo_counts 22 = .ok (.iaload, 1) := by decide +kernel
theorem d_Mo_counts_23 : decode b_Mo_counts 23 = .ok (.ifCond .le 7, 3) := by decide +kernel
theorem d_Mo_counts_26 : decode b_Mo_counts 26 = .ok (.iconst 1, 1) := by decide +kernel
theorem d_Mo_counts_27 : decode b_Mo_counts 27 = .ok (.goto 4, 3) := by decide +kernel
theorem d_Mo_counts_30 : decode b_Mo_counts 30 = .ok (.iconst 0, 1) := by decide +kernel
theorem d_Mo_counts_31 : decode b_Mo_counts 31 = .ok (.ireturn, 1) := by decide +kernel
theorem d_Mo_weigh_0 : decode b_Mo_weigh 0 = .ok (.iconst 0, 1) := by decide +kernel
theorem d_Mo_weigh_1 : decode b_Mo_weigh 1 = .ok (.istore_n 1, 1) := by decide +kernel
theorem d_Mo_weigh_2 : decode b_Mo_weigh 2 = .ok (.iload_n 1, 1) := by decide +kernel
theorem d_Mo_weigh_3 : decode b_Mo_weigh 3 = .ok (.bipush 81, 2) := by decide +kernel
theorem d_Mo_weigh_5 : decode b_Mo_weigh 5 = .ok (.if_icmp .ge 23, 3) := by decide +kernel
theorem d_Mo_weigh_8 : decode b_Mo_weigh 8 = .ok (.aload_n 0, 1) := by decide +kernel
theorem d_Mo_weigh_9 : decode b_Mo_weigh 9 = .ok (.getfield 33, 3) := by decide +kernel
theorem d_Mo_weigh_12 : decode b_Mo_weigh 12 = .ok (.iload_n 1, 1) := by decide +kernel
theorem d_Mo_weigh_13 : decode b_Mo_weigh 13 = .ok (.iconst 0, 1) := by decide +kernel
theorem d_Mo_weigh_14 : decode b_Mo_weigh 14 = .ok (.iastore, 1) := by decide +kernel
theorem d_Mo_weigh_15 : decode b_Mo_weigh 15 = .ok (.aload_n 0, 1) := by decide +kernel
theorem d_Mo_weigh_16 : decode b_Mo_weigh 16 = .ok (.getfield 36, 3) := by decide +kernel
theorem d_Mo_weigh_19 : decode b_Mo_weigh 19 = .ok (.iload_n 1, 1) := by decide +kernel
theorem d_Mo_weigh_20 : decode b_Mo_weigh 20 = .ok (.iconst 0, 1) := by decide +kernel
theorem d_Mo_weigh_21 : decode b_Mo_weigh 21 = .ok (.bastore, 1) := by decide +kernel
theorem d_Mo_weigh_22 : decode b_Mo_weigh 22 = .ok (.iinc 1 1, 3) := by decide +kernel
theorem d_Mo_weigh_25 : decode b_Mo_weigh 25 = .ok (.goto (-23), 3) := by decide +kernel
theorem d_Mo_weigh_28 : decode b_Mo_weigh 28 = .ok (.iconst 0, 1) := by decide +kernel
theorem d_Mo_weigh_29 : decode b_Mo_weigh 29 = .ok (.istore_n 1, 1) := by decide +kernel
theorem d_Mo_weigh_30 : decode b_Mo_weigh 30 = .ok (.iload_n 1, 1) := by decide +kernel
theorem d_Mo_weigh_31 : decode b_Mo_weigh 31 = .ok (.bipush 9, 2) := by decide +kernel
theorem d_Mo_weigh_33 : decode b_Mo_weigh 33 = .ok (.if_icmp .ge 16, 3) := by decide +kernel
theorem d_Mo_weigh_36 : decode b_Mo_weigh 36 = .ok (.aload_n 0, 1) := by decide +kernel
theorem d_Mo_weigh_37 : decode b_Mo_weigh 37 = .ok (.getfield 39, 3) := by decide +kernel
theorem d_Mo_weigh_40 : decode b_Mo_weigh 40 = .ok (.iload_n 1, 1) := by decide +kernel
theorem d_Mo_weigh_41 : decode b_Mo_weigh 41 = .ok (.iconst 0, 1) := by decide +kernel
theorem d_Mo_weigh_42 : decode b_Mo_weigh 42 = .ok (.iastore, 1) := by decide +kernel
theorem d_Mo_weigh_43 : decode b_Mo_weigh 43 = .ok (.iinc 1 1, 3) := by decide +kernel
theorem d_Mo_weigh_46 : decode b_Mo_weigh 46 = .ok (.goto (-16), 3) := by decide +kernel
theorem d_Mo_weigh_49 : decode b_Mo_weigh 49 = .ok (.aload_n 0, 1) := by decide +kernel
theorem d_Mo_weigh_50 : decode b_Mo_weigh 50 = .ok (.lconst 0, 1) := by decide +kernel
theorem d_Mo_weigh_51 : decode b_Mo_weigh 51 = .ok (.putfield 111, 3) := by decide +kernel
theorem d_Mo_weigh_54 : decode b_Mo_weigh 54 = .ok (.iconst 0, 1) := by decide +kernel
theorem d_Mo_weigh_55 : decode b_Mo_weigh 55 = .ok (.istore_n 1, 1) := by decide +kernel
theorem d_Mo_weigh_56 : decode b_Mo_weigh 56 = .ok (.iload_n 1, 1) := by decide +kernel
theorem d_Mo_weigh_57 : decode b_Mo_weigh 57 = .ok (.aload_n 0, 1) := by decide +kernel
theorem d_Mo_weigh_58 : decode b_Mo_weigh 58 = .ok (.getfield 105, 3) := by decide +kernel
theorem d_Mo_weigh_61 : decode b_Mo_weigh 61 = .ok (.if_icmp .ge 177, 3) := by decide +kernel
theorem d_Mo_weigh_64 : decode b_Mo_weigh 64 = .ok (.aload_n 0, 1) := by decide +kernel
theorem d_Mo_weigh_65 : decode b_Mo_weigh 65 = .ok (.iload_n 1, 1) := by decide +kernel
theorem d_Mo_weigh_66 : decode b_Mo_weigh 66 = .ok (.invokevirtual 115, 3) := by decide +kernel
theorem d_Mo_weigh_69 : decode b_Mo_weigh 69 = .ok (.ifCond .eq 163, 3) := by decide +kernel
theorem d_Mo_weigh_72 : decode b_Mo_weigh 72 = .ok (.aload_n 0, 1) := by decide +kernel
theorem d_Mo_weigh_73 : decode b_Mo_weigh 73 = .ok (.getfield 33, 3) := by decide +kernel
theorem d_Mo_weigh_76 : decode b_Mo_weigh 76 = .ok (.bipush 9, 2) := by decide +kernel
theorem d_Mo_weigh_78 : decode b_Mo_weigh 78 = .ok (.aload_n 0, 1) := by decide +kernel
theorem d_Mo_weigh_79 : decode b_Mo_weigh 79 = .ok (.getfield 16, 3) := by decide +kernel
theorem d_Mo_weigh_82 : decode b_Mo_weigh 82 = .ok (.iload_n 1, 1) := by decide +kernel
theorem d_Mo_weigh_83 : decode b_Mo_weigh 83 = .ok (.iaload, 1) := by decide +kernel
theorem d_Mo_weigh_84 : decode b_Mo_weigh 84 = .ok (.imul, 1) := by decide +kernel
theorem d_Mo_weigh_85 : decode b_Mo_weigh 85 = .ok (.aload_n 0, 1) := by decide +kernel
theorem d_Mo_weigh_86 : decode b_Mo_weigh 86 = .ok (.getfield 20, 3) := by decide +kernel
theorem d_Mo_weigh_89 : decode b_Mo_weigh 89 = .ok (.iload_n 1, 1) := by decide +kernel
theorem d_Mo_weigh_90 : decode b_Mo_weigh 90 = .ok (.iaload, 1) := by decide +kernel
theorem d_Mo_weigh_91 : decode b_Mo_weigh 91 = .ok (.iadd, 1) := by decide +kernel
theorem d_Mo_weigh_92 : decode b_Mo_weigh 92 = .ok (.dup2, 1) := by decide +kernel
theorem d_Mo_weigh_93 : decode b_Mo_weigh 93 = .ok (.iaload, 1) := by decide +kernel
theorem d_Mo_weigh_94 : decode b_Mo_weigh 94 = .ok (.aload_n 0, 1) := by decide +kernel
theorem d_Mo_weigh_95 : decode b_Mo_weigh 95 = .ok (.getfield 23, 3) := by decide +kernel
theorem d_Mo_weigh_98 : decode b_Mo_weigh 98 = .ok (.iload_n 1, 1) := by decide +kernel
theorem d_Mo_weigh_99 : decode b_Mo_weigh 99 = .ok (.iaload, 1) := by decide +kernel
theorem d_Mo_weigh_100 : decode b_Mo_weigh 100 = .ok (.iadd, 1) := by decide +kernel
theorem d_Mo_weigh_101 : decode b_Mo_weigh 101 = .ok (.iastore, 1) := by decide +kernel
theorem d_Mo_weigh_102 : decode b_Mo_weigh 102 = .ok (.aload_n 0, 1) := by decide +kernel
theorem d_Mo_weigh_103 : decode b_Mo_weigh 103 = .ok (.getfield 33, 3) := by decide +kernel
theorem d_Mo_weigh_106 : decode b_Mo_weigh 106 = .ok (.bipush 9, 2) := by decide +kernel
theorem d_Mo_weigh_108 : decode b_Mo_weigh 108 = .ok (.aload_n 0, 1) := by decide +kernel
theorem d_Mo_weigh_109 : decode b_Mo_weigh 109 = .ok (.getfield 20, 3) := by decide +kernel
theorem d_Mo_weigh_112 : decode b_Mo_weigh 112 = .ok (.iload_n 1, 1) := by decide +kernel
theorem d_Mo_weigh_113 : decode b_Mo_weigh 113 = .ok (.iaload, 1) := by decide +kernel
theorem d_Mo_weigh_114 : decode b_Mo_weigh 114 = .ok (.imul, 1) := by decide +kernel
theorem d_Mo_weigh_115 : decode b_Mo_weigh 115 = .ok (.aload_n 0, 1) := by decide +kernel
theorem d_Mo_weigh_116 : decode b_Mo_weigh 116 = .ok (.getfield 16, 3) := by decide +kernel
theorem d_Mo_weigh_119 : decode b_Mo_weigh 119 = .ok (.iload_n 1, 1) := by decide +kernel
theorem d_Mo_weigh_120 : decode b_Mo_weigh 120 = .ok (.iaload, 1) := by decide +kernel
theorem d_Mo_weigh_121 : decode b_Mo_weigh 121 = .ok (.iadd, 1) := by decide +kernel
theorem d_Mo_weigh_122 : decode b_Mo_weigh 122 = .ok (.dup2, 1) := by decide +kernel
theorem d_Mo_weigh_123 : decode b_Mo_weigh 123 = .ok (.iaload, 1) := by decide +kernel
theorem d_Mo_weigh_124 : decode b_Mo_weigh 124 = .ok (.aload_n 0, 1) := by decide +kernel
theorem d_Mo_weigh_125 : decode b_Mo_weigh 125 = .ok (.getfield 23, 3) := by decide +kernel
theorem d_Mo_weigh_128 : decode b_Mo_weigh 128 = .ok (.iload_n 1, 1) := by decide +kernel
theorem d_Mo_weigh_129 : decode b_Mo_weigh 129 = .ok (.iaload, 1) := by decide +kernel
theorem d_Mo_weigh_130 : decode b_Mo_weigh 130 = .ok (.iadd, 1) := by decide +kernel
theorem d_Mo_weigh_131 : decode b_Mo_weigh 131 = .ok (.iastore, 1) := by decide +kernel
theorem d_Mo_weigh_132 : decode b_Mo_weigh 132 = .ok (.aload_n 0, 1) := by decide +kernel
theorem d_Mo_weigh_133 : decode b_Mo_weigh 133 = .ok (.getfield 36, 3) := by decide +kernel
theorem d_Mo_weigh_136 : decode b_Mo_weigh 136 = .ok (.bipush 9, 2) := by decide +kernel
theorem d_Mo_weigh_138 : decode b_Mo_weigh 138 = .ok (.aload_n 0, 1) := by decide +kernel
theorem d_Mo_weigh_139 : decode b_Mo_weigh 139 = .ok (.getfield 16, 3) := by decide +kernel
theorem d_Mo_weigh_142 : decode b_Mo_weigh 142 = .ok (.iload_n 1, 1) := by decide +kernel
theorem d_Mo_weigh_143 : decode b_Mo_weigh 143 = .ok (.iaload, 1) := by decide +kernel
theorem d_Mo_weigh_144 : decode b_Mo_weigh 144 = .ok (.imul, 1) := by decide +kernel
theorem d_Mo_weigh_145 : decode b_Mo_weigh 145 = .ok (.aload_n 0, 1) := by decide +kernel
theorem d_Mo_weigh_146 : decode b_Mo_weigh 146 = .ok (.getfield 20, 3) := by decide +kernel
theorem d_Mo_weigh_149 : decode b_Mo_weigh 149 = .ok (.iload_n 1, 1) := by decide +kernel
theorem d_Mo_weigh_150 : decode b_Mo_weigh 150 = .ok (.iaload, 1) := by decide +kernel
theorem d_Mo_weigh_151 : decode b_Mo_weigh 151 = .ok (.iadd, 1) := by decide +kernel
theorem d_Mo_weigh_152 : decode b_Mo_weigh 152 = .ok (.iconst 1, 1) := by decide +kernel
theorem d_Mo_weigh_153 : decode b_Mo_weigh 153 = .ok (.bastore, 1) := by decide +kernel
theorem d_Mo_weigh_154 : decode b_Mo_weigh 154 = .ok (.aload_n 0, 1) := by decide +kernel
theorem d_Mo_weigh_155 : decode b_Mo_weigh 155 = .ok (.getfield 36, 3) := by decide +kernel
theorem d_Mo_weigh_158 : decode b_Mo_weigh 158 = .ok (.bipush 9, 2) := by decide +kernel
theorem d_Mo_weigh_160 : decode b_Mo_weigh 160 = .ok (.aload_n 0, 1) := by decide +kernel
theorem d_Mo_weigh_161 : decode b_Mo_weigh 161 = .ok (.getfield 20, 3) := by decide +kernel
theorem d_Mo_weigh_164 : decode b_Mo_weigh 164 = .ok (.iload_n 1, 1) := by decide +kernel
theorem d_Mo_weigh_165 : decode b_Mo_weigh 165 = .ok (.iaload, 1) := by decide +kernel
theorem d_Mo_weigh_166 : decode b_Mo_weigh 166 = .ok (.imul, 1) := by decide +kernel
theorem d_Mo_weigh_167 : decode b_Mo_weigh 167 = .ok (.aload_n 0, 1) := by decide +kernel
theorem d_Mo_weigh_168 : decode b_Mo_weigh 168 = .ok (.getfield 16, 3) := by decide +kernel
theorem d_Mo_weigh_171 : decode b_Mo_weigh 171 = .ok (.iload_n 1, 1) := by decide +kernel
theorem d_Mo_weigh_172 : decode b_Mo_weigh 172 = .ok (.iaload, 1) := by decide +kernel
theorem d_Mo_weigh_173 : decode b_Mo_weigh 173 = .ok (.iadd, 1) := by decide +kernel
theorem d_Mo_weigh_174 : decode b_Mo_weigh 174 = .ok (.iconst 1, 1) := by decide +kernel
theorem d_Mo_weigh_175 : decode b_Mo_weigh 175 = .ok (.bastore, 1) := by decide +kernel
theorem d_Mo_weigh_176 : decode b_Mo_weigh 176 = .ok (.aload_n 0, 1) := by decide +kernel
theorem d_Mo_weigh_177 : decode b_Mo_weigh 177 = .ok (.getfield 39, 3) := by decide +kernel
theorem d_Mo_weigh_180 : decode b_Mo_weigh 180 = .ok (.aload_n 0, 1) := by decide +kernel
theorem d_Mo_weigh_181 : decode b_Mo_weigh 181 = .ok (.getfield 16, 3) := by decide +kernel
theorem d_Mo_weigh_184 : decode b_Mo_weigh 184 = .ok (.iload_n 1, 1) := by decide +kernel
theorem d_Mo_weigh_185 : decode b_Mo_weigh 185 = .ok (.iaload, 1) := by decide +kernel
theorem d_Mo_weigh_186 : decode b_Mo_weigh 186 = .ok (.dup2, 1) := by decide +kernel
theorem d_Mo_weigh_187 : decode b_Mo_weigh 187 = .ok (.iaload, 1) := by decide +kernel
theorem d_Mo_weigh_188 : decode b_Mo_weigh 188 = .ok (.aload_n 0, 1) := by decide +kernel
theorem d_Mo_weigh_189 : decode b_Mo_weigh 189 = .ok (.getfield 23, 3) := by decide +kernel
theorem d_Mo_weigh_192 : decode b_Mo_weigh 192 = .ok (.iload_n 1, 1) := by decide +kernel
theorem d_Mo_weigh_193 : decode b_Mo_weigh 193 = .ok (.iaload, 1) := by decide +kernel
theorem d_Mo_weigh_194 : decode b_Mo_weigh 194 = .ok (.iadd, 1) := by decide +kernel
theorem d_Mo_weigh_195 : decode b_Mo_weigh 195 = .ok (.iastore, 1) := by decide +kernel
theorem d_Mo_weigh_196 : decode b_Mo_weigh 196 = .ok (.aload_n 0, 1) := by decide +kernel
theorem d_Mo_weigh_197 : decode b_Mo_weigh 197 = .ok (.getfield 39, 3) := by decide +kernel
theorem d_Mo_weigh_200 : decode b_Mo_weigh 200 = .ok (.aload_n 0, 1) := by decide +kernel
theorem d_Mo_weigh_201 : decode b_Mo_weigh 201 = .ok (.getfield 20, 3) := by decide +kernel
theorem d_Mo_weigh_204 : decode b_Mo_weigh 204 = .ok (.iload_n 1, 1) := by decide +kernel
theorem d_Mo_weigh_205 : decode b_Mo_weigh 205 = .ok (.iaload, 1) := by decide +kernel
theorem d_Mo_weigh_206 : decode b_Mo_weigh 206 = .ok (.dup2, 1) := by decide +kernel
theorem d_Mo_weigh_207 : decode b_Mo_weigh 207 = .ok (.iaload, 1) := by decide +kernel
theorem d_Mo_weigh_208 : decode b_Mo_weigh 208 = .ok (.aload_n 0, 1) := by decide +kernel
theorem d_Mo_weigh_209 : decode b_Mo_weigh 209 = .ok (.getfield 23, 3) := by decide +kernel
theorem d_Mo_weigh_212 : decode b_Mo_weigh 212 = .ok (.iload_n 1, 1) := by decide +kernel
theorem d_Mo_weigh_213 : decode b_Mo_weigh 213 = .ok (.iaload, 1) := by decide +kernel
theorem d_Mo_weigh_214 : decode b_Mo_weigh 214 = .ok (.iadd, 1) := by decide +kernel
theorem d_Mo_weigh_215 : decode b_Mo_weigh 215 = .ok (.iastore, 1) := by decide +kernel
theorem d_Mo_weigh_216 : decode b_Mo_weigh 216 = .ok (.aload_n 0, 1) := by decide +kernel
theorem d_Mo_weigh_217 : decode b_Mo_weigh 217 = .ok (.dup, 1) := by decide +kernel
theorem d_Mo_weigh_218 : decode b_Mo_weigh 218 = .ok (.getfield 111, 3) := by decide +kernel
theorem d_Mo_weigh_221 : decode b_Mo_weigh 221 = .ok (.aload_n 0, 1) := by decide +kernel
theorem d_Mo_weigh_222 : decode b_Mo_weigh 222 = .ok (.getfield 23, 3) := by decide +kernel
theorem d_Mo_weigh_225 : decode b_Mo_weigh 225 = .ok (.iload_n 1, 1) := by decide +kernel
theorem d_Mo_weigh_226 : decode b_Mo_weigh 226 = .ok (.iaload, 1) := by decide +kernel
theorem d_Mo_weigh_227 : decode b_Mo_weigh 227 = .ok (.i2l, 1) := by decide +kernel
theorem d_Mo_weigh_228 : decode b_Mo_weigh 228 = .ok (.ladd, 1) := by decide +kernel
theorem d_Mo_weigh_229 : decode b_Mo_weigh 229 = .ok (.putfield 111, 3) := by decide +kernel
theorem d_Mo_weigh_232 : decode b_Mo_weigh 232 = .ok (.iinc 1 1, 3) := by decide +kernel
theorem d_Mo_weigh_235 : decode b_Mo_weigh 235 = .ok (.goto (-179), 3) := by decide +kernel
theorem d_Mo_weigh_238 : decode b_Mo_weigh 238 = .ok (.return_, 1) := by decide +kernel
theorem d_Mo_judge_0 : decode b_Mo_judge 0 = .ok (.lconst 0, 1) := by decide +kernel
theorem d_Mo_judge_1 : decode b_Mo_judge 1 = .ok (.lstore_n 2, 1) := by decide +kernel
theorem d_Mo_judge_2 : decode b_Mo_judge 2 = .ok (.iconst 0, 1) := by decide +kernel
theorem d_Mo_judge_3 : decode b_Mo_judge 3 = .ok (.istore 4, 2) := by decide +kernel
theorem d_Mo_judge_5 : decode b_Mo_judge 5 = .ok (.iload 4, 2) := by decide +kernel
theorem d_Mo_judge_7 : decode b_Mo_judge 7 = .ok (.bipush 9, 2) := by decide +kernel
theorem d_Mo_judge_9 : decode b_Mo_judge 9 = .ok (.if_icmp .ge 25, 3) := by decide +kernel
theorem d_Mo_judge_12 : decode b_Mo_judge 12 = .ok (.aload_n 0, 1) := by decide +kernel
theorem d_Mo_judge_13 : decode b_Mo_judge 13 = .ok (.getfield 42, 3) := by decide +kernel
theorem d_Mo_judge_16 : decode b_Mo_judge 16 = .ok (.iload 4, 2) := by decide +kernel
theorem d_Mo_judge_18 : decode b_Mo_judge 18 = .ok (.lconst 0, 1) := by decide +kernel
theorem d_Mo_judge_19 : decode b_Mo_judge 19 = .ok (.lastore, 1) := by decide +kernel
theorem d_Mo_judge_20 : decode b_Mo_judge 20 = .ok (.aload_n 0, 1) := by decide +kernel
theorem d_Mo_judge_21 : decode b_Mo_judge 21 = .ok (.getfield 46, 3) := by decide +kernel
theorem d_Mo_judge_24 : decode b_Mo_judge 24 = .ok (.iload 4, 2) := by decide +kernel
theorem d_Mo_judge_26 : decode b_Mo_judge 26 = .ok (.lconst 0, 1) := by decide +kernel
theorem d_Mo_judge_27 : decode b_Mo_judge 27 = .ok (.lastore, 1) := by decide +kernel
theorem d_Mo_judge_28 : decode b_Mo_judge 28 = .ok (.iinc 4 1, 3) := by decide +kernel
theorem d_Mo_judge_31 : decode b_Mo_judge 31 = .ok (.goto (-26), 3) := by decide +kernel
theorem d_Mo_judge_34 : decode b_Mo_judge 34 = .ok (.iconst 0, 1) := by decide +kernel
theorem d_Mo_judge_35 : decode b_Mo_judge 35 = .ok (.istore 4, 2) := by decide +kernel
theorem d_Mo_judge_37 : decode b_Mo_judge 37 = .ok (.iload 4, 2) := by decide +kernel
theorem d_Mo_judge_39 : decode b_Mo_judge 39 = .ok (.aload_n 0, 1) := by decide +kernel
theorem d_Mo_judge_40 : decode b_Mo_judge 40 = .ok (.getfield 95, 3) := by decide +kernel
theorem d_Mo_judge_43 : decode b_Mo_judge 43 = .ok (.if_icmp .ge 90, 3) := by decide +kernel
theorem d_Mo_judge_46 : decode b_Mo_judge 46 = .ok (.aload_n 0, 1) := by decide +kernel
theorem d_Mo_judge_47 : decode b_Mo_judge 47 = .ok (.getfield 42, 3) := by decide +kernel
theorem d_Mo_judge_50 : decode b_Mo_judge 50 = .ok (.aload_n 1, 1) := by decide +kernel
theorem d_Mo_judge_51 : decode b_Mo_judge 51 = .ok (.iload 4, 2) := by decide +kernel
theorem d_Mo_judge_53 : decode b_Mo_judge 53 = .ok (.iaload, 1) := by decide +kernel
theorem d_Mo_judge_54 : decode b_Mo_judge 54 = .ok (.dup2, 1) := by decide +kernel
theorem d_Mo_judge_55 : decode b_Mo_judge 55 = .ok (.laload, 1) := by decide +kernel
theorem d_Mo_judge_56 : decode b_Mo_judge 56 = .ok (.aload_n 0, 1) := by decide +kernel
theorem d_Mo_judge_57 : decode b_Mo_judge 57 = .ok (.getfield 39, 3) := by decide +kernel
theorem d_Mo_judge_60 : decode b_Mo_judge 60 = .ok (.iload 4, 2) := by decide +kernel
theorem d_Mo_judge_62 : decode b_Mo_judge 62 = .ok (.iaload, 1) := by decide +kernel
theorem d_Mo_judge_63 : decode b_Mo_judge 63 = .ok (.i2l, 1) := by decide +kernel
theorem d_Mo_judge_64 : decode b_Mo_judge 64 = .ok (.ladd, 1) := by decide +kernel
theorem d_Mo_judge_65 : decode b_Mo_judge 65 = .ok (.lastore, 1) := by decide +kernel
theorem d_Mo_judge_66 : decode b_Mo_judge 66 = .ok (.aload_n 0, 1) := by decide +kernel
theorem d_Mo_judge_67 : decode b_Mo_judge 67 = .ok (.getfield 46, 3) := by decide +kernel
theorem d_Mo_judge_70 : decode b_Mo_judge 70 = .ok (.aload_n 1, 1) := by decide +kernel
theorem d_Mo_judge_71 : decode b_Mo_judge 71 = .ok (.iload 4, 2) := by decide +kernel
theorem d_Mo_judge_73 : decode b_Mo_judge 73 = .ok (.iaload, 1) := by decide +kernel
theorem d_Mo_judge_74 : decode b_Mo_judge 74 = .ok (.dup2, 1) := by decide +kernel
theorem d_Mo_judge_75 : decode b_Mo_judge 75 = .ok (.laload, 1) := by decide +kernel
theorem d_Mo_judge_76 : decode b_Mo_judge 76 = .ok (.lconst 1, 1) := by decide +kernel
theorem d_Mo_judge_77 : decode b_Mo_judge 77 = .ok (.ladd, 1) := by decide +kernel
theorem d_Mo_judge_78 : decode b_Mo_judge 78 = .ok (.lastore, 1) := by decide +kernel
theorem d_Mo_judge_79 : decode b_Mo_judge 79 = .ok (.iconst 0, 1) := by decide +kernel
theorem d_Mo_judge_80 : decode b_Mo_judge 80 = .ok (.istore 5, 2) := by decide +kernel
theorem d_Mo_judge_82 : decode b_Mo_judge 82 = .ok (.iload 5, 2) := by decide +kernel
theorem d_Mo_judge_84 : decode b_Mo_judge 84 = .ok (.iload 4, 2) := by decide +kernel
theorem d_Mo_judge_86 : decode b_Mo_judge 86 = .ok (.if_icmp .ge 41, 3) := by decide +kernel
theorem d_Mo_judge_89 : decode b_Mo_judge 89 = .ok (.lload_n 2, 1) := by decide +kernel
theorem d_Mo_judge_90 : decode b_Mo_judge 90 = .ok (.aload_n 1, 1) := by decide +kernel
theorem d_Mo_judge_91 : decode b_Mo_judge 91 = .ok (.iload 5, 2) := by decide +kernel
theorem d_Mo_judge_93 : decode b_Mo_judge 93 = .ok (.iaload, 1) := by decide +kernel
theorem d_Mo_judge_94 : decode b_Mo_judge 94 = .ok (.aload_n 1, 1) := by decide +kernel
theorem d_Mo_judge_95 : decode b_Mo_judge 95 = .ok (.iload 4, 2) := by decide +kernel
theorem d_Mo_judge_97 : decode b_Mo_judge 97 = .ok (.iaload, 1) := by decide +kernel
theorem d_Mo_judge_98 : decode b_Mo_judge 98 = .ok (.if_icmp .ne 20, 3) := by decide +kernel
theorem d_Mo_judge_101 : decode b_Mo_judge 101 = .ok (.aload_n 0, 1) := by decide +kernel
theorem d_Mo_judge_102 : decode b_Mo_judge 102 = .ok (.getfield 33, 3) := by decide +kernel
theorem d_Mo_judge_105 : decode b_Mo_judge 105 = .ok (.bipush 9, 2) := by decide +kernel
theorem d_Mo_judge_107 : decode b_Mo_judge 107 = .ok (.iload 5, 2) := by decide +kernel
theorem d_Mo_judge_109 : decode b_Mo_judge 109 = .ok (.imul, 1) := by decide +kernel
theorem d_Mo_judge_110 : decode b_Mo_judge 110 = .ok (.iload 4, 2) := by decide +kernel
theorem d_Mo_judge_112 : decode b_Mo_judge 112 = .ok (.iadd, 1) := by decide +kernel
theorem d_Mo_judge_113 : decode b_Mo_judge 113 = .ok (.iaload, 1) := by decide +kernel
theorem d_Mo_judge_114 : decode b_Mo_judge 114 = .ok (.i2l, 1) := by decide +kernel
theorem d_Mo_judge_115 : decode b_Mo_judge 115 = .ok (.goto 4, 3) := by decide +kernel
theorem d_Mo_judge_118 : decode b_Mo_judge 118 = .ok (.lconst 0, 1) := by decide +kernel
theorem d_Mo_judge_119 : decode b_Mo_judge 119 = .ok (.ladd, 1) := by decide +kernel
theorem d_Mo_judge_120 : decode b_Mo_judge 120 = .ok (.lstore_n 2, 1) := by decide +kernel
theorem d_Mo_judge_121 : decode b_Mo_judge 121 = .ok (.iinc 5 1, 3) := by decide +kernel
theorem d_Mo_judge_124 : decode b_Mo_judge 124 = .ok (.goto (-42), 3) := by decide +kernel
theorem d_Mo_judge_127 : decode b_Mo_judge 127 = .ok (.iinc 4 1, 3) := by decide +kernel
theorem d_Mo_judge_130 : decode b_Mo_judge 130 = .ok (.goto (-93), 3) := by decide +kernel
theorem d_Mo_judge_133 : decode b_Mo_judge 133 = .ok (.aload_n 0, 1) := by decide +kernel
theorem d_Mo_judge_134 : decode b_Mo_judge 134 = .ok (.aload_n 0, 1) := by decide +kernel
theorem d_Mo_judge_135 : decode b_Mo_judge 135 = .ok (.getfield 85, 3) := by decide +kernel
theorem d_Mo_judge_138 : decode b_Mo_judge 138 = .ok (.ifCond .ne 16, 3) := by decide +kernel
theorem d_Mo_judge_141 : decode b_Mo_judge 141 = .ok (.ldc2_w 118, 3) := by decide +kernel
theorem d_Mo_judge_144 : decode b_Mo_judge 144 = .ok (.aload_n 0, 1) := by decide +kernel
theorem d_Mo_judge_145 : decode b_Mo_judge 145 = .ok (.getfield 111, 3) := by decide +kernel
theorem d_Mo_judge_148 : decode b_Mo_judge 148 = .ok (.lmul, 1) := by decide +kernel
theorem d_Mo_judge_149 : decode b_Mo_judge 149 = .ok (.lload_n 2, 1) := by decide +kernel
theorem d_Mo_judge_150 : decode b_Mo_judge 150 = .ok (.lmul, 1) := by decide +kernel
theorem d_Mo_judge_151 : decode b_Mo_judge 151 = .ok (.goto 4, 3) := by decide +kernel
theorem d_Mo_judge_154 : decode b_Mo_judge 154 = .ok (.lload_n 2, 1) := by decide +kernel
theorem d_Mo_judge_155 : decode b_Mo_judge 155 = .ok (.putfield 120, 3) := by decide +kernel
theorem d_Mo_judge_158 : decode b_Mo_judge 158 = .ok (.aload_n 0, 1) := by decide +kernel
theorem d_Mo_judge_159 : decode b_Mo_judge 159 = .ok (.lconst 0, 1) := by decide +kernel
theorem d_Mo_judge_160 : decode b_Mo_judge 160 = .ok (.putfield 123, 3) := by decide +kernel
theorem d_Mo_judge_163 : decode b_Mo_judge 163 = .ok (.iconst 0, 1) := by decide +kernel
theorem d_Mo_judge_164 : decode b_Mo_judge 164 = .ok (.istore 4, 2) := by decide +kernel
theorem d_Mo_judge_166 : decode b_Mo_judge 166 = .ok (.iload 4, 2) := by decide +kernel
theorem d_Mo_judge_168 : decode b_Mo_judge 168 = .ok (.bipush 9, 2) := by decide +kernel
theorem d_Mo_judge_170 : decode b_Mo_judge 170 = .ok (.if_icmp .ge 64, 3) := by decide +kernel
theorem d_Mo_judge_173 : decode b_Mo_judge 173 = .ok (.aload_n 0, 1) := by decide +kernel
theorem d_Mo_judge_174 : decode b_Mo_judge 174 = .ok (.dup, 1) := by decide +kernel
theorem d_Mo_judge_175 : decode b_Mo_judge 175 = .ok (.getfield 123, 3) := by decide +kernel
theorem d_Mo_judge_178 : decode b_Mo_judge 178 = .ok (.aload_n 0, 1) := by decide +kernel
theorem d_Mo_judge_179 : decode b_Mo_judge 179 = .ok (.getfield 85, 3) := by decide +kernel
theorem d_Mo_judge_182 : decode b_Mo_judge 182 = .ok (.ifCond .ne 21, 3) := by decide +kernel
theorem d_Mo_judge_185 : decode b_Mo_judge 185 = .ok (.aload_n 0, 1) := by decide +kernel
theorem d_Mo_judge_186 : decode b_Mo_judge 186 = .ok (.getfield 42, 3) := by decide +kernel
theorem d_Mo_judge_189 : decode b_Mo_judge 189 = .ok (.iload 4, 2) := by decide +kernel
theorem d_Mo_judge_191 : decode b_Mo_judge 191 = .ok (.laload, 1) := by decide +kernel
theorem d_Mo_judge_192 : decode b_Mo_judge 192 = .ok (.aload_n 0, 1) := by decide +kernel
theorem d_Mo_judge_193 : decode b_Mo_judge 193 = .ok (.getfield 42, 3) := by decide +kernel
theorem d_Mo_judge_196 : decode b_Mo_judge 196 = .ok (.iload 4, 2) := by decide +kernel
theorem d_Mo_judge_198 : decode b_Mo_judge 198 = .ok (.laload, 1) := by decide +kernel
theorem d_Mo_judge_199 : decode b_Mo_judge 199 = .ok (.lmul, 1) := by decide +kernel
theorem d_Mo_judge_200 : decode b_Mo_judge 200 = .ok (.goto 24, 3) := by decide +kernel
theorem d_Mo_judge_203 : decode b_Mo_judge 203 = .ok (.aload_n 0, 1) := by decide +kernel
theorem d_Mo_judge_204 : decode b_Mo_judge 204 = .ok (.getfield 46, 3) := by decide +kernel
theorem d_Mo_judge_207 : decode b_Mo_judge 207 = .ok (.iload 4, 2) := by decide +kernel
theorem d_Mo_judge_209 : decode b_Mo_judge 209 = .ok (.laload, 1) := by decide +kernel
theorem d_Mo_judge_210 : decode b_Mo_judge 210 = .ok (.aload_n 0, 1) := by decide +kernel
theorem d_Mo_judge_211 : decode b_Mo_judge 211 = .ok (.getfield 46, 3) := by decide +kernel
theorem d_Mo_judge_214 : decode b_Mo_judge 214 = .ok (.iload 4, 2) := by decide +kernel
theorem d_Mo_judge_216 : decode b_Mo_judge 216 = .ok (.laload, 1) := by decide +kernel
theorem d_Mo_judge_217 : decode b_Mo_judge 217 = .ok (.lconst 1, 1) := by decide +kernel
theorem d_Mo_judge_218 : decode b_Mo_judge 218 = .ok (.lsub, 1) := by decide +kernel
theorem d_Mo_judge_219 : decode b_Mo_judge 219 = .ok (.lmul, 1) := by decide +kernel
theorem d_Mo_judge_220 : decode b_Mo_judge 220 = .ok (.ldc2_w 126, 3) := by decide +kernel
theorem d_Mo_judge_223 : decode b_Mo_judge 223 = .ok (.ldiv, 1) := by decide +kernel
theorem d_Mo_judge_224 : decode b_Mo_judge 224 = .ok (.ladd, 1) := by decide +kernel
theorem d_Mo_judge_225 : decode b_Mo_judge 225 = .ok (.putfield 123, 3) := by decide +kernel
theorem d_Mo_judge_228 : decode b_Mo_judge 228 = .ok (.iinc 4 1, 3) := by decide +kernel
theorem d_Mo_judge_231 : decode b_Mo_judge 231 = .ok (.goto (-65), 3) := by decide +kernel
theorem d_Mo_judge_234 : decode b_Mo_judge 234 = .ok (.return_, 1) := by decide +kernel
theorem d_Mo_valueOf_0 : decode b_Mo_valueOf 0 = .ok (.aload_n 0, 1) := by decide +kernel
theorem d_Mo_valueOf_1 : decode b_Mo_valueOf 1 = .ok (.aload_n 1, 1) := by decide +kernel
theorem d_Mo_valueOf_2 : decode b_Mo_valueOf 2 = .ok (.invokevirtual 128, 3) := by decide +kernel
theorem d_Mo_valueOf_5 : decode b_Mo_valueOf 5 = .ok (.aload_n 0, 1) := by decide +kernel
theorem d_Mo_valueOf_6 : decode b_Mo_valueOf 6 = .ok (.getfield 13, 3) := by decide +kernel
theorem d_Mo_valueOf_9 : decode b_Mo_valueOf 9 = .ok (.i2l, 1) := by decide +kernel
theorem d_Mo_valueOf_10 : decode b_Mo_valueOf 10 = .ok (.aload_n 0, 1) := by decide +kernel
theorem d_Mo_valueOf_11 : decode b_Mo_valueOf 11 = .ok (.getfield 120, 3) := by decide +kernel
theorem d_Mo_valueOf_14 : decode b_Mo_valueOf 14 = .ok (.lmul, 1) := by decide +kernel
theorem d_Mo_valueOf_15 : decode b_Mo_valueOf 15 = .ok (.aload_n 0, 1) := by decide +kernel
theorem d_Mo_valueOf_16 : decode b_Mo_valueOf 16 = .ok (.getfield 7, 3) := by decide +kernel
theorem d_Mo_valueOf_19 : decode b_Mo_valueOf 19 = .ok (.i2l, 1) := by decide +kernel
theorem d_Mo_valueOf_20 : decode b_Mo_valueOf 20 = .ok (.aload_n 0, 1) := by decide +kernel
theorem d_Mo_valueOf_21 : decode b_Mo_valueOf 21 = .ok (.getfield 123, 3) := by decide +kernel
theorem d_Mo_valueOf_24 : decode b_Mo_valueOf 24 = .ok (.lmul, 1) := by decide +kernel
theorem d_Mo_valueOf_25 : decode b_Mo_valueOf 25 = .ok (.lsub, 1) := by decide +kernel
theorem d_Mo_valueOf_26 : decode b_Mo_valueOf 26 = .ok (.lreturn, 1) := by decide +kernel
theorem d_Mo_number_0 : decode b_Mo_number 0 = .ok (.iconst 0, 1) := by decide +kernel
theorem d_Mo_number_1 : decode b_Mo_number 1 = .ok (.istore_n 2, 1) := by decide +kernel
theorem d_Mo_number_2 : decode b_Mo_number 2 = .ok (.iconst 0, 1) := by decide +kernel
theorem d_Mo_number_3 : decode b_Mo_number 3 = .ok (.istore_n 3, 1) := by decide +kernel
theorem d_Mo_number_4 : decode b_Mo_number 4 = .ok (.iload_n 3, 1) := by decide +kernel
theorem d_Mo_number_5 : decode b_Mo_number 5 = .ok (.aload_n 0, 1) := by decide +kernel
theorem d_Mo_number_6 : decode b_Mo_number 6 = .ok (.getfield 95, 3) := by decide +kernel
theorem d_Mo_number_9 : decode b_Mo_number 9 = .ok (.if_icmp .ge 65, 3) := by decide +kernel
theorem d_Mo_number_12 : decode b_Mo_number 12 = .ok (.iconst 0, 1) := by decide +kernel
theorem d_Mo_number_13 : decode b_Mo_number 13 = .ok (.istore 4, 2) := by decide +kernel
theorem d_Mo_number_15 : decode b_Mo_number 15 = .ok (.aload_n 1, 1) := by decide +kernel
theorem d_Mo_number_16 : decode b_Mo_number 16 = .ok (.iload 4, 2) := by decide +kernel
theorem d_Mo_number_18 : decode b_Mo_number 18 = .ok (.iaload, 1) := by decide +kernel
theorem d_Mo_number_19 : decode b_Mo_number 19 = .ok (.aload_n 1, 1) := by decide +kernel
theorem d_Mo_number_20 : decode b_Mo_number 20 = .ok (.iload_n 3, 1) := by decide +kernel
theorem d_Mo_number_21 : decode b_Mo_number 21 = .ok (.iaload, 1) := by decide +kernel
theorem d_Mo_number_22 : decode b_Mo_number 22 = .ok (.if_icmp .eq 9, 3) := by decide +kernel
theorem d_Mo_number_25 : decode b_Mo_number 25 = .ok (.iinc 4 1, 3) := by decide +kernel
theorem d_Mo_number_28 : decode b_Mo_number 28 = .ok (.goto (-13), 3) := by decide +kernel
theorem d_Mo_number_31 : decode b_Mo_number 31 = .ok (.aload_n 0, 1) := by decide +kernel
theorem d_Mo_number_32 : decode b_Mo_number 32 = .ok (.getfield 49, 3) := by decide +kernel
theorem d_Mo_number_35 : decode b_Mo_number 35 = .ok (.iload_n 3, 1) := by decide +kernel
theorem d_Mo_number_36 : decode b_Mo_number 36 = .ok (.iload 4, 2) := by decide +kernel
theorem d_Mo_number_38 : decode b_Mo_number 38 = .ok (.iload_n 3, 1) := by decide +kernel
theorem d_Mo_number_39 : decode b_Mo_number 39 = .ok (.if_icmp .ge 13, 3) := by decide +kernel
theorem d_Mo_number_42 : decode b_Mo_number 42 = .ok (.aload_n 0, 1) := by decide +kernel
theorem d_Mo_number_43 : decode b_Mo_number 43 = .ok (.getfield 49, 3) := by decide +kernel
theorem d_Mo_number_46 : decode b_Mo_number 46 = .ok (.iload 4, 2) := by decide +kernel
theorem d_Mo_number_48 : decode b_Mo_number 48 = .ok (.iaload, 1) := by decide +kernel
theorem d_Mo_number_49 : decode b_Mo_number 49 = .ok (.goto 4, 3) := by decide +kernel
theorem d_Mo_number_52 : decode b_Mo_number 52 = .ok (.iload_n 2, 1) := by decide +kernel
theorem d_Mo_number_53 : decode b_Mo_number 53 = .ok (.iastore, 1) := by decide +kernel
theorem d_Mo_number_54 : decode b_Mo_number 54 = .ok (.iload_n 2, 1) := by decide +kernel
theorem d_Mo_number_55 : decode b_Mo_number 55 = .ok (.iload 4, 2) := by decide +kernel
theorem d_Mo_number_57 : decode b_Mo_number 57 = .ok (.iload_n 3, 1) := by decide +kernel
theorem d_Mo_number_58 : decode b_Mo_number 58 = .ok (.if_icmp .ge 7, 3) := by decide +kernel
theorem d_Mo_number_61 : decode b_Mo_number 61 = .ok (.iconst 0, 1) := by decide +kernel
theorem d_Mo_number_62 : decode b_Mo_number 62 = .ok (.goto 4, 3) := by decide +kernel
theorem d_Mo_number_65 : decode b_Mo_number 65 = .ok (.iconst 1, 1) := by decide +kernel
theorem d_Mo_number_66 : decode b_Mo_number 66 = .ok (.iadd, 1) := by decide +kernel
theorem d_Mo_number_67 : decode b_Mo_number 67 = .ok (.istore_n 2, 1) := by decide +kernel
theorem d_Mo_number_68 : decode b_Mo_number 68 = .ok (.iinc 3 1, 3) := by decide +kernel
theorem d_Mo_number_71 : decode b_Mo_number 71 = .ok (.goto (-67), 3) := by decide +kernel
theorem d_Mo_number_74 : decode b_Mo_number 74 = .ok (.iconst 0, 1) := by decide +kernel
theorem d_Mo_number_75 : decode b_Mo_number 75 = .ok (.istore_n 3, 1) := by decide +kernel
theorem d_Mo_number_76 : decode b_Mo_number 76 = .ok (.iload_n 3, 1) := by decide +kernel
theorem d_Mo_number_77 : decode b_Mo_number 77 = .ok (.aload_n 0, 1) := by decide +kernel
theorem d_Mo_number_78 : decode b_Mo_number 78 = .ok (.getfield 95, 3) := by decide +kernel
theorem d_Mo_number_81 : decode b_Mo_number 81 = .ok (.if_icmp .ge 18, 3) := by decide +kernel
theorem d_Mo_number_84 : decode b_Mo_number 84 = .ok (.aload_n 1, 1) := by decide +kernel
theorem d_Mo_number_85 : decode b_Mo_number 85 = .ok (.iload_n 3, 1) := by decide +kernel
theorem d_Mo_number_86 : decode b_Mo_number 86 = .ok (.aload_n 0, 1) := by decide +kernel
theorem d_Mo_number_87 : decode b_Mo_number 87 = .ok (.getfield 49, 3) := by decide +kernel
theorem d_Mo_number_90 : decode b_Mo_number 90 = .ok (.iload_n 3, 1) := by decide +kernel
theorem d_Mo_number_91 : decode b_Mo_number 91 = .ok (.iaload, 1) := by decide +kernel
theorem d_Mo_number_92 : decode b_Mo_number 92 = .ok (.iastore, 1) := by decide +kernel
theorem d_Mo_number_93 : decode b_Mo_number 93 = .ok (.iinc 3 1, 3) := by decide +kernel
theorem d_Mo_number_96 : decode b_Mo_number 96 = .ok (.goto (-20), 3) := by decide +kernel
theorem d_Mo_number_99 : decode b_Mo_number 99 = .ok (.iload_n 2, 1) := by decide +kernel
theorem d_Mo_number_100 : decode b_Mo_number 100 = .ok (.ireturn, 1) := by decide +kernel
theorem d_Mo_copy_0 : decode b_Mo_copy 0 = .ok (.iconst 0, 1) := by decide +kernel
theorem d_Mo_copy_1 : decode b_Mo_copy 1 = .ok (.istore_n 3, 1) := by decide +kernel
theorem d_Mo_copy_2 : decode b_Mo_copy 2 = .ok (.iload_n 3, 1) := by decide +kernel
theorem d_Mo_copy_3 : decode b_Mo_copy 3 = .ok (.aload_n 0, 1) := by decide +kernel
theorem d_Mo_copy_4 : decode b_Mo_copy 4 = .ok (.getfield 95, 3) := by decide +kernel
theorem d_Mo_copy_7 : decode b_Mo_copy 7 = .ok (.if_icmp .ge 15, 3) := by decide +kernel
theorem d_Mo_copy_10 : decode b_Mo_copy 10 = .ok (.aload_n 2, 1) := by decide +kernel
theorem d_Mo_copy_11 : decode b_Mo_copy 11 = .ok (.iload_n 3, 1) := by decide +kernel
theorem d_Mo_copy_12 : decode b_Mo_copy 12 = .ok (.aload_n 1, 1) := by decide +kernel
theorem d_Mo_copy_13 : decode b_Mo_copy 13 = .ok (.iload_n 3, 1) := by decide +kernel
theorem d_Mo_copy_14 : decode b_Mo_copy 14 = .ok (.iaload, 1) := by decide +kernel
theorem d_Mo_copy_15 : decode b_Mo_copy 15 = .ok (.iastore, 1) := by decide +kernel
theorem d_Mo_copy_16 : decode b_Mo_copy 16 = .ok (.iinc 3 1, 3) := by decide +kernel
theorem d_Mo_copy_19 : decode b_Mo_copy 19 = .ok (.goto (-17), 3) := by decide +kernel
theorem d_Mo_copy_22 : decode b_Mo_copy 22 = .ok (.return_, 1) := by decide +kernel
theorem d_Mo_free_0 : decode b_Mo_free 0 = .ok (.iconst 0, 1) := by decide +kernel
theorem d_Mo_free_1 : decode b_Mo_free 1 = .ok (.istore_n 2, 1) := by decide +kernel
theorem d_Mo_free_2 : decode b_Mo_free 2 = .ok (.iconst 1, 1) := by decide +kernel
theorem d_Mo_free_3 : decode b_Mo_free 3 = .ok (.istore_n 3, 1) := by decide +kernel
theorem d_Mo_free_4 : decode b_Mo_free 4 = .ok (.iload_n 3, 1) := by decide +kernel
theorem d_Mo_free_5 : decode b_Mo_free 5 = .ok (.ifCond .eq 56, 3) := by decide +kernel
theorem d_Mo_free_8 : decode b_Mo_free 8 = .ok (.iconst 0, 1) := by decide +kernel
theorem d_Mo_free_9 : decode b_Mo_free 9 = .ok (.istore_n 3, 1) := by decide +kernel
theorem d_Mo_free_10 : decode b_Mo_free 10 = .ok (.iconst 0, 1) := by decide +kernel
theorem d_Mo_free_11 : decode b_Mo_free 11 = .ok (.istore 4, 2) := by decide +kernel
theorem d_Mo_free_13 : decode b_Mo_free 13 = .ok (.iload 4, 2) := by decide +kernel
theorem d_Mo_free_15 : decode b_Mo_free 15 = .ok (.aload_n 0, 1) := by decide +kernel
theorem d_Mo_free_16 : decode b_Mo_free 16 = .ok (.getfield 95, 3) := by decide +kernel
theorem d_Mo_free_19 : decode b_Mo_free 19 = .ok (.if_icmp .ge 27, 3) := by decide +kernel
theorem d_Mo_free_22 : decode b_Mo_free 22 = .ok (.iload_n 3, 1) := by decide +kernel
theorem d_Mo_free_23 : decode b_Mo_free 23 = .ok (.ifCond .ne 11, 3) := by decide +kernel
theorem d_Mo_free_26 : decode b_Mo_free 26 = .ok (.aload_n 1, 1) := by decide +kernel
theorem d_Mo_free_27 : decode b_Mo_free 27 = .ok (.iload 4, 2) := by decide +kernel
theorem d_Mo_free_29 : decode b_Mo_free 29 = .ok (.iaload, 1) := by decide +kernel
theorem d_Mo_free_30 : decode b_Mo_free 30 = .ok (.iload_n 2, 1) := by decide +kernel
theorem d_Mo_free_31 : decode b_Mo_free 31 = .ok (.if_icmp .ne 7, 3) := by decide +kernel
theorem d_Mo_free_34 : decode b_Mo_free 34 = .ok (.iconst 1, 1) := by decide +kernel
theorem d_Mo_free_35 : decode b_Mo_free 35 = .ok (.goto 4, 3) := by decide +kernel
theorem d_Mo_free_38 : decode b_Mo_free 38 = .ok (.iconst 0, 1) := by decide +kernel
theorem d_Mo_free_39 : decode b_Mo_free 39 = .ok (.istore_n 3, 1) := by decide +kernel
theorem d_Mo_free_40 : decode b_Mo_free 40 = .ok (.iinc 4 1, 3) := by decide +kernel
theorem d_Mo_free_43 : decode b_Mo_free 43 = .ok (.goto (-30), 3) := by decide +kernel
theorem d_Mo_free_46 : decode b_Mo_free 46 = .ok (.iload_n 2, 1) := by decide +kernel
theorem d_Mo_free_47 : decode b_Mo_free 47 = .ok (.iload_n 3, 1) := by decide +kernel
theorem d_Mo_free_48 : decode b_Mo_free 48 = .ok (.ifCond .eq 7, 3) := by decide +kernel
theorem d_Mo_free_51 : decode b_Mo_free 51 = .ok (.iconst 1, 1) := by decide +kernel
theorem d_Mo_free_52 : decode b_Mo_free 52 = .ok (.goto 4, 3) := by decide +kernel
theorem d_Mo_free_55 : decode b_Mo_free 55 = .ok (.iconst 0, 1) := by decide +kernel
theorem d_Mo_free_56 : decode b_Mo_free 56 = .ok (.iadd, 1) := by decide +kernel
theorem d_Mo_free_57 : decode b_Mo_free 57 = .ok (.istore_n 2, 1) := by decide +kernel
theorem d_Mo_free_58 : decode b_Mo_free 58 = .ok (.goto (-54), 3) := by decide +kernel
theorem d_Mo_free_61 : decode b_Mo_free 61 = .ok (.iload_n 2, 1) := by decide +kernel
theorem d_Mo_free_62 : decode b_Mo_free 62 = .ok (.ireturn, 1) := by decide +kernel
theorem d_Mo_moveIn_0 : decode b_Mo_moveIn 0 = .ok (.iload_n 2, 1) := by decide +kernel
theorem d_Mo_moveIn_1 : decode b_Mo_moveIn 1 = .ok (.iload_n 3, 1) := by decide +kernel
theorem d_Mo_moveIn_2 : decode b_Mo_moveIn 2 = .ok (.if_icmp .ne 74, 3) := by decide +kernel
theorem d_Mo_moveIn_5 : decode b_Mo_moveIn 5 = .ok (.iconst 1, 1) := by decide +kernel
theorem d_Mo_moveIn_6 : decode b_Mo_moveIn 6 = .ok (.istore 4, 2) := by decide +kernel
theorem d_Mo_moveIn_8 : decode b_Mo_moveIn 8 = .ok (.iconst 0, 1) := by decide +kernel
theorem d_Mo_moveIn_9 : decode b_Mo_moveIn 9 = .ok (.istore 5, 2) := by decide +kernel
theorem d_Mo_moveIn_11 : decode b_Mo_moveIn 11 = .ok (.iload 5, 2) := by decide +kernel
theorem d_Mo_moveIn_13 : decode b_Mo_moveIn 13 = .ok (.aload_n 0, 1) := by decide +kernel
theorem d_Mo_moveIn_14 : decode b_Mo_moveIn 14 = .ok (.getfield 95, 3) := by decide +kernel
theorem d_Mo_moveIn_17 : decode b_Mo_moveIn 17 = .ok (.if_icmp .ge 37, 3) := by decide +kernel
theorem d_Mo_moveIn_20 : decode b_Mo_moveIn 20 = .ok (.iload 4, 2) := by decide +kernel
theorem d_Mo_moveIn_22 : decode b_Mo_moveIn 22 = .ok (.ifCond .eq 23, 3) := by decide +kernel
theorem d_Mo_moveIn_25 : decode b_Mo_moveIn 25 = .ok (.iload 5, 2) := by decide +kernel
theorem d_Mo_moveIn_27 : decode b_Mo_moveIn 27 = .ok (.iload_n 2, 1) := by decide +kernel
theorem d_Mo_moveIn_28 : decode b_Mo_moveIn 28 = .ok (.if_icmp .eq 13, 3) := by decide +kernel
theorem d_Mo_moveIn_31 : decode b_Mo_moveIn 31 = .ok (.aload_n 1, 1) := by decide +kernel
theorem d_Mo_moveIn_32 : decode b_Mo_moveIn 32 = .ok (.iload 5, 2) := by decide +kernel
theorem d_Mo_moveIn_34 : decode b_Mo_moveIn 34 = .ok (.iaload, 1) := by decide +kernel
theorem d_Mo_moveIn_35 : decode b_Mo_moveIn 35 = .ok (.aload_n 1, 1) := by decide +kernel
theorem d_Mo_moveIn_36 : decode b_Mo_moveIn 36 = .ok (.iload_n 2, 1) := by decide +kernel
theorem d_Mo_moveIn_37 : decode b_Mo_moveIn 37 = .ok (.iaload, 1) := by decide +kernel
theorem d_Mo_moveIn_38 : decode b_Mo_moveIn 38 = .ok (.if_icmp .eq 7, 3) := by decide +kernel
theorem d_Mo_moveIn_41 : decode b_Mo_moveIn 41 = .ok (.iconst 1, 1) := by decide +kernel
theorem d_Mo_moveIn_42 : decode b_Mo_moveIn 42 = .ok (.goto 4, 3) := by decide +kernel
theorem d_Mo_moveIn_45 : decode b_Mo_moveIn 45 = .ok (.iconst 0, 1) := by decide +kernel
theorem d_Mo_moveIn_46 : decode b_Mo_moveIn 46 = .ok (.istore 4, 2) := by decide +kernel
theorem d_Mo_moveIn_48 : decode b_Mo_moveIn 48 = .ok (.iinc 5 1, 3) := by decide +kernel
theorem d_Mo_moveIn_51 : decode b_Mo_moveIn 51 = .ok (.goto (-40), 3) := by decide +kernel
theorem d_Mo_moveIn_54 : decode b_Mo_moveIn 54 = .ok (.aload_n 1, 1) := by decide +kernel
theorem d_Mo_moveIn_55 : decode b_Mo_moveIn 55 = .ok (.iload_n 2, 1) := by decide +kernel
theorem d_Mo_moveIn_56 : decode b_Mo_moveIn 56 = .ok (.iload 4, 2) := by decide +kernel
theorem d_Mo_moveIn_58 : decode b_Mo_moveIn 58 = .ok (.ifCond .eq 9, 3) := by decide +kernel
theorem d_Mo_moveIn_61 : decode b_Mo_moveIn 61 = .ok (.aload_n 1, 1) := by decide +kernel
theorem d_Mo_moveIn_62 : decode b_Mo_moveIn 62 = .ok (.iload_n 2, 1) := by decide +kernel
theorem d_Mo_moveIn_63 : decode b_Mo_moveIn 63 = .ok (.iaload, 1) := by decide +kernel
theorem d_Mo_moveIn_64 : decode b_Mo_moveIn 64 = .ok (.goto 8, 3) := by decide +kernel
theorem d_Mo_moveIn_67 : decode b_Mo_moveIn 67 = .ok (.aload_n 0, 1) := by decide +kernel
theorem d_Mo_moveIn_68 : decode b_Mo_moveIn 68 = .ok (.aload_n 1, 1) := by decide +kernel
theorem d_Mo_moveIn_69 : decode b_Mo_moveIn 69 = .ok (.invokevirtual 132, 3) := by decide +kernel
theorem d_Mo_moveIn_72 : decode b_Mo_moveIn 72 = .ok (.iastore, 1) := by decide +kernel
theorem d_Mo_moveIn_73 : decode b_Mo_moveIn 73 = .ok (.goto 9, 3) := by decide +kernel
theorem d_Mo_moveIn_76 : decode b_Mo_moveIn 76 = .ok (.aload_n 1, 1) := by decide +kernel
theorem d_Mo_moveIn_77 : decode b_Mo_moveIn 77 = .ok (.iload_n 2, 1) := by decide +kernel
theorem d_Mo_moveIn_78 : decode b_Mo_moveIn 78 = .ok (.aload_n 1, 1) := by decide +kernel
theorem d_Mo_moveIn_79 : decode b_Mo_moveIn 79 = .ok (.iload_n 3, 1) := by decide +kernel
theorem d_Mo_moveIn_80 : decode b_Mo_moveIn 80 = .ok (.iaload, 1) := by decide +kernel
theorem d_Mo_moveIn_81 : decode b_Mo_moveIn 81 = .ok (.iastore, 1) := by decide +kernel
theorem d_Mo_moveIn_82 : decode b_Mo_moveIn 82 = .ok (.aload_n 0, 1) := by decide +kernel
theorem d_Mo_moveIn_83 : decode b_Mo_moveIn 83 = .ok (.aload_n 1, 1) := by decide +kernel
theorem d_Mo_moveIn_84 : decode b_Mo_moveIn 84 = .ok (.invokevirtual 136, 3) := by decide +kernel
theorem d_Mo_moveIn_87 : decode b_Mo_moveIn 87 = .ok (.istore 4, 2) := by decide +kernel
theorem d_Mo_moveIn_89 : decode b_Mo_moveIn 89 = .ok (.return_, 1) := by decide +kernel
theorem d_Mo_put_0 : decode b_Mo_put 0 = .ok (.aload_n 0, 1) := by decide +kernel
theorem d_Mo_put_1 : decode b_Mo_put 1 = .ok (.iload_n 1, 1) := by decide +kernel
theorem d_Mo_put_2 : decode b_Mo_put 2 = .ok (.invokevirtual 101, 3) := by decide +kernel
theorem d_Mo_put_5 : decode b_Mo_put 5 = .ok (.ifCond .eq 11, 3) := by decide +kernel
theorem d_Mo_put_8 : decode b_Mo_put 8 = .ok (.aload_n 0, 1) := by decide +kernel
theorem d_Mo_put_9 : decode b_Mo_put 9 = .ok (.iload_n 2, 1) := by decide +kernel
theorem d_Mo_put_10 : decode b_Mo_put 10 = .ok (.invokevirtual 101, 3) := by decide +kernel
theorem d_Mo_put_13 : decode b_Mo_put 13 = .ok (.ifCond .ne 5, 3) := by decide +kernel
theorem d_Mo_put_16 : decode b_Mo_put 16 = .ok (.iconst (-1), 1) := by decide +kernel
theorem d_Mo_put_17 : decode b_Mo_put 17 = .ok (.ireturn, 1) := by decide +kernel
theorem d_Mo_put_18 : decode b_Mo_put 18 = .ok (.aload_n 0, 1) := by decide +kernel
theorem d_Mo_put_19 : decode b_Mo_put 19 = .ok (.aload_n 0, 1) := by decide +kernel
theorem d_Mo_put_20 : decode b_Mo_put 20 = .ok (.getfield 30, 3) := by decide +kernel
theorem d_Mo_put_23 : decode b_Mo_put 23 = .ok (.iload_n 1, 1) := by decide +kernel
theorem d_Mo_put_24 : decode b_Mo_put 24 = .ok (.iload_n 2, 1) := by decide +kernel
theorem d_Mo_put_25 : decode b_Mo_put 25 = .ok (.invokevirtual 139, 3) := by decide +kernel
theorem d_Mo_put_28 : decode b_Mo_put 28 = .ok (.aload_n 0, 1) := by decide +kernel
theorem d_Mo_put_29 : decode b_Mo_put 29 = .ok (.aload_n 0, 1) := by decide +kernel
theorem d_Mo_put_30 : decode b_Mo_put 30 = .ok (.getfield 30, 3) := by decide +kernel
theorem d_Mo_put_33 : decode b_Mo_put 33 = .ok (.invokevirtual 136, 3) := by decide +kernel
theorem d_Mo_put_36 : decode b_Mo_put 36 = .ok (.ireturn, 1) := by decide +kernel
theorem d_Mo_group_0 : decode b_Mo_group 0 = .ok (.aload_n 0, 1) := by decide +kernel
theorem d_Mo_group_1 : decode b_Mo_group 1 = .ok (.iload_n 1, 1) := by decide +kernel
theorem d_Mo_group_2 : decode b_Mo_group 2 = .ok (.invokevirtual 101, 3) := by decide +kernel
theorem d_Mo_group_5 : decode b_Mo_group 5 = .ok (.ifCond .eq 12, 3) := by decide +kernel
theorem d_Mo_group_8 : decode b_Mo_group 8 = .ok (.aload_n 0, 1) := by decide +kernel
theorem d_Mo_group_9 : decode b_Mo_group 9 = .ok (.getfield 30, 3) := by decide +kernel
theorem d_Mo_group_12 : decode b_Mo_group 12 = .ok (.iload_n 1, 1) := by decide +kernel
theorem d_Mo_group_13 : decode b_Mo_group 13 = .ok (.iaload, 1) := by decide +kernel
theorem d_Mo_group_14 : decode b_Mo_group 14 = .ok (.goto 4, 3) := by decide +kernel
theorem d_Mo_group_17 : decode b_Mo_group 17 = .ok (.iconst (-1), 1) := by decide +kernel
theorem d_Mo_group_18 : decode b_Mo_group 18 = .ok (.ireturn, 1) := by decide +kernel
theorem d_Mo_value_0 : decode b_Mo_value 0 = .ok (.aload_n 0, 1) := by decide +kernel
theorem d_Mo_value_1 : decode b_Mo_value 1 = .ok (.invokevirtual 143, 3) := by decide +kernel
theorem d_Mo_value_4 : decode b_Mo_value 4 = .ok (.aload_n 0, 1) := by decide +kernel
theorem d_Mo_value_5 : decode b_Mo_value 5 = .ok (.aload_n 0, 1) := by decide +kernel
theorem d_Mo_value_6 : decode b_Mo_value 6 = .ok (.getfield 30, 3) := by decide +kernel
theorem d_Mo_value_9 : decode b_Mo_value 9 = .ok (.invokevirtual 146, 3) := by decide +kernel
theorem d_Mo_value_12 : decode b_Mo_value 12 = .ok (.lreturn, 1) := by decide +kernel
theorem d_Mo_part_0 : decode b_Mo_part 0 = .ok (.aload_n 0, 1) := by decide +kernel
theorem d_Mo_part_1 : decode b_Mo_part 1 = .ok (.invokevirtual 143, 3) := by decide +kernel
theorem d_Mo_part_4 : decode b_Mo_part 4 = .ok (.aload_n 0, 1) := by decide +kernel
theorem d_Mo_part_5 : decode b_Mo_part 5 = .ok (.aload_n 0, 1) := by decide +kernel
theorem d_Mo_part_6 : decode b_Mo_part 6 = .ok (.getfield 30, 3) := by decide +kernel
theorem d_Mo_part_9 : decode b_Mo_part 9 = .ok (.invokevirtual 128, 3) := by decide +kernel
theorem d_Mo_part_12 : decode b_Mo_part 12 = .ok (.iload_n 1, 1) := by decide +kernel
theorem d_Mo_part_13 : decode b_Mo_part 13 = .ok (.ifCond .ne 10, 3) := by decide +kernel
theorem d_Mo_part_16 : decode b_Mo_part 16 = .ok (.aload_n 0, 1) := by decide +kernel
theorem d_Mo_part_17 : decode b_Mo_part 17 = .ok (.getfield 120, 3) := by decide +kernel
theorem d_Mo_part_20 : decode b_Mo_part 20 = .ok (.goto 16, 3) := by decide +kernel
theorem d_Mo_part_23 : decode b_Mo_part 23 = .ok (.iload_n 1, 1) := by decide +kernel
theorem d_Mo_part_24 : decode b_Mo_part 24 = .ok (.iconst 1, 1) := by decide +kernel
theorem d_Mo_part_25 : decode b_Mo_part 25 = .ok (.if_icmp .ne 10, 3) := by decide +kernel
theorem d_Mo_part_28 : decode b_Mo_part 28 = .ok (.aload_n 0, 1) := by decide +kernel
theorem d_Mo_part_29 : decode b_Mo_part 29 = .ok (.getfield 123, 3) := by decide +kernel
theorem d_Mo_part_32 : decode b_Mo_part 32 = .ok (.goto 4, 3) := by decide +kernel
theorem d_Mo_part_35 : decode b_Mo_part 35 = .ok (.lconst 0, 1) := by decide +kernel
theorem d_Mo_part_36 : decode b_Mo_part 36 = .ok (.lreturn, 1) := by decide +kernel
