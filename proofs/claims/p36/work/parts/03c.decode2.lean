theorem dX6_init_49 : decode cX6_init 49 = .ok (.new 37, 3) := by decide +kernel
theorem dX6_init_52 : decode cX6_init 52 = .ok (.dup, 1) := by decide +kernel
theorem dX6_init_53 : decode cX6_init 53 = .ok (.invokespecial 39, 3) := by decide +kernel
theorem dX6_init_56 : decode cX6_init 56 = .ok (.putfield 40, 3) := by decide +kernel
theorem dX6_init_59 : decode cX6_init 59 = .ok (.return_, 1) := by decide +kernel
theorem dX6_node_0 : decode cX6_node 0 = .ok (.iload_n 1, 1) := by decide +kernel
theorem dX6_node_1 : decode cX6_node 1 = .ok (.iconst 0, 1) := by decide +kernel
theorem dX6_node_2 : decode cX6_node 2 = .ok (.bipush 30, 2) := by decide +kernel
theorem dX6_node_4 : decode cX6_node 4 = .ok (.invokestatic 44, 3) := by decide +kernel
theorem dX6_node_7 : decode cX6_node 7 = .ok (.ifCond .eq 22, 3) := by decide +kernel
theorem dX6_node_10 : decode cX6_node 10 = .ok (.iload_n 2, 1) := by decide +kernel
theorem dX6_node_11 : decode cX6_node 11 = .ok (.iconst 0, 1) := by decide +kernel
theorem dX6_node_12 : decode cX6_node 12 = .ok (.bipush 30, 2) := by decide +kernel
theorem dX6_node_14 : decode cX6_node 14 = .ok (.invokestatic 44, 3) := by decide +kernel
theorem dX6_node_17 : decode cX6_node 17 = .ok (.ifCond .eq 12, 3) := by decide +kernel
theorem dX6_node_20 : decode cX6_node 20 = .ok (.ldc 48, 2) := by decide +kernel
theorem dX6_node_22 : decode cX6_node 22 = .ok (.iload_n 3, 1) := by decide +kernel
theorem dX6_node_23 : decode cX6_node 23 = .ok (.invokevirtual 50, 3) := by decide +kernel
theorem dX6_node_26 : decode cX6_node 26 = .ok (.ifCond .ge 13, 3) := by decide +kernel
theorem dX6_node_29 : decode cX6_node 29 = .ok (.new 56, 3) := by decide +kernel
theorem dX6_node_32 : decode cX6_node 32 = .ok (.dup, 1) := by decide +kernel
theorem dX6_node_33 : decode cX6_node 33 = .ok (.ldc 58, 2) := by decide +kernel
theorem dX6_node_35 : decode cX6_node 35 = .ok (.invokespecial 60, 3) := by decide +kernel
theorem dX6_node_38 : decode cX6_node 38 = .ok (.athrow, 1) := by decide +kernel
theorem dX6_node_39 : decode cX6_node 39 = .ok (.aload_n 0, 1) := by decide +kernel
theorem dX6_node_40 : decode cX6_node 40 = .ok (.getfield 12, 3) := by decide +kernel
theorem dX6_node_43 : decode cX6_node 43 = .ok (.getfield 63, 3) := by decide +kernel
theorem dX6_node_46 : decode cX6_node 46 = .ok (.bipush 8, 2) := by decide +kernel
theorem dX6_node_48 : decode cX6_node 48 = .ok (.if_icmp .lt 13, 3) := by decide +kernel
theorem dX6_node_51 : decode cX6_node 51 = .ok (.new 67, 3) := by decide +kernel
theorem dX6_node_54 : decode cX6_node 54 = .ok (.dup, 1) := by decide +kernel
theorem dX6_node_55 : decode cX6_node 55 = .ok (.ldc 69, 2) := by decide +kernel
theorem dX6_node_57 : decode cX6_node 57 = .ok (.invokespecial 71, 3) := by decide +kernel
theorem dX6_node_60 : decode cX6_node 60 = .ok (.athrow, 1) := by decide +kernel
theorem dX6_node_61 : decode cX6_node 61 = .ok (.aload_n 0, 1) := by decide +kernel
theorem dX6_node_62 : decode cX6_node 62 = .ok (.getfield 19, 3) := by decide +kernel
theorem dX6_node_65 : decode cX6_node 65 = .ok (.iconst 0, 1) := by decide +kernel
theorem dX6_node_66 : decode cX6_node 66 = .ok (.putfield 72, 3) := by decide +kernel
theorem dX6_node_69 : decode cX6_node 69 = .ok (.aload_n 0, 1) := by decide +kernel
theorem dX6_node_70 : decode cX6_node 70 = .ok (.getfield 12, 3) := by decide +kernel
theorem dX6_node_73 : decode cX6_node 73 = .ok (.iload_n 1, 1) := by decide +kernel
theorem dX6_node_74 : decode cX6_node 74 = .ok (.iload_n 2, 1) := by decide +kernel
theorem dX6_node_75 : decode cX6_node 75 = .ok (.iload_n 3, 1) := by decide +kernel
theorem dX6_node_76 : decode cX6_node 76 = .ok (.invokevirtual 76, 3) := by decide +kernel
theorem dX6_node_79 : decode cX6_node 79 = .ok (.ireturn, 1) := by decide +kernel
theorem dX6_member_0 : decode cX6_member 0 = .ok (.aload_n 0, 1) := by decide +kernel
theorem dX6_member_1 : decode cX6_member 1 = .ok (.iload_n 1, 1) := by decide +kernel
theorem dX6_member_2 : decode cX6_member 2 = .ok (.invokevirtual 80, 3) := by decide +kernel
theorem dX6_member_5 : decode cX6_member 5 = .ok (.aload_n 0, 1) := by decide +kernel
theorem dX6_member_6 : decode cX6_member 6 = .ok (.iload_n 2, 1) := by decide +kernel
theorem dX6_member_7 : decode cX6_member 7 = .ok (.invokevirtual 80, 3) := by decide +kernel
theorem dX6_member_10 : decode cX6_member 10 = .ok (.aload_n 0, 1) := by decide +kernel
theorem dX6_member_11 : decode cX6_member 11 = .ok (.getfield 12, 3) := by decide +kernel
theorem dX6_member_14 : decode cX6_member 14 = .ok (.iload_n 1, 1) := by decide +kernel
theorem dX6_member_15 : decode cX6_member 15 = .ok (.iload_n 2, 1) := by decide +kernel
theorem dX6_member_16 : decode cX6_member 16 = .ok (.invokevirtual 84, 3) := by decide +kernel
theorem dX6_member_19 : decode cX6_member 19 = .ok (.ifCond .ne 12, 3) := by decide +kernel
theorem dX6_member_22 : decode cX6_member 22 = .ok (.iload_n 3, 1) := by decide +kernel
theorem dX6_member_23 : decode cX6_member 23 = .ok (.iload 4, 2) := by decide +kernel
theorem dX6_member_25 : decode cX6_member 25 = .ok (.invokestatic 88, 3) := by decide +kernel
theorem dX6_member_28 : decode cX6_member 28 = .ok (.ifCond .ne 13, 3) := by decide +kernel
theorem dX6_member_31 : decode cX6_member 31 = .ok (.new 56, 3) := by decide +kernel
theorem dX6_member_34 : decode cX6_member 34 = .ok (.dup, 1) := by decide +kernel
theorem dX6_member_35 : decode cX6_member 35 = .ok (.ldc 91, 2) := by decide +kernel
theorem dX6_member_37 : decode cX6_member 37 = .ok (.invokespecial 60, 3) := by decide +kernel
theorem dX6_member_40 : decode cX6_member 40 = .ok (.athrow, 1) := by decide +kernel
theorem dX6_member_41 : decode cX6_member 41 = .ok (.aload_n 0, 1) := by decide +kernel
theorem dX6_member_42 : decode cX6_member 42 = .ok (.getfield 12, 3) := by decide +kernel
theorem dX6_member_45 : decode cX6_member 45 = .ok (.getfield 93, 3) := by decide +kernel
theorem dX6_member_48 : decode cX6_member 48 = .ok (.bipush 9, 2) := by decide +kernel
theorem dX6_member_50 : decode cX6_member 50 = .ok (.if_icmp .lt 13, 3) := by decide +kernel
theorem dX6_member_53 : decode cX6_member 53 = .ok (.new 67, 3) := by decide +kernel
theorem dX6_member_56 : decode cX6_member 56 = .ok (.dup, 1) := by decide +kernel
theorem dX6_member_57 : decode cX6_member 57 = .ok (.ldc 96, 2) := by decide +kernel
theorem dX6_member_59 : decode cX6_member 59 = .ok (.invokespecial 71, 3) := by decide +kernel
theorem dX6_member_62 : decode cX6_member 62 = .ok (.athrow, 1) := by decide +kernel
theorem dX6_member_63 : decode cX6_member 63 = .ok (.aload_n 0, 1) := by decide +kernel
theorem dX6_member_64 : decode cX6_member 64 = .ok (.getfield 19, 3) := by decide +kernel
theorem dX6_member_67 : decode cX6_member 67 = .ok (.iconst 0, 1) := by decide +kernel
theorem dX6_member_68 : decode cX6_member 68 = .ok (.putfield 72, 3) := by decide +kernel
theorem dX6_member_71 : decode cX6_member 71 = .ok (.aload_n 0, 1) := by decide +kernel
theorem dX6_member_72 : decode cX6_member 72 = .ok (.getfield 33, 3) := by decide +kernel
theorem dX6_member_75 : decode cX6_member 75 = .ok (.iconst 0, 1) := by decide +kernel
theorem dX6_member_76 : decode cX6_member 76 = .ok (.putfield 98, 3) := by decide +kernel
theorem dX6_member_79 : decode cX6_member 79 = .ok (.aload_n 0, 1) := by decide +kernel
theorem dX6_member_80 : decode cX6_member 80 = .ok (.getfield 40, 3) := by decide +kernel
theorem dX6_member_83 : decode cX6_member 83 = .ok (.iconst 0, 1) := by decide +kernel
theorem dX6_member_84 : decode cX6_member 84 = .ok (.putfield 99, 3) := by decide +kernel
theorem dX6_member_87 : decode cX6_member 87 = .ok (.aload_n 0, 1) := by decide +kernel
theorem dX6_member_88 : decode cX6_member 88 = .ok (.getfield 12, 3) := by decide +kernel
theorem dX6_member_91 : decode cX6_member 91 = .ok (.iload_n 1, 1) := by decide +kernel
theorem dX6_member_92 : decode cX6_member 92 = .ok (.iload_n 2, 1) := by decide +kernel
theorem dX6_member_93 : decode cX6_member 93 = .ok (.iload_n 3, 1) := by decide +kernel
theorem dX6_member_94 : decode cX6_member 94 = .ok (.iload 4, 2) := by decide +kernel
theorem dX6_member_96 : decode cX6_member 96 = .ok (.invokevirtual 100, 3) := by decide +kernel
theorem dX6_member_99 : decode cX6_member 99 = .ok (.ireturn, 1) := by decide +kernel
theorem dX6_load_0 : decode cX6_load 0 = .ok (.aload_n 0, 1) := by decide +kernel
theorem dX6_load_1 : decode cX6_load 1 = .ok (.iload_n 1, 1) := by decide +kernel
theorem dX6_load_2 : decode cX6_load 2 = .ok (.invokevirtual 80, 3) := by decide +kernel
theorem dX6_load_5 : decode cX6_load 5 = .ok (.iload_n 2, 1) := by decide +kernel
theorem dX6_load_6 : decode cX6_load 6 = .ok (.sipush (-999), 3) := by decide +kernel
theorem dX6_load_9 : decode cX6_load 9 = .ok (.sipush 999, 3) := by decide +kernel
theorem dX6_load_12 : decode cX6_load 12 = .ok (.invokestatic 44, 3) := by decide +kernel
theorem dX6_load_15 : decode cX6_load 15 = .ok (.ifCond .eq 16, 3) := by decide +kernel
theorem dX6_load_18 : decode cX6_load 18 = .ok (.iload_n 3, 1) := by decide +kernel
theorem dX6_load_19 : decode cX6_load 19 = .ok (.sipush (-999), 3) := by decide +kernel
theorem dX6_load_22 : decode cX6_load 22 = .ok (.sipush 999, 3) := by decide +kernel
theorem dX6_load_25 : decode cX6_load 25 = .ok (.invokestatic 44, 3) := by decide +kernel
theorem dX6_load_28 : decode cX6_load 28 = .ok (.ifCond .ne 13, 3) := by decide +kernel
theorem dX6_load_31 : decode cX6_load 31 = .ok (.new 56, 3) := by decide +kernel
theorem dX6_load_34 : decode cX6_load 34 = .ok (.dup, 1) := by decide +kernel
theorem dX6_load_35 : decode cX6_load 35 = .ok (.ldc 104, 2) := by decide +kernel
theorem dX6_load_37 : decode cX6_load 37 = .ok (.invokespecial 60, 3) := by decide +kernel
theorem dX6_load_40 : decode cX6_load 40 = .ok (.athrow, 1) := by decide +kernel
theorem dX6_load_41 : decode cX6_load 41 = .ok (.aload_n 0, 1) := by decide +kernel
theorem dX6_load_42 : decode cX6_load 42 = .ok (.getfield 19, 3) := by decide +kernel
theorem dX6_load_45 : decode cX6_load 45 = .ok (.iconst 0, 1) := by decide +kernel
theorem dX6_load_46 : decode cX6_load 46 = .ok (.putfield 72, 3) := by decide +kernel
theorem dX6_load_49 : decode cX6_load 49 = .ok (.aload_n 0, 1) := by decide +kernel
theorem dX6_load_50 : decode cX6_load 50 = .ok (.getfield 12, 3) := by decide +kernel
theorem dX6_load_53 : decode cX6_load 53 = .ok (.iload_n 1, 1) := by decide +kernel
theorem dX6_load_54 : decode cX6_load 54 = .ok (.iload_n 2, 1) := by decide +kernel
theorem dX6_load_55 : decode cX6_load 55 = .ok (.iload_n 3, 1) := by decide +kernel
theorem dX6_load_56 : decode cX6_load 56 = .ok (.invokevirtual 106, 3) := by decide +kernel
theorem dX6_load_59 : decode cX6_load 59 = .ok (.ireturn, 1) := by decide +kernel
theorem dX6_state_0 : decode cX6_state 0 = .ok (.aload_n 0, 1) := by decide +kernel
theorem dX6_state_1 : decode cX6_state 1 = .ok (.getfield 19, 3) := by decide +kernel
theorem dX6_state_4 : decode cX6_state 4 = .ok (.aload_n 0, 1) := by decide +kernel
theorem dX6_state_5 : decode cX6_state 5 = .ok (.getfield 12, 3) := by decide +kernel
theorem dX6_state_8 : decode cX6_state 8 = .ok (.invokevirtual 110, 3) := by decide +kernel
theorem dX6_state_11 : decode cX6_state 11 = .ok (.aload_n 0, 1) := by decide +kernel
theorem dX6_state_12 : decode cX6_state 12 = .ok (.getfield 19, 3) := by decide +kernel
theorem dX6_state_15 : decode cX6_state 15 = .ok (.getfield 114, 3) := by decide +kernel
theorem dX6_state_18 : decode cX6_state 18 = .ok (.ireturn, 1) := by decide +kernel
theorem dX6_force_0 : decode cX6_force 0 = .ok (.aload_n 0, 1) := by decide +kernel
theorem dX6_force_1 : decode cX6_force 1 = .ok (.iload_n 1, 1) := by decide +kernel
theorem dX6_force_2 : decode cX6_force 2 = .ok (.invokevirtual 118, 3) := by decide +kernel
theorem dX6_force_5 : decode cX6_force 5 = .ok (.aload_n 0, 1) := by decide +kernel
theorem dX6_force_6 : decode cX6_force 6 = .ok (.invokevirtual 121, 3) := by decide +kernel
theorem dX6_force_9 : decode cX6_force 9 = .ok (.aload_n 0, 1) := by decide +kernel
theorem dX6_force_10 : decode cX6_force 10 = .ok (.getfield 19, 3) := by decide +kernel
theorem dX6_force_13 : decode cX6_force 13 = .ok (.getfield 124, 3) := by decide +kernel
theorem dX6_force_16 : decode cX6_force 16 = .ok (.iload_n 1, 1) := by decide +kernel
theorem dX6_force_17 : decode cX6_force 17 = .ok (.laload, 1) := by decide +kernel
theorem dX6_force_18 : decode cX6_force 18 = .ok (.lreturn, 1) := by decide +kernel
theorem dX6_pull_0 : decode cX6_pull 0 = .ok (.aload_n 0, 1) := by decide +kernel
theorem dX6_pull_1 : decode cX6_pull 1 = .ok (.iload_n 1, 1) := by decide +kernel
theorem dX6_pull_2 : decode cX6_pull 2 = .ok (.invokevirtual 118, 3) := by decide +kernel
theorem dX6_pull_5 : decode cX6_pull 5 = .ok (.aload_n 0, 1) := by decide +kernel
theorem dX6_pull_6 : decode cX6_pull 6 = .ok (.invokevirtual 121, 3) := by decide +kernel
theorem dX6_pull_9 : decode cX6_pull 9 = .ok (.aload_n 0, 1) := by decide +kernel
theorem dX6_pull_10 : decode cX6_pull 10 = .ok (.getfield 19, 3) := by decide +kernel
theorem dX6_pull_13 : decode cX6_pull 13 = .ok (.iload_n 1, 1) := by decide +kernel
theorem dX6_pull_14 : decode cX6_pull 14 = .ok (.invokevirtual 128, 3) := by decide +kernel
theorem dX6_pull_17 : decode cX6_pull 17 = .ok (.lreturn, 1) := by decide +kernel
theorem dX6_isBalanced_0 : decode cX6_isBalanced 0 = .ok (.iload_n 1, 1) := by decide +kernel
theorem dX6_isBalanced_1 : decode cX6_isBalanced 1 = .ok (.iconst 0, 1) := by decide +kernel
theorem dX6_isBalanced_2 : decode cX6_isBalanced 2 = .ok (.bipush 30, 2) := by decide +kernel
theorem dX6_isBalanced_4 : decode cX6_isBalanced 4 = .ok (.invokestatic 44, 3) := by decide +kernel
theorem dX6_isBalanced_7 : decode cX6_isBalanced 7 = .ok (.ifCond .ne 13, 3) := by decide +kernel
theorem dX6_isBalanced_10 : decode cX6_isBalanced 10 = .ok (.new 56, 3) := by decide +kernel
theorem dX6_isBalanced_13 : decode cX6_isBalanced 13 = .ok (.dup, 1) := by decide +kernel
theorem dX6_isBalanced_14 : decode cX6_isBalanced 14 = .ok (.ldc 136, 2) := by decide +kernel
theorem dX6_isBalanced_16 : decode cX6_isBalanced 16 = .ok (.invokespecial 60, 3) := by decide +kernel
theorem dX6_isBalanced_19 : decode cX6_isBalanced 19 = .ok (.athrow, 1) := by decide +kernel
theorem dX6_isBalanced_20 : decode cX6_isBalanced 20 = .ok (.aload_n 0, 1) := by decide +kernel
theorem dX6_isBalanced_21 : decode cX6_isBalanced 21 = .ok (.invokevirtual 121, 3) := by decide +kernel
theorem dX6_isBalanced_24 : decode cX6_isBalanced 24 = .ok (.aload_n 0, 1) := by decide +kernel
theorem dX6_isBalanced_25 : decode cX6_isBalanced 25 = .ok (.getfield 19, 3) := by decide +kernel
theorem dX6_isBalanced_28 : decode cX6_isBalanced 28 = .ok (.aload_n 0, 1) := by decide +kernel
theorem dX6_isBalanced_29 : decode cX6_isBalanced 29 = .ok (.getfield 12, 3) := by decide +kernel
theorem dX6_isBalanced_32 : decode cX6_isBalanced 32 = .ok (.iload_n 1, 1) := by decide +kernel
theorem dX6_isBalanced_33 : decode cX6_isBalanced 33 = .ok (.invokevirtual 138, 3) := by decide +kernel
theorem dX6_isBalanced_36 : decode cX6_isBalanced 36 = .ok (.ireturn, 1) := by decide +kernel
theorem dX6_weakest_0 : decode cX6_weakest 0 = .ok (.aload_n 0, 1) := by decide +kernel
theorem dX6_weakest_1 : decode cX6_weakest 1 = .ok (.invokevirtual 121, 3) := by decide +kernel
theorem dX6_weakest_4 : decode cX6_weakest 4 = .ok (.aload_n 0, 1) := by decide +kernel
theorem dX6_weakest_5 : decode cX6_weakest 5 = .ok (.getfield 12, 3) := by decide +kernel
theorem dX6_weakest_8 : decode cX6_weakest 8 = .ok (.getfield 93, 3) := by decide +kernel
theorem dX6_weakest_11 : decode cX6_weakest 11 = .ok (.ifCond .ne 13, 3) := by decide +kernel
theorem dX6_weakest_14 : decode cX6_weakest 14 = .ok (.new 142, 3) := by decide +kernel
theorem dX6_weakest_17 : decode cX6_weakest 17 = .ok (.dup, 1) := by decide +kernel
theorem dX6_weakest_18 : decode cX6_weakest 18 = .ok (.ldc 144, 2) := by decide +kernel
theorem dX6_weakest_20 : decode cX6_weakest 20 = .ok (.invokespecial 146, 3) := by decide +kernel
theorem dX6_weakest_23 : decode cX6_weakest 23 = .ok (.athrow, 1) := by decide +kernel
theorem dX6_weakest_24 : decode cX6_weakest 24 = .ok (.iconst 0, 1) := by decide +kernel
theorem dX6_weakest_25 : decode cX6_weakest 25 = .ok (.istore_n 1, 1) := by decide +kernel
theorem dX6_weakest_26 : decode cX6_weakest 26 = .ok (.iconst 1, 1) := by decide +kernel
theorem dX6_weakest_27 : decode cX6_weakest 27 = .ok (.istore_n 2, 1) := by decide +kernel
theorem dX6_weakest_28 : decode cX6_weakest 28 = .ok (.iload_n 2, 1) := by decide +kernel
theorem dX6_weakest_29 : decode cX6_weakest 29 = .ok (.aload_n 0, 1) := by decide +kernel
theorem dX6_weakest_30 : decode cX6_weakest 30 = .ok (.getfield 12, 3) := by decide +kernel
theorem dX6_weakest_33 : decode cX6_weakest 33 = .ok (.getfield 93, 3) := by decide +kernel
theorem dX6_weakest_36 : decode cX6_weakest 36 = .ok (.if_icmp .ge 39, 3) := by decide +kernel
theorem dX6_weakest_39 : decode cX6_weakest 39 = .ok (.aload_n 0, 1) := by decide +kernel
theorem dX6_weakest_40 : decode cX6_weakest 40 = .ok (.getfield 19, 3) := by decide +kernel
theorem dX6_weakest_43 : decode cX6_weakest 43 = .ok (.getfield 124, 3) := by decide +kernel
theorem dX6_weakest_46 : decode cX6_weakest 46 = .ok (.iload_n 2, 1) := by decide +kernel
theorem dX6_weakest_47 : decode cX6_weakest 47 = .ok (.laload, 1) := by decide +kernel
theorem dX6_weakest_48 : decode cX6_weakest 48 = .ok (.invokestatic 147, 3) := by decide +kernel
theorem dX6_weakest_51 : decode cX6_weakest 51 = .ok (.aload_n 0, 1) := by decide +kernel
theorem dX6_weakest_52 : decode cX6_weakest 52 = .ok (.getfield 19, 3) := by decide +kernel
theorem dX6_weakest_55 : decode cX6_weakest 55 = .ok (.getfield 124, 3) := by decide +kernel
theorem dX6_weakest_58 : decode cX6_weakest 58 = .ok (.iload_n 1, 1) := by decide +kernel
theorem dX6_weakest_59 : decode cX6_weakest 59 = .ok (.laload, 1) := by decide +kernel
theorem dX6_weakest_60 : decode cX6_weakest 60 = .ok (.invokestatic 147, 3) := by decide +kernel
theorem dX6_weakest_63 : decode cX6_weakest 63 = .ok (.lcmp, 1) := by decide +kernel
theorem dX6_weakest_64 : decode cX6_weakest 64 = .ok (.ifCond .le 5, 3) := by decide +kernel
theorem dX6_weakest_67 : decode cX6_weakest 67 = .ok (.iload_n 2, 1) := by decide +kernel
theorem dX6_weakest_68 : decode cX6_weakest 68 = .ok (.istore_n 1, 1) := by decide +kernel
theorem dX6_weakest_69 : decode cX6_weakest 69 = .ok (.iinc 2 1, 3) := by decide +kernel
theorem dX6_weakest_72 : decode cX6_weakest 72 = .ok (.goto (-44), 3) := by decide +kernel
theorem dX6_weakest_75 : decode cX6_weakest 75 = .ok (.iload_n 1, 1) := by decide +kernel
theorem dX6_weakest_76 : decode cX6_weakest 76 = .ok (.ireturn, 1) := by decide +kernel
theorem dX6_joint_0 : decode cX6_joint 0 = .ok (.aload_n 0, 1) := by decide +kernel
theorem dX6_joint_1 : decode cX6_joint 1 = .ok (.iload_n 1, 1) := by decide +kernel
theorem dX6_joint_2 : decode cX6_joint 2 = .ok (.invokevirtual 118, 3) := by decide +kernel
theorem dX6_joint_5 : decode cX6_joint 5 = .ok (.aload_n 0, 1) := by decide +kernel
theorem dX6_joint_6 : decode cX6_joint 6 = .ok (.iload_n 2, 1) := by decide +kernel
theorem dX6_joint_7 : decode cX6_joint 7 = .ok (.invokevirtual 118, 3) := by decide +kernel
theorem dX6_joint_10 : decode cX6_joint 10 = .ok (.iload_n 1, 1) := by decide +kernel
theorem dX6_joint_11 : decode cX6_joint 11 = .ok (.iload_n 2, 1) := by decide +kernel
theorem dX6_joint_12 : decode cX6_joint 12 = .ok (.if_icmp .eq 36, 3) := by decide +kernel
theorem dX6_joint_15 : decode cX6_joint 15 = .ok (.aload_n 0, 1) := by decide +kernel
theorem dX6_joint_16 : decode cX6_joint 16 = .ok (.getfield 26, 3) := by decide +kernel
theorem dX6_joint_19 : decode cX6_joint 19 = .ok (.iload_n 3, 1) := by decide +kernel
theorem dX6_joint_20 : decode cX6_joint 20 = .ok (.invokevirtual 153, 3) := by decide +kernel
theorem dX6_joint_23 : decode cX6_joint 23 = .ok (.ifCond .lt 25, 3) := by decide +kernel
theorem dX6_joint_26 : decode cX6_joint 26 = .ok (.iload 4, 2) := by decide +kernel
theorem dX6_joint_28 : decode cX6_joint 28 = .ok (.iconst 2, 1) := by decide +kernel
theorem dX6_joint_29 : decode cX6_joint 29 = .ok (.bipush 20, 2) := by decide +kernel
theorem dX6_joint_31 : decode cX6_joint 31 = .ok (.invokestatic 44, 3) := by decide +kernel
theorem dX6_joint_34 : decode cX6_joint 34 = .ok (.ifCond .eq 14, 3) := by decide +kernel
theorem dX6_joint_37 : decode cX6_joint 37 = .ok (.iload 5, 2) := by decide +kernel
theorem dX6_joint_39 : decode cX6_joint 39 = .ok (.iconst 1, 1) := by decide +kernel
theorem dX6_joint_40 : decode cX6_joint 40 = .ok (.bipush 31, 2) := by decide +kernel
theorem dX6_joint_42 : decode cX6_joint 42 = .ok (.invokestatic 44, 3) := by decide +kernel
theorem dX6_joint_45 : decode cX6_joint 45 = .ok (.ifCond .ne 13, 3) := by decide +kernel
theorem dX6_joint_48 : decode cX6_joint 48 = .ok (.new 56, 3) := by decide +kernel
theorem dX6_joint_51 : decode cX6_joint 51 = .ok (.dup, 1) := by decide +kernel
theorem dX6_joint_52 : decode cX6_joint 52 = .ok (.ldc 157, 2) := by decide +kernel
theorem dX6_joint_54 : decode cX6_joint 54 = .ok (.invokespecial 60, 3) := by decide +kernel
theorem dX6_joint_57 : decode cX6_joint 57 = .ok (.athrow, 1) := by decide +kernel
theorem dX6_joint_58 : decode cX6_joint 58 = .ok (.aload_n 0, 1) := by decide +kernel
theorem dX6_joint_59 : decode cX6_joint 59 = .ok (.getfield 12, 3) := by decide +kernel
theorem dX6_joint_62 : decode cX6_joint 62 = .ok (.iload_n 1, 1) := by decide +kernel
theorem dX6_joint_63 : decode cX6_joint 63 = .ok (.iload_n 2, 1) := by decide +kernel
theorem dX6_joint_64 : decode cX6_joint 64 = .ok (.invokevirtual 159, 3) := by decide +kernel
theorem dX6_joint_67 : decode cX6_joint 67 = .ok (.ifCond .eq 15, 3) := by decide +kernel
theorem dX6_joint_70 : decode cX6_joint 70 = .ok (.aload_n 0, 1) := by decide +kernel
theorem dX6_joint_71 : decode cX6_joint 71 = .ok (.getfield 26, 3) := by decide +kernel
theorem dX6_joint_74 : decode cX6_joint 74 = .ok (.iload_n 1, 1) := by decide +kernel
theorem dX6_joint_75 : decode cX6_joint 75 = .ok (.iload_n 2, 1) := by decide +kernel
theorem dX6_joint_76 : decode cX6_joint 76 = .ok (.invokevirtual 162, 3) := by decide +kernel
theorem dX6_joint_79 : decode cX6_joint 79 = .ok (.ifCond .eq 13, 3) := by decide +kernel
theorem dX6_joint_82 : decode cX6_joint 82 = .ok (.new 165, 3) := by decide +kernel
theorem dX6_joint_85 : decode cX6_joint 85 = .ok (.dup, 1) := by decide +kernel
theorem dX6_joint_86 : decode cX6_joint 86 = .ok (.ldc 167, 2) := by decide +kernel
theorem dX6_joint_88 : decode cX6_joint 88 = .ok (.invokespecial 169, 3) := by decide +kernel
theorem dX6_joint_91 : decode cX6_joint 91 = .ok (.athrow, 1) := by decide +kernel
theorem dX6_joint_92 : decode cX6_joint 92 = .ok (.aload_n 0, 1) := by decide +kernel
theorem dX6_joint_93 : decode cX6_joint 93 = .ok (.getfield 26, 3) := by decide +kernel
theorem dX6_joint_96 : decode cX6_joint 96 = .ok (.getfield 170, 3) := by decide +kernel
theorem dX6_joint_99 : decode cX6_joint 99 = .ok (.bipush 12, 2) := by decide +kernel
theorem dX6_joint_101 : decode cX6_joint 101 = .ok (.if_icmp .lt 13, 3) := by decide +kernel
theorem dX6_joint_104 : decode cX6_joint 104 = .ok (.new 67, 3) := by decide +kernel
theorem dX6_joint_107 : decode cX6_joint 107 = .ok (.dup, 1) := by decide +kernel
theorem dX6_joint_108 : decode cX6_joint 108 = .ok (.ldc 173, 2) := by decide +kernel
theorem dX6_joint_110 : decode cX6_joint 110 = .ok (.invokespecial 71, 3) := by decide +kernel
theorem dX6_joint_113 : decode cX6_joint 113 = .ok (.athrow, 1) := by decide +kernel
theorem dX6_joint_114 : decode cX6_joint 114 = .ok (.aload_n 0, 1) := by decide +kernel
theorem dX6_joint_115 : decode cX6_joint 115 = .ok (.getfield 33, 3) := by decide +kernel
theorem dX6_joint_118 : decode cX6_joint 118 = .ok (.iconst 0, 1) := by decide +kernel
theorem dX6_joint_119 : decode cX6_joint 119 = .ok (.putfield 98, 3) := by decide +kernel
theorem dX6_joint_122 : decode cX6_joint 122 = .ok (.aload_n 0, 1) := by decide +kernel
theorem dX6_joint_123 : decode cX6_joint 123 = .ok (.getfield 40, 3) := by decide +kernel
theorem dX6_joint_126 : decode cX6_joint 126 = .ok (.iconst 0, 1) := by decide +kernel
theorem dX6_joint_127 : decode cX6_joint 127 = .ok (.putfield 99, 3) := by decide +kernel
theorem dX6_joint_130 : decode cX6_joint 130 = .ok (.aload_n 0, 1) := by decide +kernel
theorem dX6_joint_131 : decode cX6_joint 131 = .ok (.getfield 26, 3) := by decide +kernel
theorem dX6_joint_134 : decode cX6_joint 134 = .ok (.iload_n 1, 1) := by decide +kernel
theorem dX6_joint_135 : decode cX6_joint 135 = .ok (.iload_n 2, 1) := by decide +kernel
theorem dX6_joint_136 : decode cX6_joint 136 = .ok (.aload_n 0, 1) := by decide +kernel
theorem dX6_joint_137 : decode cX6_joint 137 = .ok (.getfield 26, 3) := by decide +kernel
theorem dX6_joint_140 : decode cX6_joint 140 = .ok (.iload_n 3, 1) := by decide +kernel
theorem dX6_joint_141 : decode cX6_joint 141 = .ok (.invokevirtual 153, 3) := by decide +kernel
theorem dX6_joint_144 : decode cX6_joint 144 = .ok (.iload 4, 2) := by decide +kernel
theorem dX6_joint_146 : decode cX6_joint 146 = .ok (.iload 5, 2) := by decide +kernel
theorem dX6_joint_148 : decode cX6_joint 148 = .ok (.invokevirtual 175, 3) := by decide +kernel
theorem dX6_joint_151 : decode cX6_joint 151 = .ok (.ireturn, 1) := by decide +kernel
theorem dX6_isRight_0 : decode cX6_isRight 0 = .ok (.aload_n 0, 1) := by decide +kernel
theorem dX6_isRight_1 : decode cX6_isRight 1 = .ok (.iload_n 1, 1) := by decide +kernel
theorem dX6_isRight_2 : decode cX6_isRight 2 = .ok (.invokevirtual 179, 3) := by decide +kernel
theorem dX6_isRight_5 : decode cX6_isRight 5 = .ok (.aload_n 0, 1) := by decide +kernel
theorem dX6_isRight_6 : decode cX6_isRight 6 = .ok (.getfield 26, 3) := by decide +kernel
theorem dX6_isRight_9 : decode cX6_isRight 9 = .ok (.iload_n 1, 1) := by decide +kernel
theorem dX6_isRight_10 : decode cX6_isRight 10 = .ok (.aload_n 0, 1) := by decide +kernel
theorem dX6_isRight_11 : decode cX6_isRight 11 = .ok (.getfield 12, 3) := by decide +kernel
theorem dX6_isRight_14 : decode cX6_isRight 14 = .ok (.invokevirtual 182, 3) := by decide +kernel
theorem dX6_isRight_17 : decode cX6_isRight 17 = .ok (.ireturn, 1) := by decide +kernel
theorem dX6_misread_0 : decode cX6_misread 0 = .ok (.aload_n 0, 1) := by decide +kernel
theorem dX6_misread_1 : decode cX6_misread 1 = .ok (.iload_n 1, 1) := by decide +kernel
theorem dX6_misread_2 : decode cX6_misread 2 = .ok (.invokevirtual 179, 3) := by decide +kernel
theorem dX6_misread_5 : decode cX6_misread 5 = .ok (.aload_n 0, 1) := by decide +kernel
theorem dX6_misread_6 : decode cX6_misread 6 = .ok (.getfield 26, 3) := by decide +kernel
theorem dX6_misread_9 : decode cX6_misread 9 = .ok (.iload_n 1, 1) := by decide +kernel
theorem dX6_misread_10 : decode cX6_misread 10 = .ok (.invokevirtual 186, 3) := by decide +kernel
theorem dX6_misread_13 : decode cX6_misread 13 = .ok (.ireturn, 1) := by decide +kernel
theorem dX6_clashes_0 : decode cX6_clashes 0 = .ok (.iconst 0, 1) := by decide +kernel
theorem dX6_clashes_1 : decode cX6_clashes 1 = .ok (.istore_n 1, 1) := by decide +kernel
theorem dX6_clashes_2 : decode cX6_clashes 2 = .ok (.iconst 0, 1) := by decide +kernel
theorem dX6_clashes_3 : decode cX6_clashes 3 = .ok (.istore_n 2, 1) := by decide +kernel
theorem dX6_clashes_4 : decode cX6_clashes 4 = .ok (.iload_n 2, 1) := by decide +kernel
theorem dX6_clashes_5 : decode cX6_clashes 5 = .ok (.aload_n 0, 1) := by decide +kernel
theorem dX6_clashes_6 : decode cX6_clashes 6 = .ok (.getfield 26, 3) := by decide +kernel
theorem dX6_clashes_9 : decode cX6_clashes 9 = .ok (.getfield 170, 3) := by decide +kernel
theorem dX6_clashes_12 : decode cX6_clashes 12 = .ok (.if_icmp .ge 42, 3) := by decide +kernel
theorem dX6_clashes_15 : decode cX6_clashes 15 = .ok (.iconst 0, 1) := by decide +kernel
theorem dX6_clashes_16 : decode cX6_clashes 16 = .ok (.istore_n 3, 1) := by decide +kernel
theorem dX6_clashes_17 : decode cX6_clashes 17 = .ok (.iload_n 3, 1) := by decide +kernel
theorem dX6_clashes_18 : decode cX6_clashes 18 = .ok (.iload_n 2, 1) := by decide +kernel
theorem dX6_clashes_19 : decode cX6_clashes 19 = .ok (.if_icmp .ge 29, 3) := by decide +kernel
theorem dX6_clashes_22 : decode cX6_clashes 22 = .ok (.iload_n 1, 1) := by decide +kernel
theorem dX6_clashes_23 : decode cX6_clashes 23 = .ok (.aload_n 0, 1) := by decide +kernel
theorem dX6_clashes_24 : decode cX6_clashes 24 = .ok (.getfield 26, 3) := by decide +kernel
theorem dX6_clashes_27 : decode cX6_clashes 27 = .ok (.iload_n 2, 1) := by decide +kernel
theorem dX6_clashes_28 : decode cX6_clashes 28 = .ok (.iload_n 3, 1) := by decide +kernel
theorem dX6_clashes_29 : decode cX6_clashes 29 = .ok (.invokevirtual 189, 3) := by decide +kernel
theorem dX6_clashes_32 : decode cX6_clashes 32 = .ok (.ifCond .eq 7, 3) := by decide +kernel
theorem dX6_clashes_35 : decode cX6_clashes 35 = .ok (.iconst 1, 1) := by decide +kernel
theorem dX6_clashes_36 : decode cX6_clashes 36 = .ok (.goto 4, 3) := by decide +kernel
theorem dX6_clashes_39 : decode cX6_clashes 39 = .ok (.iconst 0, 1) := by decide +kernel
theorem dX6_clashes_40 : decode cX6_clashes 40 = .ok (.iadd, 1) := by decide +kernel
theorem dX6_clashes_41 : decode cX6_clashes 41 = .ok (.istore_n 1, 1) := by decide +kernel
theorem dX6_clashes_42 : decode cX6_clashes 42 = .ok (.iinc 3 1, 3) := by decide +kernel
theorem dX6_clashes_45 : decode cX6_clashes 45 = .ok (.goto (-28), 3) := by decide +kernel
theorem dX6_clashes_48 : decode cX6_clashes 48 = .ok (.iinc 2 1, 3) := by decide +kernel
theorem dX6_clashes_51 : decode cX6_clashes 51 = .ok (.goto (-47), 3) := by decide +kernel
theorem dX6_clashes_54 : decode cX6_clashes 54 = .ok (.iload_n 1, 1) := by decide +kernel
theorem dX6_clashes_55 : decode cX6_clashes 55 = .ok (.ireturn, 1) := by decide +kernel
theorem dX6_cutAt_0 : decode cX6_cutAt 0 = .ok (.aload_n 0, 1) := by decide +kernel
theorem dX6_cutAt_1 : decode cX6_cutAt 1 = .ok (.iload_n 1, 1) := by decide +kernel
theorem dX6_cutAt_2 : decode cX6_cutAt 2 = .ok (.invokevirtual 118, 3) := by decide +kernel
theorem dX6_cutAt_5 : decode cX6_cutAt 5 = .ok (.aload_n 0, 1) := by decide +kernel
theorem dX6_cutAt_6 : decode cX6_cutAt 6 = .ok (.iload_n 2, 1) := by decide +kernel
theorem dX6_cutAt_7 : decode cX6_cutAt 7 = .ok (.invokevirtual 192, 3) := by decide +kernel
theorem dX6_cutAt_10 : decode cX6_cutAt 10 = .ok (.aload_n 0, 1) := by decide +kernel
theorem dX6_cutAt_11 : decode cX6_cutAt 11 = .ok (.getfield 12, 3) := by decide +kernel
theorem dX6_cutAt_14 : decode cX6_cutAt 14 = .ok (.getfield 195, 3) := by decide +kernel
theorem dX6_cutAt_17 : decode cX6_cutAt 17 = .ok (.iload_n 1, 1) := by decide +kernel
theorem dX6_cutAt_18 : decode cX6_cutAt 18 = .ok (.iaload, 1) := by decide +kernel
theorem dX6_cutAt_19 : decode cX6_cutAt 19 = .ok (.istore_n 3, 1) := by decide +kernel
theorem dX6_cutAt_20 : decode cX6_cutAt 20 = .ok (.aload_n 0, 1) := by decide +kernel
theorem dX6_cutAt_21 : decode cX6_cutAt 21 = .ok (.getfield 12, 3) := by decide +kernel
theorem dX6_cutAt_24 : decode cX6_cutAt 24 = .ok (.getfield 195, 3) := by decide +kernel
theorem dX6_cutAt_27 : decode cX6_cutAt 27 = .ok (.iload_n 1, 1) := by decide +kernel
theorem dX6_cutAt_28 : decode cX6_cutAt 28 = .ok (.iload_n 2, 1) := by decide +kernel
theorem dX6_cutAt_29 : decode cX6_cutAt 29 = .ok (.iastore, 1) := by decide +kernel
theorem dX6_cutAt_30 : decode cX6_cutAt 30 = .ok (.iload_n 3, 1) := by decide +kernel
theorem dX6_cutAt_31 : decode cX6_cutAt 31 = .ok (.ireturn, 1) := by decide +kernel
theorem dX6_dry_0 : decode cX6_dry 0 = .ok (.aload_n 0, 1) := by decide +kernel
theorem dX6_dry_1 : decode cX6_dry 1 = .ok (.iload_n 1, 1) := by decide +kernel
theorem dX6_dry_2 : decode cX6_dry 2 = .ok (.invokevirtual 118, 3) := by decide +kernel
theorem dX6_dry_5 : decode cX6_dry 5 = .ok (.aload_n 0, 1) := by decide +kernel
theorem dX6_dry_6 : decode cX6_dry 6 = .ok (.iload_n 2, 1) := by decide +kernel
theorem dX6_dry_7 : decode cX6_dry 7 = .ok (.invokevirtual 192, 3) := by decide +kernel
theorem dX6_dry_10 : decode cX6_dry 10 = .ok (.aload_n 0, 1) := by decide +kernel
theorem dX6_dry_11 : decode cX6_dry 11 = .ok (.getfield 12, 3) := by decide +kernel
theorem dX6_dry_14 : decode cX6_dry 14 = .ok (.getfield 199, 3) := by decide +kernel
theorem dX6_dry_17 : decode cX6_dry 17 = .ok (.iload_n 1, 1) := by decide +kernel
theorem dX6_dry_18 : decode cX6_dry 18 = .ok (.iaload, 1) := by decide +kernel
theorem dX6_dry_19 : decode cX6_dry 19 = .ok (.istore_n 3, 1) := by decide +kernel
theorem dX6_dry_20 : decode cX6_dry 20 = .ok (.aload_n 0, 1) := by decide +kernel
theorem dX6_dry_21 : decode cX6_dry 21 = .ok (.getfield 12, 3) := by decide +kernel
theorem dX6_dry_24 : decode cX6_dry 24 = .ok (.getfield 199, 3) := by decide +kernel
theorem dX6_dry_27 : decode cX6_dry 27 = .ok (.iload_n 1, 1) := by decide +kernel
theorem dX6_dry_28 : decode cX6_dry 28 = .ok (.iload_n 2, 1) := by decide +kernel
theorem dX6_dry_29 : decode cX6_dry 29 = .ok (.iastore, 1) := by decide +kernel
theorem dX6_dry_30 : decode cX6_dry 30 = .ok (.iload_n 3, 1) := by decide +kernel
theorem dX6_dry_31 : decode cX6_dry 31 = .ok (.ireturn, 1) := by decide +kernel
theorem dX6_gap_0 : decode cX6_gap 0 = .ok (.aload_n 0, 1) := by decide +kernel
theorem dX6_gap_1 : decode cX6_gap 1 = .ok (.iload_n 1, 1) := by decide +kernel
theorem dX6_gap_2 : decode cX6_gap 2 = .ok (.invokevirtual 179, 3) := by decide +kernel
theorem dX6_gap_5 : decode cX6_gap 5 = .ok (.aload_n 0, 1) := by decide +kernel
theorem dX6_gap_6 : decode cX6_gap 6 = .ok (.getfield 26, 3) := by decide +kernel
theorem dX6_gap_9 : decode cX6_gap 9 = .ok (.iload_n 1, 1) := by decide +kernel
theorem dX6_gap_10 : decode cX6_gap 10 = .ok (.aload_n 0, 1) := by decide +kernel
theorem dX6_gap_11 : decode cX6_gap 11 = .ok (.getfield 12, 3) := by decide +kernel
theorem dX6_gap_14 : decode cX6_gap 14 = .ok (.invokevirtual 202, 3) := by decide +kernel
theorem dX6_gap_17 : decode cX6_gap 17 = .ok (.ireturn, 1) := by decide +kernel
theorem dX6_widest_0 : decode cX6_widest 0 = .ok (.aload_n 0, 1) := by decide +kernel
theorem dX6_widest_1 : decode cX6_widest 1 = .ok (.getfield 26, 3) := by decide +kernel
theorem dX6_widest_4 : decode cX6_widest 4 = .ok (.getfield 170, 3) := by decide +kernel
theorem dX6_widest_7 : decode cX6_widest 7 = .ok (.ifCond .ne 13, 3) := by decide +kernel
theorem dX6_widest_10 : decode cX6_widest 10 = .ok (.new 142, 3) := by decide +kernel
theorem dX6_widest_13 : decode cX6_widest 13 = .ok (.dup, 1) := by decide +kernel
theorem dX6_widest_14 : decode cX6_widest 14 = .ok (.ldc 206, 2) := by decide +kernel
theorem dX6_widest_16 : decode cX6_widest 16 = .ok (.invokespecial 146, 3) := by decide +kernel
theorem dX6_widest_19 : decode cX6_widest 19 = .ok (.athrow, 1) := by decide +kernel
theorem dX6_widest_20 : decode cX6_widest 20 = .ok (.iconst 0, 1) := by decide +kernel
theorem dX6_widest_21 : decode cX6_widest 21 = .ok (.istore_n 1, 1) := by decide +kernel
theorem dX6_widest_22 : decode cX6_widest 22 = .ok (.iconst 1, 1) := by decide +kernel
theorem dX6_widest_23 : decode cX6_widest 23 = .ok (.istore_n 2, 1) := by decide +kernel
theorem dX6_widest_24 : decode cX6_widest 24 = .ok (.iload_n 2, 1) := by decide +kernel
theorem dX6_widest_25 : decode cX6_widest 25 = .ok (.aload_n 0, 1) := by decide +kernel
theorem dX6_widest_26 : decode cX6_widest 26 = .ok (.getfield 26, 3) := by decide +kernel
theorem dX6_widest_29 : decode cX6_widest 29 = .ok (.getfield 170, 3) := by decide +kernel
theorem dX6_widest_32 : decode cX6_widest 32 = .ok (.if_icmp .ge 38, 3) := by decide +kernel
theorem dX6_widest_35 : decode cX6_widest 35 = .ok (.aload_n 0, 1) := by decide +kernel
theorem dX6_widest_36 : decode cX6_widest 36 = .ok (.getfield 26, 3) := by decide +kernel
theorem dX6_widest_39 : decode cX6_widest 39 = .ok (.iload_n 2, 1) := by decide +kernel
theorem dX6_widest_40 : decode cX6_widest 40 = .ok (.aload_n 0, 1) := by decide +kernel
theorem dX6_widest_41 : decode cX6_widest 41 = .ok (.getfield 12, 3) := by decide +kernel
theorem dX6_widest_44 : decode cX6_widest 44 = .ok (.invokevirtual 202, 3) := by decide +kernel
theorem dX6_widest_47 : decode cX6_widest 47 = .ok (.aload_n 0, 1) := by decide +kernel
theorem dX6_widest_48 : decode cX6_widest 48 = .ok (.getfield 26, 3) := by decide +kernel
theorem dX6_widest_51 : decode cX6_widest 51 = .ok (.iload_n 1, 1) := by decide +kernel
theorem dX6_widest_52 : decode cX6_widest 52 = .ok (.aload_n 0, 1) := by decide +kernel
theorem dX6_widest_53 : decode cX6_widest 53 = .ok (.getfield 12, 3) := by decide +kernel
theorem dX6_widest_56 : decode cX6_widest 56 = .ok (.invokevirtual 202, 3) := by decide +kernel
theorem dX6_widest_59 : decode cX6_widest 59 = .ok (.if_icmp .le 5, 3) := by decide +kernel
theorem dX6_widest_62 : decode cX6_widest 62 = .ok (.iload_n 2, 1) := by decide +kernel
theorem dX6_widest_63 : decode cX6_widest 63 = .ok (.istore_n 1, 1) := by decide +kernel
theorem dX6_widest_64 : decode cX6_widest 64 = .ok (.iinc 2 1, 3) := by decide +kernel
theorem dX6_widest_67 : decode cX6_widest 67 = .ok (.goto (-43), 3) := by decide +kernel
theorem dX6_widest_70 : decode cX6_widest 70 = .ok (.iload_n 1, 1) := by decide +kernel
theorem dX6_widest_71 : decode cX6_widest 71 = .ok (.ireturn, 1) := by decide +kernel
theorem dX6_stick_0 : decode cX6_stick 0 = .ok (.iload_n 1, 1) := by decide +kernel
theorem dX6_stick_1 : decode cX6_stick 1 = .ok (.iconst 1, 1) := by decide +kernel
theorem dX6_stick_2 : decode cX6_stick 2 = .ok (.sipush 900, 3) := by decide +kernel
theorem dX6_stick_5 : decode cX6_stick 5 = .ok (.invokestatic 44, 3) := by decide +kernel
theorem dX6_stick_8 : decode cX6_stick 8 = .ok (.ifCond .eq 11, 3) := by decide +kernel
theorem dX6_stick_11 : decode cX6_stick 11 = .ok (.iload_n 2, 1) := by decide +kernel
theorem dX6_stick_12 : decode cX6_stick 12 = .ok (.iload_n 3, 1) := by decide +kernel
theorem dX6_stick_13 : decode cX6_stick 13 = .ok (.invokestatic 88, 3) := by decide +kernel
theorem dX6_stick_16 : decode cX6_stick 16 = .ok (.ifCond .ne 13, 3) := by decide +kernel
theorem dX6_stick_19 : decode cX6_stick 19 = .ok (.new 56, 3) := by decide +kernel
theorem dX6_stick_22 : decode cX6_stick 22 = .ok (.dup, 1) := by decide +kernel
theorem dX6_stick_23 : decode cX6_stick 23 = .ok (.ldc 208, 2) := by decide +kernel
theorem dX6_stick_25 : decode cX6_stick 25 = .ok (.invokespecial 60, 3) := by decide +kernel
theorem dX6_stick_28 : decode cX6_stick 28 = .ok (.athrow, 1) := by decide +kernel
theorem dX6_stick_29 : decode cX6_stick 29 = .ok (.aload_n 0, 1) := by decide +kernel
theorem dX6_stick_30 : decode cX6_stick 30 = .ok (.getfield 33, 3) := by decide +kernel
theorem dX6_stick_33 : decode cX6_stick 33 = .ok (.getfield 210, 3) := by decide +kernel
theorem dX6_stick_36 : decode cX6_stick 36 = .ok (.iconst 5, 1) := by decide +kernel
theorem dX6_stick_37 : decode cX6_stick 37 = .ok (.if_icmp .lt 13, 3) := by decide +kernel
theorem dX6_stick_40 : decode cX6_stick 40 = .ok (.new 67, 3) := by decide +kernel
theorem dX6_stick_43 : decode cX6_stick 43 = .ok (.dup, 1) := by decide +kernel
theorem dX6_stick_44 : decode cX6_stick 44 = .ok (.ldc 211, 2) := by decide +kernel
theorem dX6_stick_46 : decode cX6_stick 46 = .ok (.invokespecial 71, 3) := by decide +kernel
theorem dX6_stick_49 : decode cX6_stick 49 = .ok (.athrow, 1) := by decide +kernel
theorem dX6_stick_50 : decode cX6_stick 50 = .ok (.aload_n 0, 1) := by decide +kernel
theorem dX6_stick_51 : decode cX6_stick 51 = .ok (.getfield 33, 3) := by decide +kernel
theorem dX6_stick_54 : decode cX6_stick 54 = .ok (.iconst 0, 1) := by decide +kernel
theorem dX6_stick_55 : decode cX6_stick 55 = .ok (.putfield 98, 3) := by decide +kernel
theorem dX6_stick_58 : decode cX6_stick 58 = .ok (.aload_n 0, 1) := by decide +kernel
theorem dX6_stick_59 : decode cX6_stick 59 = .ok (.getfield 33, 3) := by decide +kernel
theorem dX6_stick_62 : decode cX6_stick 62 = .ok (.iload_n 1, 1) := by decide +kernel
theorem dX6_stick_63 : decode cX6_stick 63 = .ok (.iload_n 2, 1) := by decide +kernel
theorem dX6_stick_64 : decode cX6_stick 64 = .ok (.iload_n 3, 1) := by decide +kernel
theorem dX6_stick_65 : decode cX6_stick 65 = .ok (.invokevirtual 213, 3) := by decide +kernel
theorem dX6_stick_68 : decode cX6_stick 68 = .ok (.ireturn, 1) := by decide +kernel
theorem dX6_piece_0 : decode cX6_piece 0 = .ok (.aload_n 0, 1) := by decide +kernel
theorem dX6_piece_1 : decode cX6_piece 1 = .ok (.iload_n 1, 1) := by decide +kernel
theorem dX6_piece_2 : decode cX6_piece 2 = .ok (.invokevirtual 118, 3) := by decide +kernel
theorem dX6_piece_5 : decode cX6_piece 5 = .ok (.aload_n 0, 1) := by decide +kernel
theorem dX6_piece_6 : decode cX6_piece 6 = .ok (.getfield 33, 3) := by decide +kernel
theorem dX6_piece_9 : decode cX6_piece 9 = .ok (.iload_n 1, 1) := by decide +kernel
theorem dX6_piece_10 : decode cX6_piece 10 = .ok (.aload_n 0, 1) := by decide +kernel
theorem dX6_piece_11 : decode cX6_piece 11 = .ok (.getfield 12, 3) := by decide +kernel
theorem dX6_piece_14 : decode cX6_piece 14 = .ok (.aload_n 0, 1) := by decide +kernel
theorem dX6_piece_15 : decode cX6_piece 15 = .ok (.getfield 26, 3) := by decide +kernel
theorem dX6_piece_18 : decode cX6_piece 18 = .ok (.invokevirtual 215, 3) := by decide +kernel
theorem dX6_piece_21 : decode cX6_piece 21 = .ok (.ireturn, 1) := by decide +kernel
theorem dX6_stickOf_0 : decode cX6_stickOf 0 = .ok (.aload_n 0, 1) := by decide +kernel
theorem dX6_stickOf_1 : decode cX6_stickOf 1 = .ok (.iload_n 1, 1) := by decide +kernel
theorem dX6_stickOf_2 : decode cX6_stickOf 2 = .ok (.invokevirtual 118, 3) := by decide +kernel
theorem dX6_stickOf_5 : decode cX6_stickOf 5 = .ok (.aload_n 0, 1) := by decide +kernel
theorem dX6_stickOf_6 : decode cX6_stickOf 6 = .ok (.invokevirtual 219, 3) := by decide +kernel
theorem dX6_stickOf_9 : decode cX6_stickOf 9 = .ok (.aload_n 0, 1) := by decide +kernel
theorem dX6_stickOf_10 : decode cX6_stickOf 10 = .ok (.getfield 33, 3) := by decide +kernel
theorem dX6_stickOf_13 : decode cX6_stickOf 13 = .ok (.getfield 222, 3) := by decide +kernel
theorem dX6_stickOf_16 : decode cX6_stickOf 16 = .ok (.iload_n 1, 1) := by decide +kernel
theorem dX6_stickOf_17 : decode cX6_stickOf 17 = .ok (.iaload, 1) := by decide +kernel
theorem dX6_stickOf_18 : decode cX6_stickOf 18 = .ok (.ireturn, 1) := by decide +kernel
theorem dX6_wood_0 : decode cX6_wood 0 = .ok (.aload_n 0, 1) := by decide +kernel
theorem dX6_wood_1 : decode cX6_wood 1 = .ok (.invokevirtual 219, 3) := by decide +kernel
theorem dX6_wood_4 : decode cX6_wood 4 = .ok (.aload_n 0, 1) := by decide +kernel
theorem dX6_wood_5 : decode cX6_wood 5 = .ok (.getfield 33, 3) := by decide +kernel
theorem dX6_wood_8 : decode cX6_wood 8 = .ok (.getfield 225, 3) := by decide +kernel
theorem dX6_wood_11 : decode cX6_wood 11 = .ok (.ireturn, 1) := by decide +kernel
theorem dX6_waste_0 : decode cX6_waste 0 = .ok (.iload_n 1, 1) := by decide +kernel
theorem dX6_waste_1 : decode cX6_waste 1 = .ok (.ifCond .lt 14, 3) := by decide +kernel
theorem dX6_waste_4 : decode cX6_waste 4 = .ok (.iload_n 1, 1) := by decide +kernel
theorem dX6_waste_5 : decode cX6_waste 5 = .ok (.aload_n 0, 1) := by decide +kernel
theorem dX6_waste_6 : decode cX6_waste 6 = .ok (.getfield 33, 3) := by decide +kernel
theorem dX6_waste_9 : decode cX6_waste 9 = .ok (.getfield 210, 3) := by decide +kernel
theorem dX6_waste_12 : decode cX6_waste 12 = .ok (.if_icmp .lt 13, 3) := by decide +kernel
theorem dX6_waste_15 : decode cX6_waste 15 = .ok (.new 228, 3) := by decide +kernel
theorem dX6_waste_18 : decode cX6_waste 18 = .ok (.dup, 1) := by decide +kernel
theorem dX6_waste_19 : decode cX6_waste 19 = .ok (.ldc 230, 2) := by decide +kernel
theorem dX6_waste_21 : decode cX6_waste 21 = .ok (.invokespecial 232, 3) := by decide +kernel
theorem dX6_waste_24 : decode cX6_waste 24 = .ok (.athrow, 1) := by decide +kernel
theorem dX6_waste_25 : decode cX6_waste 25 = .ok (.aload_n 0, 1) := by decide +kernel
theorem dX6_waste_26 : decode cX6_waste 26 = .ok (.invokevirtual 219, 3) := by decide +kernel
theorem dX6_waste_29 : decode cX6_waste 29 = .ok (.aload_n 0, 1) := by decide +kernel
theorem dX6_waste_30 : decode cX6_waste 30 = .ok (.getfield 33, 3) := by decide +kernel
theorem dX6_waste_33 : decode cX6_waste 33 = .ok (.iload_n 1, 1) := by decide +kernel
theorem dX6_waste_34 : decode cX6_waste 34 = .ok (.aload_n 0, 1) := by decide +kernel
theorem dX6_waste_35 : decode cX6_waste 35 = .ok (.getfield 12, 3) := by decide +kernel
theorem dX6_waste_38 : decode cX6_waste 38 = .ok (.getfield 93, 3) := by decide +kernel
theorem dX6_waste_41 : decode cX6_waste 41 = .ok (.invokevirtual 233, 3) := by decide +kernel
theorem dX6_waste_44 : decode cX6_waste 44 = .ok (.ireturn, 1) := by decide +kernel
theorem dX6_setProps_0 : decode cX6_setProps 0 = .ok (.iload_n 1, 1) := by decide +kernel
theorem dX6_setProps_1 : decode cX6_setProps 1 = .ok (.iconst 0, 1) := by decide +kernel
theorem dX6_setProps_2 : decode cX6_setProps 2 = .ok (.bipush 9, 2) := by decide +kernel
theorem dX6_setProps_4 : decode cX6_setProps 4 = .ok (.invokestatic 44, 3) := by decide +kernel
theorem dX6_setProps_7 : decode cX6_setProps 7 = .ok (.ifCond .ne 13, 3) := by decide +kernel
theorem dX6_setProps_10 : decode cX6_setProps 10 = .ok (.new 56, 3) := by decide +kernel
theorem dX6_setProps_13 : decode cX6_setProps 13 = .ok (.dup, 1) := by decide +kernel
theorem dX6_setProps_14 : decode cX6_setProps 14 = .ok (.ldc 236, 2) := by decide +kernel
theorem dX6_setProps_16 : decode cX6_setProps 16 = .ok (.invokespecial 60, 3) := by decide +kernel
theorem dX6_setProps_19 : decode cX6_setProps 19 = .ok (.athrow, 1) := by decide +kernel
theorem dX6_setProps_20 : decode cX6_setProps 20 = .ok (.aload_n 0, 1) := by decide +kernel
theorem dX6_setProps_21 : decode cX6_setProps 21 = .ok (.getfield 40, 3) := by decide +kernel
theorem dX6_setProps_24 : decode cX6_setProps 24 = .ok (.getfield 238, 3) := by decide +kernel
theorem dX6_setProps_27 : decode cX6_setProps 27 = .ok (.istore_n 2, 1) := by decide +kernel
theorem dX6_setProps_28 : decode cX6_setProps 28 = .ok (.aload_n 0, 1) := by decide +kernel
theorem dX6_setProps_29 : decode cX6_setProps 29 = .ok (.getfield 40, 3) := by decide +kernel
theorem dX6_setProps_32 : decode cX6_setProps 32 = .ok (.iload_n 1, 1) := by decide +kernel
theorem dX6_setProps_33 : decode cX6_setProps 33 = .ok (.putfield 238, 3) := by decide +kernel
theorem dX6_setProps_36 : decode cX6_setProps 36 = .ok (.aload_n 0, 1) := by decide +kernel
theorem dX6_setProps_37 : decode cX6_setProps 37 = .ok (.getfield 40, 3) := by decide +kernel
theorem dX6_setProps_40 : decode cX6_setProps 40 = .ok (.iconst 0, 1) := by decide +kernel
theorem dX6_setProps_41 : decode cX6_setProps 41 = .ok (.putfield 99, 3) := by decide +kernel
theorem dX6_setProps_44 : decode cX6_setProps 44 = .ok (.iload_n 2, 1) := by decide +kernel
theorem dX6_setProps_45 : decode cX6_setProps 45 = .ok (.ireturn, 1) := by decide +kernel
theorem dX6_raised_0 : decode cX6_raised 0 = .ok (.aload_n 0, 1) := by decide +kernel
theorem dX6_raised_1 : decode cX6_raised 1 = .ok (.iload_n 1, 1) := by decide +kernel
theorem dX6_raised_2 : decode cX6_raised 2 = .ok (.invokevirtual 241, 3) := by decide +kernel
theorem dX6_raised_5 : decode cX6_raised 5 = .ok (.aload_n 0, 1) := by decide +kernel
theorem dX6_raised_6 : decode cX6_raised 6 = .ok (.getfield 40, 3) := by decide +kernel
theorem dX6_raised_9 : decode cX6_raised 9 = .ok (.getfield 244, 3) := by decide +kernel
theorem dX6_raised_12 : decode cX6_raised 12 = .ok (.iload_n 1, 1) := by decide +kernel
theorem dX6_raised_13 : decode cX6_raised 13 = .ok (.iaload, 1) := by decide +kernel
theorem dX6_raised_14 : decode cX6_raised 14 = .ok (.ireturn, 1) := by decide +kernel
theorem dX6_canRaise_0 : decode cX6_canRaise 0 = .ok (.aload_n 0, 1) := by decide +kernel
theorem dX6_canRaise_1 : decode cX6_canRaise 1 = .ok (.getfield 40, 3) := by decide +kernel
theorem dX6_canRaise_4 : decode cX6_canRaise 4 = .ok (.aload_n 0, 1) := by decide +kernel
theorem dX6_canRaise_5 : decode cX6_canRaise 5 = .ok (.getfield 12, 3) := by decide +kernel
theorem dX6_canRaise_8 : decode cX6_canRaise 8 = .ok (.aload_n 0, 1) := by decide +kernel
theorem dX6_canRaise_9 : decode cX6_canRaise 9 = .ok (.getfield 26, 3) := by decide +kernel
theorem dX6_canRaise_12 : decode cX6_canRaise 12 = .ok (.invokevirtual 247, 3) := by decide +kernel
theorem dX6_canRaise_15 : decode cX6_canRaise 15 = .ok (.aload_n 0, 1) := by decide +kernel
theorem dX6_canRaise_16 : decode cX6_canRaise 16 = .ok (.getfield 40, 3) := by decide +kernel
theorem dX6_canRaise_19 : decode cX6_canRaise 19 = .ok (.invokevirtual 250, 3) := by decide +kernel
theorem dX6_canRaise_22 : decode cX6_canRaise 22 = .ok (.ifCond .le 7, 3) := by decide +kernel
theorem dX6_canRaise_25 : decode cX6_canRaise 25 = .ok (.iconst 1, 1) := by decide +kernel
theorem dX6_canRaise_26 : decode cX6_canRaise 26 = .ok (.goto 4, 3) := by decide +kernel
theorem dX6_canRaise_29 : decode cX6_canRaise 29 = .ok (.iconst 0, 1) := by decide +kernel
theorem dX6_canRaise_30 : decode cX6_canRaise 30 = .ok (.ireturn, 1) := by decide +kernel
theorem dX6_canTakeAway_0 : decode cX6_canTakeAway 0 = .ok (.aload_n 0, 1) := by decide +kernel
theorem dX6_canTakeAway_1 : decode cX6_canTakeAway 1 = .ok (.getfield 40, 3) := by decide +kernel
theorem dX6_canTakeAway_4 : decode cX6_canTakeAway 4 = .ok (.aload_n 0, 1) := by decide +kernel
theorem dX6_canTakeAway_5 : decode cX6_canTakeAway 5 = .ok (.getfield 12, 3) := by decide +kernel
theorem dX6_canTakeAway_8 : decode cX6_canTakeAway 8 = .ok (.aload_n 0, 1) := by decide +kernel
theorem dX6_canTakeAway_9 : decode cX6_canTakeAway 9 = .ok (.getfield 26, 3) := by decide +kernel
theorem dX6_canTakeAway_12 : decode cX6_canTakeAway 12 = .ok (.invokevirtual 247, 3) := by decide +kernel
theorem dX6_canTakeAway_15 : decode cX6_canTakeAway 15 = .ok (.aload_n 0, 1) := by decide +kernel
theorem dX6_canTakeAway_16 : decode cX6_canTakeAway 16 = .ok (.getfield 40, 3) := by decide +kernel
theorem dX6_canTakeAway_19 : decode cX6_canTakeAway 19 = .ok (.getfield 254, 3) := by decide +kernel
theorem dX6_canTakeAway_22 : decode cX6_canTakeAway 22 = .ok (.iconst 0, 1) := by decide +kernel
theorem dX6_canTakeAway_23 : decode cX6_canTakeAway 23 = .ok (.baload, 1) := by decide +kernel
theorem dX6_canTakeAway_24 : decode cX6_canTakeAway 24 = .ok (.ireturn, 1) := by decide +kernel
theorem dX6_orders_0 : decode cX6_orders 0 = .ok (.aload_n 0, 1) := by decide +kernel
theorem dX6_orders_1 : decode cX6_orders 1 = .ok (.getfield 40, 3) := by decide +kernel
theorem dX6_orders_4 : decode cX6_orders 4 = .ok (.aload_n 0, 1) := by decide +kernel
theorem dX6_orders_5 : decode cX6_orders 5 = .ok (.getfield 12, 3) := by decide +kernel
theorem dX6_orders_8 : decode cX6_orders 8 = .ok (.aload_n 0, 1) := by decide +kernel
theorem dX6_orders_9 : decode cX6_orders 9 = .ok (.getfield 26, 3) := by decide +kernel
theorem dX6_orders_12 : decode cX6_orders 12 = .ok (.invokevirtual 247, 3) := by decide +kernel
theorem dX6_orders_15 : decode cX6_orders 15 = .ok (.aload_n 0, 1) := by decide +kernel
theorem dX6_orders_16 : decode cX6_orders 16 = .ok (.getfield 40, 3) := by decide +kernel
theorem dX6_orders_19 : decode cX6_orders 19 = .ok (.invokevirtual 250, 3) := by decide +kernel
theorem dX6_orders_22 : decode cX6_orders 22 = .ok (.ireturn, 1) := by decide +kernel
theorem dX6_props_0 : decode cX6_props 0 = .ok (.aload_n 0, 1) := by decide +kernel
theorem dX6_props_1 : decode cX6_props 1 = .ok (.iload_n 1, 1) := by decide +kernel
theorem dX6_props_2 : decode cX6_props 2 = .ok (.invokevirtual 241, 3) := by decide +kernel
theorem dX6_props_5 : decode cX6_props 5 = .ok (.iconst 0, 1) := by decide +kernel
theorem dX6_props_6 : decode cX6_props 6 = .ok (.istore_n 2, 1) := by decide +kernel
theorem dX6_props_7 : decode cX6_props 7 = .ok (.iconst 0, 1) := by decide +kernel
theorem dX6_props_8 : decode cX6_props 8 = .ok (.istore_n 3, 1) := by decide +kernel
theorem dX6_props_9 : decode cX6_props 9 = .ok (.iload_n 3, 1) := by decide +kernel
theorem dX6_props_10 : decode cX6_props 10 = .ok (.iload_n 1, 1) := by decide +kernel
theorem dX6_props_11 : decode cX6_props 11 = .ok (.if_icmp .gt 23, 3) := by decide +kernel
theorem dX6_props_14 : decode cX6_props 14 = .ok (.iload_n 2, 1) := by decide +kernel
theorem dX6_props_15 : decode cX6_props 15 = .ok (.iconst 1, 1) := by decide +kernel
theorem dX6_props_16 : decode cX6_props 16 = .ok (.aload_n 0, 1) := by decide +kernel
theorem dX6_props_17 : decode cX6_props 17 = .ok (.getfield 40, 3) := by decide +kernel
theorem dX6_props_20 : decode cX6_props 20 = .ok (.getfield 244, 3) := by decide +kernel
theorem dX6_props_23 : decode cX6_props 23 = .ok (.iload_n 3, 1) := by decide +kernel
theorem dX6_props_24 : decode cX6_props 24 = .ok (.iaload, 1) := by decide +kernel
theorem dX6_props_25 : decode cX6_props 25 = .ok (.ishl, 1) := by decide +kernel
theorem dX6_props_26 : decode cX6_props 26 = .ok (.ior, 1) := by decide +kernel
theorem dX6_props_27 : decode cX6_props 27 = .ok (.istore_n 2, 1) := by decide +kernel
theorem dX6_props_28 : decode cX6_props 28 = .ok (.iinc 3 1, 3) := by decide +kernel
theorem dX6_props_31 : decode cX6_props 31 = .ok (.goto (-22), 3) := by decide +kernel
theorem dX6_props_34 : decode cX6_props 34 = .ok (.aload_n 0, 1) := by decide +kernel
theorem dX6_props_35 : decode cX6_props 35 = .ok (.getfield 40, 3) := by decide +kernel
theorem dX6_props_38 : decode cX6_props 38 = .ok (.iload_n 2, 1) := by decide +kernel
theorem dX6_props_39 : decode cX6_props 39 = .ok (.invokevirtual 258, 3) := by decide +kernel
theorem dX6_props_42 : decode cX6_props 42 = .ok (.ireturn, 1) := by decide +kernel
theorem dX6_stuck_0 : decode cX6_stuck 0 = .ok (.aload_n 0, 1) := by decide +kernel
theorem dX6_stuck_1 : decode cX6_stuck 1 = .ok (.getfield 40, 3) := by decide +kernel
theorem dX6_stuck_4 : decode cX6_stuck 4 = .ok (.aload_n 0, 1) := by decide +kernel
theorem dX6_stuck_5 : decode cX6_stuck 5 = .ok (.getfield 12, 3) := by decide +kernel
theorem dX6_stuck_8 : decode cX6_stuck 8 = .ok (.aload_n 0, 1) := by decide +kernel
theorem dX6_stuck_9 : decode cX6_stuck 9 = .ok (.getfield 26, 3) := by decide +kernel
theorem dX6_stuck_12 : decode cX6_stuck 12 = .ok (.invokevirtual 247, 3) := by decide +kernel
theorem dX6_stuck_15 : decode cX6_stuck 15 = .ok (.aload_n 0, 1) := by decide +kernel
theorem dX6_stuck_16 : decode cX6_stuck 16 = .ok (.getfield 40, 3) := by decide +kernel
theorem dX6_stuck_19 : decode cX6_stuck 19 = .ok (.invokevirtual 261, 3) := by decide +kernel
theorem dX6_stuck_22 : decode cX6_stuck 22 = .ok (.istore_n 1, 1) := by decide +kernel
theorem dX6_stuck_23 : decode cX6_stuck 23 = .ok (.iload_n 1, 1) := by decide +kernel
theorem dX6_stuck_24 : decode cX6_stuck 24 = .ok (.ifCond .ge 14, 3) := by decide +kernel
theorem dX6_stuck_27 : decode cX6_stuck 27 = .ok (.new 142, 3) := by decide +kernel
theorem dX6_stuck_30 : decode cX6_stuck 30 = .ok (.dup, 1) := by decide +kernel
theorem dX6_stuck_31 : decode cX6_stuck 31 = .ok (.ldc_w 264, 3) := by decide +kernel
theorem dX6_stuck_34 : decode cX6_stuck 34 = .ok (.invokespecial 146, 3) := by decide +kernel
theorem dX6_stuck_37 : decode cX6_stuck 37 = .ok (.athrow, 1) := by decide +kernel
theorem dX6_stuck_38 : decode cX6_stuck 38 = .ok (.iload_n 1, 1) := by decide +kernel
theorem dX6_stuck_39 : decode cX6_stuck 39 = .ok (.ireturn, 1) := by decide +kernel
theorem dX6_allForce_0 : decode cX6_allForce 0 = .ok (.aload_n 0, 1) := by decide +kernel
theorem dX6_allForce_1 : decode cX6_allForce 1 = .ok (.invokevirtual 121, 3) := by decide +kernel
theorem dX6_allForce_4 : decode cX6_allForce 4 = .ok (.lconst 0, 1) := by decide +kernel
theorem dX6_allForce_5 : decode cX6_allForce 5 = .ok (.lstore_n 1, 1) := by decide +kernel
theorem dX6_allForce_6 : decode cX6_allForce 6 = .ok (.iconst 0, 1) := by decide +kernel
theorem dX6_allForce_7 : decode cX6_allForce 7 = .ok (.istore_n 3, 1) := by decide +kernel
theorem dX6_allForce_8 : decode cX6_allForce 8 = .ok (.iload_n 3, 1) := by decide +kernel
theorem dX6_allForce_9 : decode cX6_allForce 9 = .ok (.aload_n 0, 1) := by decide +kernel
theorem dX6_allForce_10 : decode cX6_allForce 10 = .ok (.getfield 12, 3) := by decide +kernel
theorem dX6_allForce_13 : decode cX6_allForce 13 = .ok (.getfield 93, 3) := by decide +kernel
theorem dX6_allForce_16 : decode cX6_allForce 16 = .ok (.if_icmp .ge 24, 3) := by decide +kernel
theorem dX6_allForce_19 : decode cX6_allForce 19 = .ok (.lload_n 1, 1) := by decide +kernel
theorem dX6_allForce_20 : decode cX6_allForce 20 = .ok (.aload_n 0, 1) := by decide +kernel
theorem dX6_allForce_21 : decode cX6_allForce 21 = .ok (.getfield 19, 3) := by decide +kernel
theorem dX6_allForce_24 : decode cX6_allForce 24 = .ok (.getfield 124, 3) := by decide +kernel
theorem dX6_allForce_27 : decode cX6_allForce 27 = .ok (.iload_n 3, 1) := by decide +kernel
theorem dX6_allForce_28 : decode cX6_allForce 28 = .ok (.laload, 1) := by decide +kernel
theorem dX6_allForce_29 : decode cX6_allForce 29 = .ok (.invokestatic 147, 3) := by decide +kernel
theorem dX6_allForce_32 : decode cX6_allForce 32 = .ok (.ladd, 1) := by decide +kernel
theorem dX6_allForce_33 : decode cX6_allForce 33 = .ok (.lstore_n 1, 1) := by decide +kernel
theorem dX6_allForce_34 : decode cX6_allForce 34 = .ok (.iinc 3 1, 3) := by decide +kernel
theorem dX6_allForce_37 : decode cX6_allForce 37 = .ok (.goto (-29), 3) := by decide +kernel
theorem dX6_allForce_40 : decode cX6_allForce 40 = .ok (.lload_n 1, 1) := by decide +kernel
theorem dX6_allForce_41 : decode cX6_allForce 41 = .ok (.lreturn, 1) := by decide +kernel
theorem dX6_rightShare_0 : decode cX6_rightShare 0 = .ok (.aload_n 0, 1) := by decide +kernel
theorem dX6_rightShare_1 : decode cX6_rightShare 1 = .ok (.getfield 26, 3) := by decide +kernel
theorem dX6_rightShare_4 : decode cX6_rightShare 4 = .ok (.getfield 170, 3) := by decide +kernel
theorem dX6_rightShare_7 : decode cX6_rightShare 7 = .ok (.ifCond .ne 13, 3) := by decide +kernel
theorem dX6_rightShare_10 : decode cX6_rightShare 10 = .ok (.new 266, 3) := by decide +kernel
theorem dX6_rightShare_13 : decode cX6_rightShare 13 = .ok (.dup, 1) := by decide +kernel
theorem dX6_rightShare_14 : decode cX6_rightShare 14 = .ok (.ldc 206, 2) := by decide +kernel
theorem dX6_rightShare_16 : decode cX6_rightShare 16 = .ok (.invokespecial 268, 3) := by decide +kernel
theorem dX6_rightShare_19 : decode cX6_rightShare 19 = .ok (.athrow, 1) := by decide +kernel
theorem dX6_rightShare_20 : decode cX6_rightShare 20 = .ok (.iconst 0, 1) := by decide +kernel
theorem dX6_rightShare_21 : decode cX6_rightShare 21 = .ok (.istore_n 1, 1) := by decide +kernel
theorem dX6_rightShare_22 : decode cX6_rightShare 22 = .ok (.iconst 0, 1) := by decide +kernel
theorem dX6_rightShare_23 : decode cX6_rightShare 23 = .ok (.istore_n 2, 1) := by decide +kernel
theorem dX6_rightShare_24 : decode cX6_rightShare 24 = .ok (.iload_n 2, 1) := by decide +kernel
theorem dX6_rightShare_25 : decode cX6_rightShare 25 = .ok (.aload_n 0, 1) := by decide +kernel
theorem dX6_rightShare_26 : decode cX6_rightShare 26 = .ok (.getfield 26, 3) := by decide +kernel
theorem dX6_rightShare_29 : decode cX6_rightShare 29 = .ok (.getfield 170, 3) := by decide +kernel
theorem dX6_rightShare_32 : decode cX6_rightShare 32 = .ok (.if_icmp .ge 32, 3) := by decide +kernel
theorem dX6_rightShare_35 : decode cX6_rightShare 35 = .ok (.iload_n 1, 1) := by decide +kernel
theorem dX6_rightShare_36 : decode cX6_rightShare 36 = .ok (.aload_n 0, 1) := by decide +kernel
theorem dX6_rightShare_37 : decode cX6_rightShare 37 = .ok (.getfield 26, 3) := by decide +kernel
theorem dX6_rightShare_40 : decode cX6_rightShare 40 = .ok (.iload_n 2, 1) := by decide +kernel
theorem dX6_rightShare_41 : decode cX6_rightShare 41 = .ok (.aload_n 0, 1) := by decide +kernel
theorem dX6_rightShare_42 : decode cX6_rightShare 42 = .ok (.getfield 12, 3) := by decide +kernel
theorem dX6_rightShare_45 : decode cX6_rightShare 45 = .ok (.invokevirtual 182, 3) := by decide +kernel
theorem dX6_rightShare_48 : decode cX6_rightShare 48 = .ok (.ifCond .eq 7, 3) := by decide +kernel
theorem dX6_rightShare_51 : decode cX6_rightShare 51 = .ok (.iconst 1, 1) := by decide +kernel
theorem dX6_rightShare_52 : decode cX6_rightShare 52 = .ok (.goto 4, 3) := by decide +kernel
theorem dX6_rightShare_55 : decode cX6_rightShare 55 = .ok (.iconst 0, 1) := by decide +kernel
theorem dX6_rightShare_56 : decode cX6_rightShare 56 = .ok (.iadd, 1) := by decide +kernel
theorem dX6_rightShare_57 : decode cX6_rightShare 57 = .ok (.istore_n 1, 1) := by decide +kernel
theorem dX6_rightShare_58 : decode cX6_rightShare 58 = .ok (.iinc 2 1, 3) := by decide +kernel
theorem dX6_rightShare_61 : decode cX6_rightShare 61 = .ok (.goto (-37), 3) := by decide +kernel
theorem dX6_rightShare_64 : decode cX6_rightShare 64 = .ok (.iload_n 1, 1) := by decide +kernel
theorem dX6_rightShare_65 : decode cX6_rightShare 65 = .ok (.i2f, 1) := by decide +kernel
theorem dX6_rightShare_66 : decode cX6_rightShare 66 = .ok (.aload_n 0, 1) := by decide +kernel
theorem dX6_rightShare_67 : decode cX6_rightShare 67 = .ok (.getfield 26, 3) := by decide +kernel
theorem dX6_rightShare_70 : decode cX6_rightShare 70 = .ok (.getfield 170, 3) := by decide +kernel
theorem dX6_rightShare_73 : decode cX6_rightShare 73 = .ok (.i2f, 1) := by decide +kernel
theorem dX6_rightShare_74 : decode cX6_rightShare 74 = .ok (.fdiv, 1) := by decide +kernel
theorem dX6_rightShare_75 : decode cX6_rightShare 75 = .ok (.freturn, 1) := by decide +kernel
theorem dX6_meanPull_0 : decode cX6_meanPull 0 = .ok (.aload_n 0, 1) := by decide +kernel
theorem dX6_meanPull_1 : decode cX6_meanPull 1 = .ok (.invokevirtual 121, 3) := by decide +kernel
theorem dX6_meanPull_4 : decode cX6_meanPull 4 = .ok (.aload_n 0, 1) := by decide +kernel
theorem dX6_meanPull_5 : decode cX6_meanPull 5 = .ok (.getfield 12, 3) := by decide +kernel
theorem dX6_meanPull_8 : decode cX6_meanPull 8 = .ok (.getfield 93, 3) := by decide +kernel
theorem dX6_meanPull_11 : decode cX6_meanPull 11 = .ok (.ifCond .ne 13, 3) := by decide +kernel
theorem dX6_meanPull_14 : decode cX6_meanPull 14 = .ok (.new 266, 3) := by decide +kernel
theorem dX6_meanPull_17 : decode cX6_meanPull 17 = .ok (.dup, 1) := by decide +kernel
theorem dX6_meanPull_18 : decode cX6_meanPull 18 = .ok (.ldc 144, 2) := by decide +kernel
theorem dX6_meanPull_20 : decode cX6_meanPull 20 = .ok (.invokespecial 268, 3) := by decide +kernel
theorem dX6_meanPull_23 : decode cX6_meanPull 23 = .ok (.athrow, 1) := by decide +kernel
theorem dX6_meanPull_24 : decode cX6_meanPull 24 = .ok (.aload_n 0, 1) := by decide +kernel
theorem dX6_meanPull_25 : decode cX6_meanPull 25 = .ok (.getfield 19, 3) := by decide +kernel
theorem dX6_meanPull_28 : decode cX6_meanPull 28 = .ok (.aload_n 0, 1) := by decide +kernel
theorem dX6_meanPull_29 : decode cX6_meanPull 29 = .ok (.getfield 12, 3) := by decide +kernel
theorem dX6_meanPull_32 : decode cX6_meanPull 32 = .ok (.getfield 93, 3) := by decide +kernel
theorem dX6_meanPull_35 : decode cX6_meanPull 35 = .ok (.invokevirtual 269, 3) := by decide +kernel
theorem dX6_meanPull_38 : decode cX6_meanPull 38 = .ok (.aload_n 0, 1) := by decide +kernel
theorem dX6_meanPull_39 : decode cX6_meanPull 39 = .ok (.getfield 12, 3) := by decide +kernel
theorem dX6_meanPull_42 : decode cX6_meanPull 42 = .ok (.getfield 93, 3) := by decide +kernel
theorem dX6_meanPull_45 : decode cX6_meanPull 45 = .ok (.i2d, 1) := by decide +kernel
theorem dX6_meanPull_46 : decode cX6_meanPull 46 = .ok (.ddiv, 1) := by decide +kernel
theorem dX6_meanPull_47 : decode cX6_meanPull 47 = .ok (.dreturn, 1) := by decide +kernel
theorem dX6_isSound_0 : decode cX6_isSound 0 = .ok (.aload_n 0, 1) := by decide +kernel
theorem dX6_isSound_1 : decode cX6_isSound 1 = .ok (.getfield 19, 3) := by decide +kernel
theorem dX6_isSound_4 : decode cX6_isSound 4 = .ok (.aload_n 0, 1) := by decide +kernel
theorem dX6_isSound_5 : decode cX6_isSound 5 = .ok (.getfield 12, 3) := by decide +kernel
theorem dX6_isSound_8 : decode cX6_isSound 8 = .ok (.invokevirtual 110, 3) := by decide +kernel
theorem dX6_isSound_11 : decode cX6_isSound 11 = .ok (.aload_n 0, 1) := by decide +kernel
theorem dX6_isSound_12 : decode cX6_isSound 12 = .ok (.getfield 19, 3) := by decide +kernel
theorem dX6_isSound_15 : decode cX6_isSound 15 = .ok (.getfield 114, 3) := by decide +kernel
theorem dX6_isSound_18 : decode cX6_isSound 18 = .ok (.bipush 46, 2) := by decide +kernel
theorem dX6_isSound_20 : decode cX6_isSound 20 = .ok (.if_icmp .ne 34, 3) := by decide +kernel
theorem dX6_isSound_23 : decode cX6_isSound 23 = .ok (.iconst 0, 1) := by decide +kernel
theorem dX6_isSound_24 : decode cX6_isSound 24 = .ok (.istore_n 1, 1) := by decide +kernel
theorem dX6_isSound_25 : decode cX6_isSound 25 = .ok (.iload_n 1, 1) := by decide +kernel
theorem dX6_isSound_26 : decode cX6_isSound 26 = .ok (.bipush 30, 2) := by decide +kernel
theorem dX6_isSound_28 : decode cX6_isSound 28 = .ok (.if_icmp .gt 26, 3) := by decide +kernel
theorem dX6_isSound_31 : decode cX6_isSound 31 = .ok (.aload_n 0, 1) := by decide +kernel
theorem dX6_isSound_32 : decode cX6_isSound 32 = .ok (.getfield 19, 3) := by decide +kernel
theorem dX6_isSound_35 : decode cX6_isSound 35 = .ok (.aload_n 0, 1) := by decide +kernel
theorem dX6_isSound_36 : decode cX6_isSound 36 = .ok (.getfield 12, 3) := by decide +kernel
theorem dX6_isSound_39 : decode cX6_isSound 39 = .ok (.iload_n 1, 1) := by decide +kernel
theorem dX6_isSound_40 : decode cX6_isSound 40 = .ok (.invokevirtual 138, 3) := by decide +kernel
theorem dX6_isSound_43 : decode cX6_isSound 43 = .ok (.ifCond .ne 5, 3) := by decide +kernel
theorem dX6_isSound_46 : decode cX6_isSound 46 = .ok (.iconst 0, 1) := by decide +kernel
theorem dX6_isSound_47 : decode cX6_isSound 47 = .ok (.ireturn, 1) := by decide +kernel
theorem dX6_isSound_48 : decode cX6_isSound 48 = .ok (.iinc 1 1, 3) := by decide +kernel
theorem dX6_isSound_51 : decode cX6_isSound 51 = .ok (.goto (-26), 3) := by decide +kernel
theorem dX6_isSound_54 : decode cX6_isSound 54 = .ok (.aload_n 0, 1) := by decide +kernel
theorem dX6_isSound_55 : decode cX6_isSound 55 = .ok (.invokevirtual 273, 3) := by decide +kernel
theorem dX6_isSound_58 : decode cX6_isSound 58 = .ok (.aload_n 0, 1) := by decide +kernel
theorem dX6_isSound_59 : decode cX6_isSound 59 = .ok (.invokevirtual 277, 3) := by decide +kernel
theorem dX6_isSound_62 : decode cX6_isSound 62 = .ok (.if_icmp .ne 7, 3) := by decide +kernel
theorem dX6_isSound_65 : decode cX6_isSound 65 = .ok (.iconst 1, 1) := by decide +kernel
theorem dX6_isSound_66 : decode cX6_isSound 66 = .ok (.goto 4, 3) := by decide +kernel
theorem dX6_isSound_69 : decode cX6_isSound 69 = .ok (.iconst 0, 1) := by decide +kernel
theorem dX6_isSound_70 : decode cX6_isSound 70 = .ok (.ireturn, 1) := by decide +kernel
theorem dX6_isWithin_0 : decode cX6_isWithin 0 = .ok (.iload_n 0, 1) := by decide +kernel
theorem dX6_isWithin_1 : decode cX6_isWithin 1 = .ok (.iload_n 1, 1) := by decide +kernel
theorem dX6_isWithin_2 : decode cX6_isWithin 2 = .ok (.if_icmp .lt 12, 3) := by decide +kernel
theorem dX6_isWithin_5 : decode cX6_isWithin 5 = .ok (.iload_n 0, 1) := by decide +kernel
theorem dX6_isWithin_6 : decode cX6_isWithin 6 = .ok (.iload_n 2, 1) := by decide +kernel
theorem dX6_isWithin_7 : decode cX6_isWithin 7 = .ok (.if_icmp .gt 7, 3) := by decide +kernel
theorem dX6_isWithin_10 : decode cX6_isWithin 10 = .ok (.iconst 1, 1) := by decide +kernel
theorem dX6_isWithin_11 : decode cX6_isWithin 11 = .ok (.goto 4, 3) := by decide +kernel
theorem dX6_isWithin_14 : decode cX6_isWithin 14 = .ok (.iconst 0, 1) := by decide +kernel
theorem dX6_isWithin_15 : decode cX6_isWithin 15 = .ok (.ireturn, 1) := by decide +kernel
theorem dX6_isSection_0 : decode cX6_isSection 0 = .ok (.iload_n 0, 1) := by decide +kernel
theorem dX6_isSection_1 : decode cX6_isSection 1 = .ok (.bipush 6, 2) := by decide +kernel
theorem dX6_isSection_3 : decode cX6_isSection 3 = .ok (.bipush 40, 2) := by decide +kernel
theorem dX6_isSection_5 : decode cX6_isSection 5 = .ok (.invokestatic 44, 3) := by decide +kernel
theorem dX6_isSection_8 : decode cX6_isSection 8 = .ok (.ifCond .eq 16, 3) := by decide +kernel
theorem dX6_isSection_11 : decode cX6_isSection 11 = .ok (.iload_n 1, 1) := by decide +kernel
theorem dX6_isSection_12 : decode cX6_isSection 12 = .ok (.iconst 0, 1) := by decide +kernel
theorem dX6_isSection_13 : decode cX6_isSection 13 = .ok (.iconst 3, 1) := by decide +kernel
theorem dX6_isSection_14 : decode cX6_isSection 14 = .ok (.invokestatic 44, 3) := by decide +kernel
theorem dX6_isSection_17 : decode cX6_isSection 17 = .ok (.ifCond .eq 7, 3) := by decide +kernel
theorem dX6_isSection_20 : decode cX6_isSection 20 = .ok (.iconst 1, 1) := by decide +kernel
theorem dX6_isSection_21 : decode cX6_isSection 21 = .ok (.goto 4, 3) := by decide +kernel
theorem dX6_isSection_24 : decode cX6_isSection 24 = .ok (.iconst 0, 1) := by decide +kernel
theorem dX6_isSection_25 : decode cX6_isSection 25 = .ok (.ireturn, 1) := by decide +kernel
theorem dX6_checkNode_0 : decode cX6_checkNode 0 = .ok (.iload_n 1, 1) := by decide +kernel
theorem dX6_checkNode_1 : decode cX6_checkNode 1 = .ok (.ifCond .lt 14, 3) := by decide +kernel
theorem dX6_checkNode_4 : decode cX6_checkNode 4 = .ok (.iload_n 1, 1) := by decide +kernel
theorem dX6_checkNode_5 : decode cX6_checkNode 5 = .ok (.aload_n 0, 1) := by decide +kernel
theorem dX6_checkNode_6 : decode cX6_checkNode 6 = .ok (.getfield 12, 3) := by decide +kernel
theorem dX6_checkNode_9 : decode cX6_checkNode 9 = .ok (.getfield 63, 3) := by decide +kernel
theorem dX6_checkNode_12 : decode cX6_checkNode 12 = .ok (.if_icmp .lt 14, 3) := by decide +kernel
theorem dX6_checkNode_15 : decode cX6_checkNode 15 = .ok (.new 228, 3) := by decide +kernel
theorem dX6_checkNode_18 : decode cX6_checkNode 18 = .ok (.dup, 1) := by decide +kernel
theorem dX6_checkNode_19 : decode cX6_checkNode 19 = .ok (.ldc_w 280, 3) := by decide +kernel
theorem dX6_checkNode_22 : decode cX6_checkNode 22 = .ok (.invokespecial 232, 3) := by decide +kernel
theorem dX6_checkNode_25 : decode cX6_checkNode 25 = .ok (.athrow, 1) := by decide +kernel
theorem dX6_checkNode_26 : decode cX6_checkNode 26 = .ok (.return_, 1) := by decide +kernel
theorem dX6_checkMember_0 : decode cX6_checkMember 0 = .ok (.iload_n 1, 1) := by decide +kernel
theorem dX6_checkMember_1 : decode cX6_checkMember 1 = .ok (.ifCond .lt 14, 3) := by decide +kernel
theorem dX6_checkMember_4 : decode cX6_checkMember 4 = .ok (.iload_n 1, 1) := by decide +kernel
theorem dX6_checkMember_5 : decode cX6_checkMember 5 = .ok (.aload_n 0, 1) := by decide +kernel
theorem dX6_checkMember_6 : decode cX6_checkMember 6 = .ok (.getfield 12, 3) := by decide +kernel
theorem dX6_checkMember_9 : decode cX6_checkMember 9 = .ok (.getfield 93, 3) := by decide +kernel
theorem dX6_checkMember_12 : decode cX6_checkMember 12 = .ok (.if_icmp .lt 14, 3) := by decide +kernel
theorem dX6_checkMember_15 : decode cX6_checkMember 15 = .ok (.new 228, 3) := by decide +kernel
theorem dX6_checkMember_18 : decode cX6_checkMember 18 = .ok (.dup, 1) := by decide +kernel
theorem dX6_checkMember_19 : decode cX6_checkMember 19 = .ok (.ldc_w 282, 3) := by decide +kernel
theorem dX6_checkMember_22 : decode cX6_checkMember 22 = .ok (.invokespecial 232, 3) := by decide +kernel
theorem dX6_checkMember_25 : decode cX6_checkMember 25 = .ok (.athrow, 1) := by decide +kernel
theorem dX6_checkMember_26 : decode cX6_checkMember 26 = .ok (.return_, 1) := by decide +kernel
theorem dX6_checkJoint_0 : decode cX6_checkJoint 0 = .ok (.iload_n 1, 1) := by decide +kernel
theorem dX6_checkJoint_1 : decode cX6_checkJoint 1 = .ok (.ifCond .lt 14, 3) := by decide +kernel
theorem dX6_checkJoint_4 : decode cX6_checkJoint 4 = .ok (.iload_n 1, 1) := by decide +kernel
theorem dX6_checkJoint_5 : decode cX6_checkJoint 5 = .ok (.aload_n 0, 1) := by decide +kernel
theorem dX6_checkJoint_6 : decode cX6_checkJoint 6 = .ok (.getfield 26, 3) := by decide +kernel
theorem dX6_checkJoint_9 : decode cX6_checkJoint 9 = .ok (.getfield 170, 3) := by decide +kernel
theorem dX6_checkJoint_12 : decode cX6_checkJoint 12 = .ok (.if_icmp .lt 14, 3) := by decide +kernel
theorem dX6_checkJoint_15 : decode cX6_checkJoint 15 = .ok (.new 228, 3) := by decide +kernel
theorem dX6_checkJoint_18 : decode cX6_checkJoint 18 = .ok (.dup, 1) := by decide +kernel
theorem dX6_checkJoint_19 : decode cX6_checkJoint 19 = .ok (.ldc_w 284, 3) := by decide +kernel
theorem dX6_checkJoint_22 : decode cX6_checkJoint 22 = .ok (.invokespecial 232, 3) := by decide +kernel
theorem dX6_checkJoint_25 : decode cX6_checkJoint 25 = .ok (.athrow, 1) := by decide +kernel
theorem dX6_checkJoint_26 : decode cX6_checkJoint 26 = .ok (.return_, 1) := by decide +kernel
theorem dX6_checkMoisture_0 : decode cX6_checkMoisture 0 = .ok (.iload_n 1, 1) := by decide +kernel
theorem dX6_checkMoisture_1 : decode cX6_checkMoisture 1 = .ok (.bipush 10, 2) := by decide +kernel
theorem dX6_checkMoisture_3 : decode cX6_checkMoisture 3 = .ok (.bipush 60, 2) := by decide +kernel
theorem dX6_checkMoisture_5 : decode cX6_checkMoisture 5 = .ok (.invokestatic 44, 3) := by decide +kernel
theorem dX6_checkMoisture_8 : decode cX6_checkMoisture 8 = .ok (.ifCond .ne 14, 3) := by decide +kernel
theorem dX6_checkMoisture_11 : decode cX6_checkMoisture 11 = .ok (.new 56, 3) := by decide +kernel
theorem dX6_checkMoisture_14 : decode cX6_checkMoisture 14 = .ok (.dup, 1) := by decide +kernel
theorem dX6_checkMoisture_15 : decode cX6_checkMoisture 15 = .ok (.ldc_w 286, 3) := by decide +kernel
theorem dX6_checkMoisture_18 : decode cX6_checkMoisture 18 = .ok (.invokespecial 60, 3) := by decide +kernel
theorem dX6_checkMoisture_21 : decode cX6_checkMoisture 21 = .ok (.athrow, 1) := by decide +kernel
theorem dX6_checkMoisture_22 : decode cX6_checkMoisture 22 = .ok (.return_, 1) := by decide +kernel
theorem dX6_checkStanding_0 : decode cX6_checkStanding 0 = .ok (.aload_n 0, 1) := by decide +kernel
theorem dX6_checkStanding_1 : decode cX6_checkStanding 1 = .ok (.getfield 19, 3) := by decide +kernel
theorem dX6_checkStanding_4 : decode cX6_checkStanding 4 = .ok (.aload_n 0, 1) := by decide +kernel
theorem dX6_checkStanding_5 : decode cX6_checkStanding 5 = .ok (.getfield 12, 3) := by decide +kernel
theorem dX6_checkStanding_8 : decode cX6_checkStanding 8 = .ok (.invokevirtual 110, 3) := by decide +kernel
theorem dX6_checkStanding_11 : decode cX6_checkStanding 11 = .ok (.aload_n 0, 1) := by decide +kernel
theorem dX6_checkStanding_12 : decode cX6_checkStanding 12 = .ok (.getfield 19, 3) := by decide +kernel
theorem dX6_checkStanding_15 : decode cX6_checkStanding 15 = .ok (.getfield 114, 3) := by decide +kernel
theorem dX6_checkStanding_18 : decode cX6_checkStanding 18 = .ok (.bipush 46, 2) := by decide +kernel
theorem dX6_checkStanding_20 : decode cX6_checkStanding 20 = .ok (.if_icmp .eq 14, 3) := by decide +kernel
theorem dX6_checkStanding_23 : decode cX6_checkStanding 23 = .ok (.new 67, 3) := by decide +kernel
theorem dX6_checkStanding_26 : decode cX6_checkStanding 26 = .ok (.dup, 1) := by decide +kernel
theorem dX6_checkStanding_27 : decode cX6_checkStanding 27 = .ok (.ldc_w 288, 3) := by decide +kernel
theorem dX6_checkStanding_30 : decode cX6_checkStanding 30 = .ok (.invokespecial 71, 3) := by decide +kernel
theorem dX6_checkStanding_33 : decode cX6_checkStanding 33 = .ok (.athrow, 1) := by decide +kernel
theorem dX6_checkStanding_34 : decode cX6_checkStanding 34 = .ok (.return_, 1) := by decide +kernel
theorem dX6_checkCut_0 : decode cX6_checkCut 0 = .ok (.aload_n 0, 1) := by decide +kernel
theorem dX6_checkCut_1 : decode cX6_checkCut 1 = .ok (.getfield 33, 3) := by decide +kernel
theorem dX6_checkCut_4 : decode cX6_checkCut 4 = .ok (.aload_n 0, 1) := by decide +kernel
theorem dX6_checkCut_5 : decode cX6_checkCut 5 = .ok (.getfield 12, 3) := by decide +kernel
theorem dX6_checkCut_8 : decode cX6_checkCut 8 = .ok (.aload_n 0, 1) := by decide +kernel
theorem dX6_checkCut_9 : decode cX6_checkCut 9 = .ok (.getfield 26, 3) := by decide +kernel
theorem dX6_checkCut_12 : decode cX6_checkCut 12 = .ok (.invokevirtual 290, 3) := by decide +kernel
theorem dX6_checkCut_15 : decode cX6_checkCut 15 = .ok (.aload_n 0, 1) := by decide +kernel
theorem dX6_checkCut_16 : decode cX6_checkCut 16 = .ok (.getfield 33, 3) := by decide +kernel
theorem dX6_checkCut_19 : decode cX6_checkCut 19 = .ok (.getfield 291, 3) := by decide +kernel
theorem dX6_checkCut_22 : decode cX6_checkCut 22 = .ok (.ifCond .ne 14, 3) := by decide +kernel
theorem dX6_checkCut_25 : decode cX6_checkCut 25 = .ok (.new 142, 3) := by decide +kernel
theorem dX6_checkCut_28 : decode cX6_checkCut 28 = .ok (.dup, 1) := by decide +kernel
theorem dX6_checkCut_29 : decode cX6_checkCut 29 = .ok (.ldc_w 294, 3) := by decide +kernel
theorem dX6_checkCut_32 : decode cX6_checkCut 32 = .ok (.invokespecial 146, 3) := by decide +kernel
theorem dX6_checkCut_35 : decode cX6_checkCut 35 = .ok (.athrow, 1) := by decide +kernel
theorem dX6_checkCut_36 : decode cX6_checkCut 36 = .ok (.return_, 1) := by decide +kernel
theorem dX6_checkPlaceInOrder_0 : decode cX6_checkPlaceInOrder 0 = .ok (.aload_n 0, 1) := by decide +kernel
theorem dX6_checkPlaceInOrder_1 : decode cX6_checkPlaceInOrder 1 = .ok (.getfield 40, 3) := by decide +kernel
theorem dX6_checkPlaceInOrder_4 : decode cX6_checkPlaceInOrder 4 = .ok (.aload_n 0, 1) := by decide +kernel
theorem dX6_checkPlaceInOrder_5 : decode cX6_checkPlaceInOrder 5 = .ok (.getfield 12, 3) := by decide +kernel
theorem dX6_checkPlaceInOrder_8 : decode cX6_checkPlaceInOrder 8 = .ok (.aload_n 0, 1) := by decide +kernel
theorem dX6_checkPlaceInOrder_9 : decode cX6_checkPlaceInOrder 9 = .ok (.getfield 26, 3) := by decide +kernel
theorem dX6_checkPlaceInOrder_12 : decode cX6_checkPlaceInOrder 12 = .ok (.invokevirtual 247, 3) := by decide +kernel
theorem dX6_checkPlaceInOrder_15 : decode cX6_checkPlaceInOrder 15 = .ok (.aload_n 0, 1) := by decide +kernel
theorem dX6_checkPlaceInOrder_16 : decode cX6_checkPlaceInOrder 16 = .ok (.getfield 40, 3) := by decide +kernel
theorem dX6_checkPlaceInOrder_19 : decode cX6_checkPlaceInOrder 19 = .ok (.invokevirtual 250, 3) := by decide +kernel
theorem dX6_checkPlaceInOrder_22 : decode cX6_checkPlaceInOrder 22 = .ok (.ifCond .ne 14, 3) := by decide +kernel
theorem dX6_checkPlaceInOrder_25 : decode cX6_checkPlaceInOrder 25 = .ok (.new 142, 3) := by decide +kernel
theorem dX6_checkPlaceInOrder_28 : decode cX6_checkPlaceInOrder 28 = .ok (.dup, 1) := by decide +kernel
theorem dX6_checkPlaceInOrder_29 : decode cX6_checkPlaceInOrder 29 = .ok (.ldc_w 296, 3) := by decide +kernel
theorem dX6_checkPlaceInOrder_32 : decode cX6_checkPlaceInOrder 32 = .ok (.invokespecial 146, 3) := by decide +kernel
theorem dX6_checkPlaceInOrder_35 : decode cX6_checkPlaceInOrder 35 = .ok (.athrow, 1) := by decide +kernel
theorem dX6_checkPlaceInOrder_36 : decode cX6_checkPlaceInOrder 36 = .ok (.iload_n 1, 1) := by decide +kernel
theorem dX6_checkPlaceInOrder_37 : decode cX6_checkPlaceInOrder 37 = .ok (.ifCond .lt 14, 3) := by decide +kernel
theorem dX6_checkPlaceInOrder_40 : decode cX6_checkPlaceInOrder 40 = .ok (.iload_n 1, 1) := by decide +kernel
theorem dX6_checkPlaceInOrder_41 : decode cX6_checkPlaceInOrder 41 = .ok (.aload_n 0, 1) := by decide +kernel
theorem dX6_checkPlaceInOrder_42 : decode cX6_checkPlaceInOrder 42 = .ok (.getfield 12, 3) := by decide +kernel
theorem dX6_checkPlaceInOrder_45 : decode cX6_checkPlaceInOrder 45 = .ok (.getfield 93, 3) := by decide +kernel
theorem dX6_checkPlaceInOrder_48 : decode cX6_checkPlaceInOrder 48 = .ok (.if_icmp .lt 14, 3) := by decide +kernel
theorem dX6_checkPlaceInOrder_51 : decode cX6_checkPlaceInOrder 51 = .ok (.new 228, 3) := by decide +kernel
theorem dX6_checkPlaceInOrder_54 : decode cX6_checkPlaceInOrder 54 = .ok (.dup, 1) := by decide +kernel
theorem dX6_checkPlaceInOrder_55 : decode cX6_checkPlaceInOrder 55 = .ok (.ldc_w 298, 3) := by decide +kernel
theorem dX6_checkPlaceInOrder_58 : decode cX6_checkPlaceInOrder 58 = .ok (.invokespecial 232, 3) := by decide +kernel
theorem dX6_checkPlaceInOrder_61 : decode cX6_checkPlaceInOrder 61 = .ok (.athrow, 1) := by decide +kernel
theorem dX6_checkPlaceInOrder_62 : decode cX6_checkPlaceInOrder 62 = .ok (.return_, 1) := by decide +kernel
theorem dJx00060_init_a7421_0 : decode cJx00060_init_a7421 0 = .ok (.aload_n 0, 1) := by decide +kernel
theorem dJx00060_init_a7421_1 : decode cJx00060_init_a7421 1 = .ok (.aload_n 1, 1) := by decide +kernel
theorem dJx00060_init_a7421_2 : decode cJx00060_init_a7421 2 = .ok (.invokespecial 7, 3) := by decide +kernel
theorem dJx00060_init_a7421_5 : decode cJx00060_init_a7421 5 = .ok (.return_, 1) := by decide +kernel
theorem dJ11_isValidCodePoint_9a6ad_0 : decode cJ11_isValidCodePoint_9a6ad 0 = .ok (.iload_n 0, 1) := by decide +kernel
theorem dJ11_isValidCodePoint_9a6ad_1 : decode cJ11_isValidCodePoint_9a6ad 1 = .ok (.bipush 16, 2) := by decide +kernel
theorem dJ11_isValidCodePoint_9a6ad_3 : decode cJ11_isValidCodePoint_9a6ad 3 = .ok (.iushr, 1) := by decide +kernel
theorem dJ11_isValidCodePoint_9a6ad_4 : decode cJ11_isValidCodePoint_9a6ad 4 = .ok (.istore_n 1, 1) := by decide +kernel
theorem dJ11_isValidCodePoint_9a6ad_5 : decode cJ11_isValidCodePoint_9a6ad 5 = .ok (.iload_n 1, 1) := by decide +kernel
theorem dJ11_isValidCodePoint_9a6ad_6 : decode cJ11_isValidCodePoint_9a6ad 6 = .ok (.bipush 17, 2) := by decide +kernel
theorem dJ11_isValidCodePoint_9a6ad_8 : decode cJ11_isValidCodePoint_9a6ad 8 = .ok (.if_icmp .ge 7, 3) := by decide +kernel
theorem dJ11_isValidCodePoint_9a6ad_11 : decode cJ11_isValidCodePoint_9a6ad 11 = .ok (.iconst 1, 1) := by decide +kernel
theorem dJ11_isValidCodePoint_9a6ad_12 : decode cJ11_isValidCodePoint_9a6ad 12 = .ok (.goto 4, 3) := by decide +kernel
theorem dJ11_isValidCodePoint_9a6ad_15 : decode cJ11_isValidCodePoint_9a6ad 15 = .ok (.iconst 0, 1) := by decide +kernel
theorem dJ11_isValidCodePoint_9a6ad_16 : decode cJ11_isValidCodePoint_9a6ad 16 = .ok (.ireturn, 1) := by decide +kernel
theorem dJ11_highSurrogate_5068e_0 : decode cJ11_highSurrogate_5068e 0 = .ok (.iload_n 0, 1) := by decide +kernel
theorem dJ11_highSurrogate_5068e_1 : decode cJ11_highSurrogate_5068e 1 = .ok (.bipush 10, 2) := by decide +kernel
theorem dJ11_highSurrogate_5068e_3 : decode cJ11_highSurrogate_5068e 3 = .ok (.iushr, 1) := by decide +kernel
theorem dJ11_highSurrogate_5068e_4 : decode cJ11_highSurrogate_5068e 4 = .ok (.ldc 110, 2) := by decide +kernel
theorem dJ11_highSurrogate_5068e_6 : decode cJ11_highSurrogate_5068e 6 = .ok (.iadd, 1) := by decide +kernel
theorem dJ11_highSurrogate_5068e_7 : decode cJ11_highSurrogate_5068e 7 = .ok (.i2c, 1) := by decide +kernel
theorem dJ11_highSurrogate_5068e_8 : decode cJ11_highSurrogate_5068e 8 = .ok (.ireturn, 1) := by decide +kernel
theorem dJ11_lowSurrogate_5068e_0 : decode cJ11_lowSurrogate_5068e 0 = .ok (.iload_n 0, 1) := by decide +kernel
theorem dJ11_lowSurrogate_5068e_1 : decode cJ11_lowSurrogate_5068e 1 = .ok (.sipush 1023, 3) := by decide +kernel
theorem dJ11_lowSurrogate_5068e_4 : decode cJ11_lowSurrogate_5068e 4 = .ok (.iand, 1) := by decide +kernel
theorem dJ11_lowSurrogate_5068e_5 : decode cJ11_lowSurrogate_5068e 5 = .ok (.ldc 76, 2) := by decide +kernel
theorem dJ11_lowSurrogate_5068e_7 : decode cJ11_lowSurrogate_5068e 7 = .ok (.iadd, 1) := by decide +kernel
theorem dJ11_lowSurrogate_5068e_8 : decode cJ11_lowSurrogate_5068e 8 = .ok (.i2c, 1) := by decide +kernel
theorem dJ11_lowSurrogate_5068e_9 : decode cJ11_lowSurrogate_5068e 9 = .ok (.ireturn, 1) := by decide +kernel
theorem dJ6_bitCount_0f7a4_0 : decode cJ6_bitCount_0f7a4 0 = .ok (.iload_n 0, 1) := by decide +kernel
theorem dJ6_bitCount_0f7a4_1 : decode cJ6_bitCount_0f7a4 1 = .ok (.iload_n 0, 1) := by decide +kernel
theorem dJ6_bitCount_0f7a4_2 : decode cJ6_bitCount_0f7a4 2 = .ok (.iconst 1, 1) := by decide +kernel
theorem dJ6_bitCount_0f7a4_3 : decode cJ6_bitCount_0f7a4 3 = .ok (.iushr, 1) := by decide +kernel
theorem dJ6_bitCount_0f7a4_4 : decode cJ6_bitCount_0f7a4 4 = .ok (.ldc_w 265, 3) := by decide +kernel
theorem dJ6_bitCount_0f7a4_7 : decode cJ6_bitCount_0f7a4 7 = .ok (.iand, 1) := by decide +kernel
theorem dJ6_bitCount_0f7a4_8 : decode cJ6_bitCount_0f7a4 8 = .ok (.isub, 1) := by decide +kernel
theorem dJ6_bitCount_0f7a4_9 : decode cJ6_bitCount_0f7a4 9 = .ok (.istore_n 0, 1) := by decide +kernel
theorem dJ6_bitCount_0f7a4_10 : decode cJ6_bitCount_0f7a4 10 = .ok (.iload_n 0, 1) := by decide +kernel
theorem dJ6_bitCount_0f7a4_11 : decode cJ6_bitCount_0f7a4 11 = .ok (.ldc_w 266, 3) := by decide +kernel
theorem dJ6_bitCount_0f7a4_14 : decode cJ6_bitCount_0f7a4 14 = .ok (.iand, 1) := by decide +kernel
theorem dJ6_bitCount_0f7a4_15 : decode cJ6_bitCount_0f7a4 15 = .ok (.iload_n 0, 1) := by decide +kernel
theorem dJ6_bitCount_0f7a4_16 : decode cJ6_bitCount_0f7a4 16 = .ok (.iconst 2, 1) := by decide +kernel
theorem dJ6_bitCount_0f7a4_17 : decode cJ6_bitCount_0f7a4 17 = .ok (.iushr, 1) := by decide +kernel
theorem dJ6_bitCount_0f7a4_18 : decode cJ6_bitCount_0f7a4 18 = .ok (.ldc_w 266, 3) := by decide +kernel
theorem dJ6_bitCount_0f7a4_21 : decode cJ6_bitCount_0f7a4 21 = .ok (.iand, 1) := by decide +kernel
theorem dJ6_bitCount_0f7a4_22 : decode cJ6_bitCount_0f7a4 22 = .ok (.iadd, 1) := by decide +kernel
theorem dJ6_bitCount_0f7a4_23 : decode cJ6_bitCount_0f7a4 23 = .ok (.istore_n 0, 1) := by decide +kernel
theorem dJ6_bitCount_0f7a4_24 : decode cJ6_bitCount_0f7a4 24 = .ok (.iload_n 0, 1) := by decide +kernel
theorem dJ6_bitCount_0f7a4_25 : decode cJ6_bitCount_0f7a4 25 = .ok (.iload_n 0, 1) := by decide +kernel
theorem dJ6_bitCount_0f7a4_26 : decode cJ6_bitCount_0f7a4 26 = .ok (.iconst 4, 1) := by decide +kernel
theorem dJ6_bitCount_0f7a4_27 : decode cJ6_bitCount_0f7a4 27 = .ok (.iushr, 1) := by decide +kernel
theorem dJ6_bitCount_0f7a4_28 : decode cJ6_bitCount_0f7a4 28 = .ok (.iadd, 1) := by decide +kernel
theorem dJ6_bitCount_0f7a4_29 : decode cJ6_bitCount_0f7a4 29 = .ok (.ldc_w 267, 3) := by decide +kernel
theorem dJ6_bitCount_0f7a4_32 : decode cJ6_bitCount_0f7a4 32 = .ok (.iand, 1) := by decide +kernel
theorem dJ6_bitCount_0f7a4_33 : decode cJ6_bitCount_0f7a4 33 = .ok (.istore_n 0, 1) := by decide +kernel
theorem dJ6_bitCount_0f7a4_34 : decode cJ6_bitCount_0f7a4 34 = .ok (.iload_n 0, 1) := by decide +kernel
theorem dJ6_bitCount_0f7a4_35 : decode cJ6_bitCount_0f7a4 35 = .ok (.iload_n 0, 1) := by decide +kernel
theorem dJ6_bitCount_0f7a4_36 : decode cJ6_bitCount_0f7a4 36 = .ok (.bipush 8, 2) := by decide +kernel
theorem dJ6_bitCount_0f7a4_38 : decode cJ6_bitCount_0f7a4 38 = .ok (.iushr, 1) := by decide +kernel
theorem dJ6_bitCount_0f7a4_39 : decode cJ6_bitCount_0f7a4 39 = .ok (.iadd, 1) := by decide +kernel
theorem dJ6_bitCount_0f7a4_40 : decode cJ6_bitCount_0f7a4 40 = .ok (.istore_n 0, 1) := by decide +kernel
theorem dJ6_bitCount_0f7a4_41 : decode cJ6_bitCount_0f7a4 41 = .ok (.iload_n 0, 1) := by decide +kernel
theorem dJ6_bitCount_0f7a4_42 : decode cJ6_bitCount_0f7a4 42 = .ok (.iload_n 0, 1) := by decide +kernel
theorem dJ6_bitCount_0f7a4_43 : decode cJ6_bitCount_0f7a4 43 = .ok (.bipush 16, 2) := by decide +kernel
theorem dJ6_bitCount_0f7a4_45 : decode cJ6_bitCount_0f7a4 45 = .ok (.iushr, 1) := by decide +kernel
theorem dJ6_bitCount_0f7a4_46 : decode cJ6_bitCount_0f7a4 46 = .ok (.iadd, 1) := by decide +kernel
theorem dJ6_bitCount_0f7a4_47 : decode cJ6_bitCount_0f7a4 47 = .ok (.istore_n 0, 1) := by decide +kernel
theorem dJ6_bitCount_0f7a4_48 : decode cJ6_bitCount_0f7a4 48 = .ok (.iload_n 0, 1) := by decide +kernel
theorem dJ6_bitCount_0f7a4_49 : decode cJ6_bitCount_0f7a4 49 = .ok (.bipush 63, 2) := by decide +kernel
theorem dJ6_bitCount_0f7a4_51 : decode cJ6_bitCount_0f7a4 51 = .ok (.iand, 1) := by decide +kernel
theorem dJ6_bitCount_0f7a4_52 : decode cJ6_bitCount_0f7a4 52 = .ok (.ireturn, 1) := by decide +kernel
theorem dJ9_floorDiv_f86c9_0 : decode cJ9_floorDiv_f86c9 0 = .ok (.lload_n 0, 1) := by decide +kernel
theorem dJ9_floorDiv_f86c9_1 : decode cJ9_floorDiv_f86c9 1 = .ok (.lload_n 2, 1) := by decide +kernel
theorem dJ9_floorDiv_f86c9_2 : decode cJ9_floorDiv_f86c9 2 = .ok (.ldiv, 1) := by decide +kernel
theorem dJ9_floorDiv_f86c9_3 : decode cJ9_floorDiv_f86c9 3 = .ok (.lstore 4, 2) := by decide +kernel
theorem dJ9_floorDiv_f86c9_5 : decode cJ9_floorDiv_f86c9 5 = .ok (.lload_n 0, 1) := by decide +kernel
theorem dJ9_floorDiv_f86c9_6 : decode cJ9_floorDiv_f86c9 6 = .ok (.lload_n 2, 1) := by decide +kernel
theorem dJ9_floorDiv_f86c9_7 : decode cJ9_floorDiv_f86c9 7 = .ok (.lxor, 1) := by decide +kernel
theorem dJ9_floorDiv_f86c9_8 : decode cJ9_floorDiv_f86c9 8 = .ok (.lconst 0, 1) := by decide +kernel
theorem dJ9_floorDiv_f86c9_9 : decode cJ9_floorDiv_f86c9 9 = .ok (.lcmp, 1) := by decide +kernel
theorem dJ9_floorDiv_f86c9_10 : decode cJ9_floorDiv_f86c9 10 = .ok (.ifCond .ge 17, 3) := by decide +kernel
theorem dJ9_floorDiv_f86c9_13 : decode cJ9_floorDiv_f86c9 13 = .ok (.lload 4, 2) := by decide +kernel
theorem dJ9_floorDiv_f86c9_15 : decode cJ9_floorDiv_f86c9 15 = .ok (.lload_n 2, 1) := by decide +kernel
theorem dJ9_floorDiv_f86c9_16 : decode cJ9_floorDiv_f86c9 16 = .ok (.lmul, 1) := by decide +kernel
theorem dJ9_floorDiv_f86c9_17 : decode cJ9_floorDiv_f86c9 17 = .ok (.lload_n 0, 1) := by decide +kernel
theorem dJ9_floorDiv_f86c9_18 : decode cJ9_floorDiv_f86c9 18 = .ok (.lcmp, 1) := by decide +kernel
theorem dJ9_floorDiv_f86c9_19 : decode cJ9_floorDiv_f86c9 19 = .ok (.ifCond .eq 8, 3) := by decide +kernel
theorem dJ9_floorDiv_f86c9_22 : decode cJ9_floorDiv_f86c9 22 = .ok (.lload 4, 2) := by decide +kernel
theorem dJ9_floorDiv_f86c9_24 : decode cJ9_floorDiv_f86c9 24 = .ok (.lconst 1, 1) := by decide +kernel
theorem dJ9_floorDiv_f86c9_25 : decode cJ9_floorDiv_f86c9 25 = .ok (.lsub, 1) := by decide +kernel
theorem dJ9_floorDiv_f86c9_26 : decode cJ9_floorDiv_f86c9 26 = .ok (.lreturn, 1) := by decide +kernel
theorem dJ9_floorDiv_f86c9_27 : decode cJ9_floorDiv_f86c9 27 = .ok (.lload 4, 2) := by decide +kernel
theorem dJ9_floorDiv_f86c9_29 : decode cJ9_floorDiv_f86c9 29 = .ok (.lreturn, 1) := by decide +kernel
theorem dJ9_floorMod_f86c9_0 : decode cJ9_floorMod_f86c9 0 = .ok (.lload_n 0, 1) := by decide +kernel
theorem dJ9_floorMod_f86c9_1 : decode cJ9_floorMod_f86c9 1 = .ok (.lload_n 2, 1) := by decide +kernel
theorem dJ9_floorMod_f86c9_2 : decode cJ9_floorMod_f86c9 2 = .ok (.lrem, 1) := by decide +kernel
theorem dJ9_floorMod_f86c9_3 : decode cJ9_floorMod_f86c9 3 = .ok (.lstore 4, 2) := by decide +kernel
theorem dJ9_floorMod_f86c9_5 : decode cJ9_floorMod_f86c9 5 = .ok (.lload_n 0, 1) := by decide +kernel
theorem dJ9_floorMod_f86c9_6 : decode cJ9_floorMod_f86c9 6 = .ok (.lload_n 2, 1) := by decide +kernel
theorem dJ9_floorMod_f86c9_7 : decode cJ9_floorMod_f86c9 7 = .ok (.lxor, 1) := by decide +kernel
theorem dJ9_floorMod_f86c9_8 : decode cJ9_floorMod_f86c9 8 = .ok (.lconst 0, 1) := by decide +kernel
theorem dJ9_floorMod_f86c9_9 : decode cJ9_floorMod_f86c9 9 = .ok (.lcmp, 1) := by decide +kernel
theorem dJ9_floorMod_f86c9_10 : decode cJ9_floorMod_f86c9 10 = .ok (.ifCond .ge 15, 3) := by decide +kernel
theorem dJ9_floorMod_f86c9_13 : decode cJ9_floorMod_f86c9 13 = .ok (.lload 4, 2) := by decide +kernel
theorem dJ9_floorMod_f86c9_15 : decode cJ9_floorMod_f86c9 15 = .ok (.lconst 0, 1) := by decide +kernel
theorem dJ9_floorMod_f86c9_16 : decode cJ9_floorMod_f86c9 16 = .ok (.lcmp, 1) := by decide +kernel
theorem dJ9_floorMod_f86c9_17 : decode cJ9_floorMod_f86c9 17 = .ok (.ifCond .eq 8, 3) := by decide +kernel
theorem dJ9_floorMod_f86c9_20 : decode cJ9_floorMod_f86c9 20 = .ok (.lload 4, 2) := by decide +kernel
theorem dJ9_floorMod_f86c9_22 : decode cJ9_floorMod_f86c9 22 = .ok (.lload_n 2, 1) := by decide +kernel
theorem dJ9_floorMod_f86c9_23 : decode cJ9_floorMod_f86c9 23 = .ok (.ladd, 1) := by decide +kernel
theorem dJ9_floorMod_f86c9_24 : decode cJ9_floorMod_f86c9 24 = .ok (.lreturn, 1) := by decide +kernel
theorem dJ9_floorMod_f86c9_25 : decode cJ9_floorMod_f86c9 25 = .ok (.lload 4, 2) := by decide +kernel
theorem dJ9_floorMod_f86c9_27 : decode cJ9_floorMod_f86c9 27 = .ok (.lreturn, 1) := by decide +kernel
theorem dJ9_abs_067f4_0 : decode cJ9_abs_067f4 0 = .ok (.lload_n 0, 1) := by decide +kernel
theorem dJ9_abs_067f4_1 : decode cJ9_abs_067f4 1 = .ok (.lconst 0, 1) := by decide +kernel
theorem dJ9_abs_067f4_2 : decode cJ9_abs_067f4 2 = .ok (.lcmp, 1) := by decide +kernel
theorem dJ9_abs_067f4_3 : decode cJ9_abs_067f4 3 = .ok (.ifCond .ge 8, 3) := by decide +kernel
theorem dJ9_abs_067f4_6 : decode cJ9_abs_067f4 6 = .ok (.lload_n 0, 1) := by decide +kernel
theorem dJ9_abs_067f4_7 : decode cJ9_abs_067f4 7 = .ok (.lneg, 1) := by decide +kernel
theorem dJ9_abs_067f4_8 : decode cJ9_abs_067f4 8 = .ok (.goto 4, 3) := by decide +kernel
theorem dJ9_abs_067f4_11 : decode cJ9_abs_067f4 11 = .ok (.lload_n 0, 1) := by decide +kernel
theorem dJ9_abs_067f4_12 : decode cJ9_abs_067f4 12 = .ok (.lreturn, 1) := by decide +kernel
theorem dJ9_max_7cf53_0 : decode cJ9_max_7cf53 0 = .ok (.iload_n 0, 1) := by decide +kernel
theorem dJ9_max_7cf53_1 : decode cJ9_max_7cf53 1 = .ok (.iload_n 1, 1) := by decide +kernel
theorem dJ9_max_7cf53_2 : decode cJ9_max_7cf53 2 = .ok (.if_icmp .lt 7, 3) := by decide +kernel
theorem dJ9_max_7cf53_5 : decode cJ9_max_7cf53 5 = .ok (.iload_n 0, 1) := by decide +kernel
theorem dJ9_max_7cf53_6 : decode cJ9_max_7cf53 6 = .ok (.goto 4, 3) := by decide +kernel
theorem dJ9_max_7cf53_9 : decode cJ9_max_7cf53 9 = .ok (.iload_n 1, 1) := by decide +kernel
theorem dJ9_max_7cf53_10 : decode cJ9_max_7cf53 10 = .ok (.ireturn, 1) := by decide +kernel
theorem dJ9_max_f86c9_0 : decode cJ9_max_f86c9 0 = .ok (.lload_n 0, 1) := by decide +kernel
theorem dJ9_max_f86c9_1 : decode cJ9_max_f86c9 1 = .ok (.lload_n 2, 1) := by decide +kernel
theorem dJ9_max_f86c9_2 : decode cJ9_max_f86c9 2 = .ok (.lcmp, 1) := by decide +kernel
theorem dJ9_max_f86c9_3 : decode cJ9_max_f86c9 3 = .ok (.ifCond .lt 7, 3) := by decide +kernel
theorem dJ9_max_f86c9_6 : decode cJ9_max_f86c9 6 = .ok (.lload_n 0, 1) := by decide +kernel
theorem dJ9_max_f86c9_7 : decode cJ9_max_f86c9 7 = .ok (.goto 4, 3) := by decide +kernel
theorem dJ9_max_f86c9_10 : decode cJ9_max_f86c9 10 = .ok (.lload_n 2, 1) := by decide +kernel
theorem dJ9_max_f86c9_11 : decode cJ9_max_f86c9 11 = .ok (.lreturn, 1) := by decide +kernel
theorem dJ9_min_7cf53_0 : decode cJ9_min_7cf53 0 = .ok (.iload_n 0, 1) := by decide +kernel
theorem dJ9_min_7cf53_1 : decode cJ9_min_7cf53 1 = .ok (.iload_n 1, 1) := by decide +kernel
theorem dJ9_min_7cf53_2 : decode cJ9_min_7cf53 2 = .ok (.if_icmp .gt 7, 3) := by decide +kernel
theorem dJ9_min_7cf53_5 : decode cJ9_min_7cf53 5 = .ok (.iload_n 0, 1) := by decide +kernel
theorem dJ9_min_7cf53_6 : decode cJ9_min_7cf53 6 = .ok (.goto 4, 3) := by decide +kernel
theorem dJ9_min_7cf53_9 : decode cJ9_min_7cf53 9 = .ok (.iload_n 1, 1) := by decide +kernel
theorem dJ9_min_7cf53_10 : decode cJ9_min_7cf53 10 = .ok (.ireturn, 1) := by decide +kernel
theorem dJ9_min_f86c9_0 : decode cJ9_min_f86c9 0 = .ok (.lload_n 0, 1) := by decide +kernel
theorem dJ9_min_f86c9_1 : decode cJ9_min_f86c9 1 = .ok (.lload_n 2, 1) := by decide +kernel
theorem dJ9_min_f86c9_2 : decode cJ9_min_f86c9 2 = .ok (.lcmp, 1) := by decide +kernel
theorem dJ9_min_f86c9_3 : decode cJ9_min_f86c9 3 = .ok (.ifCond .gt 7, 3) := by decide +kernel
theorem dJ9_min_f86c9_6 : decode cJ9_min_f86c9 6 = .ok (.lload_n 0, 1) := by decide +kernel
theorem dJ9_min_f86c9_7 : decode cJ9_min_f86c9 7 = .ok (.goto 4, 3) := by decide +kernel
theorem dJ9_min_f86c9_10 : decode cJ9_min_f86c9 10 = .ok (.lload_n 2, 1) := by decide +kernel
theorem dJ9_min_f86c9_11 : decode cJ9_min_f86c9 11 = .ok (.lreturn, 1) := by decide +kernel
theorem dJ0_length_8abf5_0 : decode cJ0_length_8abf5 0 = .ok (.aload_n 0, 1) := by decide +kernel
theorem dJ0_length_8abf5_1 : decode cJ0_length_8abf5 1 = .ok (.getfield 9, 3) := by decide +kernel
theorem dJ0_length_8abf5_4 : decode cJ0_length_8abf5 4 = .ok (.arraylength, 1) := by decide +kernel
theorem dJ0_length_8abf5_5 : decode cJ0_length_8abf5 5 = .ok (.aload_n 0, 1) := by decide +kernel
theorem dJ0_length_8abf5_6 : decode cJ0_length_8abf5 6 = .ok (.invokevirtual 335, 3) := by decide +kernel
theorem dJ0_length_8abf5_9 : decode cJ0_length_8abf5 9 = .ok (.ishr, 1) := by decide +kernel
theorem dJ0_length_8abf5_10 : decode cJ0_length_8abf5 10 = .ok (.ireturn, 1) := by decide +kernel
theorem dJ0_charAt_5068e_0 : decode cJ0_charAt_5068e 0 = .ok (.aload_n 0, 1) := by decide +kernel
theorem dJ0_charAt_5068e_1 : decode cJ0_charAt_5068e 1 = .ok (.invokevirtual 492, 3) := by decide +kernel
theorem dJ0_charAt_5068e_4 : decode cJ0_charAt_5068e 4 = .ok (.ifCond .eq 12, 3) := by decide +kernel
theorem dJ0_charAt_5068e_7 : decode cJ0_charAt_5068e 7 = .ok (.aload_n 0, 1) := by decide +kernel
theorem dJ0_charAt_5068e_8 : decode cJ0_charAt_5068e 8 = .ok (.getfield 9, 3) := by decide +kernel
theorem dJ0_charAt_5068e_11 : decode cJ0_charAt_5068e 11 = .ok (.iload_n 1, 1) := by decide +kernel
theorem dJ0_charAt_5068e_12 : decode cJ0_charAt_5068e 12 = .ok (.invokestatic 495, 3) := by decide +kernel
theorem dJ0_charAt_5068e_15 : decode cJ0_charAt_5068e 15 = .ok (.ireturn, 1) := by decide +kernel
theorem dJ0_charAt_5068e_16 : decode cJ0_charAt_5068e 16 = .ok (.aload_n 0, 1) := by decide +kernel
theorem dJ0_charAt_5068e_17 : decode cJ0_charAt_5068e 17 = .ok (.getfield 9, 3) := by decide +kernel
theorem dJ0_charAt_5068e_20 : decode cJ0_charAt_5068e 20 = .ok (.iload_n 1, 1) := by decide +kernel
theorem dJ0_charAt_5068e_21 : decode cJ0_charAt_5068e 21 = .ok (.invokestatic 498, 3) := by decide +kernel
theorem dJ0_charAt_5068e_24 : decode cJ0_charAt_5068e 24 = .ok (.ireturn, 1) := by decide +kernel
theorem dJ0_indexOf_0f7a4_0 : decode cJ0_indexOf_0f7a4 0 = .ok (.aload_n 0, 1) := by decide +kernel
theorem dJ0_indexOf_0f7a4_1 : decode cJ0_indexOf_0f7a4 1 = .ok (.iload_n 1, 1) := by decide +kernel
theorem dJ0_indexOf_0f7a4_2 : decode cJ0_indexOf_0f7a4 2 = .ok (.iconst 0, 1) := by decide +kernel
theorem dJ0_indexOf_0f7a4_3 : decode cJ0_indexOf_0f7a4 3 = .ok (.invokevirtual 633, 3) := by decide +kernel
theorem dJ0_indexOf_0f7a4_6 : decode cJ0_indexOf_0f7a4 6 = .ok (.ireturn, 1) := by decide +kernel
theorem dJ0_indexOf_7cf53_0 : decode cJ0_indexOf_7cf53 0 = .ok (.aload_n 0, 1) := by decide +kernel
theorem dJ0_indexOf_7cf53_1 : decode cJ0_indexOf_7cf53 1 = .ok (.invokevirtual 492, 3) := by decide +kernel
theorem dJ0_indexOf_7cf53_4 : decode cJ0_indexOf_7cf53 4 = .ok (.ifCond .eq 19, 3) := by decide +kernel
theorem dJ0_indexOf_7cf53_7 : decode cJ0_indexOf_7cf53 7 = .ok (.aload_n 0, 1) := by decide +kernel
theorem dJ0_indexOf_7cf53_8 : decode cJ0_indexOf_7cf53 8 = .ok (.getfield 9, 3) := by decide +kernel
theorem dJ0_indexOf_7cf53_11 : decode cJ0_indexOf_7cf53 11 = .ok (.iload_n 1, 1) := by decide +kernel
theorem dJ0_indexOf_7cf53_12 : decode cJ0_indexOf_7cf53 12 = .ok (.iload_n 2, 1) := by decide +kernel
theorem dJ0_indexOf_7cf53_13 : decode cJ0_indexOf_7cf53 13 = .ok (.aload_n 0, 1) := by decide +kernel
theorem dJ0_indexOf_7cf53_14 : decode cJ0_indexOf_7cf53 14 = .ok (.invokevirtual 505, 3) := by decide +kernel
theorem dJ0_indexOf_7cf53_17 : decode cJ0_indexOf_7cf53 17 = .ok (.invokestatic 637, 3) := by decide +kernel
theorem dJ0_indexOf_7cf53_20 : decode cJ0_indexOf_7cf53 20 = .ok (.goto 16, 3) := by decide +kernel
theorem dJ0_indexOf_7cf53_23 : decode cJ0_indexOf_7cf53 23 = .ok (.aload_n 0, 1) := by decide +kernel
theorem dJ0_indexOf_7cf53_24 : decode cJ0_indexOf_7cf53 24 = .ok (.getfield 9, 3) := by decide +kernel
theorem dJ0_indexOf_7cf53_27 : decode cJ0_indexOf_7cf53 27 = .ok (.iload_n 1, 1) := by decide +kernel
theorem dJ0_indexOf_7cf53_28 : decode cJ0_indexOf_7cf53 28 = .ok (.iload_n 2, 1) := by decide +kernel
theorem dJ0_indexOf_7cf53_29 : decode cJ0_indexOf_7cf53 29 = .ok (.aload_n 0, 1) := by decide +kernel
theorem dJ0_indexOf_7cf53_30 : decode cJ0_indexOf_7cf53 30 = .ok (.invokevirtual 505, 3) := by decide +kernel
theorem dJ0_indexOf_7cf53_33 : decode cJ0_indexOf_7cf53 33 = .ok (.invokestatic 640, 3) := by decide +kernel
theorem dJ0_indexOf_7cf53_36 : decode cJ0_indexOf_7cf53 36 = .ok (.ireturn, 1) := by decide +kernel
theorem dJ0_coder_7d493_0 : decode cJ0_coder_7d493 0 = .ok (.getstatic 38, 3) := by decide +kernel
theorem dJ0_coder_7d493_3 : decode cJ0_coder_7d493 3 = .ok (.ifCond .eq 10, 3) := by decide +kernel
theorem dJ0_coder_7d493_6 : decode cJ0_coder_7d493 6 = .ok (.aload_n 0, 1) := by decide +kernel
theorem dJ0_coder_7d493_7 : decode cJ0_coder_7d493 7 = .ok (.getfield 15, 3) := by decide +kernel
theorem dJ0_coder_7d493_10 : decode cJ0_coder_7d493 10 = .ok (.goto 4, 3) := by decide +kernel
theorem dJ0_coder_7d493_13 : decode cJ0_coder_7d493 13 = .ok (.iconst 1, 1) := by decide +kernel
theorem dJ0_coder_7d493_14 : decode cJ0_coder_7d493 14 = .ok (.ireturn, 1) := by decide +kernel
theorem dJ0_isLatin1_aae02_0 : decode cJ0_isLatin1_aae02 0 = .ok (.getstatic 38, 3) := by decide +kernel
theorem dJ0_isLatin1_aae02_3 : decode cJ0_isLatin1_aae02 3 = .ok (.ifCond .eq 14, 3) := by decide +kernel
theorem dJ0_isLatin1_aae02_6 : decode cJ0_isLatin1_aae02 6 = .ok (.aload_n 0, 1) := by decide +kernel
theorem dJ0_isLatin1_aae02_7 : decode cJ0_isLatin1_aae02 7 = .ok (.getfield 15, 3) := by decide +kernel
theorem dJ0_isLatin1_aae02_10 : decode cJ0_isLatin1_aae02 10 = .ok (.ifCond .ne 7, 3) := by decide +kernel
theorem dJ0_isLatin1_aae02_13 : decode cJ0_isLatin1_aae02 13 = .ok (.iconst 1, 1) := by decide +kernel
theorem dJ0_isLatin1_aae02_14 : decode cJ0_isLatin1_aae02 14 = .ok (.goto 4, 3) := by decide +kernel
theorem dJ0_isLatin1_aae02_17 : decode cJ0_isLatin1_aae02 17 = .ok (.iconst 0, 1) := by decide +kernel
theorem dJ0_isLatin1_aae02_18 : decode cJ0_isLatin1_aae02 18 = .ok (.ireturn, 1) := by decide +kernel
theorem dJ0_checkIndex_df160_0 : decode cJ0_checkIndex_df160 0 = .ok (.iload_n 0, 1) := by decide +kernel
theorem dJ0_checkIndex_df160_1 : decode cJ0_checkIndex_df160 1 = .ok (.iload_n 1, 1) := by decide +kernel
theorem dJ0_checkIndex_df160_2 : decode cJ0_checkIndex_df160 2 = .ok (.getstatic 1053, 3) := by decide +kernel
theorem dJ0_checkIndex_df160_5 : decode cJ0_checkIndex_df160 5 = .ok (.invokestatic 1059, 3) := by decide +kernel
theorem dJ0_checkIndex_df160_8 : decode cJ0_checkIndex_df160 8 = .ok (.pop, 1) := by decide +kernel
theorem dJ0_checkIndex_df160_9 : decode cJ0_checkIndex_df160 9 = .ok (.return_, 1) := by decide +kernel
theorem dJ0_checkBoundsBeginEnd_23922_0 : decode cJ0_checkBoundsBeginEnd_23922 0 = .ok (.iload_n 0, 1) := by decide +kernel
theorem dJ0_checkBoundsBeginEnd_23922_1 : decode cJ0_checkBoundsBeginEnd_23922 1 = .ok (.iload_n 1, 1) := by decide +kernel
theorem dJ0_checkBoundsBeginEnd_23922_2 : decode cJ0_checkBoundsBeginEnd_23922 2 = .ok (.iload_n 2, 1) := by decide +kernel
theorem dJ0_checkBoundsBeginEnd_23922_3 : decode cJ0_checkBoundsBeginEnd_23922 3 = .ok (.getstatic 1053, 3) := by decide +kernel
theorem dJ0_checkBoundsBeginEnd_23922_6 : decode cJ0_checkBoundsBeginEnd_23922 6 = .ok (.invokestatic 1062, 3) := by decide +kernel
theorem dJ0_checkBoundsBeginEnd_23922_9 : decode cJ0_checkBoundsBeginEnd_23922 9 = .ok (.pop, 1) := by decide +kernel
theorem dJ0_checkBoundsBeginEnd_23922_10 : decode cJ0_checkBoundsBeginEnd_23922 10 = .ok (.return_, 1) := by decide +kernel
theorem dJ1_charAt_3b067_0 : decode cJ1_charAt_3b067 0 = .ok (.iload_n 1, 1) := by decide +kernel
theorem dJ1_charAt_3b067_1 : decode cJ1_charAt_3b067 1 = .ok (.aload_n 0, 1) := by decide +kernel
theorem dJ1_charAt_3b067_2 : decode cJ1_charAt_3b067 2 = .ok (.arraylength, 1) := by decide +kernel
theorem dJ1_charAt_3b067_3 : decode cJ1_charAt_3b067 3 = .ok (.invokestatic 9, 3) := by decide +kernel
theorem dJ1_charAt_3b067_6 : decode cJ1_charAt_3b067 6 = .ok (.aload_n 0, 1) := by decide +kernel
theorem dJ1_charAt_3b067_7 : decode cJ1_charAt_3b067 7 = .ok (.iload_n 1, 1) := by decide +kernel
theorem dJ1_charAt_3b067_8 : decode cJ1_charAt_3b067 8 = .ok (.baload, 1) := by decide +kernel
theorem dJ1_charAt_3b067_9 : decode cJ1_charAt_3b067 9 = .ok (.sipush 255, 3) := by decide +kernel
theorem dJ1_charAt_3b067_12 : decode cJ1_charAt_3b067 12 = .ok (.iand, 1) := by decide +kernel
theorem dJ1_charAt_3b067_13 : decode cJ1_charAt_3b067 13 = .ok (.i2c, 1) := by decide +kernel
theorem dJ1_charAt_3b067_14 : decode cJ1_charAt_3b067 14 = .ok (.ireturn, 1) := by decide +kernel
theorem dJ1_canEncode_9a6ad_0 : decode cJ1_canEncode_9a6ad 0 = .ok (.iload_n 0, 1) := by decide +kernel
theorem dJ1_canEncode_9a6ad_1 : decode cJ1_canEncode_9a6ad 1 = .ok (.ifCond .lt 14, 3) := by decide +kernel
theorem dJ1_canEncode_9a6ad_4 : decode cJ1_canEncode_9a6ad 4 = .ok (.iload_n 0, 1) := by decide +kernel
theorem dJ1_canEncode_9a6ad_5 : decode cJ1_canEncode_9a6ad 5 = .ok (.sipush 255, 3) := by decide +kernel
theorem dJ1_canEncode_9a6ad_8 : decode cJ1_canEncode_9a6ad 8 = .ok (.if_icmp .gt 7, 3) := by decide +kernel
theorem dJ1_canEncode_9a6ad_11 : decode cJ1_canEncode_9a6ad 11 = .ok (.iconst 1, 1) := by decide +kernel
theorem dJ1_canEncode_9a6ad_12 : decode cJ1_canEncode_9a6ad 12 = .ok (.goto 4, 3) := by decide +kernel
theorem dJ1_canEncode_9a6ad_15 : decode cJ1_canEncode_9a6ad 15 = .ok (.iconst 0, 1) := by decide +kernel
theorem dJ1_canEncode_9a6ad_16 : decode cJ1_canEncode_9a6ad 16 = .ok (.ireturn, 1) := by decide +kernel
theorem dJ1_indexOf_4cfef_0 : decode cJ1_indexOf_4cfef 0 = .ok (.iload_n 1, 1) := by decide +kernel
theorem dJ1_indexOf_4cfef_1 : decode cJ1_indexOf_4cfef 1 = .ok (.invokestatic 88, 3) := by decide +kernel
theorem dJ1_indexOf_4cfef_4 : decode cJ1_indexOf_4cfef 4 = .ok (.ifCond .ne 5, 3) := by decide +kernel
theorem dJ1_indexOf_4cfef_7 : decode cJ1_indexOf_4cfef 7 = .ok (.iconst (-1), 1) := by decide +kernel
theorem dJ1_indexOf_4cfef_8 : decode cJ1_indexOf_4cfef 8 = .ok (.ireturn, 1) := by decide +kernel
theorem dJ1_indexOf_4cfef_9 : decode cJ1_indexOf_4cfef 9 = .ok (.iload_n 2, 1) := by decide +kernel
theorem dJ1_indexOf_4cfef_10 : decode cJ1_indexOf_4cfef 10 = .ok (.iconst 0, 1) := by decide +kernel
theorem dJ1_indexOf_4cfef_11 : decode cJ1_indexOf_4cfef 11 = .ok (.invokestatic 92, 3) := by decide +kernel
theorem dJ1_indexOf_4cfef_14 : decode cJ1_indexOf_4cfef 14 = .ok (.istore_n 2, 1) := by decide +kernel
theorem dJ1_indexOf_4cfef_15 : decode cJ1_indexOf_4cfef 15 = .ok (.iload_n 3, 1) := by decide +kernel
theorem dJ1_indexOf_4cfef_16 : decode cJ1_indexOf_4cfef 16 = .ok (.aload_n 0, 1) := by decide +kernel
theorem dJ1_indexOf_4cfef_17 : decode cJ1_indexOf_4cfef 17 = .ok (.arraylength, 1) := by decide +kernel
theorem dJ1_indexOf_4cfef_18 : decode cJ1_indexOf_4cfef 18 = .ok (.invokestatic 38, 3) := by decide +kernel
theorem dJ1_indexOf_4cfef_21 : decode cJ1_indexOf_4cfef 21 = .ok (.istore_n 3, 1) := by decide +kernel
theorem dJ1_indexOf_4cfef_22 : decode cJ1_indexOf_4cfef 22 = .ok (.iload_n 2, 1) := by decide +kernel
theorem dJ1_indexOf_4cfef_23 : decode cJ1_indexOf_4cfef 23 = .ok (.iload_n 3, 1) := by decide +kernel
theorem dJ1_indexOf_4cfef_24 : decode cJ1_indexOf_4cfef 24 = .ok (.if_icmp .lt 5, 3) := by decide +kernel
theorem dJ1_indexOf_4cfef_27 : decode cJ1_indexOf_4cfef 27 = .ok (.iconst (-1), 1) := by decide +kernel
theorem dJ1_indexOf_4cfef_28 : decode cJ1_indexOf_4cfef 28 = .ok (.ireturn, 1) := by decide +kernel
theorem dJ1_indexOf_4cfef_29 : decode cJ1_indexOf_4cfef 29 = .ok (.aload_n 0, 1) := by decide +kernel
theorem dJ1_indexOf_4cfef_30 : decode cJ1_indexOf_4cfef 30 = .ok (.iload_n 1, 1) := by decide +kernel
theorem dJ1_indexOf_4cfef_31 : decode cJ1_indexOf_4cfef 31 = .ok (.iload_n 2, 1) := by decide +kernel
theorem dJ1_indexOf_4cfef_32 : decode cJ1_indexOf_4cfef 32 = .ok (.iload_n 3, 1) := by decide +kernel
theorem dJ1_indexOf_4cfef_33 : decode cJ1_indexOf_4cfef 33 = .ok (.invokestatic 95, 3) := by decide +kernel
theorem dJ1_indexOf_4cfef_36 : decode cJ1_indexOf_4cfef 36 = .ok (.ireturn, 1) := by decide +kernel
theorem dJ1_indexOfChar_4cfef_0 : decode cJ1_indexOfChar_4cfef 0 = .ok (.iload_n 1, 1) := by decide +kernel
theorem dJ1_indexOfChar_4cfef_1 : decode cJ1_indexOfChar_4cfef 1 = .ok (.i2b, 1) := by decide +kernel
theorem dJ1_indexOfChar_4cfef_2 : decode cJ1_indexOfChar_4cfef 2 = .ok (.istore 4, 2) := by decide +kernel
theorem dJ1_indexOfChar_4cfef_4 : decode cJ1_indexOfChar_4cfef 4 = .ok (.iload_n 2, 1) := by decide +kernel
theorem dJ1_indexOfChar_4cfef_5 : decode cJ1_indexOfChar_4cfef 5 = .ok (.istore 5, 2) := by decide +kernel
theorem dJ1_indexOfChar_4cfef_7 : decode cJ1_indexOfChar_4cfef 7 = .ok (.iload 5, 2) := by decide +kernel
theorem dJ1_indexOfChar_4cfef_9 : decode cJ1_indexOfChar_4cfef 9 = .ok (.iload_n 3, 1) := by decide +kernel
theorem dJ1_indexOfChar_4cfef_10 : decode cJ1_indexOfChar_4cfef 10 = .ok (.if_icmp .ge 21, 3) := by decide +kernel
theorem dJ1_indexOfChar_4cfef_13 : decode cJ1_indexOfChar_4cfef 13 = .ok (.aload_n 0, 1) := by decide +kernel
theorem dJ1_indexOfChar_4cfef_14 : decode cJ1_indexOfChar_4cfef 14 = .ok (.iload 5, 2) := by decide +kernel
theorem dJ1_indexOfChar_4cfef_16 : decode cJ1_indexOfChar_4cfef 16 = .ok (.baload, 1) := by decide +kernel
theorem dJ1_indexOfChar_4cfef_17 : decode cJ1_indexOfChar_4cfef 17 = .ok (.iload 4, 2) := by decide +kernel
theorem dJ1_indexOfChar_4cfef_19 : decode cJ1_indexOfChar_4cfef 19 = .ok (.if_icmp .ne 6, 3) := by decide +kernel
theorem dJ1_indexOfChar_4cfef_22 : decode cJ1_indexOfChar_4cfef 22 = .ok (.iload 5, 2) := by decide +kernel
theorem dJ1_indexOfChar_4cfef_24 : decode cJ1_indexOfChar_4cfef 24 = .ok (.ireturn, 1) := by decide +kernel
theorem dJ1_indexOfChar_4cfef_25 : decode cJ1_indexOfChar_4cfef 25 = .ok (.iinc 5 1, 3) := by decide +kernel
theorem dJ1_indexOfChar_4cfef_28 : decode cJ1_indexOfChar_4cfef 28 = .ok (.goto (-21), 3) := by decide +kernel
theorem dJ1_indexOfChar_4cfef_31 : decode cJ1_indexOfChar_4cfef 31 = .ok (.iconst (-1), 1) := by decide +kernel
theorem dJ1_indexOfChar_4cfef_32 : decode cJ1_indexOfChar_4cfef 32 = .ok (.ireturn, 1) := by decide +kernel
theorem dJ2_getChar_3b067_0 : decode cJ2_getChar_3b067 0 = .ok (.getstatic 44, 3) := by decide +kernel
theorem dJ2_getChar_3b067_3 : decode cJ2_getChar_3b067 3 = .ok (.ifCond .ne 25, 3) := by decide +kernel
theorem dJ2_getChar_3b067_6 : decode cJ2_getChar_3b067 6 = .ok (.iload_n 1, 1) := by decide +kernel
theorem dJ2_getChar_3b067_7 : decode cJ2_getChar_3b067 7 = .ok (.ifCond .lt 11, 3) := by decide +kernel
theorem dJ2_getChar_3b067_10 : decode cJ2_getChar_3b067 10 = .ok (.iload_n 1, 1) := by decide +kernel
theorem dJ2_getChar_3b067_11 : decode cJ2_getChar_3b067 11 = .ok (.aload_n 0, 1) := by decide +kernel
theorem dJ2_getChar_3b067_12 : decode cJ2_getChar_3b067 12 = .ok (.invokestatic 48, 3) := by decide +kernel
theorem dJ2_getChar_3b067_15 : decode cJ2_getChar_3b067 15 = .ok (.if_icmp .lt 13, 3) := by decide +kernel
theorem dJ2_getChar_3b067_18 : decode cJ2_getChar_3b067 18 = .ok (.new 52, 3) := by decide +kernel
theorem dJ2_getChar_3b067_21 : decode cJ2_getChar_3b067 21 = .ok (.dup, 1) := by decide +kernel
theorem dJ2_getChar_3b067_22 : decode cJ2_getChar_3b067 22 = .ok (.ldc 54, 2) := by decide +kernel
theorem dJ2_getChar_3b067_24 : decode cJ2_getChar_3b067 24 = .ok (.invokespecial 56, 3) := by decide +kernel
theorem dJ2_getChar_3b067_27 : decode cJ2_getChar_3b067 27 = .ok (.athrow, 1) := by decide +kernel
theorem dJ2_getChar_3b067_28 : decode cJ2_getChar_3b067 28 = .ok (.iload_n 1, 1) := by decide +kernel
theorem dJ2_getChar_3b067_29 : decode cJ2_getChar_3b067 29 = .ok (.iconst 1, 1) := by decide +kernel
theorem dJ2_getChar_3b067_30 : decode cJ2_getChar_3b067 30 = .ok (.ishl, 1) := by decide +kernel
theorem dJ2_getChar_3b067_31 : decode cJ2_getChar_3b067 31 = .ok (.istore_n 1, 1) := by decide +kernel
theorem dJ2_getChar_3b067_32 : decode cJ2_getChar_3b067 32 = .ok (.aload_n 0, 1) := by decide +kernel
theorem dJ2_getChar_3b067_33 : decode cJ2_getChar_3b067 33 = .ok (.iload_n 1, 1) := by decide +kernel
theorem dJ2_getChar_3b067_34 : decode cJ2_getChar_3b067 34 = .ok (.iinc 1 1, 3) := by decide +kernel
theorem dJ2_getChar_3b067_37 : decode cJ2_getChar_3b067 37 = .ok (.baload, 1) := by decide +kernel
theorem dJ2_getChar_3b067_38 : decode cJ2_getChar_3b067 38 = .ok (.sipush 255, 3) := by decide +kernel
theorem dJ2_getChar_3b067_41 : decode cJ2_getChar_3b067 41 = .ok (.iand, 1) := by decide +kernel
theorem dJ2_getChar_3b067_42 : decode cJ2_getChar_3b067 42 = .ok (.getstatic 59, 3) := by decide +kernel
theorem dJ2_getChar_3b067_45 : decode cJ2_getChar_3b067 45 = .ok (.ishl, 1) := by decide +kernel
theorem dJ2_getChar_3b067_46 : decode cJ2_getChar_3b067 46 = .ok (.aload_n 0, 1) := by decide +kernel
theorem dJ2_getChar_3b067_47 : decode cJ2_getChar_3b067 47 = .ok (.iload_n 1, 1) := by decide +kernel
theorem dJ2_getChar_3b067_48 : decode cJ2_getChar_3b067 48 = .ok (.baload, 1) := by decide +kernel
theorem dJ2_getChar_3b067_49 : decode cJ2_getChar_3b067 49 = .ok (.sipush 255, 3) := by decide +kernel
theorem dJ2_getChar_3b067_52 : decode cJ2_getChar_3b067 52 = .ok (.iand, 1) := by decide +kernel
theorem dJ2_getChar_3b067_53 : decode cJ2_getChar_3b067 53 = .ok (.getstatic 63, 3) := by decide +kernel
theorem dJ2_getChar_3b067_56 : decode cJ2_getChar_3b067 56 = .ok (.ishl, 1) := by decide +kernel
theorem dJ2_getChar_3b067_57 : decode cJ2_getChar_3b067 57 = .ok (.ior, 1) := by decide +kernel
theorem dJ2_getChar_3b067_58 : decode cJ2_getChar_3b067 58 = .ok (.i2c, 1) := by decide +kernel
theorem dJ2_getChar_3b067_59 : decode cJ2_getChar_3b067 59 = .ok (.ireturn, 1) := by decide +kernel
theorem dJ2_length_9d52b_0 : decode cJ2_length_9d52b 0 = .ok (.aload_n 0, 1) := by decide +kernel
theorem dJ2_length_9d52b_1 : decode cJ2_length_9d52b 1 = .ok (.arraylength, 1) := by decide +kernel
theorem dJ2_length_9d52b_2 : decode cJ2_length_9d52b 2 = .ok (.iconst 1, 1) := by decide +kernel
theorem dJ2_length_9d52b_3 : decode cJ2_length_9d52b 3 = .ok (.ishr, 1) := by decide +kernel
theorem dJ2_length_9d52b_4 : decode cJ2_length_9d52b 4 = .ok (.ireturn, 1) := by decide +kernel
theorem dJ2_indexOf_4cfef_0 : decode cJ2_indexOf_4cfef 0 = .ok (.iload_n 2, 1) := by decide +kernel
theorem dJ2_indexOf_4cfef_1 : decode cJ2_indexOf_4cfef 1 = .ok (.iconst 0, 1) := by decide +kernel
theorem dJ2_indexOf_4cfef_2 : decode cJ2_indexOf_4cfef 2 = .ok (.invokestatic 224, 3) := by decide +kernel
theorem dJ2_indexOf_4cfef_5 : decode cJ2_indexOf_4cfef 5 = .ok (.istore_n 2, 1) := by decide +kernel
theorem dJ2_indexOf_4cfef_6 : decode cJ2_indexOf_4cfef 6 = .ok (.iload_n 3, 1) := by decide +kernel
theorem dJ2_indexOf_4cfef_7 : decode cJ2_indexOf_4cfef 7 = .ok (.aload_n 0, 1) := by decide +kernel
theorem dJ2_indexOf_4cfef_8 : decode cJ2_indexOf_4cfef 8 = .ok (.arraylength, 1) := by decide +kernel
theorem dJ2_indexOf_4cfef_9 : decode cJ2_indexOf_4cfef 9 = .ok (.iconst 1, 1) := by decide +kernel
theorem dJ2_indexOf_4cfef_10 : decode cJ2_indexOf_4cfef 10 = .ok (.ishr, 1) := by decide +kernel
theorem dJ2_indexOf_4cfef_11 : decode cJ2_indexOf_4cfef 11 = .ok (.invokestatic 183, 3) := by decide +kernel
theorem dJ2_indexOf_4cfef_14 : decode cJ2_indexOf_4cfef 14 = .ok (.istore_n 3, 1) := by decide +kernel
theorem dJ2_indexOf_4cfef_15 : decode cJ2_indexOf_4cfef 15 = .ok (.iload_n 2, 1) := by decide +kernel
theorem dJ2_indexOf_4cfef_16 : decode cJ2_indexOf_4cfef 16 = .ok (.iload_n 3, 1) := by decide +kernel
theorem dJ2_indexOf_4cfef_17 : decode cJ2_indexOf_4cfef 17 = .ok (.if_icmp .lt 5, 3) := by decide +kernel
theorem dJ2_indexOf_4cfef_20 : decode cJ2_indexOf_4cfef 20 = .ok (.iconst (-1), 1) := by decide +kernel
theorem dJ2_indexOf_4cfef_21 : decode cJ2_indexOf_4cfef 21 = .ok (.ireturn, 1) := by decide +kernel
theorem dJ2_indexOf_4cfef_22 : decode cJ2_indexOf_4cfef 22 = .ok (.iload_n 1, 1) := by decide +kernel
theorem dJ2_indexOf_4cfef_23 : decode cJ2_indexOf_4cfef 23 = .ok (.ldc 227, 2) := by decide +kernel
theorem dJ2_indexOf_4cfef_25 : decode cJ2_indexOf_4cfef 25 = .ok (.if_icmp .ge 11, 3) := by decide +kernel
theorem dJ2_indexOf_4cfef_28 : decode cJ2_indexOf_4cfef 28 = .ok (.aload_n 0, 1) := by decide +kernel
theorem dJ2_indexOf_4cfef_29 : decode cJ2_indexOf_4cfef 29 = .ok (.iload_n 1, 1) := by decide +kernel
theorem dJ2_indexOf_4cfef_30 : decode cJ2_indexOf_4cfef 30 = .ok (.iload_n 2, 1) := by decide +kernel
theorem dJ2_indexOf_4cfef_31 : decode cJ2_indexOf_4cfef 31 = .ok (.iload_n 3, 1) := by decide +kernel
theorem dJ2_indexOf_4cfef_32 : decode cJ2_indexOf_4cfef 32 = .ok (.invokestatic 228, 3) := by decide +kernel
theorem dJ2_indexOf_4cfef_35 : decode cJ2_indexOf_4cfef 35 = .ok (.ireturn, 1) := by decide +kernel
theorem dJ2_indexOf_4cfef_36 : decode cJ2_indexOf_4cfef 36 = .ok (.aload_n 0, 1) := by decide +kernel
theorem dJ2_indexOf_4cfef_37 : decode cJ2_indexOf_4cfef 37 = .ok (.iload_n 1, 1) := by decide +kernel
theorem dJ2_indexOf_4cfef_38 : decode cJ2_indexOf_4cfef 38 = .ok (.iload_n 2, 1) := by decide +kernel
theorem dJ2_indexOf_4cfef_39 : decode cJ2_indexOf_4cfef 39 = .ok (.iload_n 3, 1) := by decide +kernel
theorem dJ2_indexOf_4cfef_40 : decode cJ2_indexOf_4cfef 40 = .ok (.invokestatic 232, 3) := by decide +kernel
theorem dJ2_indexOf_4cfef_43 : decode cJ2_indexOf_4cfef 43 = .ok (.ireturn, 1) := by decide +kernel
theorem dJ2_indexOfChar_4cfef_0 : decode cJ2_indexOfChar_4cfef 0 = .ok (.iload_n 2, 1) := by decide +kernel
theorem dJ2_indexOfChar_4cfef_1 : decode cJ2_indexOfChar_4cfef 1 = .ok (.iload_n 3, 1) := by decide +kernel
theorem dJ2_indexOfChar_4cfef_2 : decode cJ2_indexOfChar_4cfef 2 = .ok (.aload_n 0, 1) := by decide +kernel
theorem dJ2_indexOfChar_4cfef_3 : decode cJ2_indexOfChar_4cfef 3 = .ok (.invokestatic 96, 3) := by decide +kernel
theorem dJ2_indexOfChar_4cfef_6 : decode cJ2_indexOfChar_4cfef 6 = .ok (.aload_n 0, 1) := by decide +kernel
theorem dJ2_indexOfChar_4cfef_7 : decode cJ2_indexOfChar_4cfef 7 = .ok (.iload_n 1, 1) := by decide +kernel
theorem dJ2_indexOfChar_4cfef_8 : decode cJ2_indexOfChar_4cfef 8 = .ok (.iload_n 2, 1) := by decide +kernel
theorem dJ2_indexOfChar_4cfef_9 : decode cJ2_indexOfChar_4cfef 9 = .ok (.iload_n 3, 1) := by decide +kernel
theorem dJ2_indexOfChar_4cfef_10 : decode cJ2_indexOfChar_4cfef 10 = .ok (.invokestatic 244, 3) := by decide +kernel
theorem dJ2_indexOfChar_4cfef_13 : decode cJ2_indexOfChar_4cfef 13 = .ok (.ireturn, 1) := by decide +kernel
theorem dJ2_indexOfCharUnsafe_4cfef_0 : decode cJ2_indexOfCharUnsafe_4cfef 0 = .ok (.iload_n 2, 1) := by decide +kernel
theorem dJ2_indexOfCharUnsafe_4cfef_1 : decode cJ2_indexOfCharUnsafe_4cfef 1 = .ok (.istore 4, 2) := by decide +kernel
theorem dJ2_indexOfCharUnsafe_4cfef_3 : decode cJ2_indexOfCharUnsafe_4cfef 3 = .ok (.iload 4, 2) := by decide +kernel
theorem dJ2_indexOfCharUnsafe_4cfef_5 : decode cJ2_indexOfCharUnsafe_4cfef 5 = .ok (.iload_n 3, 1) := by decide +kernel
theorem dJ2_indexOfCharUnsafe_4cfef_6 : decode cJ2_indexOfCharUnsafe_4cfef 6 = .ok (.if_icmp .ge 22, 3) := by decide +kernel
theorem dJ2_indexOfCharUnsafe_4cfef_9 : decode cJ2_indexOfCharUnsafe_4cfef 9 = .ok (.aload_n 0, 1) := by decide +kernel
theorem dJ2_indexOfCharUnsafe_4cfef_10 : decode cJ2_indexOfCharUnsafe_4cfef 10 = .ok (.iload 4, 2) := by decide +kernel
theorem dJ2_indexOfCharUnsafe_4cfef_12 : decode cJ2_indexOfCharUnsafe_4cfef 12 = .ok (.invokestatic 71, 3) := by decide +kernel
theorem dJ2_indexOfCharUnsafe_4cfef_15 : decode cJ2_indexOfCharUnsafe_4cfef 15 = .ok (.iload_n 1, 1) := by decide +kernel
theorem dJ2_indexOfCharUnsafe_4cfef_16 : decode cJ2_indexOfCharUnsafe_4cfef 16 = .ok (.if_icmp .ne 6, 3) := by decide +kernel
theorem dJ2_indexOfCharUnsafe_4cfef_19 : decode cJ2_indexOfCharUnsafe_4cfef 19 = .ok (.iload 4, 2) := by decide +kernel
theorem dJ2_indexOfCharUnsafe_4cfef_21 : decode cJ2_indexOfCharUnsafe_4cfef 21 = .ok (.ireturn, 1) := by decide +kernel
theorem dJ2_indexOfCharUnsafe_4cfef_22 : decode cJ2_indexOfCharUnsafe_4cfef 22 = .ok (.iinc 4 1, 3) := by decide +kernel
theorem dJ2_indexOfCharUnsafe_4cfef_25 : decode cJ2_indexOfCharUnsafe_4cfef 25 = .ok (.goto (-22), 3) := by decide +kernel
theorem dJ2_indexOfCharUnsafe_4cfef_28 : decode cJ2_indexOfCharUnsafe_4cfef 28 = .ok (.iconst (-1), 1) := by decide +kernel
theorem dJ2_indexOfCharUnsafe_4cfef_29 : decode cJ2_indexOfCharUnsafe_4cfef 29 = .ok (.ireturn, 1) := by decide +kernel
theorem dJ2_indexOfSupplementary_4cfef_0 : decode cJ2_indexOfSupplementary_4cfef 0 = .ok (.iload_n 1, 1) := by decide +kernel
theorem dJ2_indexOfSupplementary_4cfef_1 : decode cJ2_indexOfSupplementary_4cfef 1 = .ok (.invokestatic 164, 3) := by decide +kernel
theorem dJ2_indexOfSupplementary_4cfef_4 : decode cJ2_indexOfSupplementary_4cfef 4 = .ok (.ifCond .eq 65, 3) := by decide +kernel
theorem dJ2_indexOfSupplementary_4cfef_7 : decode cJ2_indexOfSupplementary_4cfef 7 = .ok (.iload_n 1, 1) := by decide +kernel
theorem dJ2_indexOfSupplementary_4cfef_8 : decode cJ2_indexOfSupplementary_4cfef 8 = .ok (.invokestatic 157, 3) := by decide +kernel
theorem dJ2_indexOfSupplementary_4cfef_11 : decode cJ2_indexOfSupplementary_4cfef 11 = .ok (.istore 4, 2) := by decide +kernel
theorem dJ2_indexOfSupplementary_4cfef_13 : decode cJ2_indexOfSupplementary_4cfef 13 = .ok (.iload_n 1, 1) := by decide +kernel
theorem dJ2_indexOfSupplementary_4cfef_14 : decode cJ2_indexOfSupplementary_4cfef 14 = .ok (.invokestatic 161, 3) := by decide +kernel
theorem dJ2_indexOfSupplementary_4cfef_17 : decode cJ2_indexOfSupplementary_4cfef 17 = .ok (.istore 5, 2) := by decide +kernel
theorem dJ2_indexOfSupplementary_4cfef_19 : decode cJ2_indexOfSupplementary_4cfef 19 = .ok (.iload_n 2, 1) := by decide +kernel
theorem dJ2_indexOfSupplementary_4cfef_20 : decode cJ2_indexOfSupplementary_4cfef 20 = .ok (.iload_n 3, 1) := by decide +kernel
theorem dJ2_indexOfSupplementary_4cfef_21 : decode cJ2_indexOfSupplementary_4cfef 21 = .ok (.aload_n 0, 1) := by decide +kernel
theorem dJ2_indexOfSupplementary_4cfef_22 : decode cJ2_indexOfSupplementary_4cfef 22 = .ok (.invokestatic 96, 3) := by decide +kernel
theorem dJ2_indexOfSupplementary_4cfef_25 : decode cJ2_indexOfSupplementary_4cfef 25 = .ok (.iload_n 2, 1) := by decide +kernel
theorem dJ2_indexOfSupplementary_4cfef_26 : decode cJ2_indexOfSupplementary_4cfef 26 = .ok (.istore 6, 2) := by decide +kernel
theorem dJ2_indexOfSupplementary_4cfef_28 : decode cJ2_indexOfSupplementary_4cfef 28 = .ok (.iload 6, 2) := by decide +kernel
theorem dJ2_indexOfSupplementary_4cfef_30 : decode cJ2_indexOfSupplementary_4cfef 30 = .ok (.iload_n 3, 1) := by decide +kernel
theorem dJ2_indexOfSupplementary_4cfef_31 : decode cJ2_indexOfSupplementary_4cfef 31 = .ok (.iconst 1, 1) := by decide +kernel
theorem dJ2_indexOfSupplementary_4cfef_32 : decode cJ2_indexOfSupplementary_4cfef 32 = .ok (.isub, 1) := by decide +kernel
theorem dJ2_indexOfSupplementary_4cfef_33 : decode cJ2_indexOfSupplementary_4cfef 33 = .ok (.if_icmp .ge 36, 3) := by decide +kernel
theorem dJ2_indexOfSupplementary_4cfef_36 : decode cJ2_indexOfSupplementary_4cfef 36 = .ok (.aload_n 0, 1) := by decide +kernel
theorem dJ2_indexOfSupplementary_4cfef_37 : decode cJ2_indexOfSupplementary_4cfef 37 = .ok (.iload 6, 2) := by decide +kernel
theorem dJ2_indexOfSupplementary_4cfef_39 : decode cJ2_indexOfSupplementary_4cfef 39 = .ok (.invokestatic 71, 3) := by decide +kernel
theorem dJ2_indexOfSupplementary_4cfef_42 : decode cJ2_indexOfSupplementary_4cfef 42 = .ok (.iload 4, 2) := by decide +kernel
theorem dJ2_indexOfSupplementary_4cfef_44 : decode cJ2_indexOfSupplementary_4cfef 44 = .ok (.if_icmp .ne 19, 3) := by decide +kernel
theorem dJ2_indexOfSupplementary_4cfef_47 : decode cJ2_indexOfSupplementary_4cfef 47 = .ok (.aload_n 0, 1) := by decide +kernel
theorem dJ2_indexOfSupplementary_4cfef_48 : decode cJ2_indexOfSupplementary_4cfef 48 = .ok (.iload 6, 2) := by decide +kernel
theorem dJ2_indexOfSupplementary_4cfef_50 : decode cJ2_indexOfSupplementary_4cfef 50 = .ok (.iconst 1, 1) := by decide +kernel
theorem dJ2_indexOfSupplementary_4cfef_51 : decode cJ2_indexOfSupplementary_4cfef 51 = .ok (.iadd, 1) := by decide +kernel
theorem dJ2_indexOfSupplementary_4cfef_52 : decode cJ2_indexOfSupplementary_4cfef 52 = .ok (.invokestatic 71, 3) := by decide +kernel
theorem dJ2_indexOfSupplementary_4cfef_55 : decode cJ2_indexOfSupplementary_4cfef 55 = .ok (.iload 5, 2) := by decide +kernel
theorem dJ2_indexOfSupplementary_4cfef_57 : decode cJ2_indexOfSupplementary_4cfef 57 = .ok (.if_icmp .ne 6, 3) := by decide +kernel
theorem dJ2_indexOfSupplementary_4cfef_60 : decode cJ2_indexOfSupplementary_4cfef 60 = .ok (.iload 6, 2) := by decide +kernel
theorem dJ2_indexOfSupplementary_4cfef_62 : decode cJ2_indexOfSupplementary_4cfef 62 = .ok (.ireturn, 1) := by decide +kernel
theorem dJ2_indexOfSupplementary_4cfef_63 : decode cJ2_indexOfSupplementary_4cfef 63 = .ok (.iinc 6 1, 3) := by decide +kernel
theorem dJ2_indexOfSupplementary_4cfef_66 : decode cJ2_indexOfSupplementary_4cfef 66 = .ok (.goto (-38), 3) := by decide +kernel
theorem dJ2_indexOfSupplementary_4cfef_69 : decode cJ2_indexOfSupplementary_4cfef 69 = .ok (.iconst (-1), 1) := by decide +kernel
theorem dJ2_indexOfSupplementary_4cfef_70 : decode cJ2_indexOfSupplementary_4cfef 70 = .ok (.ireturn, 1) := by decide +kernel
theorem dJ2_charAt_3b067_0 : decode cJ2_charAt_3b067 0 = .ok (.iload_n 1, 1) := by decide +kernel
theorem dJ2_charAt_3b067_1 : decode cJ2_charAt_3b067 1 = .ok (.aload_n 0, 1) := by decide +kernel
theorem dJ2_charAt_3b067_2 : decode cJ2_charAt_3b067 2 = .ok (.invokestatic 67, 3) := by decide +kernel
theorem dJ2_charAt_3b067_5 : decode cJ2_charAt_3b067 5 = .ok (.aload_n 0, 1) := by decide +kernel
theorem dJ2_charAt_3b067_6 : decode cJ2_charAt_3b067 6 = .ok (.iload_n 1, 1) := by decide +kernel
theorem dJ2_charAt_3b067_7 : decode cJ2_charAt_3b067 7 = .ok (.invokestatic 71, 3) := by decide +kernel
theorem dJ2_charAt_3b067_10 : decode cJ2_charAt_3b067 10 = .ok (.ireturn, 1) := by decide +kernel
theorem dJ2_checkIndex_2214a_0 : decode cJ2_checkIndex_2214a 0 = .ok (.iload_n 0, 1) := by decide +kernel
theorem dJ2_checkIndex_2214a_1 : decode cJ2_checkIndex_2214a 1 = .ok (.aload_n 1, 1) := by decide +kernel
theorem dJ2_checkIndex_2214a_2 : decode cJ2_checkIndex_2214a 2 = .ok (.invokestatic 48, 3) := by decide +kernel
theorem dJ2_checkIndex_2214a_5 : decode cJ2_checkIndex_2214a 5 = .ok (.invokestatic 414, 3) := by decide +kernel
theorem dJ2_checkIndex_2214a_8 : decode cJ2_checkIndex_2214a 8 = .ok (.return_, 1) := by decide +kernel
theorem dJ2_checkBoundsBeginEnd_d044e_0 : decode cJ2_checkBoundsBeginEnd_d044e 0 = .ok (.iload_n 0, 1) := by decide +kernel
theorem dJ2_checkBoundsBeginEnd_d044e_1 : decode cJ2_checkBoundsBeginEnd_d044e 1 = .ok (.iload_n 1, 1) := by decide +kernel
theorem dJ2_checkBoundsBeginEnd_d044e_2 : decode cJ2_checkBoundsBeginEnd_d044e 2 = .ok (.aload_n 2, 1) := by decide +kernel
theorem dJ2_checkBoundsBeginEnd_d044e_3 : decode cJ2_checkBoundsBeginEnd_d044e 3 = .ok (.invokestatic 48, 3) := by decide +kernel
theorem dJ2_checkBoundsBeginEnd_d044e_6 : decode cJ2_checkBoundsBeginEnd_d044e 6 = .ok (.invokestatic 241, 3) := by decide +kernel
theorem dJ2_checkBoundsBeginEnd_d044e_9 : decode cJ2_checkBoundsBeginEnd_d044e 9 = .ok (.return_, 1) := by decide +kernel
theorem dJ3_checkIndex_8e157_0 : decode cJ3_checkIndex_8e157 0 = .ok (.iload_n 0, 1) := by decide +kernel
theorem dJ3_checkIndex_8e157_1 : decode cJ3_checkIndex_8e157 1 = .ok (.ifCond .lt 8, 3) := by decide +kernel
theorem dJ3_checkIndex_8e157_4 : decode cJ3_checkIndex_8e157 4 = .ok (.iload_n 0, 1) := by decide +kernel
theorem dJ3_checkIndex_8e157_5 : decode cJ3_checkIndex_8e157 5 = .ok (.iload_n 1, 1) := by decide +kernel
theorem dJ3_checkIndex_8e157_6 : decode cJ3_checkIndex_8e157 6 = .ok (.if_icmp .lt 10, 3) := by decide +kernel
theorem dJ3_checkIndex_8e157_9 : decode cJ3_checkIndex_8e157 9 = .ok (.aload_n 2, 1) := by decide +kernel
theorem dJ3_checkIndex_8e157_10 : decode cJ3_checkIndex_8e157 10 = .ok (.iload_n 0, 1) := by decide +kernel
theorem dJ3_checkIndex_8e157_11 : decode cJ3_checkIndex_8e157 11 = .ok (.iload_n 1, 1) := by decide +kernel
theorem dJ3_checkIndex_8e157_12 : decode cJ3_checkIndex_8e157 12 = .ok (.invokestatic 95, 3) := by decide +kernel
theorem dJ3_checkIndex_8e157_15 : decode cJ3_checkIndex_8e157 15 = .ok (.athrow, 1) := by decide +kernel
theorem dJ3_checkIndex_8e157_16 : decode cJ3_checkIndex_8e157 16 = .ok (.iload_n 0, 1) := by decide +kernel
theorem dJ3_checkIndex_8e157_17 : decode cJ3_checkIndex_8e157 17 = .ok (.ireturn, 1) := by decide +kernel
theorem dJ3_checkFromToIndex_8c36e_0 : decode cJ3_checkFromToIndex_8c36e 0 = .ok (.iload_n 0, 1) := by decide +kernel
theorem dJ3_checkFromToIndex_8c36e_1 : decode cJ3_checkFromToIndex_8c36e 1 = .ok (.ifCond .lt 13, 3) := by decide +kernel
theorem dJ3_checkFromToIndex_8c36e_4 : decode cJ3_checkFromToIndex_8c36e 4 = .ok (.iload_n 0, 1) := by decide +kernel
theorem dJ3_checkFromToIndex_8c36e_5 : decode cJ3_checkFromToIndex_8c36e 5 = .ok (.iload_n 1, 1) := by decide +kernel
theorem dJ3_checkFromToIndex_8c36e_6 : decode cJ3_checkFromToIndex_8c36e 6 = .ok (.if_icmp .gt 8, 3) := by decide +kernel
theorem dJ3_checkFromToIndex_8c36e_9 : decode cJ3_checkFromToIndex_8c36e 9 = .ok (.iload_n 1, 1) := by decide +kernel
theorem dJ3_checkFromToIndex_8c36e_10 : decode cJ3_checkFromToIndex_8c36e 10 = .ok (.iload_n 2, 1) := by decide +kernel
theorem dJ3_checkFromToIndex_8c36e_11 : decode cJ3_checkFromToIndex_8c36e 11 = .ok (.if_icmp .le 11, 3) := by decide +kernel
theorem dJ3_checkFromToIndex_8c36e_14 : decode cJ3_checkFromToIndex_8c36e 14 = .ok (.aload_n 3, 1) := by decide +kernel
theorem dJ3_checkFromToIndex_8c36e_15 : decode cJ3_checkFromToIndex_8c36e 15 = .ok (.iload_n 0, 1) := by decide +kernel
theorem dJ3_checkFromToIndex_8c36e_16 : decode cJ3_checkFromToIndex_8c36e 16 = .ok (.iload_n 1, 1) := by decide +kernel
theorem dJ3_checkFromToIndex_8c36e_17 : decode cJ3_checkFromToIndex_8c36e 17 = .ok (.iload_n 2, 1) := by decide +kernel
theorem dJ3_checkFromToIndex_8c36e_18 : decode cJ3_checkFromToIndex_8c36e 18 = .ok (.invokestatic 99, 3) := by decide +kernel
theorem dJ3_checkFromToIndex_8c36e_21 : decode cJ3_checkFromToIndex_8c36e 21 = .ok (.athrow, 1) := by decide +kernel
theorem dJ3_checkFromToIndex_8c36e_22 : decode cJ3_checkFromToIndex_8c36e 22 = .ok (.iload_n 0, 1) := by decide +kernel
theorem dJ3_checkFromToIndex_8c36e_23 : decode cJ3_checkFromToIndex_8c36e 23 = .ok (.ireturn, 1) := by decide +kernel
theorem dL_cell_0 : decode cL_cell 0 = .ok (.iload_n 1, 1) := by decide +kernel
theorem dL_cell_1 : decode cL_cell 1 = .ok (.aload_n 0, 1) := by decide +kernel
theorem dL_cell_2 : decode cL_cell 2 = .ok (.arraylength, 1) := by decide +kernel
theorem dL_cell_3 : decode cL_cell 3 = .ok (.if_icmp .ge 9, 3) := by decide +kernel
theorem dL_cell_6 : decode cL_cell 6 = .ok (.aload_n 0, 1) := by decide +kernel
theorem dL_cell_7 : decode cL_cell 7 = .ok (.iload_n 1, 1) := by decide +kernel
theorem dL_cell_8 : decode cL_cell 8 = .ok (.iaload, 1) := by decide +kernel
theorem dL_cell_9 : decode cL_cell 9 = .ok (.goto 7, 3) := by decide +kernel
theorem dL_cell_12 : decode cL_cell 12 = .ok (.ldc 7, 2) := by decide +kernel
theorem dL_cell_14 : decode cL_cell 14 = .ok (.iload_n 1, 1) := by decide +kernel
theorem dL_cell_15 : decode cL_cell 15 = .ok (.imul, 1) := by decide +kernel
theorem dL_cell_16 : decode cL_cell 16 = .ok (.ireturn, 1) := by decide +kernel
theorem dL_pick_0 : decode cL_pick 0 = .ok (.aload_n 0, 1) := by decide +kernel
theorem dL_pick_1 : decode cL_pick 1 = .ok (.iload_n 1, 1) := by decide +kernel
theorem dL_pick_2 : decode cL_pick 2 = .ok (.invokestatic 8, 3) := by decide +kernel
theorem dL_pick_5 : decode cL_pick 5 = .ok (.iconst 1, 1) := by decide +kernel
theorem dL_pick_6 : decode cL_pick 6 = .ok (.iushr, 1) := by decide +kernel
theorem dL_pick_7 : decode cL_pick 7 = .ok (.iload_n 2, 1) := by decide +kernel
theorem dL_pick_8 : decode cL_pick 8 = .ok (.irem, 1) := by decide +kernel
theorem dL_pick_9 : decode cL_pick 9 = .ok (.ireturn, 1) := by decide +kernel
theorem dL_node_0 : decode cL_node 0 = .ok (.aload_n 0, 1) := by decide +kernel
theorem dL_node_1 : decode cL_node 1 = .ok (.iload_n 1, 1) := by decide +kernel
theorem dL_node_2 : decode cL_node 2 = .ok (.iload_n 2, 1) := by decide +kernel
theorem dL_node_3 : decode cL_node 3 = .ok (.iload_n 3, 1) := by decide +kernel
theorem dL_node_4 : decode cL_node 4 = .ok (.invokevirtual 14, 3) := by decide +kernel
theorem dL_node_7 : decode cL_node 7 = .ok (.ireturn, 1) := by decide +kernel
theorem dL_node_8 : decode cL_node 8 = .ok (.astore 4, 2) := by decide +kernel
theorem dL_node_10 : decode cL_node 10 = .ok (.bipush (-78), 2) := by decide +kernel
theorem dL_node_12 : decode cL_node 12 = .ok (.ireturn, 1) := by decide +kernel
theorem dL_node_13 : decode cL_node 13 = .ok (.astore 4, 2) := by decide +kernel
theorem dL_node_15 : decode cL_node 15 = .ok (.bipush (-79), 2) := by decide +kernel
theorem dL_node_17 : decode cL_node 17 = .ok (.ireturn, 1) := by decide +kernel
theorem dL_member_0 : decode cL_member 0 = .ok (.aload_n 0, 1) := by decide +kernel
theorem dL_member_1 : decode cL_member 1 = .ok (.iload_n 1, 1) := by decide +kernel
theorem dL_member_2 : decode cL_member 2 = .ok (.iload_n 2, 1) := by decide +kernel
theorem dL_member_3 : decode cL_member 3 = .ok (.iload_n 3, 1) := by decide +kernel
theorem dL_member_4 : decode cL_member 4 = .ok (.iload 4, 2) := by decide +kernel
theorem dL_member_6 : decode cL_member 6 = .ok (.invokevirtual 24, 3) := by decide +kernel
theorem dL_member_9 : decode cL_member 9 = .ok (.ireturn, 1) := by decide +kernel
theorem dL_member_10 : decode cL_member 10 = .ok (.astore 5, 2) := by decide +kernel
theorem dL_member_12 : decode cL_member 12 = .ok (.bipush (-77), 2) := by decide +kernel
theorem dL_member_14 : decode cL_member 14 = .ok (.ireturn, 1) := by decide +kernel
theorem dL_member_15 : decode cL_member 15 = .ok (.astore 5, 2) := by decide +kernel
theorem dL_member_17 : decode cL_member 17 = .ok (.bipush (-78), 2) := by decide +kernel
theorem dL_member_19 : decode cL_member 19 = .ok (.ireturn, 1) := by decide +kernel
theorem dL_member_20 : decode cL_member 20 = .ok (.astore 5, 2) := by decide +kernel
theorem dL_member_22 : decode cL_member 22 = .ok (.bipush (-79), 2) := by decide +kernel
theorem dL_member_24 : decode cL_member 24 = .ok (.ireturn, 1) := by decide +kernel
theorem dL_load_0 : decode cL_load 0 = .ok (.aload_n 0, 1) := by decide +kernel
theorem dL_load_1 : decode cL_load 1 = .ok (.iload_n 1, 1) := by decide +kernel
theorem dL_load_2 : decode cL_load 2 = .ok (.iload_n 2, 1) := by decide +kernel
theorem dL_load_3 : decode cL_load 3 = .ok (.iload_n 3, 1) := by decide +kernel
theorem dL_load_4 : decode cL_load 4 = .ok (.invokevirtual 30, 3) := by decide +kernel
theorem dL_load_7 : decode cL_load 7 = .ok (.ireturn, 1) := by decide +kernel
theorem dL_load_8 : decode cL_load 8 = .ok (.astore 4, 2) := by decide +kernel
theorem dL_load_10 : decode cL_load 10 = .ok (.bipush (-77), 2) := by decide +kernel
theorem dL_load_12 : decode cL_load 12 = .ok (.ireturn, 1) := by decide +kernel
theorem dL_load_13 : decode cL_load 13 = .ok (.astore 4, 2) := by decide +kernel
theorem dL_load_15 : decode cL_load 15 = .ok (.bipush (-78), 2) := by decide +kernel
theorem dL_load_17 : decode cL_load 17 = .ok (.ireturn, 1) := by decide +kernel
theorem dL_force_0 : decode cL_force 0 = .ok (.aload_n 0, 1) := by decide +kernel
theorem dL_force_1 : decode cL_force 1 = .ok (.iload_n 1, 1) := by decide +kernel
theorem dL_force_2 : decode cL_force 2 = .ok (.invokevirtual 34, 3) := by decide +kernel
theorem dL_force_5 : decode cL_force 5 = .ok (.lreturn, 1) := by decide +kernel
theorem dL_force_6 : decode cL_force 6 = .ok (.astore_n 2, 1) := by decide +kernel
theorem dL_force_7 : decode cL_force 7 = .ok (.ldc2_w 38, 3) := by decide +kernel
theorem dL_force_10 : decode cL_force 10 = .ok (.lreturn, 1) := by decide +kernel
theorem dL_force_11 : decode cL_force 11 = .ok (.astore_n 2, 1) := by decide +kernel
theorem dL_force_12 : decode cL_force 12 = .ok (.ldc2_w 40, 3) := by decide +kernel
theorem dL_force_15 : decode cL_force 15 = .ok (.lreturn, 1) := by decide +kernel
theorem dL_pull_0 : decode cL_pull 0 = .ok (.aload_n 0, 1) := by decide +kernel
theorem dL_pull_1 : decode cL_pull 1 = .ok (.iload_n 1, 1) := by decide +kernel
theorem dL_pull_2 : decode cL_pull 2 = .ok (.invokevirtual 42, 3) := by decide +kernel
theorem dL_pull_5 : decode cL_pull 5 = .ok (.lreturn, 1) := by decide +kernel
theorem dL_pull_6 : decode cL_pull 6 = .ok (.astore_n 2, 1) := by decide +kernel
theorem dL_pull_7 : decode cL_pull 7 = .ok (.ldc2_w 38, 3) := by decide +kernel
theorem dL_pull_10 : decode cL_pull 10 = .ok (.lreturn, 1) := by decide +kernel
theorem dL_pull_11 : decode cL_pull 11 = .ok (.astore_n 2, 1) := by decide +kernel
theorem dL_pull_12 : decode cL_pull 12 = .ok (.ldc2_w 40, 3) := by decide +kernel
theorem dL_pull_15 : decode cL_pull 15 = .ok (.lreturn, 1) := by decide +kernel
theorem dL_isBalanced_0 : decode cL_isBalanced 0 = .ok (.aload_n 0, 1) := by decide +kernel
theorem dL_isBalanced_1 : decode cL_isBalanced 1 = .ok (.iload_n 1, 1) := by decide +kernel
theorem dL_isBalanced_2 : decode cL_isBalanced 2 = .ok (.invokevirtual 45, 3) := by decide +kernel
theorem dL_isBalanced_5 : decode cL_isBalanced 5 = .ok (.ifCond .eq 7, 3) := by decide +kernel
theorem dL_isBalanced_8 : decode cL_isBalanced 8 = .ok (.iconst 1, 1) := by decide +kernel
theorem dL_isBalanced_9 : decode cL_isBalanced 9 = .ok (.goto 4, 3) := by decide +kernel
theorem dL_isBalanced_12 : decode cL_isBalanced 12 = .ok (.iconst 0, 1) := by decide +kernel
theorem dL_isBalanced_13 : decode cL_isBalanced 13 = .ok (.ireturn, 1) := by decide +kernel
theorem dL_isBalanced_14 : decode cL_isBalanced 14 = .ok (.astore_n 2, 1) := by decide +kernel
theorem dL_isBalanced_15 : decode cL_isBalanced 15 = .ok (.bipush (-78), 2) := by decide +kernel
theorem dL_isBalanced_17 : decode cL_isBalanced 17 = .ok (.ireturn, 1) := by decide +kernel
theorem dL_isBalanced_18 : decode cL_isBalanced 18 = .ok (.astore_n 2, 1) := by decide +kernel
theorem dL_isBalanced_19 : decode cL_isBalanced 19 = .ok (.bipush (-79), 2) := by decide +kernel
theorem dL_isBalanced_21 : decode cL_isBalanced 21 = .ok (.ireturn, 1) := by decide +kernel
theorem dL_weakest_0 : decode cL_weakest 0 = .ok (.aload_n 0, 1) := by decide +kernel
theorem dL_weakest_1 : decode cL_weakest 1 = .ok (.invokevirtual 49, 3) := by decide +kernel
theorem dL_weakest_4 : decode cL_weakest 4 = .ok (.ireturn, 1) := by decide +kernel
theorem dL_weakest_5 : decode cL_weakest 5 = .ok (.astore_n 1, 1) := by decide +kernel
theorem dL_weakest_6 : decode cL_weakest 6 = .ok (.bipush (-79), 2) := by decide +kernel
theorem dL_weakest_8 : decode cL_weakest 8 = .ok (.ireturn, 1) := by decide +kernel
theorem dL_weakest_9 : decode cL_weakest 9 = .ok (.astore_n 1, 1) := by decide +kernel
theorem dL_weakest_10 : decode cL_weakest 10 = .ok (.bipush (-75), 2) := by decide +kernel
theorem dL_weakest_12 : decode cL_weakest 12 = .ok (.ireturn, 1) := by decide +kernel
theorem dL_joint_0 : decode cL_joint 0 = .ok (.aload_n 0, 1) := by decide +kernel
theorem dL_joint_1 : decode cL_joint 1 = .ok (.iload_n 1, 1) := by decide +kernel
theorem dL_joint_2 : decode cL_joint 2 = .ok (.iload_n 2, 1) := by decide +kernel
theorem dL_joint_3 : decode cL_joint 3 = .ok (.iload_n 3, 1) := by decide +kernel
theorem dL_joint_4 : decode cL_joint 4 = .ok (.iload 4, 2) := by decide +kernel
theorem dL_joint_6 : decode cL_joint 6 = .ok (.iload 5, 2) := by decide +kernel
theorem dL_joint_8 : decode cL_joint 8 = .ok (.invokevirtual 55, 3) := by decide +kernel
theorem dL_joint_11 : decode cL_joint 11 = .ok (.ireturn, 1) := by decide +kernel
theorem dL_joint_12 : decode cL_joint 12 = .ok (.astore 6, 2) := by decide +kernel
theorem dL_joint_14 : decode cL_joint 14 = .ok (.bipush (-77), 2) := by decide +kernel
theorem dL_joint_16 : decode cL_joint 16 = .ok (.ireturn, 1) := by decide +kernel
theorem dL_joint_17 : decode cL_joint 17 = .ok (.astore 6, 2) := by decide +kernel
theorem dL_joint_19 : decode cL_joint 19 = .ok (.bipush (-78), 2) := by decide +kernel
theorem dL_joint_21 : decode cL_joint 21 = .ok (.ireturn, 1) := by decide +kernel
theorem dL_joint_22 : decode cL_joint 22 = .ok (.astore 6, 2) := by decide +kernel
theorem dL_joint_24 : decode cL_joint 24 = .ok (.bipush (-76), 2) := by decide +kernel
theorem dL_joint_26 : decode cL_joint 26 = .ok (.ireturn, 1) := by decide +kernel
theorem dL_joint_27 : decode cL_joint 27 = .ok (.astore 6, 2) := by decide +kernel
theorem dL_joint_29 : decode cL_joint 29 = .ok (.bipush (-79), 2) := by decide +kernel
theorem dL_joint_31 : decode cL_joint 31 = .ok (.ireturn, 1) := by decide +kernel
theorem dL_isRight_0 : decode cL_isRight 0 = .ok (.aload_n 0, 1) := by decide +kernel
theorem dL_isRight_1 : decode cL_isRight 1 = .ok (.iload_n 1, 1) := by decide +kernel
theorem dL_isRight_2 : decode cL_isRight 2 = .ok (.invokevirtual 61, 3) := by decide +kernel
theorem dL_isRight_5 : decode cL_isRight 5 = .ok (.ifCond .eq 7, 3) := by decide +kernel
theorem dL_isRight_8 : decode cL_isRight 8 = .ok (.iconst 1, 1) := by decide +kernel
theorem dL_isRight_9 : decode cL_isRight 9 = .ok (.goto 4, 3) := by decide +kernel
theorem dL_isRight_12 : decode cL_isRight 12 = .ok (.iconst 0, 1) := by decide +kernel
theorem dL_isRight_13 : decode cL_isRight 13 = .ok (.ireturn, 1) := by decide +kernel
theorem dL_isRight_14 : decode cL_isRight 14 = .ok (.astore_n 2, 1) := by decide +kernel
theorem dL_isRight_15 : decode cL_isRight 15 = .ok (.bipush (-77), 2) := by decide +kernel
theorem dL_isRight_17 : decode cL_isRight 17 = .ok (.ireturn, 1) := by decide +kernel
theorem dL_misread_0 : decode cL_misread 0 = .ok (.aload_n 0, 1) := by decide +kernel
theorem dL_misread_1 : decode cL_misread 1 = .ok (.iload_n 1, 1) := by decide +kernel
theorem dL_misread_2 : decode cL_misread 2 = .ok (.invokevirtual 64, 3) := by decide +kernel
theorem dL_misread_5 : decode cL_misread 5 = .ok (.ireturn, 1) := by decide +kernel
theorem dL_misread_6 : decode cL_misread 6 = .ok (.astore_n 2, 1) := by decide +kernel
theorem dL_misread_7 : decode cL_misread 7 = .ok (.bipush (-77), 2) := by decide +kernel
theorem dL_misread_9 : decode cL_misread 9 = .ok (.ireturn, 1) := by decide +kernel
theorem dL_cutAt_0 : decode cL_cutAt 0 = .ok (.aload_n 0, 1) := by decide +kernel
theorem dL_cutAt_1 : decode cL_cutAt 1 = .ok (.iload_n 1, 1) := by decide +kernel
theorem dL_cutAt_2 : decode cL_cutAt 2 = .ok (.iload_n 2, 1) := by decide +kernel
theorem dL_cutAt_3 : decode cL_cutAt 3 = .ok (.invokevirtual 68, 3) := by decide +kernel
theorem dL_cutAt_6 : decode cL_cutAt 6 = .ok (.ireturn, 1) := by decide +kernel
theorem dL_cutAt_7 : decode cL_cutAt 7 = .ok (.astore_n 3, 1) := by decide +kernel
theorem dL_cutAt_8 : decode cL_cutAt 8 = .ok (.bipush (-77), 2) := by decide +kernel
theorem dL_cutAt_10 : decode cL_cutAt 10 = .ok (.ireturn, 1) := by decide +kernel
theorem dL_cutAt_11 : decode cL_cutAt 11 = .ok (.astore_n 3, 1) := by decide +kernel
theorem dL_cutAt_12 : decode cL_cutAt 12 = .ok (.bipush (-78), 2) := by decide +kernel
theorem dL_cutAt_14 : decode cL_cutAt 14 = .ok (.ireturn, 1) := by decide +kernel
theorem dL_dry_0 : decode cL_dry 0 = .ok (.aload_n 0, 1) := by decide +kernel
theorem dL_dry_1 : decode cL_dry 1 = .ok (.iload_n 1, 1) := by decide +kernel
theorem dL_dry_2 : decode cL_dry 2 = .ok (.iload_n 2, 1) := by decide +kernel
theorem dL_dry_3 : decode cL_dry 3 = .ok (.invokevirtual 72, 3) := by decide +kernel
theorem dL_dry_6 : decode cL_dry 6 = .ok (.ireturn, 1) := by decide +kernel
theorem dL_dry_7 : decode cL_dry 7 = .ok (.astore_n 3, 1) := by decide +kernel
theorem dL_dry_8 : decode cL_dry 8 = .ok (.bipush (-77), 2) := by decide +kernel
theorem dL_dry_10 : decode cL_dry 10 = .ok (.ireturn, 1) := by decide +kernel
theorem dL_dry_11 : decode cL_dry 11 = .ok (.astore_n 3, 1) := by decide +kernel
theorem dL_dry_12 : decode cL_dry 12 = .ok (.bipush (-78), 2) := by decide +kernel
theorem dL_dry_14 : decode cL_dry 14 = .ok (.ireturn, 1) := by decide +kernel
theorem dL_gap_0 : decode cL_gap 0 = .ok (.aload_n 0, 1) := by decide +kernel
theorem dL_gap_1 : decode cL_gap 1 = .ok (.iload_n 1, 1) := by decide +kernel
theorem dL_gap_2 : decode cL_gap 2 = .ok (.invokevirtual 75, 3) := by decide +kernel
theorem dL_gap_5 : decode cL_gap 5 = .ok (.ireturn, 1) := by decide +kernel
theorem dL_gap_6 : decode cL_gap 6 = .ok (.astore_n 2, 1) := by decide +kernel
theorem dL_gap_7 : decode cL_gap 7 = .ok (.bipush (-77), 2) := by decide +kernel
theorem dL_gap_9 : decode cL_gap 9 = .ok (.ireturn, 1) := by decide +kernel
theorem dL_widest_0 : decode cL_widest 0 = .ok (.aload_n 0, 1) := by decide +kernel
theorem dL_widest_1 : decode cL_widest 1 = .ok (.invokevirtual 78, 3) := by decide +kernel
theorem dL_widest_4 : decode cL_widest 4 = .ok (.ireturn, 1) := by decide +kernel
theorem dL_widest_5 : decode cL_widest 5 = .ok (.astore_n 1, 1) := by decide +kernel
theorem dL_widest_6 : decode cL_widest 6 = .ok (.bipush (-75), 2) := by decide +kernel
theorem dL_widest_8 : decode cL_widest 8 = .ok (.ireturn, 1) := by decide +kernel
theorem dL_stick_0 : decode cL_stick 0 = .ok (.aload_n 0, 1) := by decide +kernel
theorem dL_stick_1 : decode cL_stick 1 = .ok (.iload_n 1, 1) := by decide +kernel
theorem dL_stick_2 : decode cL_stick 2 = .ok (.iload_n 2, 1) := by decide +kernel
theorem dL_stick_3 : decode cL_stick 3 = .ok (.iload_n 3, 1) := by decide +kernel
theorem dL_stick_4 : decode cL_stick 4 = .ok (.invokevirtual 81, 3) := by decide +kernel
theorem dL_stick_7 : decode cL_stick 7 = .ok (.ireturn, 1) := by decide +kernel
theorem dL_stick_8 : decode cL_stick 8 = .ok (.astore 4, 2) := by decide +kernel
theorem dL_stick_10 : decode cL_stick 10 = .ok (.bipush (-78), 2) := by decide +kernel
theorem dL_stick_12 : decode cL_stick 12 = .ok (.ireturn, 1) := by decide +kernel
theorem dL_stick_13 : decode cL_stick 13 = .ok (.astore 4, 2) := by decide +kernel
theorem dL_stick_15 : decode cL_stick 15 = .ok (.bipush (-79), 2) := by decide +kernel
theorem dL_stick_17 : decode cL_stick 17 = .ok (.ireturn, 1) := by decide +kernel
theorem dL_piece_0 : decode cL_piece 0 = .ok (.aload_n 0, 1) := by decide +kernel
theorem dL_piece_1 : decode cL_piece 1 = .ok (.iload_n 1, 1) := by decide +kernel
theorem dL_piece_2 : decode cL_piece 2 = .ok (.invokevirtual 84, 3) := by decide +kernel
theorem dL_piece_5 : decode cL_piece 5 = .ok (.ireturn, 1) := by decide +kernel
theorem dL_piece_6 : decode cL_piece 6 = .ok (.astore_n 2, 1) := by decide +kernel
theorem dL_piece_7 : decode cL_piece 7 = .ok (.bipush (-77), 2) := by decide +kernel
theorem dL_piece_9 : decode cL_piece 9 = .ok (.ireturn, 1) := by decide +kernel
theorem dL_stickOf_0 : decode cL_stickOf 0 = .ok (.aload_n 0, 1) := by decide +kernel
theorem dL_stickOf_1 : decode cL_stickOf 1 = .ok (.iload_n 1, 1) := by decide +kernel
theorem dL_stickOf_2 : decode cL_stickOf 2 = .ok (.invokevirtual 87, 3) := by decide +kernel
theorem dL_stickOf_5 : decode cL_stickOf 5 = .ok (.ireturn, 1) := by decide +kernel
theorem dL_stickOf_6 : decode cL_stickOf 6 = .ok (.astore_n 2, 1) := by decide +kernel
theorem dL_stickOf_7 : decode cL_stickOf 7 = .ok (.bipush (-77), 2) := by decide +kernel
theorem dL_stickOf_9 : decode cL_stickOf 9 = .ok (.ireturn, 1) := by decide +kernel
theorem dL_stickOf_10 : decode cL_stickOf 10 = .ok (.astore_n 2, 1) := by decide +kernel
theorem dL_stickOf_11 : decode cL_stickOf 11 = .ok (.bipush (-75), 2) := by decide +kernel
theorem dL_stickOf_13 : decode cL_stickOf 13 = .ok (.ireturn, 1) := by decide +kernel
theorem dL_wood_0 : decode cL_wood 0 = .ok (.aload_n 0, 1) := by decide +kernel
theorem dL_wood_1 : decode cL_wood 1 = .ok (.invokevirtual 90, 3) := by decide +kernel
theorem dL_wood_4 : decode cL_wood 4 = .ok (.ireturn, 1) := by decide +kernel
theorem dL_wood_5 : decode cL_wood 5 = .ok (.astore_n 1, 1) := by decide +kernel
theorem dL_wood_6 : decode cL_wood 6 = .ok (.bipush (-75), 2) := by decide +kernel
theorem dL_wood_8 : decode cL_wood 8 = .ok (.ireturn, 1) := by decide +kernel
theorem dL_waste_0 : decode cL_waste 0 = .ok (.aload_n 0, 1) := by decide +kernel
theorem dL_waste_1 : decode cL_waste 1 = .ok (.iload_n 1, 1) := by decide +kernel
theorem dL_waste_2 : decode cL_waste 2 = .ok (.invokevirtual 93, 3) := by decide +kernel
theorem dL_waste_5 : decode cL_waste 5 = .ok (.ireturn, 1) := by decide +kernel
theorem dL_waste_6 : decode cL_waste 6 = .ok (.astore_n 2, 1) := by decide +kernel
theorem dL_waste_7 : decode cL_waste 7 = .ok (.bipush (-77), 2) := by decide +kernel
theorem dL_waste_9 : decode cL_waste 9 = .ok (.ireturn, 1) := by decide +kernel
theorem dL_waste_10 : decode cL_waste 10 = .ok (.astore_n 2, 1) := by decide +kernel
theorem dL_waste_11 : decode cL_waste 11 = .ok (.bipush (-75), 2) := by decide +kernel
theorem dL_waste_13 : decode cL_waste 13 = .ok (.ireturn, 1) := by decide +kernel
theorem dL_setProps_0 : decode cL_setProps 0 = .ok (.aload_n 0, 1) := by decide +kernel
theorem dL_setProps_1 : decode cL_setProps 1 = .ok (.iload_n 1, 1) := by decide +kernel
theorem dL_setProps_2 : decode cL_setProps 2 = .ok (.invokevirtual 96, 3) := by decide +kernel
theorem dL_setProps_5 : decode cL_setProps 5 = .ok (.ireturn, 1) := by decide +kernel
theorem dL_setProps_6 : decode cL_setProps 6 = .ok (.astore_n 2, 1) := by decide +kernel
theorem dL_setProps_7 : decode cL_setProps 7 = .ok (.bipush (-78), 2) := by decide +kernel
theorem dL_setProps_9 : decode cL_setProps 9 = .ok (.ireturn, 1) := by decide +kernel
theorem dL_raised_0 : decode cL_raised 0 = .ok (.aload_n 0, 1) := by decide +kernel
theorem dL_raised_1 : decode cL_raised 1 = .ok (.iload_n 1, 1) := by decide +kernel
theorem dL_raised_2 : decode cL_raised 2 = .ok (.invokevirtual 99, 3) := by decide +kernel
theorem dL_raised_5 : decode cL_raised 5 = .ok (.ireturn, 1) := by decide +kernel
theorem dL_raised_6 : decode cL_raised 6 = .ok (.astore_n 2, 1) := by decide +kernel
theorem dL_raised_7 : decode cL_raised 7 = .ok (.bipush (-75), 2) := by decide +kernel
theorem dL_raised_9 : decode cL_raised 9 = .ok (.ireturn, 1) := by decide +kernel
theorem dL_raised_10 : decode cL_raised 10 = .ok (.astore_n 2, 1) := by decide +kernel
theorem dL_raised_11 : decode cL_raised 11 = .ok (.bipush (-77), 2) := by decide +kernel
theorem dL_raised_13 : decode cL_raised 13 = .ok (.ireturn, 1) := by decide +kernel
theorem dL_props_0 : decode cL_props 0 = .ok (.aload_n 0, 1) := by decide +kernel
theorem dL_props_1 : decode cL_props 1 = .ok (.iload_n 1, 1) := by decide +kernel
theorem dL_props_2 : decode cL_props 2 = .ok (.invokevirtual 102, 3) := by decide +kernel
theorem dL_props_5 : decode cL_props 5 = .ok (.ireturn, 1) := by decide +kernel
theorem dL_props_6 : decode cL_props 6 = .ok (.astore_n 2, 1) := by decide +kernel
theorem dL_props_7 : decode cL_props 7 = .ok (.bipush (-75), 2) := by decide +kernel
theorem dL_props_9 : decode cL_props 9 = .ok (.ireturn, 1) := by decide +kernel
theorem dL_props_10 : decode cL_props 10 = .ok (.astore_n 2, 1) := by decide +kernel
theorem dL_props_11 : decode cL_props 11 = .ok (.bipush (-77), 2) := by decide +kernel
theorem dL_props_13 : decode cL_props 13 = .ok (.ireturn, 1) := by decide +kernel
theorem dL_stuck_0 : decode cL_stuck 0 = .ok (.aload_n 0, 1) := by decide +kernel
theorem dL_stuck_1 : decode cL_stuck 1 = .ok (.invokevirtual 105, 3) := by decide +kernel
theorem dL_stuck_4 : decode cL_stuck 4 = .ok (.ireturn, 1) := by decide +kernel
theorem dL_stuck_5 : decode cL_stuck 5 = .ok (.astore_n 1, 1) := by decide +kernel
theorem dL_stuck_6 : decode cL_stuck 6 = .ok (.bipush (-75), 2) := by decide +kernel
theorem dL_stuck_8 : decode cL_stuck 8 = .ok (.ireturn, 1) := by decide +kernel
theorem dL_allForce_0 : decode cL_allForce 0 = .ok (.aload_n 0, 1) := by decide +kernel
theorem dL_allForce_1 : decode cL_allForce 1 = .ok (.invokevirtual 108, 3) := by decide +kernel
theorem dL_allForce_4 : decode cL_allForce 4 = .ok (.lreturn, 1) := by decide +kernel
theorem dL_allForce_5 : decode cL_allForce 5 = .ok (.astore_n 1, 1) := by decide +kernel
theorem dL_allForce_6 : decode cL_allForce 6 = .ok (.ldc2_w 40, 3) := by decide +kernel
theorem dL_allForce_9 : decode cL_allForce 9 = .ok (.lreturn, 1) := by decide +kernel
theorem dL_rightShare_0 : decode cL_rightShare 0 = .ok (.aload_n 0, 1) := by decide +kernel
theorem dL_rightShare_1 : decode cL_rightShare 1 = .ok (.invokevirtual 112, 3) := by decide +kernel
theorem dL_rightShare_4 : decode cL_rightShare 4 = .ok (.freturn, 1) := by decide +kernel
theorem dL_rightShare_5 : decode cL_rightShare 5 = .ok (.astore_n 1, 1) := by decide +kernel
theorem dL_rightShare_6 : decode cL_rightShare 6 = .ok (.ldc 118, 2) := by decide +kernel
theorem dL_rightShare_8 : decode cL_rightShare 8 = .ok (.freturn, 1) := by decide +kernel
theorem dL_meanPull_0 : decode cL_meanPull 0 = .ok (.aload_n 0, 1) := by decide +kernel
theorem dL_meanPull_1 : decode cL_meanPull 1 = .ok (.invokevirtual 119, 3) := by decide +kernel
theorem dL_meanPull_4 : decode cL_meanPull 4 = .ok (.dreturn, 1) := by decide +kernel
theorem dL_meanPull_5 : decode cL_meanPull 5 = .ok (.astore_n 1, 1) := by decide +kernel
theorem dL_meanPull_6 : decode cL_meanPull 6 = .ok (.ldc2_w 123, 3) := by decide +kernel
theorem dL_meanPull_9 : decode cL_meanPull 9 = .ok (.dreturn, 1) := by decide +kernel
theorem dL_meanPull_10 : decode cL_meanPull 10 = .ok (.astore_n 1, 1) := by decide +kernel
theorem dL_meanPull_11 : decode cL_meanPull 11 = .ok (.ldc2_w 125, 3) := by decide +kernel
theorem dL_meanPull_14 : decode cL_meanPull 14 = .ok (.dreturn, 1) := by decide +kernel
theorem dL_law_0 : decode cL_law 0 = .ok (.new 15, 3) := by decide +kernel
theorem dL_law_3 : decode cL_law 3 = .ok (.dup, 1) := by decide +kernel
theorem dL_law_4 : decode cL_law 4 = .ok (.invokespecial 127, 3) := by decide +kernel
theorem dL_law_7 : decode cL_law 7 = .ok (.astore_n 1, 1) := by decide +kernel
theorem dL_law_8 : decode cL_law 8 = .ok (.iconst 1, 1) := by decide +kernel
theorem dL_law_9 : decode cL_law 9 = .ok (.istore_n 2, 1) := by decide +kernel
theorem dL_law_10 : decode cL_law 10 = .ok (.iconst 3, 1) := by decide +kernel
theorem dL_law_11 : decode cL_law 11 = .ok (.aload_n 0, 1) := by decide +kernel
theorem dL_law_12 : decode cL_law 12 = .ok (.iload_n 2, 1) := by decide +kernel
theorem dL_law_13 : decode cL_law 13 = .ok (.iconst 3, 1) := by decide +kernel
theorem dL_law_14 : decode cL_law 14 = .ok (.invokestatic 128, 3) := by decide +kernel
theorem dL_law_17 : decode cL_law 17 = .ok (.iadd, 1) := by decide +kernel
theorem dL_law_18 : decode cL_law 18 = .ok (.istore_n 3, 1) := by decide +kernel
theorem dL_law_19 : decode cL_law 19 = .ok (.iconst 1, 1) := by decide +kernel
theorem dL_law_20 : decode cL_law 20 = .ok (.istore 4, 2) := by decide +kernel
theorem dL_law_22 : decode cL_law 22 = .ok (.iconst 0, 1) := by decide +kernel
theorem dL_law_23 : decode cL_law 23 = .ok (.istore 5, 2) := by decide +kernel
theorem dL_law_25 : decode cL_law 25 = .ok (.iload 5, 2) := by decide +kernel
theorem dL_law_27 : decode cL_law 27 = .ok (.iload_n 3, 1) := by decide +kernel
theorem dL_law_28 : decode cL_law 28 = .ok (.if_icmp .ge 85, 3) := by decide +kernel
theorem dL_law_31 : decode cL_law 31 = .ok (.iload 4, 2) := by decide +kernel
theorem dL_law_33 : decode cL_law 33 = .ok (.aload_n 1, 1) := by decide +kernel
theorem dL_law_34 : decode cL_law 34 = .ok (.iconst 5, 1) := by decide +kernel
theorem dL_law_35 : decode cL_law 35 = .ok (.iload 5, 2) := by decide +kernel
theorem dL_law_37 : decode cL_law 37 = .ok (.imul, 1) := by decide +kernel
theorem dL_law_38 : decode cL_law 38 = .ok (.aload_n 0, 1) := by decide +kernel
theorem dL_law_39 : decode cL_law 39 = .ok (.iload_n 2, 1) := by decide +kernel
theorem dL_law_40 : decode cL_law 40 = .ok (.iconst 1, 1) := by decide +kernel
theorem dL_law_41 : decode cL_law 41 = .ok (.iadd, 1) := by decide +kernel
theorem dL_law_42 : decode cL_law 42 = .ok (.iconst 5, 1) := by decide +kernel
theorem dL_law_43 : decode cL_law 43 = .ok (.invokestatic 128, 3) := by decide +kernel
theorem dL_law_46 : decode cL_law 46 = .ok (.iadd, 1) := by decide +kernel
theorem dL_law_47 : decode cL_law 47 = .ok (.aload_n 0, 1) := by decide +kernel
theorem dL_law_48 : decode cL_law 48 = .ok (.iload_n 2, 1) := by decide +kernel
theorem dL_law_49 : decode cL_law 49 = .ok (.iconst 2, 1) := by decide +kernel
theorem dL_law_50 : decode cL_law 50 = .ok (.iadd, 1) := by decide +kernel
theorem dL_law_51 : decode cL_law 51 = .ok (.bipush 12, 2) := by decide +kernel
theorem dL_law_53 : decode cL_law 53 = .ok (.invokestatic 128, 3) := by decide +kernel
theorem dL_law_56 : decode cL_law 56 = .ok (.iload 5, 2) := by decide +kernel
theorem dL_law_58 : decode cL_law 58 = .ok (.ifCond .ne 8, 3) := by decide +kernel
theorem dL_law_61 : decode cL_law 61 = .ok (.bipush 112, 2) := by decide +kernel
theorem dL_law_63 : decode cL_law 63 = .ok (.goto 25, 3) := by decide +kernel
theorem dL_law_66 : decode cL_law 66 = .ok (.iload 5, 2) := by decide +kernel
theorem dL_law_68 : decode cL_law 68 = .ok (.iconst 1, 1) := by decide +kernel
theorem dL_law_69 : decode cL_law 69 = .ok (.if_icmp .ne 8, 3) := by decide +kernel
theorem dL_law_72 : decode cL_law 72 = .ok (.bipush 114, 2) := by decide +kernel
theorem dL_law_74 : decode cL_law 74 = .ok (.goto 14, 3) := by decide +kernel
theorem dL_law_77 : decode cL_law 77 = .ok (.ldc 132, 2) := by decide +kernel
theorem dL_law_79 : decode cL_law 79 = .ok (.aload_n 0, 1) := by decide +kernel
theorem dL_law_80 : decode cL_law 80 = .ok (.iload_n 2, 1) := by decide +kernel
theorem dL_law_81 : decode cL_law 81 = .ok (.iconst 3, 1) := by decide +kernel
theorem dL_law_82 : decode cL_law 82 = .ok (.invokestatic 128, 3) := by decide +kernel
theorem dL_law_85 : decode cL_law 85 = .ok (.invokevirtual 134, 3) := by decide +kernel
theorem dL_law_88 : decode cL_law 88 = .ok (.invokestatic 140, 3) := by decide +kernel
theorem dL_law_91 : decode cL_law 91 = .ok (.iload 5, 2) := by decide +kernel
theorem dL_law_93 : decode cL_law 93 = .ok (.if_icmp .ne 7, 3) := by decide +kernel
theorem dL_law_96 : decode cL_law 96 = .ok (.iconst 1, 1) := by decide +kernel
theorem dL_law_97 : decode cL_law 97 = .ok (.goto 4, 3) := by decide +kernel
theorem dL_law_100 : decode cL_law 100 = .ok (.iconst 0, 1) := by decide +kernel
theorem dL_law_101 : decode cL_law 101 = .ok (.iand, 1) := by decide +kernel
theorem dL_law_102 : decode cL_law 102 = .ok (.istore 4, 2) := by decide +kernel
theorem dL_law_104 : decode cL_law 104 = .ok (.iinc 2 3, 3) := by decide +kernel
theorem dL_law_107 : decode cL_law 107 = .ok (.iinc 5 1, 3) := by decide +kernel
theorem dL_law_110 : decode cL_law 110 = .ok (.goto (-85), 3) := by decide +kernel
theorem dL_law_113 : decode cL_law 113 = .ok (.iconst 0, 1) := by decide +kernel
theorem dL_law_114 : decode cL_law 114 = .ok (.istore 5, 2) := by decide +kernel
theorem dL_law_116 : decode cL_law 116 = .ok (.iconst 0, 1) := by decide +kernel
theorem dL_law_117 : decode cL_law 117 = .ok (.istore 6, 2) := by decide +kernel
theorem dL_law_119 : decode cL_law 119 = .ok (.iconst 0, 1) := by decide +kernel
theorem dL_law_120 : decode cL_law 120 = .ok (.istore 7, 2) := by decide +kernel
theorem dL_law_122 : decode cL_law 122 = .ok (.iconst 0, 1) := by decide +kernel
theorem dL_law_123 : decode cL_law 123 = .ok (.istore 8, 2) := by decide +kernel
theorem dL_law_125 : decode cL_law 125 = .ok (.iload 8, 2) := by decide +kernel
theorem dL_law_127 : decode cL_law 127 = .ok (.bipush 34, 2) := by decide +kernel
theorem dL_law_129 : decode cL_law 129 = .ok (.if_icmp .ge 525, 3) := by decide +kernel
theorem dL_law_132 : decode cL_law 132 = .ok (.iload 4, 2) := by decide +kernel
theorem dL_law_134 : decode cL_law 134 = .ok (.ifCond .eq 520, 3) := by decide +kernel
theorem dL_law_137 : decode cL_law 137 = .ok (.aload_n 0, 1) := by decide +kernel
theorem dL_law_138 : decode cL_law 138 = .ok (.iload_n 2, 1) := by decide +kernel
theorem dL_law_139 : decode cL_law 139 = .ok (.iconst 1, 1) := by decide +kernel
theorem dL_law_140 : decode cL_law 140 = .ok (.iadd, 1) := by decide +kernel
theorem dL_law_141 : decode cL_law 141 = .ok (.bipush 8, 2) := by decide +kernel
theorem dL_law_143 : decode cL_law 143 = .ok (.invokestatic 128, 3) := by decide +kernel
theorem dL_law_146 : decode cL_law 146 = .ok (.istore 9, 2) := by decide +kernel
theorem dL_law_148 : decode cL_law 148 = .ok (.aload_n 0, 1) := by decide +kernel
theorem dL_law_149 : decode cL_law 149 = .ok (.iload_n 2, 1) := by decide +kernel
theorem dL_law_150 : decode cL_law 150 = .ok (.iconst 2, 1) := by decide +kernel
theorem dL_law_151 : decode cL_law 151 = .ok (.iadd, 1) := by decide +kernel
theorem dL_law_152 : decode cL_law 152 = .ok (.bipush 8, 2) := by decide +kernel
theorem dL_law_154 : decode cL_law 154 = .ok (.invokestatic 128, 3) := by decide +kernel
theorem dL_law_157 : decode cL_law 157 = .ok (.istore 10, 2) := by decide +kernel
theorem dL_law_159 : decode cL_law 159 = .ok (.aload_n 0, 1) := by decide +kernel
theorem dL_law_160 : decode cL_law 160 = .ok (.iload_n 2, 1) := by decide +kernel
theorem dL_law_161 : decode cL_law 161 = .ok (.bipush 9, 2) := by decide +kernel
theorem dL_law_163 : decode cL_law 163 = .ok (.invokestatic 128, 3) := by decide +kernel
theorem dL_law_166 : decode cL_law 166 = .ok (.tableswitch 368 0 7 #[46, 46, 46, 138, 178, 178, 271, 344], 46) := by decide +kernel
theorem dL_law_212 : decode cL_law 212 = .ok (.aload_n 1, 1) := by decide +kernel
theorem dL_law_213 : decode cL_law 213 = .ok (.iload 9, 2) := by decide +kernel
theorem dL_law_215 : decode cL_law 215 = .ok (.iload_n 3, 1) := by decide +kernel
theorem dL_law_216 : decode cL_law 216 = .ok (.irem, 1) := by decide +kernel
theorem dL_law_217 : decode cL_law 217 = .ok (.iload 10, 2) := by decide +kernel
theorem dL_law_219 : decode cL_law 219 = .ok (.iload_n 3, 1) := by decide +kernel
theorem dL_law_220 : decode cL_law 220 = .ok (.irem, 1) := by decide +kernel
theorem dL_law_221 : decode cL_law 221 = .ok (.bipush 6, 2) := by decide +kernel
theorem dL_law_223 : decode cL_law 223 = .ok (.iconst 2, 1) := by decide +kernel
theorem dL_law_224 : decode cL_law 224 = .ok (.iload 9, 2) := by decide +kernel
theorem dL_law_226 : decode cL_law 226 = .ok (.imul, 1) := by decide +kernel
theorem dL_law_227 : decode cL_law 227 = .ok (.iadd, 1) := by decide +kernel
theorem dL_law_228 : decode cL_law 228 = .ok (.iload 10, 2) := by decide +kernel
theorem dL_law_230 : decode cL_law 230 = .ok (.iconst 4, 1) := by decide +kernel
theorem dL_law_231 : decode cL_law 231 = .ok (.irem, 1) := by decide +kernel
theorem dL_law_232 : decode cL_law 232 = .ok (.invokestatic 143, 3) := by decide +kernel
theorem dL_law_235 : decode cL_law 235 = .ok (.istore 11, 2) := by decide +kernel
theorem dL_law_237 : decode cL_law 237 = .ok (.iload 4, 2) := by decide +kernel
theorem dL_law_239 : decode cL_law 239 = .ok (.iload 11, 2) := by decide +kernel
theorem dL_law_241 : decode cL_law 241 = .ok (.iload 5, 2) := by decide +kernel
theorem dL_law_243 : decode cL_law 243 = .ok (.if_icmp .eq 35, 3) := by decide +kernel
theorem dL_law_246 : decode cL_law 246 = .ok (.iload 11, 2) := by decide +kernel
theorem dL_law_248 : decode cL_law 248 = .ok (.bipush (-79), 2) := by decide +kernel
theorem dL_law_250 : decode cL_law 250 = .ok (.if_icmp .ne 10, 3) := by decide +kernel
theorem dL_law_253 : decode cL_law 253 = .ok (.iload 5, 2) := by decide +kernel
theorem dL_law_255 : decode cL_law 255 = .ok (.bipush 9, 2) := by decide +kernel
theorem dL_law_257 : decode cL_law 257 = .ok (.if_icmp .eq 21, 3) := by decide +kernel
theorem dL_law_260 : decode cL_law 260 = .ok (.iload 11, 2) := by decide +kernel
theorem dL_law_262 : decode cL_law 262 = .ok (.bipush (-78), 2) := by decide +kernel
theorem dL_law_264 : decode cL_law 264 = .ok (.if_icmp .ne 18, 3) := by decide +kernel
theorem dL_law_267 : decode cL_law 267 = .ok (.iload 9, 2) := by decide +kernel
theorem dL_law_269 : decode cL_law 269 = .ok (.iload_n 3, 1) := by decide +kernel
theorem dL_law_270 : decode cL_law 270 = .ok (.irem, 1) := by decide +kernel
theorem dL_law_271 : decode cL_law 271 = .ok (.iload 10, 2) := by decide +kernel
theorem dL_law_273 : decode cL_law 273 = .ok (.iload_n 3, 1) := by decide +kernel
theorem dL_law_274 : decode cL_law 274 = .ok (.irem, 1) := by decide +kernel
theorem dL_law_275 : decode cL_law 275 = .ok (.if_icmp .ne 7, 3) := by decide +kernel
theorem dL_law_278 : decode cL_law 278 = .ok (.iconst 1, 1) := by decide +kernel
theorem dL_law_279 : decode cL_law 279 = .ok (.goto 4, 3) := by decide +kernel
theorem dL_law_282 : decode cL_law 282 = .ok (.iconst 0, 1) := by decide +kernel
theorem dL_law_283 : decode cL_law 283 = .ok (.iand, 1) := by decide +kernel
theorem dL_law_284 : decode cL_law 284 = .ok (.istore 4, 2) := by decide +kernel
theorem dL_law_286 : decode cL_law 286 = .ok (.iload 5, 2) := by decide +kernel
theorem dL_law_288 : decode cL_law 288 = .ok (.iload 11, 2) := by decide +kernel
theorem dL_law_290 : decode cL_law 290 = .ok (.ifCond .lt 7, 3) := by decide +kernel
theorem dL_law_293 : decode cL_law 293 = .ok (.iconst 1, 1) := by decide +kernel
theorem dL_law_294 : decode cL_law 294 = .ok (.goto 4, 3) := by decide +kernel
theorem dL_law_297 : decode cL_law 297 = .ok (.iconst 0, 1) := by decide +kernel
theorem dL_law_298 : decode cL_law 298 = .ok (.iadd, 1) := by decide +kernel
theorem dL_law_299 : decode cL_law 299 = .ok (.istore 5, 2) := by decide +kernel
theorem dL_law_301 : decode cL_law 301 = .ok (.goto 286, 3) := by decide +kernel
theorem dL_law_304 : decode cL_law 304 = .ok (.iload 4, 2) := by decide +kernel
theorem dL_law_306 : decode cL_law 306 = .ok (.aload_n 1, 1) := by decide +kernel
theorem dL_law_307 : decode cL_law 307 = .ok (.iload 9, 2) := by decide +kernel
theorem dL_law_309 : decode cL_law 309 = .ok (.iload_n 3, 1) := by decide +kernel
theorem dL_law_310 : decode cL_law 310 = .ok (.irem, 1) := by decide +kernel
theorem dL_law_311 : decode cL_law 311 = .ok (.bipush 9, 2) := by decide +kernel
theorem dL_law_313 : decode cL_law 313 = .ok (.iload 10, 2) := by decide +kernel
theorem dL_law_315 : decode cL_law 315 = .ok (.imul, 1) := by decide +kernel
theorem dL_law_316 : decode cL_law 316 = .ok (.bipush 30, 2) := by decide +kernel
theorem dL_law_318 : decode cL_law 318 = .ok (.isub, 1) := by decide +kernel
theorem dL_law_319 : decode cL_law 319 = .ok (.bipush 7, 2) := by decide +kernel
theorem dL_law_321 : decode cL_law 321 = .ok (.iload 9, 2) := by decide +kernel
theorem dL_law_323 : decode cL_law 323 = .ok (.imul, 1) := by decide +kernel
theorem dL_law_324 : decode cL_law 324 = .ok (.bipush 20, 2) := by decide +kernel
theorem dL_law_326 : decode cL_law 326 = .ok (.isub, 1) := by decide +kernel
theorem dL_law_327 : decode cL_law 327 = .ok (.invokestatic 146, 3) := by decide +kernel
theorem dL_law_330 : decode cL_law 330 = .ok (.ifCond .le 7, 3) := by decide +kernel
theorem dL_law_333 : decode cL_law 333 = .ok (.iconst 1, 1) := by decide +kernel
theorem dL_law_334 : decode cL_law 334 = .ok (.goto 4, 3) := by decide +kernel
theorem dL_law_337 : decode cL_law 337 = .ok (.iconst 0, 1) := by decide +kernel
theorem dL_law_338 : decode cL_law 338 = .ok (.iand, 1) := by decide +kernel
theorem dL_law_339 : decode cL_law 339 = .ok (.istore 4, 2) := by decide +kernel
theorem dL_law_341 : decode cL_law 341 = .ok (.goto 246, 3) := by decide +kernel
theorem dL_law_344 : decode cL_law 344 = .ok (.iload 5, 2) := by decide +kernel
theorem dL_law_346 : decode cL_law 346 = .ok (.iconst 2, 1) := by decide +kernel
theorem dL_law_347 : decode cL_law 347 = .ok (.if_icmp .ge 8, 3) := by decide +kernel
theorem dL_law_350 : decode cL_law 350 = .ok (.bipush (-76), 2) := by decide +kernel
theorem dL_law_352 : decode cL_law 352 = .ok (.goto 43, 3) := by decide +kernel
theorem dL_law_355 : decode cL_law 355 = .ok (.aload_n 1, 1) := by decide +kernel
theorem dL_law_356 : decode cL_law 356 = .ok (.iload 9, 2) := by decide +kernel
theorem dL_law_358 : decode cL_law 358 = .ok (.iload 5, 2) := by decide +kernel
theorem dL_law_360 : decode cL_law 360 = .ok (.irem, 1) := by decide +kernel
theorem dL_law_361 : decode cL_law 361 = .ok (.iload 10, 2) := by decide +kernel
theorem dL_law_363 : decode cL_law 363 = .ok (.iload 5, 2) := by decide +kernel
theorem dL_law_365 : decode cL_law 365 = .ok (.irem, 1) := by decide +kernel
theorem dL_law_366 : decode cL_law 366 = .ok (.ldc 149, 2) := by decide +kernel
theorem dL_law_368 : decode cL_law 368 = .ok (.aload_n 0, 1) := by decide +kernel
theorem dL_law_369 : decode cL_law 369 = .ok (.iload_n 2, 1) := by decide +kernel
theorem dL_law_370 : decode cL_law 370 = .ok (.iconst 3, 1) := by decide +kernel
theorem dL_law_371 : decode cL_law 371 = .ok (.iadd, 1) := by decide +kernel
theorem dL_law_372 : decode cL_law 372 = .ok (.iconst 5, 1) := by decide +kernel
theorem dL_law_373 : decode cL_law 373 = .ok (.invokestatic 128, 3) := by decide +kernel
theorem dL_law_376 : decode cL_law 376 = .ok (.invokevirtual 134, 3) := by decide +kernel
theorem dL_law_379 : decode cL_law 379 = .ok (.iconst 2, 1) := by decide +kernel
theorem dL_law_380 : decode cL_law 380 = .ok (.iload 10, 2) := by decide +kernel
theorem dL_law_382 : decode cL_law 382 = .ok (.iadd, 1) := by decide +kernel
theorem dL_law_383 : decode cL_law 383 = .ok (.iconst 1, 1) := by decide +kernel
theorem dL_law_384 : decode cL_law 384 = .ok (.iconst 4, 1) := by decide +kernel
theorem dL_law_385 : decode cL_law 385 = .ok (.iload 9, 2) := by decide +kernel
theorem dL_law_387 : decode cL_law 387 = .ok (.imul, 1) := by decide +kernel
theorem dL_law_388 : decode cL_law 388 = .ok (.bipush 31, 2) := by decide +kernel
theorem dL_law_390 : decode cL_law 390 = .ok (.irem, 1) := by decide +kernel
theorem dL_law_391 : decode cL_law 391 = .ok (.iadd, 1) := by decide +kernel
theorem dL_law_392 : decode cL_law 392 = .ok (.invokestatic 151, 3) := by decide +kernel
theorem dL_law_395 : decode cL_law 395 = .ok (.istore 11, 2) := by decide +kernel
theorem dL_law_397 : decode cL_law 397 = .ok (.iload 4, 2) := by decide +kernel
theorem dL_law_399 : decode cL_law 399 = .ok (.iload 11, 2) := by decide +kernel
theorem dL_law_401 : decode cL_law 401 = .ok (.ifCond .lt 10, 3) := by decide +kernel
theorem dL_law_404 : decode cL_law 404 = .ok (.iload 11, 2) := by decide +kernel
theorem dL_law_406 : decode cL_law 406 = .ok (.iload 6, 2) := by decide +kernel
theorem dL_law_408 : decode cL_law 408 = .ok (.if_icmp .ne 7, 3) := by decide +kernel
theorem dL_law_411 : decode cL_law 411 = .ok (.iconst 1, 1) := by decide +kernel
theorem dL_law_412 : decode cL_law 412 = .ok (.goto 4, 3) := by decide +kernel
theorem dL_law_415 : decode cL_law 415 = .ok (.iconst 0, 1) := by decide +kernel
theorem dL_law_416 : decode cL_law 416 = .ok (.iand, 1) := by decide +kernel
theorem dL_law_417 : decode cL_law 417 = .ok (.istore 4, 2) := by decide +kernel
theorem dL_law_419 : decode cL_law 419 = .ok (.iload 6, 2) := by decide +kernel
theorem dL_law_421 : decode cL_law 421 = .ok (.iload 11, 2) := by decide +kernel
theorem dL_law_423 : decode cL_law 423 = .ok (.ifCond .lt 7, 3) := by decide +kernel
theorem dL_law_426 : decode cL_law 426 = .ok (.iconst 1, 1) := by decide +kernel
theorem dL_law_427 : decode cL_law 427 = .ok (.goto 4, 3) := by decide +kernel
theorem dL_law_430 : decode cL_law 430 = .ok (.iconst 0, 1) := by decide +kernel
theorem dL_law_431 : decode cL_law 431 = .ok (.iadd, 1) := by decide +kernel
theorem dL_law_432 : decode cL_law 432 = .ok (.istore 6, 2) := by decide +kernel
theorem dL_law_434 : decode cL_law 434 = .ok (.goto 153, 3) := by decide +kernel
theorem dL_law_437 : decode cL_law 437 = .ok (.aload_n 1, 1) := by decide +kernel
theorem dL_law_438 : decode cL_law 438 = .ok (.bipush 100, 2) := by decide +kernel
theorem dL_law_440 : decode cL_law 440 = .ok (.bipush 100, 2) := by decide +kernel
theorem dL_law_442 : decode cL_law 442 = .ok (.iload 9, 2) := by decide +kernel
theorem dL_law_444 : decode cL_law 444 = .ok (.imul, 1) := by decide +kernel
theorem dL_law_445 : decode cL_law 445 = .ok (.iadd, 1) := by decide +kernel
theorem dL_law_446 : decode cL_law 446 = .ok (.bipush 10, 2) := by decide +kernel
theorem dL_law_448 : decode cL_law 448 = .ok (.iconst 4, 1) := by decide +kernel
theorem dL_law_449 : decode cL_law 449 = .ok (.iload 10, 2) := by decide +kernel
theorem dL_law_451 : decode cL_law 451 = .ok (.imul, 1) := by decide +kernel
theorem dL_law_452 : decode cL_law 452 = .ok (.iadd, 1) := by decide +kernel
theorem dL_law_453 : decode cL_law 453 = .ok (.iload 10, 2) := by decide +kernel
theorem dL_law_455 : decode cL_law 455 = .ok (.iconst 4, 1) := by decide +kernel
theorem dL_law_456 : decode cL_law 456 = .ok (.irem, 1) := by decide +kernel
theorem dL_law_457 : decode cL_law 457 = .ok (.invokestatic 154, 3) := by decide +kernel
theorem dL_law_460 : decode cL_law 460 = .ok (.istore 11, 2) := by decide +kernel
theorem dL_law_462 : decode cL_law 462 = .ok (.iload 4, 2) := by decide +kernel
theorem dL_law_464 : decode cL_law 464 = .ok (.iload 11, 2) := by decide +kernel
theorem dL_law_466 : decode cL_law 466 = .ok (.iload 7, 2) := by decide +kernel
theorem dL_law_468 : decode cL_law 468 = .ok (.if_icmp .eq 16, 3) := by decide +kernel
theorem dL_law_471 : decode cL_law 471 = .ok (.iload 11, 2) := by decide +kernel
theorem dL_law_473 : decode cL_law 473 = .ok (.bipush (-79), 2) := by decide +kernel
theorem dL_law_475 : decode cL_law 475 = .ok (.if_icmp .ne 13, 3) := by decide +kernel
theorem dL_law_478 : decode cL_law 478 = .ok (.iload 7, 2) := by decide +kernel
theorem dL_law_480 : decode cL_law 480 = .ok (.iconst 5, 1) := by decide +kernel
theorem dL_law_481 : decode cL_law 481 = .ok (.if_icmp .ne 7, 3) := by decide +kernel
theorem dL_law_484 : decode cL_law 484 = .ok (.iconst 1, 1) := by decide +kernel
theorem dL_law_485 : decode cL_law 485 = .ok (.goto 4, 3) := by decide +kernel
theorem dL_law_488 : decode cL_law 488 = .ok (.iconst 0, 1) := by decide +kernel
theorem dL_law_489 : decode cL_law 489 = .ok (.iand, 1) := by decide +kernel
theorem dL_law_490 : decode cL_law 490 = .ok (.istore 4, 2) := by decide +kernel
theorem dL_law_492 : decode cL_law 492 = .ok (.iload 7, 2) := by decide +kernel
theorem dL_law_494 : decode cL_law 494 = .ok (.iload 11, 2) := by decide +kernel
theorem dL_law_496 : decode cL_law 496 = .ok (.ifCond .lt 7, 3) := by decide +kernel
theorem dL_law_499 : decode cL_law 499 = .ok (.iconst 1, 1) := by decide +kernel
theorem dL_law_500 : decode cL_law 500 = .ok (.goto 4, 3) := by decide +kernel
theorem dL_law_503 : decode cL_law 503 = .ok (.iconst 0, 1) := by decide +kernel
theorem dL_law_504 : decode cL_law 504 = .ok (.iadd, 1) := by decide +kernel
theorem dL_law_505 : decode cL_law 505 = .ok (.istore 7, 2) := by decide +kernel
theorem dL_law_507 : decode cL_law 507 = .ok (.goto 80, 3) := by decide +kernel
theorem dL_law_510 : decode cL_law 510 = .ok (.iload 4, 2) := by decide +kernel
theorem dL_law_512 : decode cL_law 512 = .ok (.aload_n 1, 1) := by decide +kernel
theorem dL_law_513 : decode cL_law 513 = .ok (.iload 9, 2) := by decide +kernel
theorem dL_law_515 : decode cL_law 515 = .ok (.iconst 4, 1) := by decide +kernel
theorem dL_law_516 : decode cL_law 516 = .ok (.irem, 1) := by decide +kernel
theorem dL_law_517 : decode cL_law 517 = .ok (.invokestatic 156, 3) := by decide +kernel
theorem dL_law_520 : decode cL_law 520 = .ok (.ifCond .lt 7, 3) := by decide +kernel
theorem dL_law_523 : decode cL_law 523 = .ok (.iconst 1, 1) := by decide +kernel
theorem dL_law_524 : decode cL_law 524 = .ok (.goto 4, 3) := by decide +kernel
theorem dL_law_527 : decode cL_law 527 = .ok (.iconst 0, 1) := by decide +kernel
theorem dL_law_528 : decode cL_law 528 = .ok (.iand, 1) := by decide +kernel
theorem dL_law_529 : decode cL_law 529 = .ok (.istore 4, 2) := by decide +kernel
theorem dL_law_531 : decode cL_law 531 = .ok (.goto 56, 3) := by decide +kernel
theorem dL_law_534 : decode cL_law 534 = .ok (.iload 4, 2) := by decide +kernel
theorem dL_law_536 : decode cL_law 536 = .ok (.iload 5, 2) := by decide +kernel
theorem dL_law_538 : decode cL_law 538 = .ok (.ifCond .eq 41, 3) := by decide +kernel
theorem dL_law_541 : decode cL_law 541 = .ok (.aload_n 1, 1) := by decide +kernel
theorem dL_law_542 : decode cL_law 542 = .ok (.iload 9, 2) := by decide +kernel
theorem dL_law_544 : decode cL_law 544 = .ok (.iload 5, 2) := by decide +kernel
theorem dL_law_546 : decode cL_law 546 = .ok (.irem, 1) := by decide +kernel
theorem dL_law_547 : decode cL_law 547 = .ok (.bipush 20, 2) := by decide +kernel
theorem dL_law_549 : decode cL_law 549 = .ok (.iconst 5, 1) := by decide +kernel
theorem dL_law_550 : decode cL_law 550 = .ok (.iload 10, 2) := by decide +kernel
theorem dL_law_552 : decode cL_law 552 = .ok (.imul, 1) := by decide +kernel
theorem dL_law_553 : decode cL_law 553 = .ok (.iadd, 1) := by decide +kernel
theorem dL_law_554 : decode cL_law 554 = .ok (.invokestatic 159, 3) := by decide +kernel
theorem dL_law_557 : decode cL_law 557 = .ok (.ifCond .le 26, 3) := by decide +kernel
theorem dL_law_560 : decode cL_law 560 = .ok (.aload_n 1, 1) := by decide +kernel
theorem dL_law_561 : decode cL_law 561 = .ok (.iload 10, 2) := by decide +kernel
theorem dL_law_563 : decode cL_law 563 = .ok (.iload 5, 2) := by decide +kernel
theorem dL_law_565 : decode cL_law 565 = .ok (.irem, 1) := by decide +kernel
theorem dL_law_566 : decode cL_law 566 = .ok (.bipush 10, 2) := by decide +kernel
theorem dL_law_568 : decode cL_law 568 = .ok (.iconst 3, 1) := by decide +kernel
theorem dL_law_569 : decode cL_law 569 = .ok (.iload 9, 2) := by decide +kernel
theorem dL_law_571 : decode cL_law 571 = .ok (.imul, 1) := by decide +kernel
theorem dL_law_572 : decode cL_law 572 = .ok (.iadd, 1) := by decide +kernel
theorem dL_law_573 : decode cL_law 573 = .ok (.invokestatic 162, 3) := by decide +kernel
theorem dL_law_576 : decode cL_law 576 = .ok (.ifCond .le 7, 3) := by decide +kernel
theorem dL_law_579 : decode cL_law 579 = .ok (.iconst 1, 1) := by decide +kernel
theorem dL_law_580 : decode cL_law 580 = .ok (.goto 4, 3) := by decide +kernel
theorem dL_law_583 : decode cL_law 583 = .ok (.iconst 0, 1) := by decide +kernel
theorem dL_law_584 : decode cL_law 584 = .ok (.iand, 1) := by decide +kernel
theorem dL_law_585 : decode cL_law 585 = .ok (.istore 4, 2) := by decide +kernel
theorem dL_law_587 : decode cL_law 587 = .ok (.iload 4, 2) := by decide +kernel
theorem dL_law_589 : decode cL_law 589 = .ok (.ifCond .eq 53, 3) := by decide +kernel
theorem dL_law_592 : decode cL_law 592 = .ok (.aload_n 1, 1) := by decide +kernel
theorem dL_law_593 : decode cL_law 593 = .ok (.iload_n 3, 1) := by decide +kernel
theorem dL_law_594 : decode cL_law 594 = .ok (.iload 5, 2) := by decide +kernel
theorem dL_law_596 : decode cL_law 596 = .ok (.invokestatic 164, 3) := by decide +kernel
theorem dL_law_599 : decode cL_law 599 = .ok (.ifCond .eq 43, 3) := by decide +kernel
theorem dL_law_602 : decode cL_law 602 = .ok (.aload_n 1, 1) := by decide +kernel
theorem dL_law_603 : decode cL_law 603 = .ok (.iload 6, 2) := by decide +kernel
theorem dL_law_605 : decode cL_law 605 = .ok (.invokestatic 168, 3) := by decide +kernel
theorem dL_law_608 : decode cL_law 608 = .ok (.ifCond .eq 34, 3) := by decide +kernel
theorem dL_law_611 : decode cL_law 611 = .ok (.aload_n 1, 1) := by decide +kernel
theorem dL_law_612 : decode cL_law 612 = .ok (.iload 5, 2) := by decide +kernel
theorem dL_law_614 : decode cL_law 614 = .ok (.iload 7, 2) := by decide +kernel
theorem dL_law_616 : decode cL_law 616 = .ok (.invokestatic 172, 3) := by decide +kernel
theorem dL_law_619 : decode cL_law 619 = .ok (.ifCond .eq 23, 3) := by decide +kernel
theorem dL_law_622 : decode cL_law 622 = .ok (.aload_n 1, 1) := by decide +kernel
theorem dL_law_623 : decode cL_law 623 = .ok (.iload 5, 2) := by decide +kernel
theorem dL_law_625 : decode cL_law 625 = .ok (.invokestatic 175, 3) := by decide +kernel
theorem dL_law_628 : decode cL_law 628 = .ok (.ifCond .eq 14, 3) := by decide +kernel
theorem dL_law_631 : decode cL_law 631 = .ok (.aload_n 1, 1) := by decide +kernel
theorem dL_law_632 : decode cL_law 632 = .ok (.invokevirtual 178, 3) := by decide +kernel
theorem dL_law_635 : decode cL_law 635 = .ok (.ifCond .eq 7, 3) := by decide +kernel
theorem dL_law_638 : decode cL_law 638 = .ok (.iconst 1, 1) := by decide +kernel
theorem dL_law_639 : decode cL_law 639 = .ok (.goto 4, 3) := by decide +kernel
theorem dL_law_642 : decode cL_law 642 = .ok (.iconst 0, 1) := by decide +kernel
theorem dL_law_643 : decode cL_law 643 = .ok (.istore 4, 2) := by decide +kernel
theorem dL_law_645 : decode cL_law 645 = .ok (.iinc 2 4, 3) := by decide +kernel
theorem dL_law_648 : decode cL_law 648 = .ok (.iinc 8 1, 3) := by decide +kernel
theorem dL_law_651 : decode cL_law 651 = .ok (.goto (-526), 3) := by decide +kernel
theorem dL_law_654 : decode cL_law 654 = .ok (.iload 4, 2) := by decide +kernel
theorem dL_law_656 : decode cL_law 656 = .ok (.ifCond .eq 14, 3) := by decide +kernel
theorem dL_law_659 : decode cL_law 659 = .ok (.aload_n 1, 1) := by decide +kernel
theorem dL_law_660 : decode cL_law 660 = .ok (.invokestatic 182, 3) := by decide +kernel
theorem dL_law_663 : decode cL_law 663 = .ok (.ifCond .eq 7, 3) := by decide +kernel
theorem dL_law_666 : decode cL_law 666 = .ok (.iconst 1, 1) := by decide +kernel
theorem dL_law_667 : decode cL_law 667 = .ok (.goto 4, 3) := by decide +kernel
theorem dL_law_670 : decode cL_law 670 = .ok (.iconst 0, 1) := by decide +kernel
theorem dL_law_671 : decode cL_law 671 = .ok (.ireturn, 1) := by decide +kernel
theorem dL_isFrame_0 : decode cL_isFrame 0 = .ok (.aload_n 0, 1) := by decide +kernel
theorem dL_isFrame_1 : decode cL_isFrame 1 = .ok (.invokevirtual 186, 3) := by decide +kernel
theorem dL_isFrame_4 : decode cL_isFrame 4 = .ok (.istore_n 3, 1) := by decide +kernel
theorem dL_isFrame_5 : decode cL_isFrame 5 = .ok (.ldc 190, 2) := by decide +kernel
theorem dL_isFrame_7 : decode cL_isFrame 7 = .ok (.iload_n 3, 1) := by decide +kernel
theorem dL_isFrame_8 : decode cL_isFrame 8 = .ok (.invokevirtual 192, 3) := by decide +kernel
theorem dL_isFrame_11 : decode cL_isFrame 11 = .ok (.ifCond .lt 7, 3) := by decide +kernel
theorem dL_isFrame_14 : decode cL_isFrame 14 = .ok (.iconst 1, 1) := by decide +kernel
theorem dL_isFrame_15 : decode cL_isFrame 15 = .ok (.goto 4, 3) := by decide +kernel
theorem dL_isFrame_18 : decode cL_isFrame 18 = .ok (.iconst 0, 1) := by decide +kernel
theorem dL_isFrame_19 : decode cL_isFrame 19 = .ok (.istore 4, 2) := by decide +kernel
theorem dL_isFrame_21 : decode cL_isFrame 21 = .ok (.iload_n 3, 1) := by decide +kernel
theorem dL_isFrame_22 : decode cL_isFrame 22 = .ok (.bipush 46, 2) := by decide +kernel
theorem dL_isFrame_24 : decode cL_isFrame 24 = .ok (.if_icmp .eq 55, 3) := by decide +kernel
theorem dL_isFrame_27 : decode cL_isFrame 27 = .ok (.iload 4, 2) := by decide +kernel
theorem dL_isFrame_29 : decode cL_isFrame 29 = .ok (.ifCond .eq 48, 3) := by decide +kernel
theorem dL_isFrame_32 : decode cL_isFrame 32 = .ok (.aload_n 0, 1) := by decide +kernel
theorem dL_isFrame_33 : decode cL_isFrame 33 = .ok (.invokestatic 195, 3) := by decide +kernel
theorem dL_isFrame_36 : decode cL_isFrame 36 = .ok (.ldc2_w 40, 3) := by decide +kernel
theorem dL_isFrame_39 : decode cL_isFrame 39 = .ok (.lcmp, 1) := by decide +kernel
theorem dL_isFrame_40 : decode cL_isFrame 40 = .ok (.ifCond .ne 37, 3) := by decide +kernel
theorem dL_isFrame_43 : decode cL_isFrame 43 = .ok (.aload_n 0, 1) := by decide +kernel
theorem dL_isFrame_44 : decode cL_isFrame 44 = .ok (.invokestatic 198, 3) := by decide +kernel
theorem dL_isFrame_47 : decode cL_isFrame 47 = .ok (.bipush (-79), 2) := by decide +kernel
theorem dL_isFrame_49 : decode cL_isFrame 49 = .ok (.if_icmp .ne 28, 3) := by decide +kernel
theorem dL_isFrame_52 : decode cL_isFrame 52 = .ok (.aload_n 0, 1) := by decide +kernel
theorem dL_isFrame_53 : decode cL_isFrame 53 = .ok (.iconst 3, 1) := by decide +kernel
theorem dL_isFrame_54 : decode cL_isFrame 54 = .ok (.invokestatic 201, 3) := by decide +kernel
theorem dL_isFrame_57 : decode cL_isFrame 57 = .ok (.bipush (-79), 2) := by decide +kernel
theorem dL_isFrame_59 : decode cL_isFrame 59 = .ok (.if_icmp .ne 18, 3) := by decide +kernel
theorem dL_isFrame_62 : decode cL_isFrame 62 = .ok (.aload_n 0, 1) := by decide +kernel
theorem dL_isFrame_63 : decode cL_isFrame 63 = .ok (.invokestatic 203, 3) := by decide +kernel
theorem dL_isFrame_66 : decode cL_isFrame 66 = .ok (.ldc2_w 123, 3) := by decide +kernel
theorem dL_isFrame_69 : decode cL_isFrame 69 = .ok (.dcmp .l, 1) := by decide +kernel
theorem dL_isFrame_70 : decode cL_isFrame 70 = .ok (.ifCond .ne 7, 3) := by decide +kernel
theorem dL_isFrame_73 : decode cL_isFrame 73 = .ok (.iconst 1, 1) := by decide +kernel
theorem dL_isFrame_74 : decode cL_isFrame 74 = .ok (.goto 4, 3) := by decide +kernel
theorem dL_isFrame_77 : decode cL_isFrame 77 = .ok (.iconst 0, 1) := by decide +kernel
theorem dL_isFrame_78 : decode cL_isFrame 78 = .ok (.ireturn, 1) := by decide +kernel
theorem dL_isFrame_79 : decode cL_isFrame 79 = .ok (.lconst 0, 1) := by decide +kernel
theorem dL_isFrame_80 : decode cL_isFrame 80 = .ok (.lstore 5, 2) := by decide +kernel
theorem dL_isFrame_82 : decode cL_isFrame 82 = .ok (.lconst 0, 1) := by decide +kernel
theorem dL_isFrame_83 : decode cL_isFrame 83 = .ok (.lstore 7, 2) := by decide +kernel
theorem dL_isFrame_85 : decode cL_isFrame 85 = .ok (.lconst 0, 1) := by decide +kernel
theorem dL_isFrame_86 : decode cL_isFrame 86 = .ok (.lstore 9, 2) := by decide +kernel
theorem dL_isFrame_88 : decode cL_isFrame 88 = .ok (.iconst 0, 1) := by decide +kernel
theorem dL_isFrame_89 : decode cL_isFrame 89 = .ok (.istore 11, 2) := by decide +kernel
theorem dL_isFrame_91 : decode cL_isFrame 91 = .ok (.iload 11, 2) := by decide +kernel
theorem dL_isFrame_93 : decode cL_isFrame 93 = .ok (.iload_n 2, 1) := by decide +kernel
theorem dL_isFrame_94 : decode cL_isFrame 94 = .ok (.if_icmp .ge 98, 3) := by decide +kernel
theorem dL_isFrame_97 : decode cL_isFrame 97 = .ok (.aload_n 0, 1) := by decide +kernel
theorem dL_isFrame_98 : decode cL_isFrame 98 = .ok (.iload 11, 2) := by decide +kernel
theorem dL_isFrame_100 : decode cL_isFrame 100 = .ok (.invokestatic 206, 3) := by decide +kernel
theorem dL_isFrame_103 : decode cL_isFrame 103 = .ok (.lstore 12, 2) := by decide +kernel
theorem dL_isFrame_105 : decode cL_isFrame 105 = .ok (.aload_n 0, 1) := by decide +kernel
theorem dL_isFrame_106 : decode cL_isFrame 106 = .ok (.iload 11, 2) := by decide +kernel
theorem dL_isFrame_108 : decode cL_isFrame 108 = .ok (.invokestatic 209, 3) := by decide +kernel
theorem dL_isFrame_111 : decode cL_isFrame 111 = .ok (.lstore 14, 2) := by decide +kernel
theorem dL_isFrame_113 : decode cL_isFrame 113 = .ok (.lload 5, 2) := by decide +kernel
theorem dL_isFrame_115 : decode cL_isFrame 115 = .ok (.lload 12, 2) := by decide +kernel
theorem dL_isFrame_117 : decode cL_isFrame 117 = .ok (.invokestatic 211, 3) := by decide +kernel
theorem dL_isFrame_120 : decode cL_isFrame 120 = .ok (.ladd, 1) := by decide +kernel
theorem dL_isFrame_121 : decode cL_isFrame 121 = .ok (.lstore 5, 2) := by decide +kernel
theorem dL_isFrame_123 : decode cL_isFrame 123 = .ok (.lload 7, 2) := by decide +kernel
theorem dL_isFrame_125 : decode cL_isFrame 125 = .ok (.lload 14, 2) := by decide +kernel
theorem dL_isFrame_127 : decode cL_isFrame 127 = .ok (.ladd, 1) := by decide +kernel
theorem dL_isFrame_128 : decode cL_isFrame 128 = .ok (.lstore 7, 2) := by decide +kernel
theorem dL_isFrame_130 : decode cL_isFrame 130 = .ok (.lload 9, 2) := by decide +kernel
theorem dL_isFrame_132 : decode cL_isFrame 132 = .ok (.lload 12, 2) := by decide +kernel
theorem dL_isFrame_134 : decode cL_isFrame 134 = .ok (.invokestatic 211, 3) := by decide +kernel
theorem dL_isFrame_137 : decode cL_isFrame 137 = .ok (.invokestatic 217, 3) := by decide +kernel
theorem dL_isFrame_140 : decode cL_isFrame 140 = .ok (.lstore 9, 2) := by decide +kernel
theorem dL_isFrame_142 : decode cL_isFrame 142 = .ok (.iload 4, 2) := by decide +kernel
theorem dL_isFrame_144 : decode cL_isFrame 144 = .ok (.lload 12, 2) := by decide +kernel
theorem dL_isFrame_146 : decode cL_isFrame 146 = .ok (.lconst 0, 1) := by decide +kernel
theorem dL_isFrame_147 : decode cL_isFrame 147 = .ok (.lcmp, 1) := by decide +kernel
theorem dL_isFrame_148 : decode cL_isFrame 148 = .ok (.ifCond .eq 30, 3) := by decide +kernel
theorem dL_isFrame_151 : decode cL_isFrame 151 = .ok (.lload 12, 2) := by decide +kernel
theorem dL_isFrame_153 : decode cL_isFrame 153 = .ok (.lconst 0, 1) := by decide +kernel
theorem dL_isFrame_154 : decode cL_isFrame 154 = .ok (.lcmp, 1) := by decide +kernel
theorem dL_isFrame_155 : decode cL_isFrame 155 = .ok (.ifCond .le 7, 3) := by decide +kernel
theorem dL_isFrame_158 : decode cL_isFrame 158 = .ok (.iconst 1, 1) := by decide +kernel
theorem dL_isFrame_159 : decode cL_isFrame 159 = .ok (.goto 4, 3) := by decide +kernel
theorem dL_isFrame_162 : decode cL_isFrame 162 = .ok (.iconst 0, 1) := by decide +kernel
theorem dL_isFrame_163 : decode cL_isFrame 163 = .ok (.lload 14, 2) := by decide +kernel
theorem dL_isFrame_165 : decode cL_isFrame 165 = .ok (.lconst 0, 1) := by decide +kernel
theorem dL_isFrame_166 : decode cL_isFrame 166 = .ok (.lcmp, 1) := by decide +kernel
theorem dL_isFrame_167 : decode cL_isFrame 167 = .ok (.ifCond .lt 7, 3) := by decide +kernel
theorem dL_isFrame_170 : decode cL_isFrame 170 = .ok (.iconst 1, 1) := by decide +kernel
theorem dL_isFrame_171 : decode cL_isFrame 171 = .ok (.goto 4, 3) := by decide +kernel
theorem dL_isFrame_174 : decode cL_isFrame 174 = .ok (.iconst 0, 1) := by decide +kernel
theorem dL_isFrame_175 : decode cL_isFrame 175 = .ok (.if_icmp .ne 7, 3) := by decide +kernel
theorem dL_isFrame_178 : decode cL_isFrame 178 = .ok (.iconst 1, 1) := by decide +kernel
theorem dL_isFrame_179 : decode cL_isFrame 179 = .ok (.goto 4, 3) := by decide +kernel
theorem dL_isFrame_182 : decode cL_isFrame 182 = .ok (.iconst 0, 1) := by decide +kernel
theorem dL_isFrame_183 : decode cL_isFrame 183 = .ok (.iand, 1) := by decide +kernel
theorem dL_isFrame_184 : decode cL_isFrame 184 = .ok (.istore 4, 2) := by decide +kernel
theorem dL_isFrame_186 : decode cL_isFrame 186 = .ok (.iinc 11 1, 3) := by decide +kernel
theorem dL_isFrame_189 : decode cL_isFrame 189 = .ok (.goto (-98), 3) := by decide +kernel
theorem dL_isFrame_192 : decode cL_isFrame 192 = .ok (.iconst 0, 1) := by decide +kernel
theorem dL_isFrame_193 : decode cL_isFrame 193 = .ok (.istore 11, 2) := by decide +kernel
theorem dL_isFrame_195 : decode cL_isFrame 195 = .ok (.iload 11, 2) := by decide +kernel
theorem dL_isFrame_197 : decode cL_isFrame 197 = .ok (.bipush 30, 2) := by decide +kernel
theorem dL_isFrame_199 : decode cL_isFrame 199 = .ok (.if_icmp .gt 29, 3) := by decide +kernel
theorem dL_isFrame_202 : decode cL_isFrame 202 = .ok (.iload 4, 2) := by decide +kernel
theorem dL_isFrame_204 : decode cL_isFrame 204 = .ok (.aload_n 0, 1) := by decide +kernel
theorem dL_isFrame_205 : decode cL_isFrame 205 = .ok (.iload 11, 2) := by decide +kernel
theorem dL_isFrame_207 : decode cL_isFrame 207 = .ok (.invokestatic 201, 3) := by decide +kernel
theorem dL_isFrame_210 : decode cL_isFrame 210 = .ok (.iconst 1, 1) := by decide +kernel
theorem dL_isFrame_211 : decode cL_isFrame 211 = .ok (.if_icmp .ne 7, 3) := by decide +kernel
theorem dL_isFrame_214 : decode cL_isFrame 214 = .ok (.iconst 1, 1) := by decide +kernel
theorem dL_isFrame_215 : decode cL_isFrame 215 = .ok (.goto 4, 3) := by decide +kernel
theorem dL_isFrame_218 : decode cL_isFrame 218 = .ok (.iconst 0, 1) := by decide +kernel
theorem dL_isFrame_219 : decode cL_isFrame 219 = .ok (.iand, 1) := by decide +kernel
theorem dL_isFrame_220 : decode cL_isFrame 220 = .ok (.istore 4, 2) := by decide +kernel
theorem dL_isFrame_222 : decode cL_isFrame 222 = .ok (.iinc 11 5, 3) := by decide +kernel
theorem dL_isFrame_225 : decode cL_isFrame 225 = .ok (.goto (-30), 3) := by decide +kernel
theorem dL_isFrame_228 : decode cL_isFrame 228 = .ok (.aload_n 0, 1) := by decide +kernel
theorem dL_isFrame_229 : decode cL_isFrame 229 = .ok (.invokestatic 198, 3) := by decide +kernel
theorem dL_isFrame_232 : decode cL_isFrame 232 = .ok (.istore 11, 2) := by decide +kernel
theorem dL_isFrame_234 : decode cL_isFrame 234 = .ok (.iload 4, 2) := by decide +kernel
theorem dL_isFrame_236 : decode cL_isFrame 236 = .ok (.ifCond .eq 60, 3) := by decide +kernel
theorem dL_isFrame_239 : decode cL_isFrame 239 = .ok (.aload_n 0, 1) := by decide +kernel
theorem dL_isFrame_240 : decode cL_isFrame 240 = .ok (.invokestatic 195, 3) := by decide +kernel
theorem dL_isFrame_243 : decode cL_isFrame 243 = .ok (.lload 5, 2) := by decide +kernel
theorem dL_isFrame_245 : decode cL_isFrame 245 = .ok (.lcmp, 1) := by decide +kernel
theorem dL_isFrame_246 : decode cL_isFrame 246 = .ok (.ifCond .ne 50, 3) := by decide +kernel
theorem dL_isFrame_249 : decode cL_isFrame 249 = .ok (.iload_n 2, 1) := by decide +kernel
theorem dL_isFrame_250 : decode cL_isFrame 250 = .ok (.ifCond .ne 13, 3) := by decide +kernel
theorem dL_isFrame_253 : decode cL_isFrame 253 = .ok (.iload 11, 2) := by decide +kernel
theorem dL_isFrame_255 : decode cL_isFrame 255 = .ok (.bipush (-75), 2) := by decide +kernel
theorem dL_isFrame_257 : decode cL_isFrame 257 = .ok (.if_icmp .ne 39, 3) := by decide +kernel
theorem dL_isFrame_260 : decode cL_isFrame 260 = .ok (.goto 32, 3) := by decide +kernel
theorem dL_isFrame_263 : decode cL_isFrame 263 = .ok (.aload_n 0, 1) := by decide +kernel
theorem dL_isFrame_264 : decode cL_isFrame 264 = .ok (.iload 11, 2) := by decide +kernel
theorem dL_isFrame_266 : decode cL_isFrame 266 = .ok (.invokestatic 206, 3) := by decide +kernel
theorem dL_isFrame_269 : decode cL_isFrame 269 = .ok (.invokestatic 211, 3) := by decide +kernel
theorem dL_isFrame_272 : decode cL_isFrame 272 = .ok (.lload 9, 2) := by decide +kernel
theorem dL_isFrame_274 : decode cL_isFrame 274 = .ok (.lcmp, 1) := by decide +kernel
theorem dL_isFrame_275 : decode cL_isFrame 275 = .ok (.ifCond .ne 21, 3) := by decide +kernel
theorem dL_isFrame_278 : decode cL_isFrame 278 = .ok (.aload_n 0, 1) := by decide +kernel
theorem dL_isFrame_279 : decode cL_isFrame 279 = .ok (.invokestatic 203, 3) := by decide +kernel
theorem dL_isFrame_282 : decode cL_isFrame 282 = .ok (.lload 7, 2) := by decide +kernel
theorem dL_isFrame_284 : decode cL_isFrame 284 = .ok (.l2d, 1) := by decide +kernel
theorem dL_isFrame_285 : decode cL_isFrame 285 = .ok (.iload_n 2, 1) := by decide +kernel
theorem dL_isFrame_286 : decode cL_isFrame 286 = .ok (.i2d, 1) := by decide +kernel
theorem dL_isFrame_287 : decode cL_isFrame 287 = .ok (.ddiv, 1) := by decide +kernel
theorem dL_isFrame_288 : decode cL_isFrame 288 = .ok (.dcmp .l, 1) := by decide +kernel
theorem dL_isFrame_289 : decode cL_isFrame 289 = .ok (.ifCond .ne 7, 3) := by decide +kernel
theorem dL_isFrame_292 : decode cL_isFrame 292 = .ok (.iconst 1, 1) := by decide +kernel
theorem dL_isFrame_293 : decode cL_isFrame 293 = .ok (.goto 4, 3) := by decide +kernel
theorem dL_isFrame_296 : decode cL_isFrame 296 = .ok (.iconst 0, 1) := by decide +kernel
theorem dL_isFrame_297 : decode cL_isFrame 297 = .ok (.ireturn, 1) := by decide +kernel
theorem dL_areJoints_0 : decode cL_areJoints 0 = .ok (.aload_n 0, 1) := by decide +kernel
theorem dL_areJoints_1 : decode cL_areJoints 1 = .ok (.iload_n 1, 1) := by decide +kernel
theorem dL_areJoints_2 : decode cL_areJoints 2 = .ok (.invokestatic 221, 3) := by decide +kernel
theorem dL_areJoints_5 : decode cL_areJoints 5 = .ok (.bipush (-77), 2) := by decide +kernel
theorem dL_areJoints_7 : decode cL_areJoints 7 = .ok (.if_icmp .ne 7, 3) := by decide +kernel
theorem dL_areJoints_10 : decode cL_areJoints 10 = .ok (.iconst 1, 1) := by decide +kernel
theorem dL_areJoints_11 : decode cL_areJoints 11 = .ok (.goto 4, 3) := by decide +kernel
theorem dL_areJoints_14 : decode cL_areJoints 14 = .ok (.iconst 0, 1) := by decide +kernel
theorem dL_areJoints_15 : decode cL_areJoints 15 = .ok (.istore_n 2, 1) := by decide +kernel
theorem dL_areJoints_16 : decode cL_areJoints 16 = .ok (.iconst 0, 1) := by decide +kernel
theorem dL_areJoints_17 : decode cL_areJoints 17 = .ok (.istore_n 3, 1) := by decide +kernel
theorem dL_areJoints_18 : decode cL_areJoints 18 = .ok (.iconst 0, 1) := by decide +kernel
theorem dL_areJoints_19 : decode cL_areJoints 19 = .ok (.istore 4, 2) := by decide +kernel
theorem dL_areJoints_21 : decode cL_areJoints 21 = .ok (.iconst 0, 1) := by decide +kernel
theorem dL_areJoints_22 : decode cL_areJoints 22 = .ok (.istore 5, 2) := by decide +kernel
theorem dL_areJoints_24 : decode cL_areJoints 24 = .ok (.iload 5, 2) := by decide +kernel
theorem dL_areJoints_26 : decode cL_areJoints 26 = .ok (.iload_n 1, 1) := by decide +kernel
theorem dL_areJoints_27 : decode cL_areJoints 27 = .ok (.if_icmp .ge 122, 3) := by decide +kernel
theorem dL_areJoints_30 : decode cL_areJoints 30 = .ok (.aload_n 0, 1) := by decide +kernel
theorem dL_areJoints_31 : decode cL_areJoints 31 = .ok (.iload 5, 2) := by decide +kernel
theorem dL_areJoints_33 : decode cL_areJoints 33 = .ok (.invokestatic 223, 3) := by decide +kernel
theorem dL_areJoints_36 : decode cL_areJoints 36 = .ok (.istore 6, 2) := by decide +kernel
theorem dL_areJoints_38 : decode cL_areJoints 38 = .ok (.iload 6, 2) := by decide +kernel
theorem dL_areJoints_40 : decode cL_areJoints 40 = .ok (.iconst 1, 1) := by decide +kernel
theorem dL_areJoints_41 : decode cL_areJoints 41 = .ok (.iand, 1) := by decide +kernel
theorem dL_areJoints_42 : decode cL_areJoints 42 = .ok (.bipush 16, 2) := by decide +kernel
theorem dL_areJoints_44 : decode cL_areJoints 44 = .ok (.imul, 1) := by decide +kernel
theorem dL_areJoints_45 : decode cL_areJoints 45 = .ok (.iload 6, 2) := by decide +kernel
theorem dL_areJoints_47 : decode cL_areJoints 47 = .ok (.iconst 2, 1) := by decide +kernel
theorem dL_areJoints_48 : decode cL_areJoints 48 = .ok (.iand, 1) := by decide +kernel
theorem dL_areJoints_49 : decode cL_areJoints 49 = .ok (.iconst 4, 1) := by decide +kernel
theorem dL_areJoints_50 : decode cL_areJoints 50 = .ok (.imul, 1) := by decide +kernel
theorem dL_areJoints_51 : decode cL_areJoints 51 = .ok (.iadd, 1) := by decide +kernel
theorem dL_areJoints_52 : decode cL_areJoints 52 = .ok (.iload 6, 2) := by decide +kernel
theorem dL_areJoints_54 : decode cL_areJoints 54 = .ok (.iconst 4, 1) := by decide +kernel
theorem dL_areJoints_55 : decode cL_areJoints 55 = .ok (.iand, 1) := by decide +kernel
theorem dL_areJoints_56 : decode cL_areJoints 56 = .ok (.iadd, 1) := by decide +kernel
theorem dL_areJoints_57 : decode cL_areJoints 57 = .ok (.iload 6, 2) := by decide +kernel
theorem dL_areJoints_59 : decode cL_areJoints 59 = .ok (.bipush 8, 2) := by decide +kernel
theorem dL_areJoints_61 : decode cL_areJoints 61 = .ok (.iand, 1) := by decide +kernel
theorem dL_areJoints_62 : decode cL_areJoints 62 = .ok (.iconst 4, 1) := by decide +kernel
theorem dL_areJoints_63 : decode cL_areJoints 63 = .ok (.idiv, 1) := by decide +kernel
theorem dL_areJoints_64 : decode cL_areJoints 64 = .ok (.iadd, 1) := by decide +kernel
theorem dL_areJoints_65 : decode cL_areJoints 65 = .ok (.iload 6, 2) := by decide +kernel
theorem dL_areJoints_67 : decode cL_areJoints 67 = .ok (.bipush 16, 2) := by decide +kernel
theorem dL_areJoints_69 : decode cL_areJoints 69 = .ok (.iand, 1) := by decide +kernel
theorem dL_areJoints_70 : decode cL_areJoints 70 = .ok (.bipush 16, 2) := by decide +kernel
theorem dL_areJoints_72 : decode cL_areJoints 72 = .ok (.idiv, 1) := by decide +kernel
theorem dL_areJoints_73 : decode cL_areJoints 73 = .ok (.iadd, 1) := by decide +kernel
theorem dL_areJoints_74 : decode cL_areJoints 74 = .ok (.istore 7, 2) := by decide +kernel
theorem dL_areJoints_76 : decode cL_areJoints 76 = .ok (.iload_n 2, 1) := by decide +kernel
theorem dL_areJoints_77 : decode cL_areJoints 77 = .ok (.iload 6, 2) := by decide +kernel
theorem dL_areJoints_79 : decode cL_areJoints 79 = .ok (.ifCond .le 39, 3) := by decide +kernel
theorem dL_areJoints_82 : decode cL_areJoints 82 = .ok (.iload 6, 2) := by decide +kernel
theorem dL_areJoints_84 : decode cL_areJoints 84 = .ok (.bipush 32, 2) := by decide +kernel
theorem dL_areJoints_86 : decode cL_areJoints 86 = .ok (.if_icmp .ge 32, 3) := by decide +kernel
theorem dL_areJoints_89 : decode cL_areJoints 89 = .ok (.iload 7, 2) := by decide +kernel
theorem dL_areJoints_91 : decode cL_areJoints 91 = .ok (.ifCond .le 27, 3) := by decide +kernel
theorem dL_areJoints_94 : decode cL_areJoints 94 = .ok (.aload_n 0, 1) := by decide +kernel
theorem dL_areJoints_95 : decode cL_areJoints 95 = .ok (.iload 5, 2) := by decide +kernel
theorem dL_areJoints_97 : decode cL_areJoints 97 = .ok (.invokestatic 225, 3) := by decide +kernel
theorem dL_areJoints_100 : decode cL_areJoints 100 = .ok (.ifCond .lt 18, 3) := by decide +kernel
theorem dL_areJoints_103 : decode cL_areJoints 103 = .ok (.aload_n 0, 1) := by decide +kernel
theorem dL_areJoints_104 : decode cL_areJoints 104 = .ok (.iload 5, 2) := by decide +kernel
theorem dL_areJoints_106 : decode cL_areJoints 106 = .ok (.invokestatic 225, 3) := by decide +kernel
theorem dL_areJoints_109 : decode cL_areJoints 109 = .ok (.bipush 20, 2) := by decide +kernel
theorem dL_areJoints_111 : decode cL_areJoints 111 = .ok (.if_icmp .gt 7, 3) := by decide +kernel
theorem dL_areJoints_114 : decode cL_areJoints 114 = .ok (.iconst 1, 1) := by decide +kernel
theorem dL_areJoints_115 : decode cL_areJoints 115 = .ok (.goto 4, 3) := by decide +kernel
theorem dL_areJoints_118 : decode cL_areJoints 118 = .ok (.iconst 0, 1) := by decide +kernel
theorem dL_areJoints_119 : decode cL_areJoints 119 = .ok (.iand, 1) := by decide +kernel
theorem dL_areJoints_120 : decode cL_areJoints 120 = .ok (.istore_n 2, 1) := by decide +kernel
theorem dL_areJoints_121 : decode cL_areJoints 121 = .ok (.iload_n 3, 1) := by decide +kernel
theorem dL_areJoints_122 : decode cL_areJoints 122 = .ok (.aload_n 0, 1) := by decide +kernel
theorem dL_areJoints_123 : decode cL_areJoints 123 = .ok (.iload 5, 2) := by decide +kernel
theorem dL_areJoints_125 : decode cL_areJoints 125 = .ok (.invokestatic 221, 3) := by decide +kernel
theorem dL_areJoints_128 : decode cL_areJoints 128 = .ok (.iadd, 1) := by decide +kernel
theorem dL_areJoints_129 : decode cL_areJoints 129 = .ok (.istore_n 3, 1) := by decide +kernel
theorem dL_areJoints_130 : decode cL_areJoints 130 = .ok (.iload 4, 2) := by decide +kernel
theorem dL_areJoints_132 : decode cL_areJoints 132 = .ok (.aload_n 0, 1) := by decide +kernel
theorem dL_areJoints_133 : decode cL_areJoints 133 = .ok (.iload 5, 2) := by decide +kernel
theorem dL_areJoints_135 : decode cL_areJoints 135 = .ok (.invokestatic 225, 3) := by decide +kernel
theorem dL_areJoints_138 : decode cL_areJoints 138 = .ok (.invokestatic 227, 3) := by decide +kernel
theorem dL_areJoints_141 : decode cL_areJoints 141 = .ok (.istore 4, 2) := by decide +kernel
theorem dL_areJoints_143 : decode cL_areJoints 143 = .ok (.iinc 5 1, 3) := by decide +kernel
theorem dL_areJoints_146 : decode cL_areJoints 146 = .ok (.goto (-122), 3) := by decide +kernel
theorem dL_areJoints_149 : decode cL_areJoints 149 = .ok (.aload_n 0, 1) := by decide +kernel
theorem dL_areJoints_150 : decode cL_areJoints 150 = .ok (.invokestatic 229, 3) := by decide +kernel
theorem dL_areJoints_153 : decode cL_areJoints 153 = .ok (.istore 5, 2) := by decide +kernel
theorem dL_areJoints_155 : decode cL_areJoints 155 = .ok (.aload_n 0, 1) := by decide +kernel
theorem dL_areJoints_156 : decode cL_areJoints 156 = .ok (.invokestatic 231, 3) := by decide +kernel
theorem dL_areJoints_159 : decode cL_areJoints 159 = .ok (.fstore 6, 2) := by decide +kernel
theorem dL_areJoints_161 : decode cL_areJoints 161 = .ok (.iload_n 2, 1) := by decide +kernel
theorem dL_areJoints_162 : decode cL_areJoints 162 = .ok (.ifCond .eq 68, 3) := by decide +kernel
theorem dL_areJoints_165 : decode cL_areJoints 165 = .ok (.aload_n 0, 1) := by decide +kernel
theorem dL_areJoints_166 : decode cL_areJoints 166 = .ok (.invokevirtual 234, 3) := by decide +kernel
theorem dL_areJoints_169 : decode cL_areJoints 169 = .ok (.ifCond .lt 61, 3) := by decide +kernel
theorem dL_areJoints_172 : decode cL_areJoints 172 = .ok (.aload_n 0, 1) := by decide +kernel
theorem dL_areJoints_173 : decode cL_areJoints 173 = .ok (.invokevirtual 234, 3) := by decide +kernel
theorem dL_areJoints_176 : decode cL_areJoints 176 = .ok (.iload_n 1, 1) := by decide +kernel
theorem dL_areJoints_177 : decode cL_areJoints 177 = .ok (.iload_n 1, 1) := by decide +kernel
theorem dL_areJoints_178 : decode cL_areJoints 178 = .ok (.imul, 1) := by decide +kernel
theorem dL_areJoints_179 : decode cL_areJoints 179 = .ok (.if_icmp .gt 51, 3) := by decide +kernel
theorem dL_areJoints_182 : decode cL_areJoints 182 = .ok (.iload_n 1, 1) := by decide +kernel
theorem dL_areJoints_183 : decode cL_areJoints 183 = .ok (.ifCond .ne 21, 3) := by decide +kernel
theorem dL_areJoints_186 : decode cL_areJoints 186 = .ok (.iload 5, 2) := by decide +kernel
theorem dL_areJoints_188 : decode cL_areJoints 188 = .ok (.bipush (-75), 2) := by decide +kernel
theorem dL_areJoints_190 : decode cL_areJoints 190 = .ok (.if_icmp .ne 40, 3) := by decide +kernel
theorem dL_areJoints_193 : decode cL_areJoints 193 = .ok (.fload 6, 2) := by decide +kernel
theorem dL_areJoints_195 : decode cL_areJoints 195 = .ok (.ldc 118, 2) := by decide +kernel
theorem dL_areJoints_197 : decode cL_areJoints 197 = .ok (.fcmp .l, 1) := by decide +kernel
theorem dL_areJoints_198 : decode cL_areJoints 198 = .ok (.ifCond .ne 32, 3) := by decide +kernel
theorem dL_areJoints_201 : decode cL_areJoints 201 = .ok (.goto 25, 3) := by decide +kernel
theorem dL_areJoints_204 : decode cL_areJoints 204 = .ok (.aload_n 0, 1) := by decide +kernel
theorem dL_areJoints_205 : decode cL_areJoints 205 = .ok (.iload 5, 2) := by decide +kernel
theorem dL_areJoints_207 : decode cL_areJoints 207 = .ok (.invokestatic 225, 3) := by decide +kernel
theorem dL_areJoints_210 : decode cL_areJoints 210 = .ok (.iload 4, 2) := by decide +kernel
theorem dL_areJoints_212 : decode cL_areJoints 212 = .ok (.if_icmp .ne 18, 3) := by decide +kernel
theorem dL_areJoints_215 : decode cL_areJoints 215 = .ok (.fload 6, 2) := by decide +kernel
theorem dL_areJoints_217 : decode cL_areJoints 217 = .ok (.iload_n 3, 1) := by decide +kernel
theorem dL_areJoints_218 : decode cL_areJoints 218 = .ok (.i2f, 1) := by decide +kernel
theorem dL_areJoints_219 : decode cL_areJoints 219 = .ok (.iload_n 1, 1) := by decide +kernel
theorem dL_areJoints_220 : decode cL_areJoints 220 = .ok (.i2f, 1) := by decide +kernel
theorem dL_areJoints_221 : decode cL_areJoints 221 = .ok (.fdiv, 1) := by decide +kernel
theorem dL_areJoints_222 : decode cL_areJoints 222 = .ok (.fcmp .l, 1) := by decide +kernel
theorem dL_areJoints_223 : decode cL_areJoints 223 = .ok (.ifCond .ne 7, 3) := by decide +kernel
theorem dL_areJoints_226 : decode cL_areJoints 226 = .ok (.iconst 1, 1) := by decide +kernel
theorem dL_areJoints_227 : decode cL_areJoints 227 = .ok (.goto 4, 3) := by decide +kernel
theorem dL_areJoints_230 : decode cL_areJoints 230 = .ok (.iconst 0, 1) := by decide +kernel
theorem dL_areJoints_231 : decode cL_areJoints 231 = .ok (.ireturn, 1) := by decide +kernel
theorem dL_isYard_0 : decode cL_isYard 0 = .ok (.aload_n 0, 1) := by decide +kernel
theorem dL_isYard_1 : decode cL_isYard 1 = .ok (.invokestatic 237, 3) := by decide +kernel
theorem dL_isYard_4 : decode cL_isYard 4 = .ok (.istore_n 3, 1) := by decide +kernel
theorem dL_isYard_5 : decode cL_isYard 5 = .ok (.iload_n 3, 1) := by decide +kernel
theorem dL_isYard_6 : decode cL_isYard 6 = .ok (.ifCond .ge 13, 3) := by decide +kernel
theorem dL_isYard_9 : decode cL_isYard 9 = .ok (.iload_n 3, 1) := by decide +kernel
theorem dL_isYard_10 : decode cL_isYard 10 = .ok (.bipush (-75), 2) := by decide +kernel
theorem dL_isYard_12 : decode cL_isYard 12 = .ok (.if_icmp .ne 11, 3) := by decide +kernel
theorem dL_isYard_15 : decode cL_isYard 15 = .ok (.iload_n 1, 1) := by decide +kernel
theorem dL_isYard_16 : decode cL_isYard 16 = .ok (.ifCond .le 7, 3) := by decide +kernel
theorem dL_isYard_19 : decode cL_isYard 19 = .ok (.iconst 1, 1) := by decide +kernel
theorem dL_isYard_20 : decode cL_isYard 20 = .ok (.goto 4, 3) := by decide +kernel
theorem dL_isYard_23 : decode cL_isYard 23 = .ok (.iconst 0, 1) := by decide +kernel
theorem dL_isYard_24 : decode cL_isYard 24 = .ok (.istore 4, 2) := by decide +kernel
theorem dL_isYard_26 : decode cL_isYard 26 = .ok (.iconst 5, 1) := by decide +kernel
theorem dL_isYard_27 : decode cL_isYard 27 = .ok (.newarray .int, 2) := by decide +kernel
theorem dL_isYard_29 : decode cL_isYard 29 = .ok (.astore 5, 2) := by decide +kernel
theorem dL_isYard_31 : decode cL_isYard 31 = .ok (.iconst 5, 1) := by decide +kernel
theorem dL_isYard_32 : decode cL_isYard 32 = .ok (.newarray .int, 2) := by decide +kernel
theorem dL_isYard_34 : decode cL_isYard 34 = .ok (.astore 6, 2) := by decide +kernel
theorem dL_isYard_36 : decode cL_isYard 36 = .ok (.iconst 0, 1) := by decide +kernel
theorem dL_isYard_37 : decode cL_isYard 37 = .ok (.istore 7, 2) := by decide +kernel
theorem dL_isYard_39 : decode cL_isYard 39 = .ok (.iload 7, 2) := by decide +kernel
theorem dL_isYard_41 : decode cL_isYard 41 = .ok (.iload_n 1, 1) := by decide +kernel
theorem dL_isYard_42 : decode cL_isYard 42 = .ok (.if_icmp .ge 91, 3) := by decide +kernel
theorem dL_isYard_45 : decode cL_isYard 45 = .ok (.aload_n 0, 1) := by decide +kernel
theorem dL_isYard_46 : decode cL_isYard 46 = .ok (.iload 7, 2) := by decide +kernel
theorem dL_isYard_48 : decode cL_isYard 48 = .ok (.invokestatic 239, 3) := by decide +kernel
theorem dL_isYard_51 : decode cL_isYard 51 = .ok (.istore 8, 2) := by decide +kernel
theorem dL_isYard_53 : decode cL_isYard 53 = .ok (.iload 4, 2) := by decide +kernel
theorem dL_isYard_55 : decode cL_isYard 55 = .ok (.aload_n 0, 1) := by decide +kernel
theorem dL_isYard_56 : decode cL_isYard 56 = .ok (.iload 7, 2) := by decide +kernel
theorem dL_isYard_58 : decode cL_isYard 58 = .ok (.invokestatic 241, 3) := by decide +kernel
theorem dL_isYard_61 : decode cL_isYard 61 = .ok (.ifCond .le 32, 3) := by decide +kernel
theorem dL_isYard_64 : decode cL_isYard 64 = .ok (.iload_n 3, 1) := by decide +kernel
theorem dL_isYard_65 : decode cL_isYard 65 = .ok (.ifCond .ge 13, 3) := by decide +kernel
theorem dL_isYard_68 : decode cL_isYard 68 = .ok (.iload 8, 2) := by decide +kernel
theorem dL_isYard_70 : decode cL_isYard 70 = .ok (.bipush (-75), 2) := by decide +kernel
theorem dL_isYard_72 : decode cL_isYard 72 = .ok (.if_icmp .ne 21, 3) := by decide +kernel
theorem dL_isYard_75 : decode cL_isYard 75 = .ok (.goto 14, 3) := by decide +kernel
theorem dL_isYard_78 : decode cL_isYard 78 = .ok (.iload 8, 2) := by decide +kernel
theorem dL_isYard_80 : decode cL_isYard 80 = .ok (.ifCond .lt 13, 3) := by decide +kernel
theorem dL_isYard_83 : decode cL_isYard 83 = .ok (.iload 8, 2) := by decide +kernel
theorem dL_isYard_85 : decode cL_isYard 85 = .ok (.iload_n 2, 1) := by decide +kernel
theorem dL_isYard_86 : decode cL_isYard 86 = .ok (.if_icmp .ge 7, 3) := by decide +kernel
theorem dL_isYard_89 : decode cL_isYard 89 = .ok (.iconst 1, 1) := by decide +kernel
theorem dL_isYard_90 : decode cL_isYard 90 = .ok (.goto 4, 3) := by decide +kernel
theorem dL_isYard_93 : decode cL_isYard 93 = .ok (.iconst 0, 1) := by decide +kernel
theorem dL_isYard_94 : decode cL_isYard 94 = .ok (.iand, 1) := by decide +kernel
theorem dL_isYard_95 : decode cL_isYard 95 = .ok (.istore 4, 2) := by decide +kernel
theorem dL_isYard_97 : decode cL_isYard 97 = .ok (.iload 8, 2) := by decide +kernel
theorem dL_isYard_99 : decode cL_isYard 99 = .ok (.ifCond .lt 28, 3) := by decide +kernel
theorem dL_isYard_102 : decode cL_isYard 102 = .ok (.aload 5, 2) := by decide +kernel
theorem dL_isYard_104 : decode cL_isYard 104 = .ok (.iload 8, 2) := by decide +kernel
theorem dL_isYard_106 : decode cL_isYard 106 = .ok (.dup2, 1) := by decide +kernel
theorem dL_isYard_107 : decode cL_isYard 107 = .ok (.iaload, 1) := by decide +kernel
theorem dL_isYard_108 : decode cL_isYard 108 = .ok (.aload_n 0, 1) := by decide +kernel
theorem dL_isYard_109 : decode cL_isYard 109 = .ok (.iload 7, 2) := by decide +kernel
theorem dL_isYard_111 : decode cL_isYard 111 = .ok (.invokestatic 241, 3) := by decide +kernel
theorem dL_isYard_114 : decode cL_isYard 114 = .ok (.iconst 1, 1) := by decide +kernel
theorem dL_isYard_115 : decode cL_isYard 115 = .ok (.iadd, 1) := by decide +kernel
theorem dL_isYard_116 : decode cL_isYard 116 = .ok (.iadd, 1) := by decide +kernel
theorem dL_isYard_117 : decode cL_isYard 117 = .ok (.iastore, 1) := by decide +kernel
theorem dL_isYard_118 : decode cL_isYard 118 = .ok (.aload 6, 2) := by decide +kernel
theorem dL_isYard_120 : decode cL_isYard 120 = .ok (.iload 8, 2) := by decide +kernel
theorem dL_isYard_122 : decode cL_isYard 122 = .ok (.dup2, 1) := by decide +kernel
theorem dL_isYard_123 : decode cL_isYard 123 = .ok (.iaload, 1) := by decide +kernel
theorem dL_isYard_124 : decode cL_isYard 124 = .ok (.iconst 1, 1) := by decide +kernel
theorem dL_isYard_125 : decode cL_isYard 125 = .ok (.iadd, 1) := by decide +kernel
theorem dL_isYard_126 : decode cL_isYard 126 = .ok (.iastore, 1) := by decide +kernel
theorem dL_isYard_127 : decode cL_isYard 127 = .ok (.iinc 7 1, 3) := by decide +kernel
theorem dL_isYard_130 : decode cL_isYard 130 = .ok (.goto (-91), 3) := by decide +kernel
theorem dL_isYard_133 : decode cL_isYard 133 = .ok (.iconst 0, 1) := by decide +kernel
theorem dL_isYard_134 : decode cL_isYard 134 = .ok (.istore 7, 2) := by decide +kernel
theorem dL_isYard_136 : decode cL_isYard 136 = .ok (.iconst 0, 1) := by decide +kernel
theorem dL_isYard_137 : decode cL_isYard 137 = .ok (.istore 8, 2) := by decide +kernel
theorem dL_isYard_139 : decode cL_isYard 139 = .ok (.iconst 0, 1) := by decide +kernel
theorem dL_isYard_140 : decode cL_isYard 140 = .ok (.istore 9, 2) := by decide +kernel
theorem dL_isYard_142 : decode cL_isYard 142 = .ok (.iload 9, 2) := by decide +kernel
theorem dL_isYard_144 : decode cL_isYard 144 = .ok (.iload_n 2, 1) := by decide +kernel
theorem dL_isYard_145 : decode cL_isYard 145 = .ok (.if_icmp .ge 72, 3) := by decide +kernel
theorem dL_isYard_148 : decode cL_isYard 148 = .ok (.iload_n 3, 1) := by decide +kernel
theorem dL_isYard_149 : decode cL_isYard 149 = .ok (.ifCond .lt 68, 3) := by decide +kernel
theorem dL_isYard_152 : decode cL_isYard 152 = .ok (.iload 4, 2) := by decide +kernel
theorem dL_isYard_154 : decode cL_isYard 154 = .ok (.aload_n 0, 1) := by decide +kernel
theorem dL_isYard_155 : decode cL_isYard 155 = .ok (.iload 9, 2) := by decide +kernel
theorem dL_isYard_157 : decode cL_isYard 157 = .ok (.invokestatic 243, 3) := by decide +kernel
theorem dL_isYard_160 : decode cL_isYard 160 = .ok (.ifCond .lt 7, 3) := by decide +kernel
theorem dL_isYard_163 : decode cL_isYard 163 = .ok (.iconst 1, 1) := by decide +kernel
theorem dL_isYard_164 : decode cL_isYard 164 = .ok (.goto 4, 3) := by decide +kernel
theorem dL_isYard_167 : decode cL_isYard 167 = .ok (.iconst 0, 1) := by decide +kernel
theorem dL_isYard_168 : decode cL_isYard 168 = .ok (.iand, 1) := by decide +kernel
theorem dL_isYard_169 : decode cL_isYard 169 = .ok (.istore 4, 2) := by decide +kernel
theorem dL_isYard_171 : decode cL_isYard 171 = .ok (.iload 8, 2) := by decide +kernel
theorem dL_isYard_173 : decode cL_isYard 173 = .ok (.aload 6, 2) := by decide +kernel
theorem dL_isYard_175 : decode cL_isYard 175 = .ok (.iload 9, 2) := by decide +kernel
theorem dL_isYard_177 : decode cL_isYard 177 = .ok (.iaload, 1) := by decide +kernel
theorem dL_isYard_178 : decode cL_isYard 178 = .ok (.ifCond .le 18, 3) := by decide +kernel
theorem dL_isYard_181 : decode cL_isYard 181 = .ok (.aload_n 0, 1) := by decide +kernel
theorem dL_isYard_182 : decode cL_isYard 182 = .ok (.iload 9, 2) := by decide +kernel
theorem dL_isYard_184 : decode cL_isYard 184 = .ok (.invokestatic 243, 3) := by decide +kernel
theorem dL_isYard_187 : decode cL_isYard 187 = .ok (.aload 5, 2) := by decide +kernel
theorem dL_isYard_189 : decode cL_isYard 189 = .ok (.iload 9, 2) := by decide +kernel
theorem dL_isYard_191 : decode cL_isYard 191 = .ok (.iaload, 1) := by decide +kernel
theorem dL_isYard_192 : decode cL_isYard 192 = .ok (.iadd, 1) := by decide +kernel
theorem dL_isYard_193 : decode cL_isYard 193 = .ok (.goto 4, 3) := by decide +kernel
theorem dL_isYard_196 : decode cL_isYard 196 = .ok (.iconst 0, 1) := by decide +kernel
theorem dL_isYard_197 : decode cL_isYard 197 = .ok (.iadd, 1) := by decide +kernel
theorem dL_isYard_198 : decode cL_isYard 198 = .ok (.istore 8, 2) := by decide +kernel
theorem dL_isYard_200 : decode cL_isYard 200 = .ok (.iload 7, 2) := by decide +kernel
theorem dL_isYard_202 : decode cL_isYard 202 = .ok (.aload_n 0, 1) := by decide +kernel
theorem dL_isYard_203 : decode cL_isYard 203 = .ok (.iload 9, 2) := by decide +kernel
theorem dL_isYard_205 : decode cL_isYard 205 = .ok (.invokestatic 243, 3) := by decide +kernel
theorem dL_isYard_208 : decode cL_isYard 208 = .ok (.iadd, 1) := by decide +kernel
theorem dL_isYard_209 : decode cL_isYard 209 = .ok (.istore 7, 2) := by decide +kernel
theorem dL_isYard_211 : decode cL_isYard 211 = .ok (.iinc 9 1, 3) := by decide +kernel
theorem dL_isYard_214 : decode cL_isYard 214 = .ok (.goto (-72), 3) := by decide +kernel
theorem dL_isYard_217 : decode cL_isYard 217 = .ok (.iload 4, 2) := by decide +kernel
theorem dL_isYard_219 : decode cL_isYard 219 = .ok (.ifCond .eq 32, 3) := by decide +kernel
theorem dL_isYard_222 : decode cL_isYard 222 = .ok (.iload_n 3, 1) := by decide +kernel
theorem dL_isYard_223 : decode cL_isYard 223 = .ok (.ifCond .lt 14, 3) := by decide +kernel
theorem dL_isYard_226 : decode cL_isYard 226 = .ok (.iload 8, 2) := by decide +kernel
theorem dL_isYard_228 : decode cL_isYard 228 = .ok (.iload_n 3, 1) := by decide +kernel
theorem dL_isYard_229 : decode cL_isYard 229 = .ok (.if_icmp .ne 22, 3) := by decide +kernel
theorem dL_isYard_232 : decode cL_isYard 232 = .ok (.iload 7, 2) := by decide +kernel
theorem dL_isYard_234 : decode cL_isYard 234 = .ok (.ifCond .lt 17, 3) := by decide +kernel
theorem dL_isYard_237 : decode cL_isYard 237 = .ok (.aload_n 0, 1) := by decide +kernel
theorem dL_isYard_238 : decode cL_isYard 238 = .ok (.iload_n 2, 1) := by decide +kernel
theorem dL_isYard_239 : decode cL_isYard 239 = .ok (.invokestatic 243, 3) := by decide +kernel
theorem dL_isYard_242 : decode cL_isYard 242 = .ok (.bipush (-77), 2) := by decide +kernel
theorem dL_isYard_244 : decode cL_isYard 244 = .ok (.if_icmp .ne 7, 3) := by decide +kernel
theorem dL_isYard_247 : decode cL_isYard 247 = .ok (.iconst 1, 1) := by decide +kernel
theorem dL_isYard_248 : decode cL_isYard 248 = .ok (.goto 4, 3) := by decide +kernel
theorem dL_isYard_251 : decode cL_isYard 251 = .ok (.iconst 0, 1) := by decide +kernel
theorem dL_isYard_252 : decode cL_isYard 252 = .ok (.ireturn, 1) := by decide +kernel
theorem dL_isRaising_0 : decode cL_isRaising 0 = .ok (.aload_n 0, 1) := by decide +kernel
theorem dL_isRaising_1 : decode cL_isRaising 1 = .ok (.invokevirtual 245, 3) := by decide +kernel
theorem dL_isRaising_4 : decode cL_isRaising 4 = .ok (.istore_n 2, 1) := by decide +kernel
theorem dL_isRaising_5 : decode cL_isRaising 5 = .ok (.aload_n 0, 1) := by decide +kernel
theorem dL_isRaising_6 : decode cL_isRaising 6 = .ok (.invokevirtual 248, 3) := by decide +kernel
theorem dL_isRaising_9 : decode cL_isRaising 9 = .ok (.iload_n 2, 1) := by decide +kernel
theorem dL_isRaising_10 : decode cL_isRaising 10 = .ok (.if_icmp .ne 23, 3) := by decide +kernel
theorem dL_isRaising_13 : decode cL_isRaising 13 = .ok (.aload_n 0, 1) := by decide +kernel
theorem dL_isRaising_14 : decode cL_isRaising 14 = .ok (.invokevirtual 251, 3) := by decide +kernel
theorem dL_isRaising_17 : decode cL_isRaising 17 = .ok (.ifCond .le 7, 3) := by decide +kernel
theorem dL_isRaising_20 : decode cL_isRaising 20 = .ok (.iconst 1, 1) := by decide +kernel
theorem dL_isRaising_21 : decode cL_isRaising 21 = .ok (.goto 4, 3) := by decide +kernel
theorem dL_isRaising_24 : decode cL_isRaising 24 = .ok (.iconst 0, 1) := by decide +kernel
theorem dL_isRaising_25 : decode cL_isRaising 25 = .ok (.iload_n 2, 1) := by decide +kernel
theorem dL_isRaising_26 : decode cL_isRaising 26 = .ok (.if_icmp .ne 7, 3) := by decide +kernel
theorem dL_isRaising_29 : decode cL_isRaising 29 = .ok (.iconst 1, 1) := by decide +kernel
theorem dL_isRaising_30 : decode cL_isRaising 30 = .ok (.goto 4, 3) := by decide +kernel
theorem dL_isRaising_33 : decode cL_isRaising 33 = .ok (.iconst 0, 1) := by decide +kernel
theorem dL_isRaising_34 : decode cL_isRaising 34 = .ok (.istore_n 3, 1) := by decide +kernel
theorem dL_isRaising_35 : decode cL_isRaising 35 = .ok (.iconst 0, 1) := by decide +kernel
theorem dL_isRaising_36 : decode cL_isRaising 36 = .ok (.istore 4, 2) := by decide +kernel
theorem dL_isRaising_38 : decode cL_isRaising 38 = .ok (.aload_n 0, 1) := by decide +kernel
theorem dL_isRaising_39 : decode cL_isRaising 39 = .ok (.iconst 0, 1) := by decide +kernel
theorem dL_isRaising_40 : decode cL_isRaising 40 = .ok (.invokestatic 156, 3) := by decide +kernel
theorem dL_isRaising_43 : decode cL_isRaising 43 = .ok (.istore 5, 2) := by decide +kernel
theorem dL_isRaising_45 : decode cL_isRaising 45 = .ok (.iload_n 3, 1) := by decide +kernel
theorem dL_isRaising_46 : decode cL_isRaising 46 = .ok (.aload_n 0, 1) := by decide +kernel
theorem dL_isRaising_47 : decode cL_isRaising 47 = .ok (.iload 5, 2) := by decide +kernel
theorem dL_isRaising_49 : decode cL_isRaising 49 = .ok (.invokestatic 156, 3) := by decide +kernel
theorem dL_isRaising_52 : decode cL_isRaising 52 = .ok (.ifCond .ne 7, 3) := by decide +kernel
theorem dL_isRaising_55 : decode cL_isRaising 55 = .ok (.iconst 1, 1) := by decide +kernel
theorem dL_isRaising_56 : decode cL_isRaising 56 = .ok (.goto 4, 3) := by decide +kernel
theorem dL_isRaising_59 : decode cL_isRaising 59 = .ok (.iconst 0, 1) := by decide +kernel
theorem dL_isRaising_60 : decode cL_isRaising 60 = .ok (.iand, 1) := by decide +kernel
theorem dL_isRaising_61 : decode cL_isRaising 61 = .ok (.istore_n 3, 1) := by decide +kernel
theorem dL_isRaising_62 : decode cL_isRaising 62 = .ok (.iconst 0, 1) := by decide +kernel
theorem dL_isRaising_63 : decode cL_isRaising 63 = .ok (.istore 6, 2) := by decide +kernel
theorem dL_isRaising_65 : decode cL_isRaising 65 = .ok (.iload 6, 2) := by decide +kernel
theorem dL_isRaising_67 : decode cL_isRaising 67 = .ok (.iload_n 1, 1) := by decide +kernel
theorem dL_isRaising_68 : decode cL_isRaising 68 = .ok (.if_icmp .ge 113, 3) := by decide +kernel
theorem dL_isRaising_71 : decode cL_isRaising 71 = .ok (.aload_n 0, 1) := by decide +kernel
theorem dL_isRaising_72 : decode cL_isRaising 72 = .ok (.iload 6, 2) := by decide +kernel
theorem dL_isRaising_74 : decode cL_isRaising 74 = .ok (.invokestatic 254, 3) := by decide +kernel
theorem dL_isRaising_77 : decode cL_isRaising 77 = .ok (.istore 7, 2) := by decide +kernel
theorem dL_isRaising_79 : decode cL_isRaising 79 = .ok (.iload_n 3, 1) := by decide +kernel
theorem dL_isRaising_80 : decode cL_isRaising 80 = .ok (.iload_n 2, 1) := by decide +kernel
theorem dL_isRaising_81 : decode cL_isRaising 81 = .ok (.ifCond .eq 52, 3) := by decide +kernel
theorem dL_isRaising_84 : decode cL_isRaising 84 = .ok (.iload 7, 2) := by decide +kernel
theorem dL_isRaising_86 : decode cL_isRaising 86 = .ok (.ifCond .lt 43, 3) := by decide +kernel
theorem dL_isRaising_89 : decode cL_isRaising 89 = .ok (.iload 7, 2) := by decide +kernel
theorem dL_isRaising_91 : decode cL_isRaising 91 = .ok (.iload_n 1, 1) := by decide +kernel
theorem dL_isRaising_92 : decode cL_isRaising 92 = .ok (.if_icmp .ge 37, 3) := by decide +kernel
theorem dL_isRaising_95 : decode cL_isRaising 95 = .ok (.iload 4, 2) := by decide +kernel
theorem dL_isRaising_97 : decode cL_isRaising 97 = .ok (.iload 7, 2) := by decide +kernel
theorem dL_isRaising_99 : decode cL_isRaising 99 = .ok (.ishr, 1) := by decide +kernel
theorem dL_isRaising_100 : decode cL_isRaising 100 = .ok (.iconst 1, 1) := by decide +kernel
theorem dL_isRaising_101 : decode cL_isRaising 101 = .ok (.iand, 1) := by decide +kernel
theorem dL_isRaising_102 : decode cL_isRaising 102 = .ok (.ifCond .ne 27, 3) := by decide +kernel
theorem dL_isRaising_105 : decode cL_isRaising 105 = .ok (.aload_n 0, 1) := by decide +kernel
theorem dL_isRaising_106 : decode cL_isRaising 106 = .ok (.iload 6, 2) := by decide +kernel
theorem dL_isRaising_108 : decode cL_isRaising 108 = .ok (.invokestatic 256, 3) := by decide +kernel
theorem dL_isRaising_111 : decode cL_isRaising 111 = .ok (.ifCond .lt 18, 3) := by decide +kernel
theorem dL_isRaising_114 : decode cL_isRaising 114 = .ok (.aload_n 0, 1) := by decide +kernel
theorem dL_isRaising_115 : decode cL_isRaising 115 = .ok (.iload 6, 2) := by decide +kernel
theorem dL_isRaising_117 : decode cL_isRaising 117 = .ok (.invokestatic 256, 3) := by decide +kernel
theorem dL_isRaising_120 : decode cL_isRaising 120 = .ok (.iload 5, 2) := by decide +kernel
theorem dL_isRaising_122 : decode cL_isRaising 122 = .ok (.if_icmp .gt 7, 3) := by decide +kernel
theorem dL_isRaising_125 : decode cL_isRaising 125 = .ok (.iconst 1, 1) := by decide +kernel
theorem dL_isRaising_126 : decode cL_isRaising 126 = .ok (.goto 30, 3) := by decide +kernel
theorem dL_isRaising_129 : decode cL_isRaising 129 = .ok (.iconst 0, 1) := by decide +kernel
theorem dL_isRaising_130 : decode cL_isRaising 130 = .ok (.goto 26, 3) := by decide +kernel
theorem dL_isRaising_133 : decode cL_isRaising 133 = .ok (.iload 7, 2) := by decide +kernel
theorem dL_isRaising_135 : decode cL_isRaising 135 = .ok (.bipush (-75), 2) := by decide +kernel
theorem dL_isRaising_137 : decode cL_isRaising 137 = .ok (.if_icmp .ne 18, 3) := by decide +kernel
theorem dL_isRaising_140 : decode cL_isRaising 140 = .ok (.aload_n 0, 1) := by decide +kernel
theorem dL_isRaising_141 : decode cL_isRaising 141 = .ok (.iload 6, 2) := by decide +kernel
theorem dL_isRaising_143 : decode cL_isRaising 143 = .ok (.invokestatic 256, 3) := by decide +kernel
theorem dL_isRaising_146 : decode cL_isRaising 146 = .ok (.bipush (-75), 2) := by decide +kernel
theorem dL_isRaising_148 : decode cL_isRaising 148 = .ok (.if_icmp .ne 7, 3) := by decide +kernel
theorem dL_isRaising_151 : decode cL_isRaising 151 = .ok (.iconst 1, 1) := by decide +kernel
theorem dL_isRaising_152 : decode cL_isRaising 152 = .ok (.goto 4, 3) := by decide +kernel
theorem dL_isRaising_155 : decode cL_isRaising 155 = .ok (.iconst 0, 1) := by decide +kernel
theorem dL_isRaising_156 : decode cL_isRaising 156 = .ok (.iand, 1) := by decide +kernel
theorem dL_isRaising_157 : decode cL_isRaising 157 = .ok (.istore_n 3, 1) := by decide +kernel
theorem dL_isRaising_158 : decode cL_isRaising 158 = .ok (.iload 4, 2) := by decide +kernel
theorem dL_isRaising_160 : decode cL_isRaising 160 = .ok (.iload_n 2, 1) := by decide +kernel
theorem dL_isRaising_161 : decode cL_isRaising 161 = .ok (.ifCond .eq 10, 3) := by decide +kernel
theorem dL_isRaising_164 : decode cL_isRaising 164 = .ok (.iconst 1, 1) := by decide +kernel
theorem dL_isRaising_165 : decode cL_isRaising 165 = .ok (.iload 7, 2) := by decide +kernel
theorem dL_isRaising_167 : decode cL_isRaising 167 = .ok (.ishl, 1) := by decide +kernel
theorem dL_isRaising_168 : decode cL_isRaising 168 = .ok (.goto 4, 3) := by decide +kernel
theorem dL_isRaising_171 : decode cL_isRaising 171 = .ok (.iconst 0, 1) := by decide +kernel
theorem dL_isRaising_172 : decode cL_isRaising 172 = .ok (.ior, 1) := by decide +kernel
theorem dL_isRaising_173 : decode cL_isRaising 173 = .ok (.istore 4, 2) := by decide +kernel
theorem dL_isRaising_175 : decode cL_isRaising 175 = .ok (.iinc 6 1, 3) := by decide +kernel
theorem dL_isRaising_178 : decode cL_isRaising 178 = .ok (.goto (-113), 3) := by decide +kernel
theorem dL_isRaising_181 : decode cL_isRaising 181 = .ok (.aload_n 0, 1) := by decide +kernel
theorem dL_isRaising_182 : decode cL_isRaising 182 = .ok (.invokestatic 258, 3) := by decide +kernel
theorem dL_isRaising_185 : decode cL_isRaising 185 = .ok (.istore 6, 2) := by decide +kernel
theorem dL_isRaising_187 : decode cL_isRaising 187 = .ok (.iload_n 3, 1) := by decide +kernel
theorem dL_isRaising_188 : decode cL_isRaising 188 = .ok (.ifCond .eq 47, 3) := by decide +kernel
theorem dL_isRaising_191 : decode cL_isRaising 191 = .ok (.aload_n 0, 1) := by decide +kernel
theorem dL_isRaising_192 : decode cL_isRaising 192 = .ok (.iload_n 1, 1) := by decide +kernel
theorem dL_isRaising_193 : decode cL_isRaising 193 = .ok (.invokestatic 254, 3) := by decide +kernel
theorem dL_isRaising_196 : decode cL_isRaising 196 = .ok (.iload_n 2, 1) := by decide +kernel
theorem dL_isRaising_197 : decode cL_isRaising 197 = .ok (.ifCond .eq 8, 3) := by decide +kernel
theorem dL_isRaising_200 : decode cL_isRaising 200 = .ok (.bipush (-77), 2) := by decide +kernel
theorem dL_isRaising_202 : decode cL_isRaising 202 = .ok (.goto 5, 3) := by decide +kernel
theorem dL_isRaising_205 : decode cL_isRaising 205 = .ok (.bipush (-75), 2) := by decide +kernel
theorem dL_isRaising_207 : decode cL_isRaising 207 = .ok (.if_icmp .ne 28, 3) := by decide +kernel
theorem dL_isRaising_210 : decode cL_isRaising 210 = .ok (.iload 6, 2) := by decide +kernel
theorem dL_isRaising_212 : decode cL_isRaising 212 = .ok (.bipush (-75), 2) := by decide +kernel
theorem dL_isRaising_214 : decode cL_isRaising 214 = .ok (.if_icmp .eq 9, 3) := by decide +kernel
theorem dL_isRaising_217 : decode cL_isRaising 217 = .ok (.iload 6, 2) := by decide +kernel
theorem dL_isRaising_219 : decode cL_isRaising 219 = .ok (.iload_n 1, 1) := by decide +kernel
theorem dL_isRaising_220 : decode cL_isRaising 220 = .ok (.if_icmp .ge 15, 3) := by decide +kernel
theorem dL_isRaising_223 : decode cL_isRaising 223 = .ok (.aload_n 0, 1) := by decide +kernel
theorem dL_isRaising_224 : decode cL_isRaising 224 = .ok (.invokevirtual 245, 3) := by decide +kernel
theorem dL_isRaising_227 : decode cL_isRaising 227 = .ok (.iload_n 2, 1) := by decide +kernel
theorem dL_isRaising_228 : decode cL_isRaising 228 = .ok (.if_icmp .ne 7, 3) := by decide +kernel
theorem dL_isRaising_231 : decode cL_isRaising 231 = .ok (.iconst 1, 1) := by decide +kernel
theorem dL_isRaising_232 : decode cL_isRaising 232 = .ok (.goto 4, 3) := by decide +kernel
theorem dL_isRaising_235 : decode cL_isRaising 235 = .ok (.iconst 0, 1) := by decide +kernel
theorem dL_isRaising_236 : decode cL_isRaising 236 = .ok (.ireturn, 1) := by decide +kernel
theorem dL_isThrown_0 : decode cL_isThrown 0 = .ok (.aload_n 0, 1) := by decide +kernel
theorem dL_isThrown_1 : decode cL_isThrown 1 = .ok (.invokevirtual 186, 3) := by decide +kernel
theorem dL_isThrown_4 : decode cL_isThrown 4 = .ok (.istore_n 1, 1) := by decide +kernel
theorem dL_isThrown_5 : decode cL_isThrown 5 = .ok (.aload_n 0, 1) := by decide +kernel
theorem dL_isThrown_6 : decode cL_isThrown 6 = .ok (.invokevirtual 234, 3) := by decide +kernel
theorem dL_isThrown_9 : decode cL_isThrown 9 = .ok (.istore_n 2, 1) := by decide +kernel
theorem dL_isThrown_10 : decode cL_isThrown 10 = .ok (.aload_n 0, 1) := by decide +kernel
theorem dL_isThrown_11 : decode cL_isThrown 11 = .ok (.invokevirtual 251, 3) := by decide +kernel
theorem dL_isThrown_14 : decode cL_isThrown 14 = .ok (.istore_n 3, 1) := by decide +kernel
theorem dL_isThrown_15 : decode cL_isThrown 15 = .ok (.aload_n 0, 1) := by decide +kernel
theorem dL_isThrown_16 : decode cL_isThrown 16 = .ok (.iconst (-1), 1) := by decide +kernel
theorem dL_isThrown_17 : decode cL_isThrown 17 = .ok (.iconst 0, 1) := by decide +kernel
theorem dL_isThrown_18 : decode cL_isThrown 18 = .ok (.bipush 112, 2) := by decide +kernel
theorem dL_isThrown_20 : decode cL_isThrown 20 = .ok (.invokestatic 140, 3) := by decide +kernel
theorem dL_isThrown_23 : decode cL_isThrown 23 = .ok (.bipush (-78), 2) := by decide +kernel
theorem dL_isThrown_25 : decode cL_isThrown 25 = .ok (.if_icmp .ne 111, 3) := by decide +kernel
theorem dL_isThrown_28 : decode cL_isThrown 28 = .ok (.aload_n 0, 1) := by decide +kernel
theorem dL_isThrown_29 : decode cL_isThrown 29 = .ok (.bipush 8, 2) := by decide +kernel
theorem dL_isThrown_31 : decode cL_isThrown 31 = .ok (.iconst 0, 1) := by decide +kernel
theorem dL_isThrown_32 : decode cL_isThrown 32 = .ok (.bipush 9, 2) := by decide +kernel
theorem dL_isThrown_34 : decode cL_isThrown 34 = .ok (.iconst 0, 1) := by decide +kernel
theorem dL_isThrown_35 : decode cL_isThrown 35 = .ok (.invokestatic 143, 3) := by decide +kernel
theorem dL_isThrown_38 : decode cL_isThrown 38 = .ok (.bipush (-77), 2) := by decide +kernel
theorem dL_isThrown_40 : decode cL_isThrown 40 = .ok (.if_icmp .ne 96, 3) := by decide +kernel
theorem dL_isThrown_43 : decode cL_isThrown 43 = .ok (.aload_n 0, 1) := by decide +kernel
theorem dL_isThrown_44 : decode cL_isThrown 44 = .ok (.bipush 8, 2) := by decide +kernel
theorem dL_isThrown_46 : decode cL_isThrown 46 = .ok (.iconst 0, 1) := by decide +kernel
theorem dL_isThrown_47 : decode cL_isThrown 47 = .ok (.iconst 0, 1) := by decide +kernel
theorem dL_isThrown_48 : decode cL_isThrown 48 = .ok (.invokestatic 146, 3) := by decide +kernel
theorem dL_isThrown_51 : decode cL_isThrown 51 = .ok (.bipush (-77), 2) := by decide +kernel
theorem dL_isThrown_53 : decode cL_isThrown 53 = .ok (.if_icmp .ne 83, 3) := by decide +kernel
theorem dL_isThrown_56 : decode cL_isThrown 56 = .ok (.aload_n 0, 1) := by decide +kernel
theorem dL_isThrown_57 : decode cL_isThrown 57 = .ok (.bipush 9, 2) := by decide +kernel
theorem dL_isThrown_59 : decode cL_isThrown 59 = .ok (.iconst 0, 1) := by decide +kernel
theorem dL_isThrown_60 : decode cL_isThrown 60 = .ok (.bipush 117, 2) := by decide +kernel
theorem dL_isThrown_62 : decode cL_isThrown 62 = .ok (.iconst 2, 1) := by decide +kernel
theorem dL_isThrown_63 : decode cL_isThrown 63 = .ok (.iconst 1, 1) := by decide +kernel
theorem dL_isThrown_64 : decode cL_isThrown 64 = .ok (.invokestatic 151, 3) := by decide +kernel
theorem dL_isThrown_67 : decode cL_isThrown 67 = .ok (.bipush (-77), 2) := by decide +kernel
theorem dL_isThrown_69 : decode cL_isThrown 69 = .ok (.if_icmp .ne 67, 3) := by decide +kernel
theorem dL_isThrown_72 : decode cL_isThrown 72 = .ok (.aload_n 0, 1) := by decide +kernel
theorem dL_isThrown_73 : decode cL_isThrown 73 = .ok (.bipush 9, 2) := by decide +kernel
theorem dL_isThrown_75 : decode cL_isThrown 75 = .ok (.bipush 30, 2) := by decide +kernel
theorem dL_isThrown_77 : decode cL_isThrown 77 = .ok (.invokestatic 159, 3) := by decide +kernel
theorem dL_isThrown_80 : decode cL_isThrown 80 = .ok (.bipush (-77), 2) := by decide +kernel
theorem dL_isThrown_82 : decode cL_isThrown 82 = .ok (.if_icmp .ne 54, 3) := by decide +kernel
theorem dL_isThrown_85 : decode cL_isThrown 85 = .ok (.aload_n 0, 1) := by decide +kernel
theorem dL_isThrown_86 : decode cL_isThrown 86 = .ok (.iconst 0, 1) := by decide +kernel
theorem dL_isThrown_87 : decode cL_isThrown 87 = .ok (.bipush 9, 2) := by decide +kernel
theorem dL_isThrown_89 : decode cL_isThrown 89 = .ok (.iconst 0, 1) := by decide +kernel
theorem dL_isThrown_90 : decode cL_isThrown 90 = .ok (.invokestatic 154, 3) := by decide +kernel
theorem dL_isThrown_93 : decode cL_isThrown 93 = .ok (.bipush (-78), 2) := by decide +kernel
theorem dL_isThrown_95 : decode cL_isThrown 95 = .ok (.if_icmp .ne 41, 3) := by decide +kernel
theorem dL_isThrown_98 : decode cL_isThrown 98 = .ok (.aload_n 0, 1) := by decide +kernel
theorem dL_isThrown_99 : decode cL_isThrown 99 = .ok (.iconst (-1), 1) := by decide +kernel
theorem dL_isThrown_100 : decode cL_isThrown 100 = .ok (.invokestatic 156, 3) := by decide +kernel
theorem dL_isThrown_103 : decode cL_isThrown 103 = .ok (.bipush (-78), 2) := by decide +kernel
theorem dL_isThrown_105 : decode cL_isThrown 105 = .ok (.if_icmp .ne 31, 3) := by decide +kernel
theorem dL_isThrown_108 : decode cL_isThrown 108 = .ok (.aload_n 0, 1) := by decide +kernel
theorem dL_isThrown_109 : decode cL_isThrown 109 = .ok (.bipush 9, 2) := by decide +kernel
theorem dL_isThrown_111 : decode cL_isThrown 111 = .ok (.invokestatic 206, 3) := by decide +kernel
theorem dL_isThrown_114 : decode cL_isThrown 114 = .ok (.ldc2_w 38, 3) := by decide +kernel
theorem dL_isThrown_117 : decode cL_isThrown 117 = .ok (.lcmp, 1) := by decide +kernel
theorem dL_isThrown_118 : decode cL_isThrown 118 = .ok (.ifCond .ne 18, 3) := by decide +kernel
theorem dL_isThrown_121 : decode cL_isThrown 121 = .ok (.aload_n 0, 1) := by decide +kernel
theorem dL_isThrown_122 : decode cL_isThrown 122 = .ok (.bipush 31, 2) := by decide +kernel
theorem dL_isThrown_124 : decode cL_isThrown 124 = .ok (.invokestatic 201, 3) := by decide +kernel
theorem dL_isThrown_127 : decode cL_isThrown 127 = .ok (.bipush (-78), 2) := by decide +kernel
theorem dL_isThrown_129 : decode cL_isThrown 129 = .ok (.if_icmp .ne 7, 3) := by decide +kernel
theorem dL_isThrown_132 : decode cL_isThrown 132 = .ok (.iconst 1, 1) := by decide +kernel
theorem dL_isThrown_133 : decode cL_isThrown 133 = .ok (.goto 4, 3) := by decide +kernel
theorem dL_isThrown_136 : decode cL_isThrown 136 = .ok (.iconst 0, 1) := by decide +kernel
theorem dL_isThrown_137 : decode cL_isThrown 137 = .ok (.istore 4, 2) := by decide +kernel
theorem dL_isThrown_139 : decode cL_isThrown 139 = .ok (.iload 4, 2) := by decide +kernel
theorem dL_isThrown_141 : decode cL_isThrown 141 = .ok (.ifCond .eq 31, 3) := by decide +kernel
theorem dL_isThrown_144 : decode cL_isThrown 144 = .ok (.aload_n 0, 1) := by decide +kernel
theorem dL_isThrown_145 : decode cL_isThrown 145 = .ok (.invokevirtual 186, 3) := by decide +kernel
theorem dL_isThrown_148 : decode cL_isThrown 148 = .ok (.iload_n 1, 1) := by decide +kernel
theorem dL_isThrown_149 : decode cL_isThrown 149 = .ok (.if_icmp .ne 23, 3) := by decide +kernel
theorem dL_isThrown_152 : decode cL_isThrown 152 = .ok (.aload_n 0, 1) := by decide +kernel
theorem dL_isThrown_153 : decode cL_isThrown 153 = .ok (.invokevirtual 234, 3) := by decide +kernel
theorem dL_isThrown_156 : decode cL_isThrown 156 = .ok (.iload_n 2, 1) := by decide +kernel
theorem dL_isThrown_157 : decode cL_isThrown 157 = .ok (.if_icmp .ne 15, 3) := by decide +kernel
theorem dL_isThrown_160 : decode cL_isThrown 160 = .ok (.aload_n 0, 1) := by decide +kernel
theorem dL_isThrown_161 : decode cL_isThrown 161 = .ok (.invokevirtual 251, 3) := by decide +kernel
theorem dL_isThrown_164 : decode cL_isThrown 164 = .ok (.iload_n 3, 1) := by decide +kernel
theorem dL_isThrown_165 : decode cL_isThrown 165 = .ok (.if_icmp .ne 7, 3) := by decide +kernel
theorem dL_isThrown_168 : decode cL_isThrown 168 = .ok (.iconst 1, 1) := by decide +kernel
theorem dL_isThrown_169 : decode cL_isThrown 169 = .ok (.goto 4, 3) := by decide +kernel
theorem dL_isThrown_172 : decode cL_isThrown 172 = .ok (.iconst 0, 1) := by decide +kernel
theorem dL_isThrown_173 : decode cL_isThrown 173 = .ok (.ireturn, 1) := by decide +kernel
