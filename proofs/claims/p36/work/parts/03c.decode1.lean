theorem dX0_init_0 : decode cX0_init 0 = .ok (.aload_n 0, 1) := by decide +kernel
theorem dX0_init_1 : decode cX0_init 1 = .ok (.invokespecial 3, 3) := by decide +kernel
theorem dX0_init_4 : decode cX0_init 4 = .ok (.aload_n 0, 1) := by decide +kernel
theorem dX0_init_5 : decode cX0_init 5 = .ok (.bipush 9, 2) := by decide +kernel
theorem dX0_init_7 : decode cX0_init 7 = .ok (.newarray .int, 2) := by decide +kernel
theorem dX0_init_9 : decode cX0_init 9 = .ok (.putfield 9, 3) := by decide +kernel
theorem dX0_init_12 : decode cX0_init 12 = .ok (.aload_n 0, 1) := by decide +kernel
theorem dX0_init_13 : decode cX0_init 13 = .ok (.iconst 5, 1) := by decide +kernel
theorem dX0_init_14 : decode cX0_init 14 = .ok (.newarray .int, 2) := by decide +kernel
theorem dX0_init_16 : decode cX0_init 16 = .ok (.putfield 15, 3) := by decide +kernel
theorem dX0_init_19 : decode cX0_init 19 = .ok (.aload_n 0, 1) := by decide +kernel
theorem dX0_init_20 : decode cX0_init 20 = .ok (.iconst 5, 1) := by decide +kernel
theorem dX0_init_21 : decode cX0_init 21 = .ok (.newarray .int, 2) := by decide +kernel
theorem dX0_init_23 : decode cX0_init 23 = .ok (.putfield 18, 3) := by decide +kernel
theorem dX0_init_26 : decode cX0_init 26 = .ok (.aload_n 0, 1) := by decide +kernel
theorem dX0_init_27 : decode cX0_init 27 = .ok (.iconst 5, 1) := by decide +kernel
theorem dX0_init_28 : decode cX0_init 28 = .ok (.newarray .int, 2) := by decide +kernel
theorem dX0_init_30 : decode cX0_init 30 = .ok (.putfield 21, 3) := by decide +kernel
theorem dX0_init_33 : decode cX0_init 33 = .ok (.aload_n 0, 1) := by decide +kernel
theorem dX0_init_34 : decode cX0_init 34 = .ok (.sipush 512, 3) := by decide +kernel
theorem dX0_init_37 : decode cX0_init 37 = .ok (.newarray .int, 2) := by decide +kernel
theorem dX0_init_39 : decode cX0_init 39 = .ok (.putfield 24, 3) := by decide +kernel
theorem dX0_init_42 : decode cX0_init 42 = .ok (.aload_n 0, 1) := by decide +kernel
theorem dX0_init_43 : decode cX0_init 43 = .ok (.sipush 512, 3) := by decide +kernel
theorem dX0_init_46 : decode cX0_init 46 = .ok (.newarray .int, 2) := by decide +kernel
theorem dX0_init_48 : decode cX0_init 48 = .ok (.putfield 27, 3) := by decide +kernel
theorem dX0_init_51 : decode cX0_init 51 = .ok (.aload_n 0, 1) := by decide +kernel
theorem dX0_init_52 : decode cX0_init 52 = .ok (.sipush 512, 3) := by decide +kernel
theorem dX0_init_55 : decode cX0_init 55 = .ok (.newarray .long, 2) := by decide +kernel
theorem dX0_init_57 : decode cX0_init 57 = .ok (.putfield 30, 3) := by decide +kernel
theorem dX0_init_60 : decode cX0_init 60 = .ok (.return_, 1) := by decide +kernel
theorem dX0_add_0 : decode cX0_add 0 = .ok (.aload_n 0, 1) := by decide +kernel
theorem dX0_add_1 : decode cX0_add 1 = .ok (.getfield 34, 3) := by decide +kernel
theorem dX0_add_4 : decode cX0_add 4 = .ok (.istore 4, 2) := by decide +kernel
theorem dX0_add_6 : decode cX0_add 6 = .ok (.aload_n 0, 1) := by decide +kernel
theorem dX0_add_7 : decode cX0_add 7 = .ok (.getfield 15, 3) := by decide +kernel
theorem dX0_add_10 : decode cX0_add 10 = .ok (.iload 4, 2) := by decide +kernel
theorem dX0_add_12 : decode cX0_add 12 = .ok (.iload_n 1, 1) := by decide +kernel
theorem dX0_add_13 : decode cX0_add 13 = .ok (.iastore, 1) := by decide +kernel
theorem dX0_add_14 : decode cX0_add 14 = .ok (.aload_n 0, 1) := by decide +kernel
theorem dX0_add_15 : decode cX0_add 15 = .ok (.getfield 18, 3) := by decide +kernel
theorem dX0_add_18 : decode cX0_add 18 = .ok (.iload 4, 2) := by decide +kernel
theorem dX0_add_20 : decode cX0_add 20 = .ok (.iload_n 2, 1) := by decide +kernel
theorem dX0_add_21 : decode cX0_add 21 = .ok (.iastore, 1) := by decide +kernel
theorem dX0_add_22 : decode cX0_add 22 = .ok (.aload_n 0, 1) := by decide +kernel
theorem dX0_add_23 : decode cX0_add 23 = .ok (.getfield 21, 3) := by decide +kernel
theorem dX0_add_26 : decode cX0_add 26 = .ok (.iload 4, 2) := by decide +kernel
theorem dX0_add_28 : decode cX0_add 28 = .ok (.iload_n 3, 1) := by decide +kernel
theorem dX0_add_29 : decode cX0_add 29 = .ok (.iastore, 1) := by decide +kernel
theorem dX0_add_30 : decode cX0_add 30 = .ok (.aload_n 0, 1) := by decide +kernel
theorem dX0_add_31 : decode cX0_add 31 = .ok (.iload 4, 2) := by decide +kernel
theorem dX0_add_33 : decode cX0_add 33 = .ok (.iconst 1, 1) := by decide +kernel
theorem dX0_add_34 : decode cX0_add 34 = .ok (.iadd, 1) := by decide +kernel
theorem dX0_add_35 : decode cX0_add 35 = .ok (.putfield 34, 3) := by decide +kernel
theorem dX0_add_38 : decode cX0_add 38 = .ok (.iload 4, 2) := by decide +kernel
theorem dX0_add_40 : decode cX0_add 40 = .ok (.ireturn, 1) := by decide +kernel
theorem dX0_pieceLength_0 : decode cX0_pieceLength 0 = .ok (.bipush 100, 2) := by decide +kernel
theorem dX0_pieceLength_2 : decode cX0_pieceLength 2 = .ok (.aload_n 2, 1) := by decide +kernel
theorem dX0_pieceLength_3 : decode cX0_pieceLength 3 = .ok (.iload_n 1, 1) := by decide +kernel
theorem dX0_pieceLength_4 : decode cX0_pieceLength 4 = .ok (.invokevirtual 38, 3) := by decide +kernel
theorem dX0_pieceLength_7 : decode cX0_pieceLength 7 = .ok (.imul, 1) := by decide +kernel
theorem dX0_pieceLength_8 : decode cX0_pieceLength 8 = .ok (.istore 4, 2) := by decide +kernel
theorem dX0_pieceLength_10 : decode cX0_pieceLength 10 = .ok (.iconst 0, 1) := by decide +kernel
theorem dX0_pieceLength_11 : decode cX0_pieceLength 11 = .ok (.istore 5, 2) := by decide +kernel
theorem dX0_pieceLength_13 : decode cX0_pieceLength 13 = .ok (.iload 5, 2) := by decide +kernel
theorem dX0_pieceLength_15 : decode cX0_pieceLength 15 = .ok (.sipush 425, 3) := by decide +kernel
theorem dX0_pieceLength_18 : decode cX0_pieceLength 18 = .ok (.if_icmp .ge 19, 3) := by decide +kernel
theorem dX0_pieceLength_21 : decode cX0_pieceLength 21 = .ok (.iload 5, 2) := by decide +kernel
theorem dX0_pieceLength_23 : decode cX0_pieceLength 23 = .ok (.iload 5, 2) := by decide +kernel
theorem dX0_pieceLength_25 : decode cX0_pieceLength 25 = .ok (.imul, 1) := by decide +kernel
theorem dX0_pieceLength_26 : decode cX0_pieceLength 26 = .ok (.iload 4, 2) := by decide +kernel
theorem dX0_pieceLength_28 : decode cX0_pieceLength 28 = .ok (.if_icmp .ge 9, 3) := by decide +kernel
theorem dX0_pieceLength_31 : decode cX0_pieceLength 31 = .ok (.iinc 5 1, 3) := by decide +kernel
theorem dX0_pieceLength_34 : decode cX0_pieceLength 34 = .ok (.goto (-21), 3) := by decide +kernel
theorem dX0_pieceLength_37 : decode cX0_pieceLength 37 = .ok (.iload 5, 2) := by decide +kernel
theorem dX0_pieceLength_39 : decode cX0_pieceLength 39 = .ok (.iconst 4, 1) := by decide +kernel
theorem dX0_pieceLength_40 : decode cX0_pieceLength 40 = .ok (.aload_n 3, 1) := by decide +kernel
theorem dX0_pieceLength_41 : decode cX0_pieceLength 41 = .ok (.iload_n 1, 1) := by decide +kernel
theorem dX0_pieceLength_42 : decode cX0_pieceLength 42 = .ok (.invokevirtual 44, 3) := by decide +kernel
theorem dX0_pieceLength_45 : decode cX0_pieceLength 45 = .ok (.imul, 1) := by decide +kernel
theorem dX0_pieceLength_46 : decode cX0_pieceLength 46 = .ok (.iadd, 1) := by decide +kernel
theorem dX0_pieceLength_47 : decode cX0_pieceLength 47 = .ok (.ireturn, 1) := by decide +kernel
theorem dX0_find_0 : decode cX0_find 0 = .ok (.aload_n 0, 1) := by decide +kernel
theorem dX0_find_1 : decode cX0_find 1 = .ok (.getfield 49, 3) := by decide +kernel
theorem dX0_find_4 : decode cX0_find 4 = .ok (.ifCond .eq 4, 3) := by decide +kernel
theorem dX0_find_7 : decode cX0_find 7 = .ok (.return_, 1) := by decide +kernel
theorem dX0_find_8 : decode cX0_find 8 = .ok (.iconst 1, 1) := by decide +kernel
theorem dX0_find_9 : decode cX0_find 9 = .ok (.aload_n 1, 1) := by decide +kernel
theorem dX0_find_10 : decode cX0_find 10 = .ok (.getfield 53, 3) := by decide +kernel
theorem dX0_find_13 : decode cX0_find 13 = .ok (.ishl, 1) := by decide +kernel
theorem dX0_find_14 : decode cX0_find 14 = .ok (.istore_n 3, 1) := by decide +kernel
theorem dX0_find_15 : decode cX0_find 15 = .ok (.aload_n 0, 1) := by decide +kernel
theorem dX0_find_16 : decode cX0_find 16 = .ok (.aload_n 1, 1) := by decide +kernel
theorem dX0_find_17 : decode cX0_find 17 = .ok (.aload_n 2, 1) := by decide +kernel
theorem dX0_find_18 : decode cX0_find 18 = .ok (.invokevirtual 56, 3) := by decide +kernel
theorem dX0_find_21 : decode cX0_find 21 = .ok (.iconst 0, 1) := by decide +kernel
theorem dX0_find_22 : decode cX0_find 22 = .ok (.istore 4, 2) := by decide +kernel
theorem dX0_find_24 : decode cX0_find 24 = .ok (.iload 4, 2) := by decide +kernel
theorem dX0_find_26 : decode cX0_find 26 = .ok (.iload_n 3, 1) := by decide +kernel
theorem dX0_find_27 : decode cX0_find 27 = .ok (.if_icmp .ge 28, 3) := by decide +kernel
theorem dX0_find_30 : decode cX0_find 30 = .ok (.aload_n 0, 1) := by decide +kernel
theorem dX0_find_31 : decode cX0_find 31 = .ok (.getfield 30, 3) := by decide +kernel
theorem dX0_find_34 : decode cX0_find 34 = .ok (.iload 4, 2) := by decide +kernel
theorem dX0_find_36 : decode cX0_find 36 = .ok (.iload 4, 2) := by decide +kernel
theorem dX0_find_38 : decode cX0_find 38 = .ok (.ifCond .ne 7, 3) := by decide +kernel
theorem dX0_find_41 : decode cX0_find 41 = .ok (.lconst 0, 1) := by decide +kernel
theorem dX0_find_42 : decode cX0_find 42 = .ok (.goto 6, 3) := by decide +kernel
theorem dX0_find_45 : decode cX0_find 45 = .ok (.ldc2_w 60, 3) := by decide +kernel
theorem dX0_find_48 : decode cX0_find 48 = .ok (.lastore, 1) := by decide +kernel
theorem dX0_find_49 : decode cX0_find 49 = .ok (.iinc 4 1, 3) := by decide +kernel
theorem dX0_find_52 : decode cX0_find 52 = .ok (.goto (-28), 3) := by decide +kernel
theorem dX0_find_55 : decode cX0_find 55 = .ok (.iconst 0, 1) := by decide +kernel
theorem dX0_find_56 : decode cX0_find 56 = .ok (.istore 4, 2) := by decide +kernel
theorem dX0_find_58 : decode cX0_find 58 = .ok (.iload 4, 2) := by decide +kernel
theorem dX0_find_60 : decode cX0_find 60 = .ok (.aload_n 0, 1) := by decide +kernel
theorem dX0_find_61 : decode cX0_find 61 = .ok (.getfield 34, 3) := by decide +kernel
theorem dX0_find_64 : decode cX0_find 64 = .ok (.if_icmp .ge 23, 3) := by decide +kernel
theorem dX0_find_67 : decode cX0_find 67 = .ok (.aload_n 0, 1) := by decide +kernel
theorem dX0_find_68 : decode cX0_find 68 = .ok (.iload 4, 2) := by decide +kernel
theorem dX0_find_70 : decode cX0_find 70 = .ok (.iload_n 3, 1) := by decide +kernel
theorem dX0_find_71 : decode cX0_find 71 = .ok (.aload_n 0, 1) := by decide +kernel
theorem dX0_find_72 : decode cX0_find 72 = .ok (.iload 4, 2) := by decide +kernel
theorem dX0_find_74 : decode cX0_find 74 = .ok (.aload_n 1, 1) := by decide +kernel
theorem dX0_find_75 : decode cX0_find 75 = .ok (.invokevirtual 62, 3) := by decide +kernel
theorem dX0_find_78 : decode cX0_find 78 = .ok (.invokevirtual 66, 3) := by decide +kernel
theorem dX0_find_81 : decode cX0_find 81 = .ok (.iinc 4 1, 3) := by decide +kernel
theorem dX0_find_84 : decode cX0_find 84 = .ok (.goto (-26), 3) := by decide +kernel
theorem dX0_find_87 : decode cX0_find 87 = .ok (.aload_n 0, 1) := by decide +kernel
theorem dX0_find_88 : decode cX0_find 88 = .ok (.aload_n 0, 1) := by decide +kernel
theorem dX0_find_89 : decode cX0_find 89 = .ok (.getfield 30, 3) := by decide +kernel
theorem dX0_find_92 : decode cX0_find 92 = .ok (.iload_n 3, 1) := by decide +kernel
theorem dX0_find_93 : decode cX0_find 93 = .ok (.iconst 1, 1) := by decide +kernel
theorem dX0_find_94 : decode cX0_find 94 = .ok (.isub, 1) := by decide +kernel
theorem dX0_find_95 : decode cX0_find 95 = .ok (.laload, 1) := by decide +kernel
theorem dX0_find_96 : decode cX0_find 96 = .ok (.invokevirtual 70, 3) := by decide +kernel
theorem dX0_find_99 : decode cX0_find 99 = .ok (.aload_n 0, 1) := by decide +kernel
theorem dX0_find_100 : decode cX0_find 100 = .ok (.iconst 1, 1) := by decide +kernel
theorem dX0_find_101 : decode cX0_find 101 = .ok (.putfield 49, 3) := by decide +kernel
theorem dX0_find_104 : decode cX0_find 104 = .ok (.return_, 1) := by decide +kernel
theorem dX0_measure_0 : decode cX0_measure 0 = .ok (.ldc 74, 2) := by decide +kernel
theorem dX0_measure_2 : decode cX0_measure 2 = .ok (.istore_n 3, 1) := by decide +kernel
theorem dX0_measure_3 : decode cX0_measure 3 = .ok (.iconst 0, 1) := by decide +kernel
theorem dX0_measure_4 : decode cX0_measure 4 = .ok (.istore 4, 2) := by decide +kernel
theorem dX0_measure_6 : decode cX0_measure 6 = .ok (.iload 4, 2) := by decide +kernel
theorem dX0_measure_8 : decode cX0_measure 8 = .ok (.aload_n 1, 1) := by decide +kernel
theorem dX0_measure_9 : decode cX0_measure 9 = .ok (.getfield 53, 3) := by decide +kernel
theorem dX0_measure_12 : decode cX0_measure 12 = .ok (.if_icmp .ge 89, 3) := by decide +kernel
theorem dX0_measure_15 : decode cX0_measure 15 = .ok (.aload_n 0, 1) := by decide +kernel
theorem dX0_measure_16 : decode cX0_measure 16 = .ok (.iload 4, 2) := by decide +kernel
theorem dX0_measure_18 : decode cX0_measure 18 = .ok (.aload_n 1, 1) := by decide +kernel
theorem dX0_measure_19 : decode cX0_measure 19 = .ok (.aload_n 2, 1) := by decide +kernel
theorem dX0_measure_20 : decode cX0_measure 20 = .ok (.invokevirtual 75, 3) := by decide +kernel
theorem dX0_measure_23 : decode cX0_measure 23 = .ok (.iconst 1, 1) := by decide +kernel
theorem dX0_measure_24 : decode cX0_measure 24 = .ok (.iadd, 1) := by decide +kernel
theorem dX0_measure_25 : decode cX0_measure 25 = .ok (.istore 5, 2) := by decide +kernel
theorem dX0_measure_27 : decode cX0_measure 27 = .ok (.iconst 1, 1) := by decide +kernel
theorem dX0_measure_28 : decode cX0_measure 28 = .ok (.iload 4, 2) := by decide +kernel
theorem dX0_measure_30 : decode cX0_measure 30 = .ok (.ishl, 1) := by decide +kernel
theorem dX0_measure_31 : decode cX0_measure 31 = .ok (.istore 6, 2) := by decide +kernel
theorem dX0_measure_33 : decode cX0_measure 33 = .ok (.iload 6, 2) := by decide +kernel
theorem dX0_measure_35 : decode cX0_measure 35 = .ok (.istore 7, 2) := by decide +kernel
theorem dX0_measure_37 : decode cX0_measure 37 = .ok (.iload 7, 2) := by decide +kernel
theorem dX0_measure_39 : decode cX0_measure 39 = .ok (.iconst 2, 1) := by decide +kernel
theorem dX0_measure_40 : decode cX0_measure 40 = .ok (.iload 6, 2) := by decide +kernel
theorem dX0_measure_42 : decode cX0_measure 42 = .ok (.imul, 1) := by decide +kernel
theorem dX0_measure_43 : decode cX0_measure 43 = .ok (.if_icmp .ge 48, 3) := by decide +kernel
theorem dX0_measure_46 : decode cX0_measure 46 = .ok (.aload_n 0, 1) := by decide +kernel
theorem dX0_measure_47 : decode cX0_measure 47 = .ok (.getfield 24, 3) := by decide +kernel
theorem dX0_measure_50 : decode cX0_measure 50 = .ok (.iload 7, 2) := by decide +kernel
theorem dX0_measure_52 : decode cX0_measure 52 = .ok (.aload_n 0, 1) := by decide +kernel
theorem dX0_measure_53 : decode cX0_measure 53 = .ok (.getfield 24, 3) := by decide +kernel
theorem dX0_measure_56 : decode cX0_measure 56 = .ok (.iload 7, 2) := by decide +kernel
theorem dX0_measure_58 : decode cX0_measure 58 = .ok (.iload 6, 2) := by decide +kernel
theorem dX0_measure_60 : decode cX0_measure 60 = .ok (.isub, 1) := by decide +kernel
theorem dX0_measure_61 : decode cX0_measure 61 = .ok (.iaload, 1) := by decide +kernel
theorem dX0_measure_62 : decode cX0_measure 62 = .ok (.iload 5, 2) := by decide +kernel
theorem dX0_measure_64 : decode cX0_measure 64 = .ok (.iadd, 1) := by decide +kernel
theorem dX0_measure_65 : decode cX0_measure 65 = .ok (.iastore, 1) := by decide +kernel
theorem dX0_measure_66 : decode cX0_measure 66 = .ok (.aload_n 0, 1) := by decide +kernel
theorem dX0_measure_67 : decode cX0_measure 67 = .ok (.getfield 27, 3) := by decide +kernel
theorem dX0_measure_70 : decode cX0_measure 70 = .ok (.iload 7, 2) := by decide +kernel
theorem dX0_measure_72 : decode cX0_measure 72 = .ok (.aload_n 0, 1) := by decide +kernel
theorem dX0_measure_73 : decode cX0_measure 73 = .ok (.getfield 27, 3) := by decide +kernel
theorem dX0_measure_76 : decode cX0_measure 76 = .ok (.iload 7, 2) := by decide +kernel
theorem dX0_measure_78 : decode cX0_measure 78 = .ok (.iload 6, 2) := by decide +kernel
theorem dX0_measure_80 : decode cX0_measure 80 = .ok (.isub, 1) := by decide +kernel
theorem dX0_measure_81 : decode cX0_measure 81 = .ok (.iaload, 1) := by decide +kernel
theorem dX0_measure_82 : decode cX0_measure 82 = .ok (.iload_n 3, 1) := by decide +kernel
theorem dX0_measure_83 : decode cX0_measure 83 = .ok (.iadd, 1) := by decide +kernel
theorem dX0_measure_84 : decode cX0_measure 84 = .ok (.iastore, 1) := by decide +kernel
theorem dX0_measure_85 : decode cX0_measure 85 = .ok (.iinc 7 1, 3) := by decide +kernel
theorem dX0_measure_88 : decode cX0_measure 88 = .ok (.goto (-51), 3) := by decide +kernel
theorem dX0_measure_91 : decode cX0_measure 91 = .ok (.iload_n 3, 1) := by decide +kernel
theorem dX0_measure_92 : decode cX0_measure 92 = .ok (.iconst 5, 1) := by decide +kernel
theorem dX0_measure_93 : decode cX0_measure 93 = .ok (.idiv, 1) := by decide +kernel
theorem dX0_measure_94 : decode cX0_measure 94 = .ok (.istore_n 3, 1) := by decide +kernel
theorem dX0_measure_95 : decode cX0_measure 95 = .ok (.iinc 4 1, 3) := by decide +kernel
theorem dX0_measure_98 : decode cX0_measure 98 = .ok (.goto (-92), 3) := by decide +kernel
theorem dX0_measure_101 : decode cX0_measure 101 = .ok (.return_, 1) := by decide +kernel
theorem dX0_fitting_0 : decode cX0_fitting 0 = .ok (.iconst 0, 1) := by decide +kernel
theorem dX0_fitting_1 : decode cX0_fitting 1 = .ok (.istore_n 3, 1) := by decide +kernel
theorem dX0_fitting_2 : decode cX0_fitting 2 = .ok (.iconst 0, 1) := by decide +kernel
theorem dX0_fitting_3 : decode cX0_fitting 3 = .ok (.istore 4, 2) := by decide +kernel
theorem dX0_fitting_5 : decode cX0_fitting 5 = .ok (.iload 4, 2) := by decide +kernel
theorem dX0_fitting_7 : decode cX0_fitting 7 = .ok (.aload_n 2, 1) := by decide +kernel
theorem dX0_fitting_8 : decode cX0_fitting 8 = .ok (.getfield 53, 3) := by decide +kernel
theorem dX0_fitting_11 : decode cX0_fitting 11 = .ok (.if_icmp .ge 48, 3) := by decide +kernel
theorem dX0_fitting_14 : decode cX0_fitting 14 = .ok (.aload_n 2, 1) := by decide +kernel
theorem dX0_fitting_15 : decode cX0_fitting 15 = .ok (.getfield 79, 3) := by decide +kernel
theorem dX0_fitting_18 : decode cX0_fitting 18 = .ok (.iload 4, 2) := by decide +kernel
theorem dX0_fitting_20 : decode cX0_fitting 20 = .ok (.iaload, 1) := by decide +kernel
theorem dX0_fitting_21 : decode cX0_fitting 21 = .ok (.aload_n 0, 1) := by decide +kernel
theorem dX0_fitting_22 : decode cX0_fitting 22 = .ok (.getfield 18, 3) := by decide +kernel
theorem dX0_fitting_25 : decode cX0_fitting 25 = .ok (.iload_n 1, 1) := by decide +kernel
theorem dX0_fitting_26 : decode cX0_fitting 26 = .ok (.iaload, 1) := by decide +kernel
theorem dX0_fitting_27 : decode cX0_fitting 27 = .ok (.if_icmp .gt 26, 3) := by decide +kernel
theorem dX0_fitting_30 : decode cX0_fitting 30 = .ok (.aload_n 2, 1) := by decide +kernel
theorem dX0_fitting_31 : decode cX0_fitting 31 = .ok (.getfield 80, 3) := by decide +kernel
theorem dX0_fitting_34 : decode cX0_fitting 34 = .ok (.iload 4, 2) := by decide +kernel
theorem dX0_fitting_36 : decode cX0_fitting 36 = .ok (.iaload, 1) := by decide +kernel
theorem dX0_fitting_37 : decode cX0_fitting 37 = .ok (.aload_n 0, 1) := by decide +kernel
theorem dX0_fitting_38 : decode cX0_fitting 38 = .ok (.getfield 21, 3) := by decide +kernel
theorem dX0_fitting_41 : decode cX0_fitting 41 = .ok (.iload_n 1, 1) := by decide +kernel
theorem dX0_fitting_42 : decode cX0_fitting 42 = .ok (.iaload, 1) := by decide +kernel
theorem dX0_fitting_43 : decode cX0_fitting 43 = .ok (.if_icmp .gt 10, 3) := by decide +kernel
theorem dX0_fitting_46 : decode cX0_fitting 46 = .ok (.iload_n 3, 1) := by decide +kernel
theorem dX0_fitting_47 : decode cX0_fitting 47 = .ok (.iconst 1, 1) := by decide +kernel
theorem dX0_fitting_48 : decode cX0_fitting 48 = .ok (.iload 4, 2) := by decide +kernel
theorem dX0_fitting_50 : decode cX0_fitting 50 = .ok (.ishl, 1) := by decide +kernel
theorem dX0_fitting_51 : decode cX0_fitting 51 = .ok (.ior, 1) := by decide +kernel
theorem dX0_fitting_52 : decode cX0_fitting 52 = .ok (.istore_n 3, 1) := by decide +kernel
theorem dX0_fitting_53 : decode cX0_fitting 53 = .ok (.iinc 4 1, 3) := by decide +kernel
theorem dX0_fitting_56 : decode cX0_fitting 56 = .ok (.goto (-51), 3) := by decide +kernel
theorem dX0_fitting_59 : decode cX0_fitting 59 = .ok (.iload_n 3, 1) := by decide +kernel
theorem dX0_fitting_60 : decode cX0_fitting 60 = .ok (.ireturn, 1) := by decide +kernel
theorem dX0_offer_0 : decode cX0_offer 0 = .ok (.iload_n 2, 1) := by decide +kernel
theorem dX0_offer_1 : decode cX0_offer 1 = .ok (.iconst 1, 1) := by decide +kernel
theorem dX0_offer_2 : decode cX0_offer 2 = .ok (.isub, 1) := by decide +kernel
theorem dX0_offer_3 : decode cX0_offer 3 = .ok (.istore 4, 2) := by decide +kernel
theorem dX0_offer_5 : decode cX0_offer 5 = .ok (.iload 4, 2) := by decide +kernel
theorem dX0_offer_7 : decode cX0_offer 7 = .ok (.ifCond .le 123, 3) := by decide +kernel
theorem dX0_offer_10 : decode cX0_offer 10 = .ok (.iload 4, 2) := by decide +kernel
theorem dX0_offer_12 : decode cX0_offer 12 = .ok (.iload_n 3, 1) := by decide +kernel
theorem dX0_offer_13 : decode cX0_offer 13 = .ok (.iand, 1) := by decide +kernel
theorem dX0_offer_14 : decode cX0_offer 14 = .ok (.istore 5, 2) := by decide +kernel
theorem dX0_offer_16 : decode cX0_offer 16 = .ok (.iload 5, 2) := by decide +kernel
theorem dX0_offer_18 : decode cX0_offer 18 = .ok (.istore 6, 2) := by decide +kernel
theorem dX0_offer_20 : decode cX0_offer 20 = .ok (.iload 6, 2) := by decide +kernel
theorem dX0_offer_22 : decode cX0_offer 22 = .ok (.ifCond .le 102, 3) := by decide +kernel
theorem dX0_offer_25 : decode cX0_offer 25 = .ok (.aload_n 0, 1) := by decide +kernel
theorem dX0_offer_26 : decode cX0_offer 26 = .ok (.getfield 30, 3) := by decide +kernel
theorem dX0_offer_29 : decode cX0_offer 29 = .ok (.iload 4, 2) := by decide +kernel
theorem dX0_offer_31 : decode cX0_offer 31 = .ok (.iload 6, 2) := by decide +kernel
theorem dX0_offer_33 : decode cX0_offer 33 = .ok (.ixor, 1) := by decide +kernel
theorem dX0_offer_34 : decode cX0_offer 34 = .ok (.laload, 1) := by decide +kernel
theorem dX0_offer_35 : decode cX0_offer 35 = .ok (.lstore 7, 2) := by decide +kernel
theorem dX0_offer_37 : decode cX0_offer 37 = .ok (.aload_n 0, 1) := by decide +kernel
theorem dX0_offer_38 : decode cX0_offer 38 = .ok (.getfield 24, 3) := by decide +kernel
theorem dX0_offer_41 : decode cX0_offer 41 = .ok (.iload 6, 2) := by decide +kernel
theorem dX0_offer_43 : decode cX0_offer 43 = .ok (.iaload, 1) := by decide +kernel
theorem dX0_offer_44 : decode cX0_offer 44 = .ok (.aload_n 0, 1) := by decide +kernel
theorem dX0_offer_45 : decode cX0_offer 45 = .ok (.getfield 15, 3) := by decide +kernel
theorem dX0_offer_48 : decode cX0_offer 48 = .ok (.iload_n 1, 1) := by decide +kernel
theorem dX0_offer_49 : decode cX0_offer 49 = .ok (.iaload, 1) := by decide +kernel
theorem dX0_offer_50 : decode cX0_offer 50 = .ok (.if_icmp .gt 62, 3) := by decide +kernel
theorem dX0_offer_53 : decode cX0_offer 53 = .ok (.lload 7, 2) := by decide +kernel
theorem dX0_offer_55 : decode cX0_offer 55 = .ok (.ldc2_w 60, 3) := by decide +kernel
theorem dX0_offer_58 : decode cX0_offer 58 = .ok (.lcmp, 1) := by decide +kernel
theorem dX0_offer_59 : decode cX0_offer 59 = .ok (.ifCond .ne 6, 3) := by decide +kernel
theorem dX0_offer_62 : decode cX0_offer 62 = .ok (.goto 50, 3) := by decide +kernel
theorem dX0_offer_65 : decode cX0_offer 65 = .ok (.lload 7, 2) := by decide +kernel
theorem dX0_offer_67 : decode cX0_offer 67 = .ok (.aload_n 0, 1) := by decide +kernel
theorem dX0_offer_68 : decode cX0_offer 68 = .ok (.getfield 15, 3) := by decide +kernel
theorem dX0_offer_71 : decode cX0_offer 71 = .ok (.iload_n 1, 1) := by decide +kernel
theorem dX0_offer_72 : decode cX0_offer 72 = .ok (.iaload, 1) := by decide +kernel
theorem dX0_offer_73 : decode cX0_offer 73 = .ok (.i2l, 1) := by decide +kernel
theorem dX0_offer_74 : decode cX0_offer 74 = .ok (.ldc2_w 81, 3) := by decide +kernel
theorem dX0_offer_77 : decode cX0_offer 77 = .ok (.lmul, 1) := by decide +kernel
theorem dX0_offer_78 : decode cX0_offer 78 = .ok (.ladd, 1) := by decide +kernel
theorem dX0_offer_79 : decode cX0_offer 79 = .ok (.iload_n 1, 1) := by decide +kernel
theorem dX0_offer_80 : decode cX0_offer 80 = .ok (.i2l, 1) := by decide +kernel
theorem dX0_offer_81 : decode cX0_offer 81 = .ok (.aload_n 0, 1) := by decide +kernel
theorem dX0_offer_82 : decode cX0_offer 82 = .ok (.getfield 27, 3) := by decide +kernel
theorem dX0_offer_85 : decode cX0_offer 85 = .ok (.iload 6, 2) := by decide +kernel
theorem dX0_offer_87 : decode cX0_offer 87 = .ok (.iaload, 1) := by decide +kernel
theorem dX0_offer_88 : decode cX0_offer 88 = .ok (.i2l, 1) := by decide +kernel
theorem dX0_offer_89 : decode cX0_offer 89 = .ok (.lmul, 1) := by decide +kernel
theorem dX0_offer_90 : decode cX0_offer 90 = .ok (.ladd, 1) := by decide +kernel
theorem dX0_offer_91 : decode cX0_offer 91 = .ok (.lstore 9, 2) := by decide +kernel
theorem dX0_offer_93 : decode cX0_offer 93 = .ok (.aload_n 0, 1) := by decide +kernel
theorem dX0_offer_94 : decode cX0_offer 94 = .ok (.getfield 30, 3) := by decide +kernel
theorem dX0_offer_97 : decode cX0_offer 97 = .ok (.iload 4, 2) := by decide +kernel
theorem dX0_offer_99 : decode cX0_offer 99 = .ok (.aload_n 0, 1) := by decide +kernel
theorem dX0_offer_100 : decode cX0_offer 100 = .ok (.getfield 30, 3) := by decide +kernel
theorem dX0_offer_103 : decode cX0_offer 103 = .ok (.iload 4, 2) := by decide +kernel
theorem dX0_offer_105 : decode cX0_offer 105 = .ok (.laload, 1) := by decide +kernel
theorem dX0_offer_106 : decode cX0_offer 106 = .ok (.lload 9, 2) := by decide +kernel
theorem dX0_offer_108 : decode cX0_offer 108 = .ok (.invokestatic 83, 3) := by decide +kernel
theorem dX0_offer_111 : decode cX0_offer 111 = .ok (.lastore, 1) := by decide +kernel
theorem dX0_offer_112 : decode cX0_offer 112 = .ok (.iload 6, 2) := by decide +kernel
theorem dX0_offer_114 : decode cX0_offer 114 = .ok (.iconst 1, 1) := by decide +kernel
theorem dX0_offer_115 : decode cX0_offer 115 = .ok (.isub, 1) := by decide +kernel
theorem dX0_offer_116 : decode cX0_offer 116 = .ok (.iload 5, 2) := by decide +kernel
theorem dX0_offer_118 : decode cX0_offer 118 = .ok (.iand, 1) := by decide +kernel
theorem dX0_offer_119 : decode cX0_offer 119 = .ok (.istore 6, 2) := by decide +kernel
theorem dX0_offer_121 : decode cX0_offer 121 = .ok (.goto (-101), 3) := by decide +kernel
theorem dX0_offer_124 : decode cX0_offer 124 = .ok (.iinc 4 (-1), 3) := by decide +kernel
theorem dX0_offer_127 : decode cX0_offer 127 = .ok (.goto (-122), 3) := by decide +kernel
theorem dX0_offer_130 : decode cX0_offer 130 = .ok (.return_, 1) := by decide +kernel
theorem dX0_choose_0 : decode cX0_choose 0 = .ok (.aload_n 0, 1) := by decide +kernel
theorem dX0_choose_1 : decode cX0_choose 1 = .ok (.lload_n 1, 1) := by decide +kernel
theorem dX0_choose_2 : decode cX0_choose 2 = .ok (.ldc2_w 60, 3) := by decide +kernel
theorem dX0_choose_5 : decode cX0_choose 5 = .ok (.lcmp, 1) := by decide +kernel
theorem dX0_choose_6 : decode cX0_choose 6 = .ok (.ifCond .eq 7, 3) := by decide +kernel
theorem dX0_choose_9 : decode cX0_choose 9 = .ok (.iconst 1, 1) := by decide +kernel
theorem dX0_choose_10 : decode cX0_choose 10 = .ok (.goto 4, 3) := by decide +kernel
theorem dX0_choose_13 : decode cX0_choose 13 = .ok (.iconst 0, 1) := by decide +kernel
theorem dX0_choose_14 : decode cX0_choose 14 = .ok (.putfield 89, 3) := by decide +kernel
theorem dX0_choose_17 : decode cX0_choose 17 = .ok (.aload_n 0, 1) := by decide +kernel
theorem dX0_choose_18 : decode cX0_choose 18 = .ok (.getfield 89, 3) := by decide +kernel
theorem dX0_choose_21 : decode cX0_choose 21 = .ok (.ifCond .ne 4, 3) := by decide +kernel
theorem dX0_choose_24 : decode cX0_choose 24 = .ok (.return_, 1) := by decide +kernel
theorem dX0_choose_25 : decode cX0_choose 25 = .ok (.aload_n 0, 1) := by decide +kernel
theorem dX0_choose_26 : decode cX0_choose 26 = .ok (.lload_n 1, 1) := by decide +kernel
theorem dX0_choose_27 : decode cX0_choose 27 = .ok (.ldc2_w 81, 3) := by decide +kernel
theorem dX0_choose_30 : decode cX0_choose 30 = .ok (.ldiv, 1) := by decide +kernel
theorem dX0_choose_31 : decode cX0_choose 31 = .ok (.l2i, 1) := by decide +kernel
theorem dX0_choose_32 : decode cX0_choose 32 = .ok (.putfield 92, 3) := by decide +kernel
theorem dX0_choose_35 : decode cX0_choose 35 = .ok (.lload_n 1, 1) := by decide +kernel
theorem dX0_choose_36 : decode cX0_choose 36 = .ok (.ldc2_w 81, 3) := by decide +kernel
theorem dX0_choose_39 : decode cX0_choose 39 = .ok (.lrem, 1) := by decide +kernel
theorem dX0_choose_40 : decode cX0_choose 40 = .ok (.l2i, 1) := by decide +kernel
theorem dX0_choose_41 : decode cX0_choose 41 = .ok (.istore_n 3, 1) := by decide +kernel
theorem dX0_choose_42 : decode cX0_choose 42 = .ok (.bipush 8, 2) := by decide +kernel
theorem dX0_choose_44 : decode cX0_choose 44 = .ok (.istore 4, 2) := by decide +kernel
theorem dX0_choose_46 : decode cX0_choose 46 = .ok (.iload 4, 2) := by decide +kernel
theorem dX0_choose_48 : decode cX0_choose 48 = .ok (.ifCond .lt 23, 3) := by decide +kernel
theorem dX0_choose_51 : decode cX0_choose 51 = .ok (.aload_n 0, 1) := by decide +kernel
theorem dX0_choose_52 : decode cX0_choose 52 = .ok (.getfield 9, 3) := by decide +kernel
theorem dX0_choose_55 : decode cX0_choose 55 = .ok (.iload 4, 2) := by decide +kernel
theorem dX0_choose_57 : decode cX0_choose 57 = .ok (.iload_n 3, 1) := by decide +kernel
theorem dX0_choose_58 : decode cX0_choose 58 = .ok (.iconst 5, 1) := by decide +kernel
theorem dX0_choose_59 : decode cX0_choose 59 = .ok (.irem, 1) := by decide +kernel
theorem dX0_choose_60 : decode cX0_choose 60 = .ok (.iastore, 1) := by decide +kernel
theorem dX0_choose_61 : decode cX0_choose 61 = .ok (.iload_n 3, 1) := by decide +kernel
theorem dX0_choose_62 : decode cX0_choose 62 = .ok (.iconst 5, 1) := by decide +kernel
theorem dX0_choose_63 : decode cX0_choose 63 = .ok (.idiv, 1) := by decide +kernel
theorem dX0_choose_64 : decode cX0_choose 64 = .ok (.istore_n 3, 1) := by decide +kernel
theorem dX0_choose_65 : decode cX0_choose 65 = .ok (.iinc 4 (-1), 3) := by decide +kernel
theorem dX0_choose_68 : decode cX0_choose 68 = .ok (.goto (-22), 3) := by decide +kernel
theorem dX0_choose_71 : decode cX0_choose 71 = .ok (.return_, 1) := by decide +kernel
theorem dX0_leftOf_0 : decode cX0_leftOf 0 = .ok (.iconst 0, 1) := by decide +kernel
theorem dX0_leftOf_1 : decode cX0_leftOf 1 = .ok (.istore_n 3, 1) := by decide +kernel
theorem dX0_leftOf_2 : decode cX0_leftOf 2 = .ok (.iconst 0, 1) := by decide +kernel
theorem dX0_leftOf_3 : decode cX0_leftOf 3 = .ok (.istore 4, 2) := by decide +kernel
theorem dX0_leftOf_5 : decode cX0_leftOf 5 = .ok (.iload 4, 2) := by decide +kernel
theorem dX0_leftOf_7 : decode cX0_leftOf 7 = .ok (.iload_n 2, 1) := by decide +kernel
theorem dX0_leftOf_8 : decode cX0_leftOf 8 = .ok (.if_icmp .ge 31, 3) := by decide +kernel
theorem dX0_leftOf_11 : decode cX0_leftOf 11 = .ok (.iload_n 3, 1) := by decide +kernel
theorem dX0_leftOf_12 : decode cX0_leftOf 12 = .ok (.aload_n 0, 1) := by decide +kernel
theorem dX0_leftOf_13 : decode cX0_leftOf 13 = .ok (.getfield 9, 3) := by decide +kernel
theorem dX0_leftOf_16 : decode cX0_leftOf 16 = .ok (.iload 4, 2) := by decide +kernel
theorem dX0_leftOf_18 : decode cX0_leftOf 18 = .ok (.iaload, 1) := by decide +kernel
theorem dX0_leftOf_19 : decode cX0_leftOf 19 = .ok (.iload_n 1, 1) := by decide +kernel
theorem dX0_leftOf_20 : decode cX0_leftOf 20 = .ok (.if_icmp .ne 10, 3) := by decide +kernel
theorem dX0_leftOf_23 : decode cX0_leftOf 23 = .ok (.iconst 1, 1) := by decide +kernel
theorem dX0_leftOf_24 : decode cX0_leftOf 24 = .ok (.iload 4, 2) := by decide +kernel
theorem dX0_leftOf_26 : decode cX0_leftOf 26 = .ok (.ishl, 1) := by decide +kernel
theorem dX0_leftOf_27 : decode cX0_leftOf 27 = .ok (.goto 4, 3) := by decide +kernel
theorem dX0_leftOf_30 : decode cX0_leftOf 30 = .ok (.iconst 0, 1) := by decide +kernel
theorem dX0_leftOf_31 : decode cX0_leftOf 31 = .ok (.ior, 1) := by decide +kernel
theorem dX0_leftOf_32 : decode cX0_leftOf 32 = .ok (.istore_n 3, 1) := by decide +kernel
theorem dX0_leftOf_33 : decode cX0_leftOf 33 = .ok (.iinc 4 1, 3) := by decide +kernel
theorem dX0_leftOf_36 : decode cX0_leftOf 36 = .ok (.goto (-31), 3) := by decide +kernel
theorem dX0_leftOf_39 : decode cX0_leftOf 39 = .ok (.aload_n 0, 1) := by decide +kernel
theorem dX0_leftOf_40 : decode cX0_leftOf 40 = .ok (.getfield 15, 3) := by decide +kernel
theorem dX0_leftOf_43 : decode cX0_leftOf 43 = .ok (.iload_n 1, 1) := by decide +kernel
theorem dX0_leftOf_44 : decode cX0_leftOf 44 = .ok (.iaload, 1) := by decide +kernel
theorem dX0_leftOf_45 : decode cX0_leftOf 45 = .ok (.aload_n 0, 1) := by decide +kernel
theorem dX0_leftOf_46 : decode cX0_leftOf 46 = .ok (.getfield 24, 3) := by decide +kernel
theorem dX0_leftOf_49 : decode cX0_leftOf 49 = .ok (.iload_n 3, 1) := by decide +kernel
theorem dX0_leftOf_50 : decode cX0_leftOf 50 = .ok (.iaload, 1) := by decide +kernel
theorem dX0_leftOf_51 : decode cX0_leftOf 51 = .ok (.isub, 1) := by decide +kernel
theorem dX0_leftOf_52 : decode cX0_leftOf 52 = .ok (.ireturn, 1) := by decide +kernel
theorem dX1_init_0 : decode cX1_init 0 = .ok (.aload_n 0, 1) := by decide +kernel
theorem dX1_init_1 : decode cX1_init 1 = .ok (.invokespecial 3, 3) := by decide +kernel
theorem dX1_init_4 : decode cX1_init 4 = .ok (.aload_n 0, 1) := by decide +kernel
theorem dX1_init_5 : decode cX1_init 5 = .ok (.bipush 25, 2) := by decide +kernel
theorem dX1_init_7 : decode cX1_init 7 = .ok (.newarray .long, 2) := by decide +kernel
theorem dX1_init_9 : decode cX1_init 9 = .ok (.putfield 11, 3) := by decide +kernel
theorem dX1_init_12 : decode cX1_init 12 = .ok (.aload_n 0, 1) := by decide +kernel
theorem dX1_init_13 : decode cX1_init 13 = .ok (.bipush 25, 2) := by decide +kernel
theorem dX1_init_15 : decode cX1_init 15 = .ok (.newarray .long, 2) := by decide +kernel
theorem dX1_init_17 : decode cX1_init 17 = .ok (.putfield 15, 3) := by decide +kernel
theorem dX1_init_20 : decode cX1_init 20 = .ok (.aload_n 0, 1) := by decide +kernel
theorem dX1_init_21 : decode cX1_init 21 = .ok (.bipush 9, 2) := by decide +kernel
theorem dX1_init_23 : decode cX1_init 23 = .ok (.newarray .long, 2) := by decide +kernel
theorem dX1_init_25 : decode cX1_init 25 = .ok (.putfield 18, 3) := by decide +kernel
theorem dX1_init_28 : decode cX1_init 28 = .ok (.aload_n 0, 1) := by decide +kernel
theorem dX1_init_29 : decode cX1_init 29 = .ok (.bipush 81, 2) := by decide +kernel
theorem dX1_init_31 : decode cX1_init 31 = .ok (.newarray .int, 2) := by decide +kernel
theorem dX1_init_33 : decode cX1_init 33 = .ok (.putfield 21, 3) := by decide +kernel
theorem dX1_init_36 : decode cX1_init 36 = .ok (.aload_n 0, 1) := by decide +kernel
theorem dX1_init_37 : decode cX1_init 37 = .ok (.bipush 9, 2) := by decide +kernel
theorem dX1_init_39 : decode cX1_init 39 = .ok (.newarray .int, 2) := by decide +kernel
theorem dX1_init_41 : decode cX1_init 41 = .ok (.putfield 25, 3) := by decide +kernel
theorem dX1_init_44 : decode cX1_init 44 = .ok (.aload_n 0, 1) := by decide +kernel
theorem dX1_init_45 : decode cX1_init 45 = .ok (.bipush 9, 2) := by decide +kernel
theorem dX1_init_47 : decode cX1_init 47 = .ok (.newarray .int, 2) := by decide +kernel
theorem dX1_init_49 : decode cX1_init 49 = .ok (.putfield 28, 3) := by decide +kernel
theorem dX1_init_52 : decode cX1_init 52 = .ok (.aload_n 0, 1) := by decide +kernel
theorem dX1_init_53 : decode cX1_init 53 = .ok (.sipush 512, 3) := by decide +kernel
theorem dX1_init_56 : decode cX1_init 56 = .ok (.newarray .long, 2) := by decide +kernel
theorem dX1_init_58 : decode cX1_init 58 = .ok (.putfield 31, 3) := by decide +kernel
theorem dX1_init_61 : decode cX1_init 61 = .ok (.aload_n 0, 1) := by decide +kernel
theorem dX1_init_62 : decode cX1_init 62 = .ok (.sipush 512, 3) := by decide +kernel
theorem dX1_init_65 : decode cX1_init 65 = .ok (.newarray .long, 2) := by decide +kernel
theorem dX1_init_67 : decode cX1_init 67 = .ok (.putfield 34, 3) := by decide +kernel
theorem dX1_init_70 : decode cX1_init 70 = .ok (.aload_n 0, 1) := by decide +kernel
theorem dX1_init_71 : decode cX1_init 71 = .ok (.sipush 512, 3) := by decide +kernel
theorem dX1_init_74 : decode cX1_init 74 = .ok (.newarray .long, 2) := by decide +kernel
theorem dX1_init_76 : decode cX1_init 76 = .ok (.putfield 37, 3) := by decide +kernel
theorem dX1_init_79 : decode cX1_init 79 = .ok (.aload_n 0, 1) := by decide +kernel
theorem dX1_init_80 : decode cX1_init 80 = .ok (.new 40, 3) := by decide +kernel
theorem dX1_init_83 : decode cX1_init 83 = .ok (.dup, 1) := by decide +kernel
theorem dX1_init_84 : decode cX1_init 84 = .ok (.invokespecial 42, 3) := by decide +kernel
theorem dX1_init_87 : decode cX1_init 87 = .ok (.putfield 43, 3) := by decide +kernel
theorem dX1_init_90 : decode cX1_init 90 = .ok (.aload_n 0, 1) := by decide +kernel
theorem dX1_init_91 : decode cX1_init 91 = .ok (.new 40, 3) := by decide +kernel
theorem dX1_init_94 : decode cX1_init 94 = .ok (.dup, 1) := by decide +kernel
theorem dX1_init_95 : decode cX1_init 95 = .ok (.invokespecial 42, 3) := by decide +kernel
theorem dX1_init_98 : decode cX1_init 98 = .ok (.putfield 47, 3) := by decide +kernel
theorem dX1_init_101 : decode cX1_init 101 = .ok (.aload_n 0, 1) := by decide +kernel
theorem dX1_init_102 : decode cX1_init 102 = .ok (.new 40, 3) := by decide +kernel
theorem dX1_init_105 : decode cX1_init 105 = .ok (.dup, 1) := by decide +kernel
theorem dX1_init_106 : decode cX1_init 106 = .ok (.invokespecial 42, 3) := by decide +kernel
theorem dX1_init_109 : decode cX1_init 109 = .ok (.putfield 50, 3) := by decide +kernel
theorem dX1_init_112 : decode cX1_init 112 = .ok (.aload_n 0, 1) := by decide +kernel
theorem dX1_init_113 : decode cX1_init 113 = .ok (.new 40, 3) := by decide +kernel
theorem dX1_init_116 : decode cX1_init 116 = .ok (.dup, 1) := by decide +kernel
theorem dX1_init_117 : decode cX1_init 117 = .ok (.invokespecial 42, 3) := by decide +kernel
theorem dX1_init_120 : decode cX1_init 120 = .ok (.putfield 53, 3) := by decide +kernel
theorem dX1_init_123 : decode cX1_init 123 = .ok (.aload_n 0, 1) := by decide +kernel
theorem dX1_init_124 : decode cX1_init 124 = .ok (.new 40, 3) := by decide +kernel
theorem dX1_init_127 : decode cX1_init 127 = .ok (.dup, 1) := by decide +kernel
theorem dX1_init_128 : decode cX1_init 128 = .ok (.invokespecial 42, 3) := by decide +kernel
theorem dX1_init_131 : decode cX1_init 131 = .ok (.putfield 56, 3) := by decide +kernel
theorem dX1_init_134 : decode cX1_init 134 = .ok (.return_, 1) := by decide +kernel
theorem dX1_bearingIndex_0 : decode cX1_bearingIndex 0 = .ok (.bipush 9, 2) := by decide +kernel
theorem dX1_bearingIndex_2 : decode cX1_bearingIndex 2 = .ok (.iconst 2, 1) := by decide +kernel
theorem dX1_bearingIndex_3 : decode cX1_bearingIndex 3 = .ok (.iload_n 1, 1) := by decide +kernel
theorem dX1_bearingIndex_4 : decode cX1_bearingIndex 4 = .ok (.imul, 1) := by decide +kernel
theorem dX1_bearingIndex_5 : decode cX1_bearingIndex 5 = .ok (.iadd, 1) := by decide +kernel
theorem dX1_bearingIndex_6 : decode cX1_bearingIndex 6 = .ok (.iload_n 2, 1) := by decide +kernel
theorem dX1_bearingIndex_7 : decode cX1_bearingIndex 7 = .ok (.iadd, 1) := by decide +kernel
theorem dX1_bearingIndex_8 : decode cX1_bearingIndex 8 = .ok (.ireturn, 1) := by decide +kernel
theorem dX1_find_0 : decode cX1_find 0 = .ok (.aload_n 0, 1) := by decide +kernel
theorem dX1_find_1 : decode cX1_find 1 = .ok (.getfield 59, 3) := by decide +kernel
theorem dX1_find_4 : decode cX1_find 4 = .ok (.ifCond .eq 4, 3) := by decide +kernel
theorem dX1_find_7 : decode cX1_find 7 = .ok (.return_, 1) := by decide +kernel
theorem dX1_find_8 : decode cX1_find 8 = .ok (.aload_n 0, 1) := by decide +kernel
theorem dX1_find_9 : decode cX1_find 9 = .ok (.aload_n 0, 1) := by decide +kernel
theorem dX1_find_10 : decode cX1_find 10 = .ok (.aload_n 1, 1) := by decide +kernel
theorem dX1_find_11 : decode cX1_find 11 = .ok (.invokevirtual 63, 3) := by decide +kernel
theorem dX1_find_14 : decode cX1_find 14 = .ok (.putfield 67, 3) := by decide +kernel
theorem dX1_find_17 : decode cX1_find 17 = .ok (.aload_n 0, 1) := by decide +kernel
theorem dX1_find_18 : decode cX1_find 18 = .ok (.getfield 67, 3) := by decide +kernel
theorem dX1_find_21 : decode cX1_find 21 = .ok (.bipush 46, 2) := by decide +kernel
theorem dX1_find_23 : decode cX1_find 23 = .ok (.if_icmp .ne 13, 3) := by decide +kernel
theorem dX1_find_26 : decode cX1_find 26 = .ok (.aload_n 0, 1) := by decide +kernel
theorem dX1_find_27 : decode cX1_find 27 = .ok (.aload_n 1, 1) := by decide +kernel
theorem dX1_find_28 : decode cX1_find 28 = .ok (.invokevirtual 71, 3) := by decide +kernel
theorem dX1_find_31 : decode cX1_find 31 = .ok (.aload_n 0, 1) := by decide +kernel
theorem dX1_find_32 : decode cX1_find 32 = .ok (.aload_n 1, 1) := by decide +kernel
theorem dX1_find_33 : decode cX1_find 33 = .ok (.invokevirtual 75, 3) := by decide +kernel
theorem dX1_find_36 : decode cX1_find 36 = .ok (.aload_n 0, 1) := by decide +kernel
theorem dX1_find_37 : decode cX1_find 37 = .ok (.iconst 1, 1) := by decide +kernel
theorem dX1_find_38 : decode cX1_find 38 = .ok (.putfield 59, 3) := by decide +kernel
theorem dX1_find_41 : decode cX1_find 41 = .ok (.return_, 1) := by decide +kernel
theorem dX1_findPulls_0 : decode cX1_findPulls 0 = .ok (.iconst 0, 1) := by decide +kernel
theorem dX1_findPulls_1 : decode cX1_findPulls 1 = .ok (.istore_n 2, 1) := by decide +kernel
theorem dX1_findPulls_2 : decode cX1_findPulls 2 = .ok (.iconst 0, 1) := by decide +kernel
theorem dX1_findPulls_3 : decode cX1_findPulls 3 = .ok (.istore_n 3, 1) := by decide +kernel
theorem dX1_findPulls_4 : decode cX1_findPulls 4 = .ok (.iload_n 3, 1) := by decide +kernel
theorem dX1_findPulls_5 : decode cX1_findPulls 5 = .ok (.aload_n 1, 1) := by decide +kernel
theorem dX1_findPulls_6 : decode cX1_findPulls 6 = .ok (.getfield 78, 3) := by decide +kernel
theorem dX1_findPulls_9 : decode cX1_findPulls 9 = .ok (.if_icmp .ge 43, 3) := by decide +kernel
theorem dX1_findPulls_12 : decode cX1_findPulls 12 = .ok (.iload_n 2, 1) := by decide +kernel
theorem dX1_findPulls_13 : decode cX1_findPulls 13 = .ok (.aload_n 1, 1) := by decide +kernel
theorem dX1_findPulls_14 : decode cX1_findPulls 14 = .ok (.iload_n 3, 1) := by decide +kernel
theorem dX1_findPulls_15 : decode cX1_findPulls 15 = .ok (.iconst 0, 1) := by decide +kernel
theorem dX1_findPulls_16 : decode cX1_findPulls 16 = .ok (.invokevirtual 84, 3) := by decide +kernel
theorem dX1_findPulls_19 : decode cX1_findPulls 19 = .ok (.ifCond .eq 7, 3) := by decide +kernel
theorem dX1_findPulls_22 : decode cX1_findPulls 22 = .ok (.iconst 0, 1) := by decide +kernel
theorem dX1_findPulls_23 : decode cX1_findPulls 23 = .ok (.goto 4, 3) := by decide +kernel
theorem dX1_findPulls_26 : decode cX1_findPulls 26 = .ok (.iconst 1, 1) := by decide +kernel
theorem dX1_findPulls_27 : decode cX1_findPulls 27 = .ok (.iadd, 1) := by decide +kernel
theorem dX1_findPulls_28 : decode cX1_findPulls 28 = .ok (.istore_n 2, 1) := by decide +kernel
theorem dX1_findPulls_29 : decode cX1_findPulls 29 = .ok (.iload_n 2, 1) := by decide +kernel
theorem dX1_findPulls_30 : decode cX1_findPulls 30 = .ok (.aload_n 1, 1) := by decide +kernel
theorem dX1_findPulls_31 : decode cX1_findPulls 31 = .ok (.iload_n 3, 1) := by decide +kernel
theorem dX1_findPulls_32 : decode cX1_findPulls 32 = .ok (.iconst 1, 1) := by decide +kernel
theorem dX1_findPulls_33 : decode cX1_findPulls 33 = .ok (.invokevirtual 84, 3) := by decide +kernel
theorem dX1_findPulls_36 : decode cX1_findPulls 36 = .ok (.ifCond .eq 7, 3) := by decide +kernel
theorem dX1_findPulls_39 : decode cX1_findPulls 39 = .ok (.iconst 0, 1) := by decide +kernel
theorem dX1_findPulls_40 : decode cX1_findPulls 40 = .ok (.goto 4, 3) := by decide +kernel
theorem dX1_findPulls_43 : decode cX1_findPulls 43 = .ok (.iconst 1, 1) := by decide +kernel
theorem dX1_findPulls_44 : decode cX1_findPulls 44 = .ok (.iadd, 1) := by decide +kernel
theorem dX1_findPulls_45 : decode cX1_findPulls 45 = .ok (.istore_n 2, 1) := by decide +kernel
theorem dX1_findPulls_46 : decode cX1_findPulls 46 = .ok (.iinc 3 1, 3) := by decide +kernel
theorem dX1_findPulls_49 : decode cX1_findPulls 49 = .ok (.goto (-45), 3) := by decide +kernel
theorem dX1_findPulls_52 : decode cX1_findPulls 52 = .ok (.aload_n 1, 1) := by decide +kernel
theorem dX1_findPulls_53 : decode cX1_findPulls 53 = .ok (.getfield 88, 3) := by decide +kernel
theorem dX1_findPulls_56 : decode cX1_findPulls 56 = .ok (.iload_n 2, 1) := by decide +kernel
theorem dX1_findPulls_57 : decode cX1_findPulls 57 = .ok (.if_icmp .eq 19, 3) := by decide +kernel
theorem dX1_findPulls_60 : decode cX1_findPulls 60 = .ok (.aload_n 1, 1) := by decide +kernel
theorem dX1_findPulls_61 : decode cX1_findPulls 61 = .ok (.getfield 88, 3) := by decide +kernel
theorem dX1_findPulls_64 : decode cX1_findPulls 64 = .ok (.iload_n 2, 1) := by decide +kernel
theorem dX1_findPulls_65 : decode cX1_findPulls 65 = .ok (.if_icmp .ge 8, 3) := by decide +kernel
theorem dX1_findPulls_68 : decode cX1_findPulls 68 = .ok (.bipush 108, 2) := by decide +kernel
theorem dX1_findPulls_70 : decode cX1_findPulls 70 = .ok (.goto 5, 3) := by decide +kernel
theorem dX1_findPulls_73 : decode cX1_findPulls 73 = .ok (.bipush 116, 2) := by decide +kernel
theorem dX1_findPulls_75 : decode cX1_findPulls 75 = .ok (.ireturn, 1) := by decide +kernel
theorem dX1_findPulls_76 : decode cX1_findPulls 76 = .ok (.aload_n 0, 1) := by decide +kernel
theorem dX1_findPulls_77 : decode cX1_findPulls 77 = .ok (.aload_n 1, 1) := by decide +kernel
theorem dX1_findPulls_78 : decode cX1_findPulls 78 = .ok (.invokevirtual 91, 3) := by decide +kernel
theorem dX1_findPulls_81 : decode cX1_findPulls 81 = .ok (.aload_n 0, 1) := by decide +kernel
theorem dX1_findPulls_82 : decode cX1_findPulls 82 = .ok (.iload_n 2, 1) := by decide +kernel
theorem dX1_findPulls_83 : decode cX1_findPulls 83 = .ok (.invokevirtual 94, 3) := by decide +kernel
theorem dX1_findPulls_86 : decode cX1_findPulls 86 = .ok (.aload_n 0, 1) := by decide +kernel
theorem dX1_findPulls_87 : decode cX1_findPulls 87 = .ok (.getfield 31, 3) := by decide +kernel
theorem dX1_findPulls_90 : decode cX1_findPulls 90 = .ok (.iconst 1, 1) := by decide +kernel
theorem dX1_findPulls_91 : decode cX1_findPulls 91 = .ok (.iload_n 2, 1) := by decide +kernel
theorem dX1_findPulls_92 : decode cX1_findPulls 92 = .ok (.ishl, 1) := by decide +kernel
theorem dX1_findPulls_93 : decode cX1_findPulls 93 = .ok (.iconst 1, 1) := by decide +kernel
theorem dX1_findPulls_94 : decode cX1_findPulls 94 = .ok (.isub, 1) := by decide +kernel
theorem dX1_findPulls_95 : decode cX1_findPulls 95 = .ok (.laload, 1) := by decide +kernel
theorem dX1_findPulls_96 : decode cX1_findPulls 96 = .ok (.lstore_n 3, 1) := by decide +kernel
theorem dX1_findPulls_97 : decode cX1_findPulls 97 = .ok (.lload_n 3, 1) := by decide +kernel
theorem dX1_findPulls_98 : decode cX1_findPulls 98 = .ok (.lconst 0, 1) := by decide +kernel
theorem dX1_findPulls_99 : decode cX1_findPulls 99 = .ok (.lcmp, 1) := by decide +kernel
theorem dX1_findPulls_100 : decode cX1_findPulls 100 = .ok (.ifCond .ne 6, 3) := by decide +kernel
theorem dX1_findPulls_103 : decode cX1_findPulls 103 = .ok (.bipush 99, 2) := by decide +kernel
theorem dX1_findPulls_105 : decode cX1_findPulls 105 = .ok (.ireturn, 1) := by decide +kernel
theorem dX1_findPulls_106 : decode cX1_findPulls 106 = .ok (.aload_n 0, 1) := by decide +kernel
theorem dX1_findPulls_107 : decode cX1_findPulls 107 = .ok (.lload_n 3, 1) := by decide +kernel
theorem dX1_findPulls_108 : decode cX1_findPulls 108 = .ok (.invokestatic 98, 3) := by decide +kernel
theorem dX1_findPulls_111 : decode cX1_findPulls 111 = .ok (.putfield 104, 3) := by decide +kernel
theorem dX1_findPulls_114 : decode cX1_findPulls 114 = .ok (.iconst 0, 1) := by decide +kernel
theorem dX1_findPulls_115 : decode cX1_findPulls 115 = .ok (.istore 5, 2) := by decide +kernel
theorem dX1_findPulls_117 : decode cX1_findPulls 117 = .ok (.iload 5, 2) := by decide +kernel
theorem dX1_findPulls_119 : decode cX1_findPulls 119 = .ok (.iload_n 2, 1) := by decide +kernel
theorem dX1_findPulls_120 : decode cX1_findPulls 120 = .ok (.if_icmp .ge 59, 3) := by decide +kernel
theorem dX1_findPulls_123 : decode cX1_findPulls 123 = .ok (.iload_n 2, 1) := by decide +kernel
theorem dX1_findPulls_124 : decode cX1_findPulls 124 = .ok (.iconst 1, 1) := by decide +kernel
theorem dX1_findPulls_125 : decode cX1_findPulls 125 = .ok (.isub, 1) := by decide +kernel
theorem dX1_findPulls_126 : decode cX1_findPulls 126 = .ok (.iload 5, 2) := by decide +kernel
theorem dX1_findPulls_128 : decode cX1_findPulls 128 = .ok (.isub, 1) := by decide +kernel
theorem dX1_findPulls_129 : decode cX1_findPulls 129 = .ok (.iconst 2, 1) := by decide +kernel
theorem dX1_findPulls_130 : decode cX1_findPulls 130 = .ok (.irem, 1) := by decide +kernel
theorem dX1_findPulls_131 : decode cX1_findPulls 131 = .ok (.ifCond .eq 7, 3) := by decide +kernel
theorem dX1_findPulls_134 : decode cX1_findPulls 134 = .ok (.iconst 1, 1) := by decide +kernel
theorem dX1_findPulls_135 : decode cX1_findPulls 135 = .ok (.goto 4, 3) := by decide +kernel
theorem dX1_findPulls_138 : decode cX1_findPulls 138 = .ok (.iconst 0, 1) := by decide +kernel
theorem dX1_findPulls_139 : decode cX1_findPulls 139 = .ok (.istore 6, 2) := by decide +kernel
theorem dX1_findPulls_141 : decode cX1_findPulls 141 = .ok (.aload_n 0, 1) := by decide +kernel
theorem dX1_findPulls_142 : decode cX1_findPulls 142 = .ok (.iload 5, 2) := by decide +kernel
theorem dX1_findPulls_144 : decode cX1_findPulls 144 = .ok (.iconst 1, 1) := by decide +kernel
theorem dX1_findPulls_145 : decode cX1_findPulls 145 = .ok (.iload_n 2, 1) := by decide +kernel
theorem dX1_findPulls_146 : decode cX1_findPulls 146 = .ok (.ishl, 1) := by decide +kernel
theorem dX1_findPulls_147 : decode cX1_findPulls 147 = .ok (.iconst 1, 1) := by decide +kernel
theorem dX1_findPulls_148 : decode cX1_findPulls 148 = .ok (.isub, 1) := by decide +kernel
theorem dX1_findPulls_149 : decode cX1_findPulls 149 = .ok (.iload 6, 2) := by decide +kernel
theorem dX1_findPulls_151 : decode cX1_findPulls 151 = .ok (.lload_n 3, 1) := by decide +kernel
theorem dX1_findPulls_152 : decode cX1_findPulls 152 = .ok (.lconst 0, 1) := by decide +kernel
theorem dX1_findPulls_153 : decode cX1_findPulls 153 = .ok (.lcmp, 1) := by decide +kernel
theorem dX1_findPulls_154 : decode cX1_findPulls 154 = .ok (.ifCond .le 7, 3) := by decide +kernel
theorem dX1_findPulls_157 : decode cX1_findPulls 157 = .ok (.iconst 1, 1) := by decide +kernel
theorem dX1_findPulls_158 : decode cX1_findPulls 158 = .ok (.goto 4, 3) := by decide +kernel
theorem dX1_findPulls_161 : decode cX1_findPulls 161 = .ok (.iconst 0, 1) := by decide +kernel
theorem dX1_findPulls_162 : decode cX1_findPulls 162 = .ok (.if_icmp .ne 7, 3) := by decide +kernel
theorem dX1_findPulls_165 : decode cX1_findPulls 165 = .ok (.iconst (-1), 1) := by decide +kernel
theorem dX1_findPulls_166 : decode cX1_findPulls 166 = .ok (.goto 4, 3) := by decide +kernel
theorem dX1_findPulls_169 : decode cX1_findPulls 169 = .ok (.iconst 1, 1) := by decide +kernel
theorem dX1_findPulls_170 : decode cX1_findPulls 170 = .ok (.invokevirtual 108, 3) := by decide +kernel
theorem dX1_findPulls_173 : decode cX1_findPulls 173 = .ok (.iinc 5 1, 3) := by decide +kernel
theorem dX1_findPulls_176 : decode cX1_findPulls 176 = .ok (.goto (-59), 3) := by decide +kernel
theorem dX1_findPulls_179 : decode cX1_findPulls 179 = .ok (.bipush 46, 2) := by decide +kernel
theorem dX1_findPulls_181 : decode cX1_findPulls 181 = .ok (.ireturn, 1) := by decide +kernel
theorem dX1_fillRows_0 : decode cX1_fillRows 0 = .ok (.iconst 0, 1) := by decide +kernel
theorem dX1_fillRows_1 : decode cX1_fillRows 1 = .ok (.istore_n 2, 1) := by decide +kernel
theorem dX1_fillRows_2 : decode cX1_fillRows 2 = .ok (.iconst 0, 1) := by decide +kernel
theorem dX1_fillRows_3 : decode cX1_fillRows 3 = .ok (.istore_n 3, 1) := by decide +kernel
theorem dX1_fillRows_4 : decode cX1_fillRows 4 = .ok (.iload_n 3, 1) := by decide +kernel
theorem dX1_fillRows_5 : decode cX1_fillRows 5 = .ok (.iconst 2, 1) := by decide +kernel
theorem dX1_fillRows_6 : decode cX1_fillRows 6 = .ok (.aload_n 1, 1) := by decide +kernel
theorem dX1_fillRows_7 : decode cX1_fillRows 7 = .ok (.getfield 78, 3) := by decide +kernel
theorem dX1_fillRows_10 : decode cX1_fillRows 10 = .ok (.imul, 1) := by decide +kernel
theorem dX1_fillRows_11 : decode cX1_fillRows 11 = .ok (.if_icmp .ge 115, 3) := by decide +kernel
theorem dX1_fillRows_14 : decode cX1_fillRows 14 = .ok (.iload_n 2, 1) := by decide +kernel
theorem dX1_fillRows_15 : decode cX1_fillRows 15 = .ok (.bipush 9, 2) := by decide +kernel
theorem dX1_fillRows_17 : decode cX1_fillRows 17 = .ok (.if_icmp .ge 109, 3) := by decide +kernel
theorem dX1_fillRows_20 : decode cX1_fillRows 20 = .ok (.iload_n 3, 1) := by decide +kernel
theorem dX1_fillRows_21 : decode cX1_fillRows 21 = .ok (.iconst 2, 1) := by decide +kernel
theorem dX1_fillRows_22 : decode cX1_fillRows 22 = .ok (.idiv, 1) := by decide +kernel
theorem dX1_fillRows_23 : decode cX1_fillRows 23 = .ok (.istore 4, 2) := by decide +kernel
theorem dX1_fillRows_25 : decode cX1_fillRows 25 = .ok (.iload_n 3, 1) := by decide +kernel
theorem dX1_fillRows_26 : decode cX1_fillRows 26 = .ok (.iconst 2, 1) := by decide +kernel
theorem dX1_fillRows_27 : decode cX1_fillRows 27 = .ok (.irem, 1) := by decide +kernel
theorem dX1_fillRows_28 : decode cX1_fillRows 28 = .ok (.istore 5, 2) := by decide +kernel
theorem dX1_fillRows_30 : decode cX1_fillRows 30 = .ok (.aload_n 1, 1) := by decide +kernel
theorem dX1_fillRows_31 : decode cX1_fillRows 31 = .ok (.iload 4, 2) := by decide +kernel
theorem dX1_fillRows_33 : decode cX1_fillRows 33 = .ok (.iload 5, 2) := by decide +kernel
theorem dX1_fillRows_35 : decode cX1_fillRows 35 = .ok (.invokevirtual 84, 3) := by decide +kernel
theorem dX1_fillRows_38 : decode cX1_fillRows 38 = .ok (.ifCond .eq 6, 3) := by decide +kernel
theorem dX1_fillRows_41 : decode cX1_fillRows 41 = .ok (.goto 79, 3) := by decide +kernel
theorem dX1_fillRows_44 : decode cX1_fillRows 44 = .ok (.iconst 0, 1) := by decide +kernel
theorem dX1_fillRows_45 : decode cX1_fillRows 45 = .ok (.istore 6, 2) := by decide +kernel
theorem dX1_fillRows_47 : decode cX1_fillRows 47 = .ok (.iload 6, 2) := by decide +kernel
theorem dX1_fillRows_49 : decode cX1_fillRows 49 = .ok (.aload_n 1, 1) := by decide +kernel
theorem dX1_fillRows_50 : decode cX1_fillRows 50 = .ok (.getfield 88, 3) := by decide +kernel
theorem dX1_fillRows_53 : decode cX1_fillRows 53 = .ok (.if_icmp .ge 31, 3) := by decide +kernel
theorem dX1_fillRows_56 : decode cX1_fillRows 56 = .ok (.aload_n 0, 1) := by decide +kernel
theorem dX1_fillRows_57 : decode cX1_fillRows 57 = .ok (.getfield 21, 3) := by decide +kernel
theorem dX1_fillRows_60 : decode cX1_fillRows 60 = .ok (.iload_n 2, 1) := by decide +kernel
theorem dX1_fillRows_61 : decode cX1_fillRows 61 = .ok (.bipush 9, 2) := by decide +kernel
theorem dX1_fillRows_63 : decode cX1_fillRows 63 = .ok (.imul, 1) := by decide +kernel
theorem dX1_fillRows_64 : decode cX1_fillRows 64 = .ok (.iload 6, 2) := by decide +kernel
theorem dX1_fillRows_66 : decode cX1_fillRows 66 = .ok (.iadd, 1) := by decide +kernel
theorem dX1_fillRows_67 : decode cX1_fillRows 67 = .ok (.aload_n 1, 1) := by decide +kernel
theorem dX1_fillRows_68 : decode cX1_fillRows 68 = .ok (.iload 6, 2) := by decide +kernel
theorem dX1_fillRows_70 : decode cX1_fillRows 70 = .ok (.iload 4, 2) := by decide +kernel
theorem dX1_fillRows_72 : decode cX1_fillRows 72 = .ok (.iload 5, 2) := by decide +kernel
theorem dX1_fillRows_74 : decode cX1_fillRows 74 = .ok (.invokevirtual 112, 3) := by decide +kernel
theorem dX1_fillRows_77 : decode cX1_fillRows 77 = .ok (.iastore, 1) := by decide +kernel
theorem dX1_fillRows_78 : decode cX1_fillRows 78 = .ok (.iinc 6 1, 3) := by decide +kernel
theorem dX1_fillRows_81 : decode cX1_fillRows 81 = .ok (.goto (-34), 3) := by decide +kernel
theorem dX1_fillRows_84 : decode cX1_fillRows 84 = .ok (.aload_n 0, 1) := by decide +kernel
theorem dX1_fillRows_85 : decode cX1_fillRows 85 = .ok (.getfield 25, 3) := by decide +kernel
theorem dX1_fillRows_88 : decode cX1_fillRows 88 = .ok (.iload_n 2, 1) := by decide +kernel
theorem dX1_fillRows_89 : decode cX1_fillRows 89 = .ok (.aload_n 1, 1) := by decide +kernel
theorem dX1_fillRows_90 : decode cX1_fillRows 90 = .ok (.getfield 116, 3) := by decide +kernel
theorem dX1_fillRows_93 : decode cX1_fillRows 93 = .ok (.iload_n 3, 1) := by decide +kernel
theorem dX1_fillRows_94 : decode cX1_fillRows 94 = .ok (.iaload, 1) := by decide +kernel
theorem dX1_fillRows_95 : decode cX1_fillRows 95 = .ok (.ineg, 1) := by decide +kernel
theorem dX1_fillRows_96 : decode cX1_fillRows 96 = .ok (.bipush 8, 2) := by decide +kernel
theorem dX1_fillRows_98 : decode cX1_fillRows 98 = .ok (.ishr, 1) := by decide +kernel
theorem dX1_fillRows_99 : decode cX1_fillRows 99 = .ok (.iastore, 1) := by decide +kernel
theorem dX1_fillRows_100 : decode cX1_fillRows 100 = .ok (.aload_n 0, 1) := by decide +kernel
theorem dX1_fillRows_101 : decode cX1_fillRows 101 = .ok (.getfield 28, 3) := by decide +kernel
theorem dX1_fillRows_104 : decode cX1_fillRows 104 = .ok (.iload_n 2, 1) := by decide +kernel
theorem dX1_fillRows_105 : decode cX1_fillRows 105 = .ok (.aload_n 1, 1) := by decide +kernel
theorem dX1_fillRows_106 : decode cX1_fillRows 106 = .ok (.getfield 116, 3) := by decide +kernel
theorem dX1_fillRows_109 : decode cX1_fillRows 109 = .ok (.iload_n 3, 1) := by decide +kernel
theorem dX1_fillRows_110 : decode cX1_fillRows 110 = .ok (.iaload, 1) := by decide +kernel
theorem dX1_fillRows_111 : decode cX1_fillRows 111 = .ok (.ineg, 1) := by decide +kernel
theorem dX1_fillRows_112 : decode cX1_fillRows 112 = .ok (.sipush 255, 3) := by decide +kernel
theorem dX1_fillRows_115 : decode cX1_fillRows 115 = .ok (.iand, 1) := by decide +kernel
theorem dX1_fillRows_116 : decode cX1_fillRows 116 = .ok (.iastore, 1) := by decide +kernel
theorem dX1_fillRows_117 : decode cX1_fillRows 117 = .ok (.iinc 2 1, 3) := by decide +kernel
theorem dX1_fillRows_120 : decode cX1_fillRows 120 = .ok (.iinc 3 1, 3) := by decide +kernel
theorem dX1_fillRows_123 : decode cX1_fillRows 123 = .ok (.goto (-119), 3) := by decide +kernel
theorem dX1_fillRows_126 : decode cX1_fillRows 126 = .ok (.return_, 1) := by decide +kernel
theorem dX1_findDeterminants_0 : decode cX1_findDeterminants 0 = .ok (.iconst 0, 1) := by decide +kernel
theorem dX1_findDeterminants_1 : decode cX1_findDeterminants 1 = .ok (.istore_n 2, 1) := by decide +kernel
theorem dX1_findDeterminants_2 : decode cX1_findDeterminants 2 = .ok (.iload_n 2, 1) := by decide +kernel
theorem dX1_findDeterminants_3 : decode cX1_findDeterminants 3 = .ok (.iconst 1, 1) := by decide +kernel
theorem dX1_findDeterminants_4 : decode cX1_findDeterminants 4 = .ok (.iload_n 1, 1) := by decide +kernel
theorem dX1_findDeterminants_5 : decode cX1_findDeterminants 5 = .ok (.ishl, 1) := by decide +kernel
theorem dX1_findDeterminants_6 : decode cX1_findDeterminants 6 = .ok (.if_icmp .ge 107, 3) := by decide +kernel
theorem dX1_findDeterminants_9 : decode cX1_findDeterminants 9 = .ok (.iload_n 2, 1) := by decide +kernel
theorem dX1_findDeterminants_10 : decode cX1_findDeterminants 10 = .ok (.invokestatic 119, 3) := by decide +kernel
theorem dX1_findDeterminants_13 : decode cX1_findDeterminants 13 = .ok (.istore_n 3, 1) := by decide +kernel
theorem dX1_findDeterminants_14 : decode cX1_findDeterminants 14 = .ok (.aload_n 0, 1) := by decide +kernel
theorem dX1_findDeterminants_15 : decode cX1_findDeterminants 15 = .ok (.getfield 31, 3) := by decide +kernel
theorem dX1_findDeterminants_18 : decode cX1_findDeterminants 18 = .ok (.iload_n 2, 1) := by decide +kernel
theorem dX1_findDeterminants_19 : decode cX1_findDeterminants 19 = .ok (.iload_n 2, 1) := by decide +kernel
theorem dX1_findDeterminants_20 : decode cX1_findDeterminants 20 = .ok (.ifCond .ne 7, 3) := by decide +kernel
theorem dX1_findDeterminants_23 : decode cX1_findDeterminants 23 = .ok (.lconst 1, 1) := by decide +kernel
theorem dX1_findDeterminants_24 : decode cX1_findDeterminants 24 = .ok (.goto 15, 3) := by decide +kernel
theorem dX1_findDeterminants_27 : decode cX1_findDeterminants 27 = .ok (.aload_n 0, 1) := by decide +kernel
theorem dX1_findDeterminants_28 : decode cX1_findDeterminants 28 = .ok (.aload_n 0, 1) := by decide +kernel
theorem dX1_findDeterminants_29 : decode cX1_findDeterminants 29 = .ok (.getfield 31, 3) := by decide +kernel
theorem dX1_findDeterminants_32 : decode cX1_findDeterminants 32 = .ok (.iload_n 2, 1) := by decide +kernel
theorem dX1_findDeterminants_33 : decode cX1_findDeterminants 33 = .ok (.iload_n 3, 1) := by decide +kernel
theorem dX1_findDeterminants_34 : decode cX1_findDeterminants 34 = .ok (.iconst 1, 1) := by decide +kernel
theorem dX1_findDeterminants_35 : decode cX1_findDeterminants 35 = .ok (.isub, 1) := by decide +kernel
theorem dX1_findDeterminants_36 : decode cX1_findDeterminants 36 = .ok (.invokevirtual 125, 3) := by decide +kernel
theorem dX1_findDeterminants_39 : decode cX1_findDeterminants 39 = .ok (.lastore, 1) := by decide +kernel
theorem dX1_findDeterminants_40 : decode cX1_findDeterminants 40 = .ok (.iload_n 3, 1) := by decide +kernel
theorem dX1_findDeterminants_41 : decode cX1_findDeterminants 41 = .ok (.iload_n 1, 1) := by decide +kernel
theorem dX1_findDeterminants_42 : decode cX1_findDeterminants 42 = .ok (.if_icmp .ge 65, 3) := by decide +kernel
theorem dX1_findDeterminants_45 : decode cX1_findDeterminants 45 = .ok (.aload_n 0, 1) := by decide +kernel
theorem dX1_findDeterminants_46 : decode cX1_findDeterminants 46 = .ok (.getfield 34, 3) := by decide +kernel
theorem dX1_findDeterminants_49 : decode cX1_findDeterminants 49 = .ok (.iload_n 2, 1) := by decide +kernel
theorem dX1_findDeterminants_50 : decode cX1_findDeterminants 50 = .ok (.aload_n 0, 1) := by decide +kernel
theorem dX1_findDeterminants_51 : decode cX1_findDeterminants 51 = .ok (.getfield 25, 3) := by decide +kernel
theorem dX1_findDeterminants_54 : decode cX1_findDeterminants 54 = .ok (.iload_n 3, 1) := by decide +kernel
theorem dX1_findDeterminants_55 : decode cX1_findDeterminants 55 = .ok (.iaload, 1) := by decide +kernel
theorem dX1_findDeterminants_56 : decode cX1_findDeterminants 56 = .ok (.i2l, 1) := by decide +kernel
theorem dX1_findDeterminants_57 : decode cX1_findDeterminants 57 = .ok (.aload_n 0, 1) := by decide +kernel
theorem dX1_findDeterminants_58 : decode cX1_findDeterminants 58 = .ok (.getfield 31, 3) := by decide +kernel
theorem dX1_findDeterminants_61 : decode cX1_findDeterminants 61 = .ok (.iload_n 2, 1) := by decide +kernel
theorem dX1_findDeterminants_62 : decode cX1_findDeterminants 62 = .ok (.laload, 1) := by decide +kernel
theorem dX1_findDeterminants_63 : decode cX1_findDeterminants 63 = .ok (.lmul, 1) := by decide +kernel
theorem dX1_findDeterminants_64 : decode cX1_findDeterminants 64 = .ok (.aload_n 0, 1) := by decide +kernel
theorem dX1_findDeterminants_65 : decode cX1_findDeterminants 65 = .ok (.aload_n 0, 1) := by decide +kernel
theorem dX1_findDeterminants_66 : decode cX1_findDeterminants 66 = .ok (.getfield 34, 3) := by decide +kernel
theorem dX1_findDeterminants_69 : decode cX1_findDeterminants 69 = .ok (.iload_n 2, 1) := by decide +kernel
theorem dX1_findDeterminants_70 : decode cX1_findDeterminants 70 = .ok (.iload_n 3, 1) := by decide +kernel
theorem dX1_findDeterminants_71 : decode cX1_findDeterminants 71 = .ok (.invokevirtual 125, 3) := by decide +kernel
theorem dX1_findDeterminants_74 : decode cX1_findDeterminants 74 = .ok (.lsub, 1) := by decide +kernel
theorem dX1_findDeterminants_75 : decode cX1_findDeterminants 75 = .ok (.lastore, 1) := by decide +kernel
theorem dX1_findDeterminants_76 : decode cX1_findDeterminants 76 = .ok (.aload_n 0, 1) := by decide +kernel
theorem dX1_findDeterminants_77 : decode cX1_findDeterminants 77 = .ok (.getfield 37, 3) := by decide +kernel
theorem dX1_findDeterminants_80 : decode cX1_findDeterminants 80 = .ok (.iload_n 2, 1) := by decide +kernel
theorem dX1_findDeterminants_81 : decode cX1_findDeterminants 81 = .ok (.aload_n 0, 1) := by decide +kernel
theorem dX1_findDeterminants_82 : decode cX1_findDeterminants 82 = .ok (.getfield 28, 3) := by decide +kernel
theorem dX1_findDeterminants_85 : decode cX1_findDeterminants 85 = .ok (.iload_n 3, 1) := by decide +kernel
theorem dX1_findDeterminants_86 : decode cX1_findDeterminants 86 = .ok (.iaload, 1) := by decide +kernel
theorem dX1_findDeterminants_87 : decode cX1_findDeterminants 87 = .ok (.i2l, 1) := by decide +kernel
theorem dX1_findDeterminants_88 : decode cX1_findDeterminants 88 = .ok (.aload_n 0, 1) := by decide +kernel
theorem dX1_findDeterminants_89 : decode cX1_findDeterminants 89 = .ok (.getfield 31, 3) := by decide +kernel
theorem dX1_findDeterminants_92 : decode cX1_findDeterminants 92 = .ok (.iload_n 2, 1) := by decide +kernel
theorem dX1_findDeterminants_93 : decode cX1_findDeterminants 93 = .ok (.laload, 1) := by decide +kernel
theorem dX1_findDeterminants_94 : decode cX1_findDeterminants 94 = .ok (.lmul, 1) := by decide +kernel
theorem dX1_findDeterminants_95 : decode cX1_findDeterminants 95 = .ok (.aload_n 0, 1) := by decide +kernel
theorem dX1_findDeterminants_96 : decode cX1_findDeterminants 96 = .ok (.aload_n 0, 1) := by decide +kernel
theorem dX1_findDeterminants_97 : decode cX1_findDeterminants 97 = .ok (.getfield 37, 3) := by decide +kernel
theorem dX1_findDeterminants_100 : decode cX1_findDeterminants 100 = .ok (.iload_n 2, 1) := by decide +kernel
theorem dX1_findDeterminants_101 : decode cX1_findDeterminants 101 = .ok (.iload_n 3, 1) := by decide +kernel
theorem dX1_findDeterminants_102 : decode cX1_findDeterminants 102 = .ok (.invokevirtual 125, 3) := by decide +kernel
theorem dX1_findDeterminants_105 : decode cX1_findDeterminants 105 = .ok (.lsub, 1) := by decide +kernel
theorem dX1_findDeterminants_106 : decode cX1_findDeterminants 106 = .ok (.lastore, 1) := by decide +kernel
theorem dX1_findDeterminants_107 : decode cX1_findDeterminants 107 = .ok (.iinc 2 1, 3) := by decide +kernel
theorem dX1_findDeterminants_110 : decode cX1_findDeterminants 110 = .ok (.goto (-108), 3) := by decide +kernel
theorem dX1_findDeterminants_113 : decode cX1_findDeterminants 113 = .ok (.return_, 1) := by decide +kernel
theorem dX1_expanded_0 : decode cX1_expanded 0 = .ok (.lconst 0, 1) := by decide +kernel
theorem dX1_expanded_1 : decode cX1_expanded 1 = .ok (.lstore 4, 2) := by decide +kernel
theorem dX1_expanded_3 : decode cX1_expanded 3 = .ok (.lconst 1, 1) := by decide +kernel
theorem dX1_expanded_4 : decode cX1_expanded 4 = .ok (.lstore 6, 2) := by decide +kernel
theorem dX1_expanded_6 : decode cX1_expanded 6 = .ok (.bipush 8, 2) := by decide +kernel
theorem dX1_expanded_8 : decode cX1_expanded 8 = .ok (.istore 8, 2) := by decide +kernel
theorem dX1_expanded_10 : decode cX1_expanded 10 = .ok (.iload 8, 2) := by decide +kernel
theorem dX1_expanded_12 : decode cX1_expanded 12 = .ok (.ifCond .lt 53, 3) := by decide +kernel
theorem dX1_expanded_15 : decode cX1_expanded 15 = .ok (.iload_n 2, 1) := by decide +kernel
theorem dX1_expanded_16 : decode cX1_expanded 16 = .ok (.iload 8, 2) := by decide +kernel
theorem dX1_expanded_18 : decode cX1_expanded 18 = .ok (.ishr, 1) := by decide +kernel
theorem dX1_expanded_19 : decode cX1_expanded 19 = .ok (.iconst 1, 1) := by decide +kernel
theorem dX1_expanded_20 : decode cX1_expanded 20 = .ok (.iand, 1) := by decide +kernel
theorem dX1_expanded_21 : decode cX1_expanded 21 = .ok (.ifCond .eq 38, 3) := by decide +kernel
theorem dX1_expanded_24 : decode cX1_expanded 24 = .ok (.lload 4, 2) := by decide +kernel
theorem dX1_expanded_26 : decode cX1_expanded 26 = .ok (.lload 6, 2) := by decide +kernel
theorem dX1_expanded_28 : decode cX1_expanded 28 = .ok (.aload_n 0, 1) := by decide +kernel
theorem dX1_expanded_29 : decode cX1_expanded 29 = .ok (.getfield 21, 3) := by decide +kernel
theorem dX1_expanded_32 : decode cX1_expanded 32 = .ok (.iload_n 3, 1) := by decide +kernel
theorem dX1_expanded_33 : decode cX1_expanded 33 = .ok (.bipush 9, 2) := by decide +kernel
theorem dX1_expanded_35 : decode cX1_expanded 35 = .ok (.imul, 1) := by decide +kernel
theorem dX1_expanded_36 : decode cX1_expanded 36 = .ok (.iload 8, 2) := by decide +kernel
theorem dX1_expanded_38 : decode cX1_expanded 38 = .ok (.iadd, 1) := by decide +kernel
theorem dX1_expanded_39 : decode cX1_expanded 39 = .ok (.iaload, 1) := by decide +kernel
theorem dX1_expanded_40 : decode cX1_expanded 40 = .ok (.i2l, 1) := by decide +kernel
theorem dX1_expanded_41 : decode cX1_expanded 41 = .ok (.lmul, 1) := by decide +kernel
theorem dX1_expanded_42 : decode cX1_expanded 42 = .ok (.aload_n 1, 1) := by decide +kernel
theorem dX1_expanded_43 : decode cX1_expanded 43 = .ok (.iload_n 2, 1) := by decide +kernel
theorem dX1_expanded_44 : decode cX1_expanded 44 = .ok (.iconst 1, 1) := by decide +kernel
theorem dX1_expanded_45 : decode cX1_expanded 45 = .ok (.iload 8, 2) := by decide +kernel
theorem dX1_expanded_47 : decode cX1_expanded 47 = .ok (.ishl, 1) := by decide +kernel
theorem dX1_expanded_48 : decode cX1_expanded 48 = .ok (.ixor, 1) := by decide +kernel
theorem dX1_expanded_49 : decode cX1_expanded 49 = .ok (.laload, 1) := by decide +kernel
theorem dX1_expanded_50 : decode cX1_expanded 50 = .ok (.lmul, 1) := by decide +kernel
theorem dX1_expanded_51 : decode cX1_expanded 51 = .ok (.ladd, 1) := by decide +kernel
theorem dX1_expanded_52 : decode cX1_expanded 52 = .ok (.lstore 4, 2) := by decide +kernel
theorem dX1_expanded_54 : decode cX1_expanded 54 = .ok (.lload 6, 2) := by decide +kernel
theorem dX1_expanded_56 : decode cX1_expanded 56 = .ok (.lneg, 1) := by decide +kernel
theorem dX1_expanded_57 : decode cX1_expanded 57 = .ok (.lstore 6, 2) := by decide +kernel
theorem dX1_expanded_59 : decode cX1_expanded 59 = .ok (.iinc 8 (-1), 3) := by decide +kernel
theorem dX1_expanded_62 : decode cX1_expanded 62 = .ok (.goto (-52), 3) := by decide +kernel
theorem dX1_expanded_65 : decode cX1_expanded 65 = .ok (.lload 4, 2) := by decide +kernel
theorem dX1_expanded_67 : decode cX1_expanded 67 = .ok (.lreturn, 1) := by decide +kernel
theorem dX1_setPull_0 : decode cX1_setPull 0 = .ok (.iload_n 3, 1) := by decide +kernel
theorem dX1_setPull_1 : decode cX1_setPull 1 = .ok (.i2l, 1) := by decide +kernel
theorem dX1_setPull_2 : decode cX1_setPull 2 = .ok (.aload_n 0, 1) := by decide +kernel
theorem dX1_setPull_3 : decode cX1_setPull 3 = .ok (.getfield 34, 3) := by decide +kernel
theorem dX1_setPull_6 : decode cX1_setPull 6 = .ok (.iload_n 2, 1) := by decide +kernel
theorem dX1_setPull_7 : decode cX1_setPull 7 = .ok (.iconst 1, 1) := by decide +kernel
theorem dX1_setPull_8 : decode cX1_setPull 8 = .ok (.iload_n 1, 1) := by decide +kernel
theorem dX1_setPull_9 : decode cX1_setPull 9 = .ok (.ishl, 1) := by decide +kernel
theorem dX1_setPull_10 : decode cX1_setPull 10 = .ok (.ixor, 1) := by decide +kernel
theorem dX1_setPull_11 : decode cX1_setPull 11 = .ok (.laload, 1) := by decide +kernel
theorem dX1_setPull_12 : decode cX1_setPull 12 = .ok (.lmul, 1) := by decide +kernel
theorem dX1_setPull_13 : decode cX1_setPull 13 = .ok (.lstore 4, 2) := by decide +kernel
theorem dX1_setPull_15 : decode cX1_setPull 15 = .ok (.iload_n 3, 1) := by decide +kernel
theorem dX1_setPull_16 : decode cX1_setPull 16 = .ok (.i2l, 1) := by decide +kernel
theorem dX1_setPull_17 : decode cX1_setPull 17 = .ok (.aload_n 0, 1) := by decide +kernel
theorem dX1_setPull_18 : decode cX1_setPull 18 = .ok (.getfield 37, 3) := by decide +kernel
theorem dX1_setPull_21 : decode cX1_setPull 21 = .ok (.iload_n 2, 1) := by decide +kernel
theorem dX1_setPull_22 : decode cX1_setPull 22 = .ok (.iconst 1, 1) := by decide +kernel
theorem dX1_setPull_23 : decode cX1_setPull 23 = .ok (.iload_n 1, 1) := by decide +kernel
theorem dX1_setPull_24 : decode cX1_setPull 24 = .ok (.ishl, 1) := by decide +kernel
theorem dX1_setPull_25 : decode cX1_setPull 25 = .ok (.ixor, 1) := by decide +kernel
theorem dX1_setPull_26 : decode cX1_setPull 26 = .ok (.laload, 1) := by decide +kernel
theorem dX1_setPull_27 : decode cX1_setPull 27 = .ok (.lmul, 1) := by decide +kernel
theorem dX1_setPull_28 : decode cX1_setPull 28 = .ok (.lstore 6, 2) := by decide +kernel
theorem dX1_setPull_30 : decode cX1_setPull 30 = .ok (.aload_n 0, 1) := by decide +kernel
theorem dX1_setPull_31 : decode cX1_setPull 31 = .ok (.getfield 104, 3) := by decide +kernel
theorem dX1_setPull_34 : decode cX1_setPull 34 = .ok (.lconst 0, 1) := by decide +kernel
theorem dX1_setPull_35 : decode cX1_setPull 35 = .ok (.lcmp, 1) := by decide +kernel
theorem dX1_setPull_36 : decode cX1_setPull 36 = .ok (.ifCond .le 49, 3) := by decide +kernel
theorem dX1_setPull_39 : decode cX1_setPull 39 = .ok (.aload_n 0, 1) := by decide +kernel
theorem dX1_setPull_40 : decode cX1_setPull 40 = .ok (.getfield 11, 3) := by decide +kernel
theorem dX1_setPull_43 : decode cX1_setPull 43 = .ok (.iload_n 1, 1) := by decide +kernel
theorem dX1_setPull_44 : decode cX1_setPull 44 = .ok (.ldc2_w 129, 3) := by decide +kernel
theorem dX1_setPull_47 : decode cX1_setPull 47 = .ok (.lload 4, 2) := by decide +kernel
theorem dX1_setPull_49 : decode cX1_setPull 49 = .ok (.aload_n 0, 1) := by decide +kernel
theorem dX1_setPull_50 : decode cX1_setPull 50 = .ok (.getfield 104, 3) := by decide +kernel
theorem dX1_setPull_53 : decode cX1_setPull 53 = .ok (.invokestatic 131, 3) := by decide +kernel
theorem dX1_setPull_56 : decode cX1_setPull 56 = .ok (.lmul, 1) := by decide +kernel
theorem dX1_setPull_57 : decode cX1_setPull 57 = .ok (.lastore, 1) := by decide +kernel
theorem dX1_setPull_58 : decode cX1_setPull 58 = .ok (.aload_n 0, 1) := by decide +kernel
theorem dX1_setPull_59 : decode cX1_setPull 59 = .ok (.getfield 15, 3) := by decide +kernel
theorem dX1_setPull_62 : decode cX1_setPull 62 = .ok (.iload_n 1, 1) := by decide +kernel
theorem dX1_setPull_63 : decode cX1_setPull 63 = .ok (.ldc2_w 129, 3) := by decide +kernel
theorem dX1_setPull_66 : decode cX1_setPull 66 = .ok (.lload 4, 2) := by decide +kernel
theorem dX1_setPull_68 : decode cX1_setPull 68 = .ok (.aload_n 0, 1) := by decide +kernel
theorem dX1_setPull_69 : decode cX1_setPull 69 = .ok (.getfield 104, 3) := by decide +kernel
theorem dX1_setPull_72 : decode cX1_setPull 72 = .ok (.invokestatic 135, 3) := by decide +kernel
theorem dX1_setPull_75 : decode cX1_setPull 75 = .ok (.lmul, 1) := by decide +kernel
theorem dX1_setPull_76 : decode cX1_setPull 76 = .ok (.lload 6, 2) := by decide +kernel
theorem dX1_setPull_78 : decode cX1_setPull 78 = .ok (.ladd, 1) := by decide +kernel
theorem dX1_setPull_79 : decode cX1_setPull 79 = .ok (.lastore, 1) := by decide +kernel
theorem dX1_setPull_80 : decode cX1_setPull 80 = .ok (.aload_n 0, 1) := by decide +kernel
theorem dX1_setPull_81 : decode cX1_setPull 81 = .ok (.iload_n 1, 1) := by decide +kernel
theorem dX1_setPull_82 : decode cX1_setPull 82 = .ok (.invokevirtual 138, 3) := by decide +kernel
theorem dX1_setPull_85 : decode cX1_setPull 85 = .ok (.return_, 1) := by decide +kernel
theorem dX1_carry_0 : decode cX1_carry 0 = .ok (.aload_n 0, 1) := by decide +kernel
theorem dX1_carry_1 : decode cX1_carry 1 = .ok (.getfield 104, 3) := by decide +kernel
theorem dX1_carry_4 : decode cX1_carry 4 = .ok (.lconst 0, 1) := by decide +kernel
theorem dX1_carry_5 : decode cX1_carry 5 = .ok (.lcmp, 1) := by decide +kernel
theorem dX1_carry_6 : decode cX1_carry 6 = .ok (.ifCond .le 44, 3) := by decide +kernel
theorem dX1_carry_9 : decode cX1_carry 9 = .ok (.aload_n 0, 1) := by decide +kernel
theorem dX1_carry_10 : decode cX1_carry 10 = .ok (.getfield 11, 3) := by decide +kernel
theorem dX1_carry_13 : decode cX1_carry 13 = .ok (.iload_n 1, 1) := by decide +kernel
theorem dX1_carry_14 : decode cX1_carry 14 = .ok (.dup2, 1) := by decide +kernel
theorem dX1_carry_15 : decode cX1_carry 15 = .ok (.laload, 1) := by decide +kernel
theorem dX1_carry_16 : decode cX1_carry 16 = .ok (.aload_n 0, 1) := by decide +kernel
theorem dX1_carry_17 : decode cX1_carry 17 = .ok (.getfield 15, 3) := by decide +kernel
theorem dX1_carry_20 : decode cX1_carry 20 = .ok (.iload_n 1, 1) := by decide +kernel
theorem dX1_carry_21 : decode cX1_carry 21 = .ok (.laload, 1) := by decide +kernel
theorem dX1_carry_22 : decode cX1_carry 22 = .ok (.aload_n 0, 1) := by decide +kernel
theorem dX1_carry_23 : decode cX1_carry 23 = .ok (.getfield 104, 3) := by decide +kernel
theorem dX1_carry_26 : decode cX1_carry 26 = .ok (.invokestatic 131, 3) := by decide +kernel
theorem dX1_carry_29 : decode cX1_carry 29 = .ok (.ladd, 1) := by decide +kernel
theorem dX1_carry_30 : decode cX1_carry 30 = .ok (.lastore, 1) := by decide +kernel
theorem dX1_carry_31 : decode cX1_carry 31 = .ok (.aload_n 0, 1) := by decide +kernel
theorem dX1_carry_32 : decode cX1_carry 32 = .ok (.getfield 15, 3) := by decide +kernel
theorem dX1_carry_35 : decode cX1_carry 35 = .ok (.iload_n 1, 1) := by decide +kernel
theorem dX1_carry_36 : decode cX1_carry 36 = .ok (.aload_n 0, 1) := by decide +kernel
theorem dX1_carry_37 : decode cX1_carry 37 = .ok (.getfield 15, 3) := by decide +kernel
theorem dX1_carry_40 : decode cX1_carry 40 = .ok (.iload_n 1, 1) := by decide +kernel
theorem dX1_carry_41 : decode cX1_carry 41 = .ok (.laload, 1) := by decide +kernel
theorem dX1_carry_42 : decode cX1_carry 42 = .ok (.aload_n 0, 1) := by decide +kernel
theorem dX1_carry_43 : decode cX1_carry 43 = .ok (.getfield 104, 3) := by decide +kernel
theorem dX1_carry_46 : decode cX1_carry 46 = .ok (.invokestatic 135, 3) := by decide +kernel
theorem dX1_carry_49 : decode cX1_carry 49 = .ok (.lastore, 1) := by decide +kernel
theorem dX1_carry_50 : decode cX1_carry 50 = .ok (.return_, 1) := by decide +kernel
theorem dX1_findBearings_0 : decode cX1_findBearings 0 = .ok (.iconst 0, 1) := by decide +kernel
theorem dX1_findBearings_1 : decode cX1_findBearings 1 = .ok (.istore_n 2, 1) := by decide +kernel
theorem dX1_findBearings_2 : decode cX1_findBearings 2 = .ok (.iload_n 2, 1) := by decide +kernel
theorem dX1_findBearings_3 : decode cX1_findBearings 3 = .ok (.iconst 2, 1) := by decide +kernel
theorem dX1_findBearings_4 : decode cX1_findBearings 4 = .ok (.aload_n 1, 1) := by decide +kernel
theorem dX1_findBearings_5 : decode cX1_findBearings 5 = .ok (.getfield 78, 3) := by decide +kernel
theorem dX1_findBearings_8 : decode cX1_findBearings 8 = .ok (.imul, 1) := by decide +kernel
theorem dX1_findBearings_9 : decode cX1_findBearings 9 = .ok (.if_icmp .ge 135, 3) := by decide +kernel
theorem dX1_findBearings_12 : decode cX1_findBearings 12 = .ok (.bipush 9, 2) := by decide +kernel
theorem dX1_findBearings_14 : decode cX1_findBearings 14 = .ok (.iload_n 2, 1) := by decide +kernel
theorem dX1_findBearings_15 : decode cX1_findBearings 15 = .ok (.iadd, 1) := by decide +kernel
theorem dX1_findBearings_16 : decode cX1_findBearings 16 = .ok (.istore_n 3, 1) := by decide +kernel
theorem dX1_findBearings_17 : decode cX1_findBearings 17 = .ok (.aload_n 0, 1) := by decide +kernel
theorem dX1_findBearings_18 : decode cX1_findBearings 18 = .ok (.getfield 11, 3) := by decide +kernel
theorem dX1_findBearings_21 : decode cX1_findBearings 21 = .ok (.iload_n 3, 1) := by decide +kernel
theorem dX1_findBearings_22 : decode cX1_findBearings 22 = .ok (.lconst 0, 1) := by decide +kernel
theorem dX1_findBearings_23 : decode cX1_findBearings 23 = .ok (.lastore, 1) := by decide +kernel
theorem dX1_findBearings_24 : decode cX1_findBearings 24 = .ok (.aload_n 0, 1) := by decide +kernel
theorem dX1_findBearings_25 : decode cX1_findBearings 25 = .ok (.getfield 15, 3) := by decide +kernel
theorem dX1_findBearings_28 : decode cX1_findBearings 28 = .ok (.iload_n 3, 1) := by decide +kernel
theorem dX1_findBearings_29 : decode cX1_findBearings 29 = .ok (.lconst 0, 1) := by decide +kernel
theorem dX1_findBearings_30 : decode cX1_findBearings 30 = .ok (.lastore, 1) := by decide +kernel
theorem dX1_findBearings_31 : decode cX1_findBearings 31 = .ok (.aload_n 1, 1) := by decide +kernel
theorem dX1_findBearings_32 : decode cX1_findBearings 32 = .ok (.iload_n 2, 1) := by decide +kernel
theorem dX1_findBearings_33 : decode cX1_findBearings 33 = .ok (.iconst 2, 1) := by decide +kernel
theorem dX1_findBearings_34 : decode cX1_findBearings 34 = .ok (.idiv, 1) := by decide +kernel
theorem dX1_findBearings_35 : decode cX1_findBearings 35 = .ok (.iload_n 2, 1) := by decide +kernel
theorem dX1_findBearings_36 : decode cX1_findBearings 36 = .ok (.iconst 2, 1) := by decide +kernel
theorem dX1_findBearings_37 : decode cX1_findBearings 37 = .ok (.irem, 1) := by decide +kernel
theorem dX1_findBearings_38 : decode cX1_findBearings 38 = .ok (.invokevirtual 84, 3) := by decide +kernel
theorem dX1_findBearings_41 : decode cX1_findBearings 41 = .ok (.ifCond .ne 6, 3) := by decide +kernel
theorem dX1_findBearings_44 : decode cX1_findBearings 44 = .ok (.goto 94, 3) := by decide +kernel
theorem dX1_findBearings_47 : decode cX1_findBearings 47 = .ok (.aload_n 0, 1) := by decide +kernel
theorem dX1_findBearings_48 : decode cX1_findBearings 48 = .ok (.getfield 11, 3) := by decide +kernel
theorem dX1_findBearings_51 : decode cX1_findBearings 51 = .ok (.iload_n 3, 1) := by decide +kernel
theorem dX1_findBearings_52 : decode cX1_findBearings 52 = .ok (.aload_n 1, 1) := by decide +kernel
theorem dX1_findBearings_53 : decode cX1_findBearings 53 = .ok (.getfield 116, 3) := by decide +kernel
theorem dX1_findBearings_56 : decode cX1_findBearings 56 = .ok (.iload_n 2, 1) := by decide +kernel
theorem dX1_findBearings_57 : decode cX1_findBearings 57 = .ok (.iaload, 1) := by decide +kernel
theorem dX1_findBearings_58 : decode cX1_findBearings 58 = .ok (.ineg, 1) := by decide +kernel
theorem dX1_findBearings_59 : decode cX1_findBearings 59 = .ok (.i2l, 1) := by decide +kernel
theorem dX1_findBearings_60 : decode cX1_findBearings 60 = .ok (.lastore, 1) := by decide +kernel
theorem dX1_findBearings_61 : decode cX1_findBearings 61 = .ok (.iconst 0, 1) := by decide +kernel
theorem dX1_findBearings_62 : decode cX1_findBearings 62 = .ok (.istore 4, 2) := by decide +kernel
theorem dX1_findBearings_64 : decode cX1_findBearings 64 = .ok (.iload 4, 2) := by decide +kernel
theorem dX1_findBearings_66 : decode cX1_findBearings 66 = .ok (.aload_n 1, 1) := by decide +kernel
theorem dX1_findBearings_67 : decode cX1_findBearings 67 = .ok (.getfield 88, 3) := by decide +kernel
theorem dX1_findBearings_70 : decode cX1_findBearings 70 = .ok (.if_icmp .ge 63, 3) := by decide +kernel
theorem dX1_findBearings_73 : decode cX1_findBearings 73 = .ok (.aload_n 1, 1) := by decide +kernel
theorem dX1_findBearings_74 : decode cX1_findBearings 74 = .ok (.iload 4, 2) := by decide +kernel
theorem dX1_findBearings_76 : decode cX1_findBearings 76 = .ok (.iload_n 2, 1) := by decide +kernel
theorem dX1_findBearings_77 : decode cX1_findBearings 77 = .ok (.iconst 2, 1) := by decide +kernel
theorem dX1_findBearings_78 : decode cX1_findBearings 78 = .ok (.idiv, 1) := by decide +kernel
theorem dX1_findBearings_79 : decode cX1_findBearings 79 = .ok (.iload_n 2, 1) := by decide +kernel
theorem dX1_findBearings_80 : decode cX1_findBearings 80 = .ok (.iconst 2, 1) := by decide +kernel
theorem dX1_findBearings_81 : decode cX1_findBearings 81 = .ok (.irem, 1) := by decide +kernel
theorem dX1_findBearings_82 : decode cX1_findBearings 82 = .ok (.invokevirtual 112, 3) := by decide +kernel
theorem dX1_findBearings_85 : decode cX1_findBearings 85 = .ok (.istore 5, 2) := by decide +kernel
theorem dX1_findBearings_87 : decode cX1_findBearings 87 = .ok (.aload_n 0, 1) := by decide +kernel
theorem dX1_findBearings_88 : decode cX1_findBearings 88 = .ok (.getfield 11, 3) := by decide +kernel
theorem dX1_findBearings_91 : decode cX1_findBearings 91 = .ok (.iload_n 3, 1) := by decide +kernel
theorem dX1_findBearings_92 : decode cX1_findBearings 92 = .ok (.dup2, 1) := by decide +kernel
theorem dX1_findBearings_93 : decode cX1_findBearings 93 = .ok (.laload, 1) := by decide +kernel
theorem dX1_findBearings_94 : decode cX1_findBearings 94 = .ok (.iload 5, 2) := by decide +kernel
theorem dX1_findBearings_96 : decode cX1_findBearings 96 = .ok (.i2l, 1) := by decide +kernel
theorem dX1_findBearings_97 : decode cX1_findBearings 97 = .ok (.aload_n 0, 1) := by decide +kernel
theorem dX1_findBearings_98 : decode cX1_findBearings 98 = .ok (.getfield 11, 3) := by decide +kernel
theorem dX1_findBearings_101 : decode cX1_findBearings 101 = .ok (.iload 4, 2) := by decide +kernel
theorem dX1_findBearings_103 : decode cX1_findBearings 103 = .ok (.laload, 1) := by decide +kernel
theorem dX1_findBearings_104 : decode cX1_findBearings 104 = .ok (.lmul, 1) := by decide +kernel
theorem dX1_findBearings_105 : decode cX1_findBearings 105 = .ok (.lsub, 1) := by decide +kernel
theorem dX1_findBearings_106 : decode cX1_findBearings 106 = .ok (.lastore, 1) := by decide +kernel
theorem dX1_findBearings_107 : decode cX1_findBearings 107 = .ok (.aload_n 0, 1) := by decide +kernel
theorem dX1_findBearings_108 : decode cX1_findBearings 108 = .ok (.getfield 15, 3) := by decide +kernel
theorem dX1_findBearings_111 : decode cX1_findBearings 111 = .ok (.iload_n 3, 1) := by decide +kernel
theorem dX1_findBearings_112 : decode cX1_findBearings 112 = .ok (.dup2, 1) := by decide +kernel
theorem dX1_findBearings_113 : decode cX1_findBearings 113 = .ok (.laload, 1) := by decide +kernel
theorem dX1_findBearings_114 : decode cX1_findBearings 114 = .ok (.iload 5, 2) := by decide +kernel
theorem dX1_findBearings_116 : decode cX1_findBearings 116 = .ok (.i2l, 1) := by decide +kernel
theorem dX1_findBearings_117 : decode cX1_findBearings 117 = .ok (.aload_n 0, 1) := by decide +kernel
theorem dX1_findBearings_118 : decode cX1_findBearings 118 = .ok (.getfield 15, 3) := by decide +kernel
theorem dX1_findBearings_121 : decode cX1_findBearings 121 = .ok (.iload 4, 2) := by decide +kernel
theorem dX1_findBearings_123 : decode cX1_findBearings 123 = .ok (.laload, 1) := by decide +kernel
theorem dX1_findBearings_124 : decode cX1_findBearings 124 = .ok (.lmul, 1) := by decide +kernel
theorem dX1_findBearings_125 : decode cX1_findBearings 125 = .ok (.lsub, 1) := by decide +kernel
theorem dX1_findBearings_126 : decode cX1_findBearings 126 = .ok (.lastore, 1) := by decide +kernel
theorem dX1_findBearings_127 : decode cX1_findBearings 127 = .ok (.iinc 4 1, 3) := by decide +kernel
theorem dX1_findBearings_130 : decode cX1_findBearings 130 = .ok (.goto (-66), 3) := by decide +kernel
theorem dX1_findBearings_133 : decode cX1_findBearings 133 = .ok (.aload_n 0, 1) := by decide +kernel
theorem dX1_findBearings_134 : decode cX1_findBearings 134 = .ok (.iload_n 3, 1) := by decide +kernel
theorem dX1_findBearings_135 : decode cX1_findBearings 135 = .ok (.invokevirtual 138, 3) := by decide +kernel
theorem dX1_findBearings_138 : decode cX1_findBearings 138 = .ok (.iinc 2 1, 3) := by decide +kernel
theorem dX1_findBearings_141 : decode cX1_findBearings 141 = .ok (.goto (-139), 3) := by decide +kernel
theorem dX1_findBearings_144 : decode cX1_findBearings 144 = .ok (.return_, 1) := by decide +kernel
theorem dX1_findAmounts_0 : decode cX1_findAmounts 0 = .ok (.aload_n 0, 1) := by decide +kernel
theorem dX1_findAmounts_1 : decode cX1_findAmounts 1 = .ok (.getfield 47, 3) := by decide +kernel
theorem dX1_findAmounts_4 : decode cX1_findAmounts 4 = .ok (.aload_n 0, 1) := by decide +kernel
theorem dX1_findAmounts_5 : decode cX1_findAmounts 5 = .ok (.getfield 104, 3) := by decide +kernel
theorem dX1_findAmounts_8 : decode cX1_findAmounts 8 = .ok (.invokevirtual 141, 3) := by decide +kernel
theorem dX1_findAmounts_11 : decode cX1_findAmounts 11 = .ok (.iconst 0, 1) := by decide +kernel
theorem dX1_findAmounts_12 : decode cX1_findAmounts 12 = .ok (.istore_n 2, 1) := by decide +kernel
theorem dX1_findAmounts_13 : decode cX1_findAmounts 13 = .ok (.iload_n 2, 1) := by decide +kernel
theorem dX1_findAmounts_14 : decode cX1_findAmounts 14 = .ok (.aload_n 1, 1) := by decide +kernel
theorem dX1_findAmounts_15 : decode cX1_findAmounts 15 = .ok (.getfield 88, 3) := by decide +kernel
theorem dX1_findAmounts_18 : decode cX1_findAmounts 18 = .ok (.if_icmp .ge 80, 3) := by decide +kernel
theorem dX1_findAmounts_21 : decode cX1_findAmounts 21 = .ok (.aload_n 0, 1) := by decide +kernel
theorem dX1_findAmounts_22 : decode cX1_findAmounts 22 = .ok (.getfield 11, 3) := by decide +kernel
theorem dX1_findAmounts_25 : decode cX1_findAmounts 25 = .ok (.iload_n 2, 1) := by decide +kernel
theorem dX1_findAmounts_26 : decode cX1_findAmounts 26 = .ok (.laload, 1) := by decide +kernel
theorem dX1_findAmounts_27 : decode cX1_findAmounts 27 = .ok (.lstore_n 3, 1) := by decide +kernel
theorem dX1_findAmounts_28 : decode cX1_findAmounts 28 = .ok (.aload_n 0, 1) := by decide +kernel
theorem dX1_findAmounts_29 : decode cX1_findAmounts 29 = .ok (.getfield 15, 3) := by decide +kernel
theorem dX1_findAmounts_32 : decode cX1_findAmounts 32 = .ok (.iload_n 2, 1) := by decide +kernel
theorem dX1_findAmounts_33 : decode cX1_findAmounts 33 = .ok (.laload, 1) := by decide +kernel
theorem dX1_findAmounts_34 : decode cX1_findAmounts 34 = .ok (.lstore 5, 2) := by decide +kernel
theorem dX1_findAmounts_36 : decode cX1_findAmounts 36 = .ok (.aload_n 1, 1) := by decide +kernel
theorem dX1_findAmounts_37 : decode cX1_findAmounts 37 = .ok (.iload_n 2, 1) := by decide +kernel
theorem dX1_findAmounts_38 : decode cX1_findAmounts 38 = .ok (.invokevirtual 145, 3) := by decide +kernel
theorem dX1_findAmounts_41 : decode cX1_findAmounts 41 = .ok (.istore 7, 2) := by decide +kernel
theorem dX1_findAmounts_43 : decode cX1_findAmounts 43 = .ok (.lload_n 3, 1) := by decide +kernel
theorem dX1_findAmounts_44 : decode cX1_findAmounts 44 = .ok (.lconst 0, 1) := by decide +kernel
theorem dX1_findAmounts_45 : decode cX1_findAmounts 45 = .ok (.lcmp, 1) := by decide +kernel
theorem dX1_findAmounts_46 : decode cX1_findAmounts 46 = .ok (.ifCond .ge 31, 3) := by decide +kernel
theorem dX1_findAmounts_49 : decode cX1_findAmounts 49 = .ok (.aload_n 0, 1) := by decide +kernel
theorem dX1_findAmounts_50 : decode cX1_findAmounts 50 = .ok (.getfield 18, 3) := by decide +kernel
theorem dX1_findAmounts_53 : decode cX1_findAmounts 53 = .ok (.iload_n 2, 1) := by decide +kernel
theorem dX1_findAmounts_54 : decode cX1_findAmounts 54 = .ok (.aload_n 0, 1) := by decide +kernel
theorem dX1_findAmounts_55 : decode cX1_findAmounts 55 = .ok (.ldc2_w 148, 3) := by decide +kernel
theorem dX1_findAmounts_58 : decode cX1_findAmounts 58 = .ok (.lload_n 3, 1) := by decide +kernel
theorem dX1_findAmounts_59 : decode cX1_findAmounts 59 = .ok (.lsub, 1) := by decide +kernel
theorem dX1_findAmounts_60 : decode cX1_findAmounts 60 = .ok (.aload_n 0, 1) := by decide +kernel
theorem dX1_findAmounts_61 : decode cX1_findAmounts 61 = .ok (.getfield 104, 3) := by decide +kernel
theorem dX1_findAmounts_64 : decode cX1_findAmounts 64 = .ok (.lload 5, 2) := by decide +kernel
theorem dX1_findAmounts_66 : decode cX1_findAmounts 66 = .ok (.lsub, 1) := by decide +kernel
theorem dX1_findAmounts_67 : decode cX1_findAmounts 67 = .ok (.iload 7, 2) := by decide +kernel
theorem dX1_findAmounts_69 : decode cX1_findAmounts 69 = .ok (.invokevirtual 150, 3) := by decide +kernel
theorem dX1_findAmounts_72 : decode cX1_findAmounts 72 = .ok (.lneg, 1) := by decide +kernel
theorem dX1_findAmounts_73 : decode cX1_findAmounts 73 = .ok (.lastore, 1) := by decide +kernel
theorem dX1_findAmounts_74 : decode cX1_findAmounts 74 = .ok (.goto 18, 3) := by decide +kernel
theorem dX1_findAmounts_77 : decode cX1_findAmounts 77 = .ok (.aload_n 0, 1) := by decide +kernel
theorem dX1_findAmounts_78 : decode cX1_findAmounts 78 = .ok (.getfield 18, 3) := by decide +kernel
theorem dX1_findAmounts_81 : decode cX1_findAmounts 81 = .ok (.iload_n 2, 1) := by decide +kernel
theorem dX1_findAmounts_82 : decode cX1_findAmounts 82 = .ok (.aload_n 0, 1) := by decide +kernel
theorem dX1_findAmounts_83 : decode cX1_findAmounts 83 = .ok (.lload_n 3, 1) := by decide +kernel
theorem dX1_findAmounts_84 : decode cX1_findAmounts 84 = .ok (.lload 5, 2) := by decide +kernel
theorem dX1_findAmounts_86 : decode cX1_findAmounts 86 = .ok (.iload 7, 2) := by decide +kernel
theorem dX1_findAmounts_88 : decode cX1_findAmounts 88 = .ok (.invokevirtual 150, 3) := by decide +kernel
theorem dX1_findAmounts_91 : decode cX1_findAmounts 91 = .ok (.lastore, 1) := by decide +kernel
theorem dX1_findAmounts_92 : decode cX1_findAmounts 92 = .ok (.iinc 2 1, 3) := by decide +kernel
theorem dX1_findAmounts_95 : decode cX1_findAmounts 95 = .ok (.goto (-82), 3) := by decide +kernel
theorem dX1_findAmounts_98 : decode cX1_findAmounts 98 = .ok (.return_, 1) := by decide +kernel
theorem dX1_timesLength_0 : decode cX1_timesLength 0 = .ok (.aload_n 0, 1) := by decide +kernel
theorem dX1_timesLength_1 : decode cX1_timesLength 1 = .ok (.getfield 43, 3) := by decide +kernel
theorem dX1_timesLength_4 : decode cX1_timesLength 4 = .ok (.lload_n 1, 1) := by decide +kernel
theorem dX1_timesLength_5 : decode cX1_timesLength 5 = .ok (.invokevirtual 141, 3) := by decide +kernel
theorem dX1_timesLength_8 : decode cX1_timesLength 8 = .ok (.aload_n 0, 1) := by decide +kernel
theorem dX1_timesLength_9 : decode cX1_timesLength 9 = .ok (.getfield 50, 3) := by decide +kernel
theorem dX1_timesLength_12 : decode cX1_timesLength 12 = .ok (.aload_n 0, 1) := by decide +kernel
theorem dX1_timesLength_13 : decode cX1_timesLength 13 = .ok (.getfield 43, 3) := by decide +kernel
theorem dX1_timesLength_16 : decode cX1_timesLength 16 = .ok (.aload_n 0, 1) := by decide +kernel
theorem dX1_timesLength_17 : decode cX1_timesLength 17 = .ok (.getfield 47, 3) := by decide +kernel
theorem dX1_timesLength_20 : decode cX1_timesLength 20 = .ok (.invokevirtual 154, 3) := by decide +kernel
theorem dX1_timesLength_23 : decode cX1_timesLength 23 = .ok (.aload_n 0, 1) := by decide +kernel
theorem dX1_timesLength_24 : decode cX1_timesLength 24 = .ok (.getfield 50, 3) := by decide +kernel
theorem dX1_timesLength_27 : decode cX1_timesLength 27 = .ok (.lload_n 3, 1) := by decide +kernel
theorem dX1_timesLength_28 : decode cX1_timesLength 28 = .ok (.invokevirtual 158, 3) := by decide +kernel
theorem dX1_timesLength_31 : decode cX1_timesLength 31 = .ok (.aload_n 0, 1) := by decide +kernel
theorem dX1_timesLength_32 : decode cX1_timesLength 32 = .ok (.getfield 53, 3) := by decide +kernel
theorem dX1_timesLength_35 : decode cX1_timesLength 35 = .ok (.aload_n 0, 1) := by decide +kernel
theorem dX1_timesLength_36 : decode cX1_timesLength 36 = .ok (.getfield 50, 3) := by decide +kernel
theorem dX1_timesLength_39 : decode cX1_timesLength 39 = .ok (.aload_n 0, 1) := by decide +kernel
theorem dX1_timesLength_40 : decode cX1_timesLength 40 = .ok (.getfield 50, 3) := by decide +kernel
theorem dX1_timesLength_43 : decode cX1_timesLength 43 = .ok (.invokevirtual 154, 3) := by decide +kernel
theorem dX1_timesLength_46 : decode cX1_timesLength 46 = .ok (.aload_n 0, 1) := by decide +kernel
theorem dX1_timesLength_47 : decode cX1_timesLength 47 = .ok (.getfield 43, 3) := by decide +kernel
theorem dX1_timesLength_50 : decode cX1_timesLength 50 = .ok (.iload 5, 2) := by decide +kernel
theorem dX1_timesLength_52 : decode cX1_timesLength 52 = .ok (.i2l, 1) := by decide +kernel
theorem dX1_timesLength_53 : decode cX1_timesLength 53 = .ok (.invokevirtual 141, 3) := by decide +kernel
theorem dX1_timesLength_56 : decode cX1_timesLength 56 = .ok (.aload_n 0, 1) := by decide +kernel
theorem dX1_timesLength_57 : decode cX1_timesLength 57 = .ok (.getfield 56, 3) := by decide +kernel
theorem dX1_timesLength_60 : decode cX1_timesLength 60 = .ok (.aload_n 0, 1) := by decide +kernel
theorem dX1_timesLength_61 : decode cX1_timesLength 61 = .ok (.getfield 53, 3) := by decide +kernel
theorem dX1_timesLength_64 : decode cX1_timesLength 64 = .ok (.aload_n 0, 1) := by decide +kernel
theorem dX1_timesLength_65 : decode cX1_timesLength 65 = .ok (.getfield 43, 3) := by decide +kernel
theorem dX1_timesLength_68 : decode cX1_timesLength 68 = .ok (.invokevirtual 154, 3) := by decide +kernel
theorem dX1_timesLength_71 : decode cX1_timesLength 71 = .ok (.lload_n 1, 1) := by decide +kernel
theorem dX1_timesLength_72 : decode cX1_timesLength 72 = .ok (.lstore 6, 2) := by decide +kernel
theorem dX1_timesLength_74 : decode cX1_timesLength 74 = .ok (.lload_n 1, 1) := by decide +kernel
theorem dX1_timesLength_75 : decode cX1_timesLength 75 = .ok (.ldc2_w 161, 3) := by decide +kernel
theorem dX1_timesLength_78 : decode cX1_timesLength 78 = .ok (.lcmp, 1) := by decide +kernel
theorem dX1_timesLength_79 : decode cX1_timesLength 79 = .ok (.ifCond .ge 13, 3) := by decide +kernel
theorem dX1_timesLength_82 : decode cX1_timesLength 82 = .ok (.lload_n 1, 1) := by decide +kernel
theorem dX1_timesLength_83 : decode cX1_timesLength 83 = .ok (.lconst 1, 1) := by decide +kernel
theorem dX1_timesLength_84 : decode cX1_timesLength 84 = .ok (.ladd, 1) := by decide +kernel
theorem dX1_timesLength_85 : decode cX1_timesLength 85 = .ok (.ldc2_w 163, 3) := by decide +kernel
theorem dX1_timesLength_88 : decode cX1_timesLength 88 = .ok (.lmul, 1) := by decide +kernel
theorem dX1_timesLength_89 : decode cX1_timesLength 89 = .ok (.goto 6, 3) := by decide +kernel
theorem dX1_timesLength_92 : decode cX1_timesLength 92 = .ok (.ldc2_w 165, 3) := by decide +kernel
theorem dX1_timesLength_95 : decode cX1_timesLength 95 = .ok (.lstore 8, 2) := by decide +kernel
theorem dX1_timesLength_97 : decode cX1_timesLength 97 = .ok (.iconst 0, 1) := by decide +kernel
theorem dX1_timesLength_98 : decode cX1_timesLength 98 = .ok (.istore 10, 2) := by decide +kernel
theorem dX1_timesLength_100 : decode cX1_timesLength 100 = .ok (.iload 10, 2) := by decide +kernel
theorem dX1_timesLength_102 : decode cX1_timesLength 102 = .ok (.bipush 64, 2) := by decide +kernel
theorem dX1_timesLength_104 : decode cX1_timesLength 104 = .ok (.if_icmp .ge 97, 3) := by decide +kernel
theorem dX1_timesLength_107 : decode cX1_timesLength 107 = .ok (.lload 6, 2) := by decide +kernel
theorem dX1_timesLength_109 : decode cX1_timesLength 109 = .ok (.lload 8, 2) := by decide +kernel
theorem dX1_timesLength_111 : decode cX1_timesLength 111 = .ok (.lcmp, 1) := by decide +kernel
theorem dX1_timesLength_112 : decode cX1_timesLength 112 = .ok (.ifCond .ge 89, 3) := by decide +kernel
theorem dX1_timesLength_115 : decode cX1_timesLength 115 = .ok (.lload 8, 2) := by decide +kernel
theorem dX1_timesLength_117 : decode cX1_timesLength 117 = .ok (.lload 8, 2) := by decide +kernel
theorem dX1_timesLength_119 : decode cX1_timesLength 119 = .ok (.lload 6, 2) := by decide +kernel
theorem dX1_timesLength_121 : decode cX1_timesLength 121 = .ok (.lsub, 1) := by decide +kernel
theorem dX1_timesLength_122 : decode cX1_timesLength 122 = .ok (.ldc2_w 167, 3) := by decide +kernel
theorem dX1_timesLength_125 : decode cX1_timesLength 125 = .ok (.ldiv, 1) := by decide +kernel
theorem dX1_timesLength_126 : decode cX1_timesLength 126 = .ok (.lsub, 1) := by decide +kernel
theorem dX1_timesLength_127 : decode cX1_timesLength 127 = .ok (.lstore 11, 2) := by decide +kernel
theorem dX1_timesLength_129 : decode cX1_timesLength 129 = .ok (.aload_n 0, 1) := by decide +kernel
theorem dX1_timesLength_130 : decode cX1_timesLength 130 = .ok (.getfield 43, 3) := by decide +kernel
theorem dX1_timesLength_133 : decode cX1_timesLength 133 = .ok (.lload 11, 2) := by decide +kernel
theorem dX1_timesLength_135 : decode cX1_timesLength 135 = .ok (.invokevirtual 141, 3) := by decide +kernel
theorem dX1_timesLength_138 : decode cX1_timesLength 138 = .ok (.aload_n 0, 1) := by decide +kernel
theorem dX1_timesLength_139 : decode cX1_timesLength 139 = .ok (.getfield 50, 3) := by decide +kernel
theorem dX1_timesLength_142 : decode cX1_timesLength 142 = .ok (.aload_n 0, 1) := by decide +kernel
theorem dX1_timesLength_143 : decode cX1_timesLength 143 = .ok (.getfield 43, 3) := by decide +kernel
theorem dX1_timesLength_146 : decode cX1_timesLength 146 = .ok (.aload_n 0, 1) := by decide +kernel
theorem dX1_timesLength_147 : decode cX1_timesLength 147 = .ok (.getfield 47, 3) := by decide +kernel
theorem dX1_timesLength_150 : decode cX1_timesLength 150 = .ok (.invokevirtual 154, 3) := by decide +kernel
theorem dX1_timesLength_153 : decode cX1_timesLength 153 = .ok (.aload_n 0, 1) := by decide +kernel
theorem dX1_timesLength_154 : decode cX1_timesLength 154 = .ok (.getfield 53, 3) := by decide +kernel
theorem dX1_timesLength_157 : decode cX1_timesLength 157 = .ok (.aload_n 0, 1) := by decide +kernel
theorem dX1_timesLength_158 : decode cX1_timesLength 158 = .ok (.getfield 50, 3) := by decide +kernel
theorem dX1_timesLength_161 : decode cX1_timesLength 161 = .ok (.aload_n 0, 1) := by decide +kernel
theorem dX1_timesLength_162 : decode cX1_timesLength 162 = .ok (.getfield 50, 3) := by decide +kernel
theorem dX1_timesLength_165 : decode cX1_timesLength 165 = .ok (.invokevirtual 154, 3) := by decide +kernel
theorem dX1_timesLength_168 : decode cX1_timesLength 168 = .ok (.aload_n 0, 1) := by decide +kernel
theorem dX1_timesLength_169 : decode cX1_timesLength 169 = .ok (.getfield 53, 3) := by decide +kernel
theorem dX1_timesLength_172 : decode cX1_timesLength 172 = .ok (.aload_n 0, 1) := by decide +kernel
theorem dX1_timesLength_173 : decode cX1_timesLength 173 = .ok (.getfield 56, 3) := by decide +kernel
theorem dX1_timesLength_176 : decode cX1_timesLength 176 = .ok (.invokevirtual 169, 3) := by decide +kernel
theorem dX1_timesLength_179 : decode cX1_timesLength 179 = .ok (.ifCond .eq 10, 3) := by decide +kernel
theorem dX1_timesLength_182 : decode cX1_timesLength 182 = .ok (.lload 11, 2) := by decide +kernel
theorem dX1_timesLength_184 : decode cX1_timesLength 184 = .ok (.lstore 6, 2) := by decide +kernel
theorem dX1_timesLength_186 : decode cX1_timesLength 186 = .ok (.goto 9, 3) := by decide +kernel
theorem dX1_timesLength_189 : decode cX1_timesLength 189 = .ok (.lload 11, 2) := by decide +kernel
theorem dX1_timesLength_191 : decode cX1_timesLength 191 = .ok (.lconst 1, 1) := by decide +kernel
theorem dX1_timesLength_192 : decode cX1_timesLength 192 = .ok (.lsub, 1) := by decide +kernel
theorem dX1_timesLength_193 : decode cX1_timesLength 193 = .ok (.lstore 8, 2) := by decide +kernel
theorem dX1_timesLength_195 : decode cX1_timesLength 195 = .ok (.iinc 10 1, 3) := by decide +kernel
theorem dX1_timesLength_198 : decode cX1_timesLength 198 = .ok (.goto (-98), 3) := by decide +kernel
theorem dX1_timesLength_201 : decode cX1_timesLength 201 = .ok (.lload 6, 2) := by decide +kernel
theorem dX1_timesLength_203 : decode cX1_timesLength 203 = .ok (.lreturn, 1) := by decide +kernel
theorem dX1_thousandths_0 : decode cX1_thousandths 0 = .ok (.ldc2_w 173, 3) := by decide +kernel
theorem dX1_thousandths_3 : decode cX1_thousandths 3 = .ok (.aload_n 0, 1) := by decide +kernel
theorem dX1_thousandths_4 : decode cX1_thousandths 4 = .ok (.getfield 11, 3) := by decide +kernel
theorem dX1_thousandths_7 : decode cX1_thousandths 7 = .ok (.iload_n 1, 1) := by decide +kernel
theorem dX1_thousandths_8 : decode cX1_thousandths 8 = .ok (.laload, 1) := by decide +kernel
theorem dX1_thousandths_9 : decode cX1_thousandths 9 = .ok (.lmul, 1) := by decide +kernel
theorem dX1_thousandths_10 : decode cX1_thousandths 10 = .ok (.aload_n 0, 1) := by decide +kernel
theorem dX1_thousandths_11 : decode cX1_thousandths 11 = .ok (.iload_n 1, 1) := by decide +kernel
theorem dX1_thousandths_12 : decode cX1_thousandths 12 = .ok (.invokevirtual 175, 3) := by decide +kernel
theorem dX1_thousandths_15 : decode cX1_thousandths 15 = .ok (.ladd, 1) := by decide +kernel
theorem dX1_thousandths_16 : decode cX1_thousandths 16 = .ok (.lreturn, 1) := by decide +kernel
theorem dX1_restInThousandths_0 : decode cX1_restInThousandths 0 = .ok (.lconst 0, 1) := by decide +kernel
theorem dX1_restInThousandths_1 : decode cX1_restInThousandths 1 = .ok (.lstore_n 2, 1) := by decide +kernel
theorem dX1_restInThousandths_2 : decode cX1_restInThousandths 2 = .ok (.aload_n 0, 1) := by decide +kernel
theorem dX1_restInThousandths_3 : decode cX1_restInThousandths 3 = .ok (.getfield 15, 3) := by decide +kernel
theorem dX1_restInThousandths_6 : decode cX1_restInThousandths 6 = .ok (.iload_n 1, 1) := by decide +kernel
theorem dX1_restInThousandths_7 : decode cX1_restInThousandths 7 = .ok (.laload, 1) := by decide +kernel
theorem dX1_restInThousandths_8 : decode cX1_restInThousandths 8 = .ok (.lstore 4, 2) := by decide +kernel
theorem dX1_restInThousandths_10 : decode cX1_restInThousandths 10 = .ok (.iconst 0, 1) := by decide +kernel
theorem dX1_restInThousandths_11 : decode cX1_restInThousandths 11 = .ok (.istore 6, 2) := by decide +kernel
theorem dX1_restInThousandths_13 : decode cX1_restInThousandths 13 = .ok (.iload 6, 2) := by decide +kernel
theorem dX1_restInThousandths_15 : decode cX1_restInThousandths 15 = .ok (.iconst 3, 1) := by decide +kernel
theorem dX1_restInThousandths_16 : decode cX1_restInThousandths 16 = .ok (.if_icmp .ge 49, 3) := by decide +kernel
theorem dX1_restInThousandths_19 : decode cX1_restInThousandths 19 = .ok (.aload_n 0, 1) := by decide +kernel
theorem dX1_restInThousandths_20 : decode cX1_restInThousandths 20 = .ok (.getfield 104, 3) := by decide +kernel
theorem dX1_restInThousandths_23 : decode cX1_restInThousandths 23 = .ok (.lconst 0, 1) := by decide +kernel
theorem dX1_restInThousandths_24 : decode cX1_restInThousandths 24 = .ok (.lcmp, 1) := by decide +kernel
theorem dX1_restInThousandths_25 : decode cX1_restInThousandths 25 = .ok (.ifCond .le 40, 3) := by decide +kernel
theorem dX1_restInThousandths_28 : decode cX1_restInThousandths 28 = .ok (.ldc2_w 179, 3) := by decide +kernel
theorem dX1_restInThousandths_31 : decode cX1_restInThousandths 31 = .ok (.lload_n 2, 1) := by decide +kernel
theorem dX1_restInThousandths_32 : decode cX1_restInThousandths 32 = .ok (.lmul, 1) := by decide +kernel
theorem dX1_restInThousandths_33 : decode cX1_restInThousandths 33 = .ok (.ldc2_w 179, 3) := by decide +kernel
theorem dX1_restInThousandths_36 : decode cX1_restInThousandths 36 = .ok (.lload 4, 2) := by decide +kernel
theorem dX1_restInThousandths_38 : decode cX1_restInThousandths 38 = .ok (.lmul, 1) := by decide +kernel
theorem dX1_restInThousandths_39 : decode cX1_restInThousandths 39 = .ok (.aload_n 0, 1) := by decide +kernel
theorem dX1_restInThousandths_40 : decode cX1_restInThousandths 40 = .ok (.getfield 104, 3) := by decide +kernel
theorem dX1_restInThousandths_43 : decode cX1_restInThousandths 43 = .ok (.ldiv, 1) := by decide +kernel
theorem dX1_restInThousandths_44 : decode cX1_restInThousandths 44 = .ok (.ladd, 1) := by decide +kernel
theorem dX1_restInThousandths_45 : decode cX1_restInThousandths 45 = .ok (.lstore_n 2, 1) := by decide +kernel
theorem dX1_restInThousandths_46 : decode cX1_restInThousandths 46 = .ok (.ldc2_w 179, 3) := by decide +kernel
theorem dX1_restInThousandths_49 : decode cX1_restInThousandths 49 = .ok (.lload 4, 2) := by decide +kernel
theorem dX1_restInThousandths_51 : decode cX1_restInThousandths 51 = .ok (.lmul, 1) := by decide +kernel
theorem dX1_restInThousandths_52 : decode cX1_restInThousandths 52 = .ok (.aload_n 0, 1) := by decide +kernel
theorem dX1_restInThousandths_53 : decode cX1_restInThousandths 53 = .ok (.getfield 104, 3) := by decide +kernel
theorem dX1_restInThousandths_56 : decode cX1_restInThousandths 56 = .ok (.lrem, 1) := by decide +kernel
theorem dX1_restInThousandths_57 : decode cX1_restInThousandths 57 = .ok (.lstore 4, 2) := by decide +kernel
theorem dX1_restInThousandths_59 : decode cX1_restInThousandths 59 = .ok (.iinc 6 1, 3) := by decide +kernel
theorem dX1_restInThousandths_62 : decode cX1_restInThousandths 62 = .ok (.goto (-49), 3) := by decide +kernel
theorem dX1_restInThousandths_65 : decode cX1_restInThousandths 65 = .ok (.lload_n 2, 1) := by decide +kernel
theorem dX1_restInThousandths_66 : decode cX1_restInThousandths 66 = .ok (.lreturn, 1) := by decide +kernel
theorem dX1_sumOfThousandths_0 : decode cX1_sumOfThousandths 0 = .ok (.lconst 0, 1) := by decide +kernel
theorem dX1_sumOfThousandths_1 : decode cX1_sumOfThousandths 1 = .ok (.lstore_n 2, 1) := by decide +kernel
theorem dX1_sumOfThousandths_2 : decode cX1_sumOfThousandths 2 = .ok (.lconst 0, 1) := by decide +kernel
theorem dX1_sumOfThousandths_3 : decode cX1_sumOfThousandths 3 = .ok (.lstore 4, 2) := by decide +kernel
theorem dX1_sumOfThousandths_5 : decode cX1_sumOfThousandths 5 = .ok (.iconst 0, 1) := by decide +kernel
theorem dX1_sumOfThousandths_6 : decode cX1_sumOfThousandths 6 = .ok (.istore 6, 2) := by decide +kernel
theorem dX1_sumOfThousandths_8 : decode cX1_sumOfThousandths 8 = .ok (.iload 6, 2) := by decide +kernel
theorem dX1_sumOfThousandths_10 : decode cX1_sumOfThousandths 10 = .ok (.iload_n 1, 1) := by decide +kernel
theorem dX1_sumOfThousandths_11 : decode cX1_sumOfThousandths 11 = .ok (.if_icmp .ge 53, 3) := by decide +kernel
theorem dX1_sumOfThousandths_14 : decode cX1_sumOfThousandths 14 = .ok (.lload_n 2, 1) := by decide +kernel
theorem dX1_sumOfThousandths_15 : decode cX1_sumOfThousandths 15 = .ok (.ldc2_w 173, 3) := by decide +kernel
theorem dX1_sumOfThousandths_18 : decode cX1_sumOfThousandths 18 = .ok (.aload_n 0, 1) := by decide +kernel
theorem dX1_sumOfThousandths_19 : decode cX1_sumOfThousandths 19 = .ok (.getfield 11, 3) := by decide +kernel
theorem dX1_sumOfThousandths_22 : decode cX1_sumOfThousandths 22 = .ok (.iload 6, 2) := by decide +kernel
theorem dX1_sumOfThousandths_24 : decode cX1_sumOfThousandths 24 = .ok (.laload, 1) := by decide +kernel
theorem dX1_sumOfThousandths_25 : decode cX1_sumOfThousandths 25 = .ok (.bipush 32, 2) := by decide +kernel
theorem dX1_sumOfThousandths_27 : decode cX1_sumOfThousandths 27 = .ok (.lshr, 1) := by decide +kernel
theorem dX1_sumOfThousandths_28 : decode cX1_sumOfThousandths 28 = .ok (.lmul, 1) := by decide +kernel
theorem dX1_sumOfThousandths_29 : decode cX1_sumOfThousandths 29 = .ok (.ladd, 1) := by decide +kernel
theorem dX1_sumOfThousandths_30 : decode cX1_sumOfThousandths 30 = .ok (.lstore_n 2, 1) := by decide +kernel
theorem dX1_sumOfThousandths_31 : decode cX1_sumOfThousandths 31 = .ok (.lload 4, 2) := by decide +kernel
theorem dX1_sumOfThousandths_33 : decode cX1_sumOfThousandths 33 = .ok (.ldc2_w 173, 3) := by decide +kernel
theorem dX1_sumOfThousandths_36 : decode cX1_sumOfThousandths 36 = .ok (.aload_n 0, 1) := by decide +kernel
theorem dX1_sumOfThousandths_37 : decode cX1_sumOfThousandths 37 = .ok (.getfield 11, 3) := by decide +kernel
theorem dX1_sumOfThousandths_40 : decode cX1_sumOfThousandths 40 = .ok (.iload 6, 2) := by decide +kernel
theorem dX1_sumOfThousandths_42 : decode cX1_sumOfThousandths 42 = .ok (.laload, 1) := by decide +kernel
theorem dX1_sumOfThousandths_43 : decode cX1_sumOfThousandths 43 = .ok (.ldc2_w 181, 3) := by decide +kernel
theorem dX1_sumOfThousandths_46 : decode cX1_sumOfThousandths 46 = .ok (.land, 1) := by decide +kernel
theorem dX1_sumOfThousandths_47 : decode cX1_sumOfThousandths 47 = .ok (.lmul, 1) := by decide +kernel
theorem dX1_sumOfThousandths_48 : decode cX1_sumOfThousandths 48 = .ok (.aload_n 0, 1) := by decide +kernel
theorem dX1_sumOfThousandths_49 : decode cX1_sumOfThousandths 49 = .ok (.iload 6, 2) := by decide +kernel
theorem dX1_sumOfThousandths_51 : decode cX1_sumOfThousandths 51 = .ok (.invokevirtual 175, 3) := by decide +kernel
theorem dX1_sumOfThousandths_54 : decode cX1_sumOfThousandths 54 = .ok (.ladd, 1) := by decide +kernel
theorem dX1_sumOfThousandths_55 : decode cX1_sumOfThousandths 55 = .ok (.ladd, 1) := by decide +kernel
theorem dX1_sumOfThousandths_56 : decode cX1_sumOfThousandths 56 = .ok (.lstore 4, 2) := by decide +kernel
theorem dX1_sumOfThousandths_58 : decode cX1_sumOfThousandths 58 = .ok (.iinc 6 1, 3) := by decide +kernel
theorem dX1_sumOfThousandths_61 : decode cX1_sumOfThousandths 61 = .ok (.goto (-53), 3) := by decide +kernel
theorem dX1_sumOfThousandths_64 : decode cX1_sumOfThousandths 64 = .ok (.lload_n 2, 1) := by decide +kernel
theorem dX1_sumOfThousandths_65 : decode cX1_sumOfThousandths 65 = .ok (.l2d, 1) := by decide +kernel
theorem dX1_sumOfThousandths_66 : decode cX1_sumOfThousandths 66 = .ok (.ldc2_w 183, 3) := by decide +kernel
theorem dX1_sumOfThousandths_69 : decode cX1_sumOfThousandths 69 = .ok (.dmul, 1) := by decide +kernel
theorem dX1_sumOfThousandths_70 : decode cX1_sumOfThousandths 70 = .ok (.lload 4, 2) := by decide +kernel
theorem dX1_sumOfThousandths_72 : decode cX1_sumOfThousandths 72 = .ok (.l2d, 1) := by decide +kernel
theorem dX1_sumOfThousandths_73 : decode cX1_sumOfThousandths 73 = .ok (.dadd, 1) := by decide +kernel
theorem dX1_sumOfThousandths_74 : decode cX1_sumOfThousandths 74 = .ok (.dreturn, 1) := by decide +kernel
theorem dX1_holdsAt_0 : decode cX1_holdsAt 0 = .ok (.aload_n 0, 1) := by decide +kernel
theorem dX1_holdsAt_1 : decode cX1_holdsAt 1 = .ok (.aload_n 1, 1) := by decide +kernel
theorem dX1_holdsAt_2 : decode cX1_holdsAt 2 = .ok (.iload_n 2, 1) := by decide +kernel
theorem dX1_holdsAt_3 : decode cX1_holdsAt 3 = .ok (.iconst 0, 1) := by decide +kernel
theorem dX1_holdsAt_4 : decode cX1_holdsAt 4 = .ok (.invokevirtual 185, 3) := by decide +kernel
theorem dX1_holdsAt_7 : decode cX1_holdsAt 7 = .ok (.ifCond .eq 17, 3) := by decide +kernel
theorem dX1_holdsAt_10 : decode cX1_holdsAt 10 = .ok (.aload_n 0, 1) := by decide +kernel
theorem dX1_holdsAt_11 : decode cX1_holdsAt 11 = .ok (.aload_n 1, 1) := by decide +kernel
theorem dX1_holdsAt_12 : decode cX1_holdsAt 12 = .ok (.iload_n 2, 1) := by decide +kernel
theorem dX1_holdsAt_13 : decode cX1_holdsAt 13 = .ok (.iconst 1, 1) := by decide +kernel
theorem dX1_holdsAt_14 : decode cX1_holdsAt 14 = .ok (.invokevirtual 185, 3) := by decide +kernel
theorem dX1_holdsAt_17 : decode cX1_holdsAt 17 = .ok (.ifCond .eq 7, 3) := by decide +kernel
theorem dX1_holdsAt_20 : decode cX1_holdsAt 20 = .ok (.iconst 1, 1) := by decide +kernel
theorem dX1_holdsAt_21 : decode cX1_holdsAt 21 = .ok (.goto 4, 3) := by decide +kernel
theorem dX1_holdsAt_24 : decode cX1_holdsAt 24 = .ok (.iconst 0, 1) := by decide +kernel
theorem dX1_holdsAt_25 : decode cX1_holdsAt 25 = .ok (.ireturn, 1) := by decide +kernel
theorem dX1_holdsAlong_0 : decode cX1_holdsAlong 0 = .ok (.lconst 0, 1) := by decide +kernel
theorem dX1_holdsAlong_1 : decode cX1_holdsAlong 1 = .ok (.lstore 4, 2) := by decide +kernel
theorem dX1_holdsAlong_3 : decode cX1_holdsAlong 3 = .ok (.lconst 0, 1) := by decide +kernel
theorem dX1_holdsAlong_4 : decode cX1_holdsAlong 4 = .ok (.lstore 6, 2) := by decide +kernel
theorem dX1_holdsAlong_6 : decode cX1_holdsAlong 6 = .ok (.iconst 0, 1) := by decide +kernel
theorem dX1_holdsAlong_7 : decode cX1_holdsAlong 7 = .ok (.istore 8, 2) := by decide +kernel
theorem dX1_holdsAlong_9 : decode cX1_holdsAlong 9 = .ok (.iload 8, 2) := by decide +kernel
theorem dX1_holdsAlong_11 : decode cX1_holdsAlong 11 = .ok (.aload_n 1, 1) := by decide +kernel
theorem dX1_holdsAlong_12 : decode cX1_holdsAlong 12 = .ok (.getfield 78, 3) := by decide +kernel
theorem dX1_holdsAlong_15 : decode cX1_holdsAlong 15 = .ok (.if_icmp .ge 165, 3) := by decide +kernel
theorem dX1_holdsAlong_18 : decode cX1_holdsAlong 18 = .ok (.aload_n 1, 1) := by decide +kernel
theorem dX1_holdsAlong_19 : decode cX1_holdsAlong 19 = .ok (.getfield 189, 3) := by decide +kernel
theorem dX1_holdsAlong_22 : decode cX1_holdsAlong 22 = .ok (.iconst 2, 1) := by decide +kernel
theorem dX1_holdsAlong_23 : decode cX1_holdsAlong 23 = .ok (.iload 8, 2) := by decide +kernel
theorem dX1_holdsAlong_25 : decode cX1_holdsAlong 25 = .ok (.imul, 1) := by decide +kernel
theorem dX1_holdsAlong_26 : decode cX1_holdsAlong 26 = .ok (.iconst 0, 1) := by decide +kernel
theorem dX1_holdsAlong_27 : decode cX1_holdsAlong 27 = .ok (.iadd, 1) := by decide +kernel
theorem dX1_holdsAlong_28 : decode cX1_holdsAlong 28 = .ok (.iaload, 1) := by decide +kernel
theorem dX1_holdsAlong_29 : decode cX1_holdsAlong 29 = .ok (.iload_n 2, 1) := by decide +kernel
theorem dX1_holdsAlong_30 : decode cX1_holdsAlong 30 = .ok (.if_icmp .le 6, 3) := by decide +kernel
theorem dX1_holdsAlong_33 : decode cX1_holdsAlong 33 = .ok (.goto 141, 3) := by decide +kernel
theorem dX1_holdsAlong_36 : decode cX1_holdsAlong 36 = .ok (.lload 4, 2) := by decide +kernel
theorem dX1_holdsAlong_38 : decode cX1_holdsAlong 38 = .ok (.aload_n 1, 1) := by decide +kernel
theorem dX1_holdsAlong_39 : decode cX1_holdsAlong 39 = .ok (.getfield 116, 3) := by decide +kernel
theorem dX1_holdsAlong_42 : decode cX1_holdsAlong 42 = .ok (.iconst 2, 1) := by decide +kernel
theorem dX1_holdsAlong_43 : decode cX1_holdsAlong 43 = .ok (.iload 8, 2) := by decide +kernel
theorem dX1_holdsAlong_45 : decode cX1_holdsAlong 45 = .ok (.imul, 1) := by decide +kernel
theorem dX1_holdsAlong_46 : decode cX1_holdsAlong 46 = .ok (.iload_n 3, 1) := by decide +kernel
theorem dX1_holdsAlong_47 : decode cX1_holdsAlong 47 = .ok (.iadd, 1) := by decide +kernel
theorem dX1_holdsAlong_48 : decode cX1_holdsAlong 48 = .ok (.iaload, 1) := by decide +kernel
theorem dX1_holdsAlong_49 : decode cX1_holdsAlong 49 = .ok (.i2l, 1) := by decide +kernel
theorem dX1_holdsAlong_50 : decode cX1_holdsAlong 50 = .ok (.aload_n 0, 1) := by decide +kernel
theorem dX1_holdsAlong_51 : decode cX1_holdsAlong 51 = .ok (.getfield 11, 3) := by decide +kernel
theorem dX1_holdsAlong_54 : decode cX1_holdsAlong 54 = .ok (.aload_n 0, 1) := by decide +kernel
theorem dX1_holdsAlong_55 : decode cX1_holdsAlong 55 = .ok (.iload 8, 2) := by decide +kernel
theorem dX1_holdsAlong_57 : decode cX1_holdsAlong 57 = .ok (.iload_n 3, 1) := by decide +kernel
theorem dX1_holdsAlong_58 : decode cX1_holdsAlong 58 = .ok (.invokevirtual 192, 3) := by decide +kernel
theorem dX1_holdsAlong_61 : decode cX1_holdsAlong 61 = .ok (.laload, 1) := by decide +kernel
theorem dX1_holdsAlong_62 : decode cX1_holdsAlong 62 = .ok (.ladd, 1) := by decide +kernel
theorem dX1_holdsAlong_63 : decode cX1_holdsAlong 63 = .ok (.ladd, 1) := by decide +kernel
theorem dX1_holdsAlong_64 : decode cX1_holdsAlong 64 = .ok (.lstore 4, 2) := by decide +kernel
theorem dX1_holdsAlong_66 : decode cX1_holdsAlong 66 = .ok (.lload 6, 2) := by decide +kernel
theorem dX1_holdsAlong_68 : decode cX1_holdsAlong 68 = .ok (.aload_n 0, 1) := by decide +kernel
theorem dX1_holdsAlong_69 : decode cX1_holdsAlong 69 = .ok (.getfield 15, 3) := by decide +kernel
theorem dX1_holdsAlong_72 : decode cX1_holdsAlong 72 = .ok (.aload_n 0, 1) := by decide +kernel
theorem dX1_holdsAlong_73 : decode cX1_holdsAlong 73 = .ok (.iload 8, 2) := by decide +kernel
theorem dX1_holdsAlong_75 : decode cX1_holdsAlong 75 = .ok (.iload_n 3, 1) := by decide +kernel
theorem dX1_holdsAlong_76 : decode cX1_holdsAlong 76 = .ok (.invokevirtual 192, 3) := by decide +kernel
theorem dX1_holdsAlong_79 : decode cX1_holdsAlong 79 = .ok (.laload, 1) := by decide +kernel
theorem dX1_holdsAlong_80 : decode cX1_holdsAlong 80 = .ok (.ladd, 1) := by decide +kernel
theorem dX1_holdsAlong_81 : decode cX1_holdsAlong 81 = .ok (.lstore 6, 2) := by decide +kernel
theorem dX1_holdsAlong_83 : decode cX1_holdsAlong 83 = .ok (.iconst 0, 1) := by decide +kernel
theorem dX1_holdsAlong_84 : decode cX1_holdsAlong 84 = .ok (.istore 9, 2) := by decide +kernel
theorem dX1_holdsAlong_86 : decode cX1_holdsAlong 86 = .ok (.iload 9, 2) := by decide +kernel
theorem dX1_holdsAlong_88 : decode cX1_holdsAlong 88 = .ok (.aload_n 1, 1) := by decide +kernel
theorem dX1_holdsAlong_89 : decode cX1_holdsAlong 89 = .ok (.getfield 88, 3) := by decide +kernel
theorem dX1_holdsAlong_92 : decode cX1_holdsAlong 92 = .ok (.if_icmp .ge 82, 3) := by decide +kernel
theorem dX1_holdsAlong_95 : decode cX1_holdsAlong 95 = .ok (.aload_n 1, 1) := by decide +kernel
theorem dX1_holdsAlong_96 : decode cX1_holdsAlong 96 = .ok (.iload 9, 2) := by decide +kernel
theorem dX1_holdsAlong_98 : decode cX1_holdsAlong 98 = .ok (.iload 8, 2) := by decide +kernel
theorem dX1_holdsAlong_100 : decode cX1_holdsAlong 100 = .ok (.invokevirtual 196, 3) := by decide +kernel
theorem dX1_holdsAlong_103 : decode cX1_holdsAlong 103 = .ok (.istore 10, 2) := by decide +kernel
theorem dX1_holdsAlong_105 : decode cX1_holdsAlong 105 = .ok (.iload 10, 2) := by decide +kernel
theorem dX1_holdsAlong_107 : decode cX1_holdsAlong 107 = .ok (.ifCond .lt 61, 3) := by decide +kernel
theorem dX1_holdsAlong_110 : decode cX1_holdsAlong 110 = .ok (.aload_n 1, 1) := by decide +kernel
theorem dX1_holdsAlong_111 : decode cX1_holdsAlong 111 = .ok (.getfield 189, 3) := by decide +kernel
theorem dX1_holdsAlong_114 : decode cX1_holdsAlong 114 = .ok (.iconst 2, 1) := by decide +kernel
theorem dX1_holdsAlong_115 : decode cX1_holdsAlong 115 = .ok (.iload 10, 2) := by decide +kernel
theorem dX1_holdsAlong_117 : decode cX1_holdsAlong 117 = .ok (.imul, 1) := by decide +kernel
theorem dX1_holdsAlong_118 : decode cX1_holdsAlong 118 = .ok (.iconst 0, 1) := by decide +kernel
theorem dX1_holdsAlong_119 : decode cX1_holdsAlong 119 = .ok (.iadd, 1) := by decide +kernel
theorem dX1_holdsAlong_120 : decode cX1_holdsAlong 120 = .ok (.iaload, 1) := by decide +kernel
theorem dX1_holdsAlong_121 : decode cX1_holdsAlong 121 = .ok (.iload_n 2, 1) := by decide +kernel
theorem dX1_holdsAlong_122 : decode cX1_holdsAlong 122 = .ok (.if_icmp .le 46, 3) := by decide +kernel
theorem dX1_holdsAlong_125 : decode cX1_holdsAlong 125 = .ok (.aload_n 1, 1) := by decide +kernel
theorem dX1_holdsAlong_126 : decode cX1_holdsAlong 126 = .ok (.iload 9, 2) := by decide +kernel
theorem dX1_holdsAlong_128 : decode cX1_holdsAlong 128 = .ok (.iload 8, 2) := by decide +kernel
theorem dX1_holdsAlong_130 : decode cX1_holdsAlong 130 = .ok (.iload_n 3, 1) := by decide +kernel
theorem dX1_holdsAlong_131 : decode cX1_holdsAlong 131 = .ok (.invokevirtual 112, 3) := by decide +kernel
theorem dX1_holdsAlong_134 : decode cX1_holdsAlong 134 = .ok (.istore 11, 2) := by decide +kernel
theorem dX1_holdsAlong_136 : decode cX1_holdsAlong 136 = .ok (.lload 4, 2) := by decide +kernel
theorem dX1_holdsAlong_138 : decode cX1_holdsAlong 138 = .ok (.iload 11, 2) := by decide +kernel
theorem dX1_holdsAlong_140 : decode cX1_holdsAlong 140 = .ok (.i2l, 1) := by decide +kernel
theorem dX1_holdsAlong_141 : decode cX1_holdsAlong 141 = .ok (.aload_n 0, 1) := by decide +kernel
theorem dX1_holdsAlong_142 : decode cX1_holdsAlong 142 = .ok (.getfield 11, 3) := by decide +kernel
theorem dX1_holdsAlong_145 : decode cX1_holdsAlong 145 = .ok (.iload 9, 2) := by decide +kernel
theorem dX1_holdsAlong_147 : decode cX1_holdsAlong 147 = .ok (.laload, 1) := by decide +kernel
theorem dX1_holdsAlong_148 : decode cX1_holdsAlong 148 = .ok (.lmul, 1) := by decide +kernel
theorem dX1_holdsAlong_149 : decode cX1_holdsAlong 149 = .ok (.ladd, 1) := by decide +kernel
theorem dX1_holdsAlong_150 : decode cX1_holdsAlong 150 = .ok (.lstore 4, 2) := by decide +kernel
theorem dX1_holdsAlong_152 : decode cX1_holdsAlong 152 = .ok (.lload 6, 2) := by decide +kernel
theorem dX1_holdsAlong_154 : decode cX1_holdsAlong 154 = .ok (.iload 11, 2) := by decide +kernel
theorem dX1_holdsAlong_156 : decode cX1_holdsAlong 156 = .ok (.i2l, 1) := by decide +kernel
theorem dX1_holdsAlong_157 : decode cX1_holdsAlong 157 = .ok (.aload_n 0, 1) := by decide +kernel
theorem dX1_holdsAlong_158 : decode cX1_holdsAlong 158 = .ok (.getfield 15, 3) := by decide +kernel
theorem dX1_holdsAlong_161 : decode cX1_holdsAlong 161 = .ok (.iload 9, 2) := by decide +kernel
theorem dX1_holdsAlong_163 : decode cX1_holdsAlong 163 = .ok (.laload, 1) := by decide +kernel
theorem dX1_holdsAlong_164 : decode cX1_holdsAlong 164 = .ok (.lmul, 1) := by decide +kernel
theorem dX1_holdsAlong_165 : decode cX1_holdsAlong 165 = .ok (.ladd, 1) := by decide +kernel
theorem dX1_holdsAlong_166 : decode cX1_holdsAlong 166 = .ok (.lstore 6, 2) := by decide +kernel
theorem dX1_holdsAlong_168 : decode cX1_holdsAlong 168 = .ok (.iinc 9 1, 3) := by decide +kernel
theorem dX1_holdsAlong_171 : decode cX1_holdsAlong 171 = .ok (.goto (-85), 3) := by decide +kernel
theorem dX1_holdsAlong_174 : decode cX1_holdsAlong 174 = .ok (.iinc 8 1, 3) := by decide +kernel
theorem dX1_holdsAlong_177 : decode cX1_holdsAlong 177 = .ok (.goto (-168), 3) := by decide +kernel
theorem dX1_holdsAlong_180 : decode cX1_holdsAlong 180 = .ok (.aload_n 0, 1) := by decide +kernel
theorem dX1_holdsAlong_181 : decode cX1_holdsAlong 181 = .ok (.getfield 104, 3) := by decide +kernel
theorem dX1_holdsAlong_184 : decode cX1_holdsAlong 184 = .ok (.lconst 0, 1) := by decide +kernel
theorem dX1_holdsAlong_185 : decode cX1_holdsAlong 185 = .ok (.lcmp, 1) := by decide +kernel
theorem dX1_holdsAlong_186 : decode cX1_holdsAlong 186 = .ok (.ifCond .le 34, 3) := by decide +kernel
theorem dX1_holdsAlong_189 : decode cX1_holdsAlong 189 = .ok (.lload 6, 2) := by decide +kernel
theorem dX1_holdsAlong_191 : decode cX1_holdsAlong 191 = .ok (.aload_n 0, 1) := by decide +kernel
theorem dX1_holdsAlong_192 : decode cX1_holdsAlong 192 = .ok (.getfield 104, 3) := by decide +kernel
theorem dX1_holdsAlong_195 : decode cX1_holdsAlong 195 = .ok (.lrem, 1) := by decide +kernel
theorem dX1_holdsAlong_196 : decode cX1_holdsAlong 196 = .ok (.lconst 0, 1) := by decide +kernel
theorem dX1_holdsAlong_197 : decode cX1_holdsAlong 197 = .ok (.lcmp, 1) := by decide +kernel
theorem dX1_holdsAlong_198 : decode cX1_holdsAlong 198 = .ok (.ifCond .ne 22, 3) := by decide +kernel
theorem dX1_holdsAlong_201 : decode cX1_holdsAlong 201 = .ok (.lload 4, 2) := by decide +kernel
theorem dX1_holdsAlong_203 : decode cX1_holdsAlong 203 = .ok (.lload 6, 2) := by decide +kernel
theorem dX1_holdsAlong_205 : decode cX1_holdsAlong 205 = .ok (.aload_n 0, 1) := by decide +kernel
theorem dX1_holdsAlong_206 : decode cX1_holdsAlong 206 = .ok (.getfield 104, 3) := by decide +kernel
theorem dX1_holdsAlong_209 : decode cX1_holdsAlong 209 = .ok (.ldiv, 1) := by decide +kernel
theorem dX1_holdsAlong_210 : decode cX1_holdsAlong 210 = .ok (.ladd, 1) := by decide +kernel
theorem dX1_holdsAlong_211 : decode cX1_holdsAlong 211 = .ok (.lconst 0, 1) := by decide +kernel
theorem dX1_holdsAlong_212 : decode cX1_holdsAlong 212 = .ok (.lcmp, 1) := by decide +kernel
theorem dX1_holdsAlong_213 : decode cX1_holdsAlong 213 = .ok (.ifCond .ne 7, 3) := by decide +kernel
theorem dX1_holdsAlong_216 : decode cX1_holdsAlong 216 = .ok (.iconst 1, 1) := by decide +kernel
theorem dX1_holdsAlong_217 : decode cX1_holdsAlong 217 = .ok (.goto 4, 3) := by decide +kernel
theorem dX1_holdsAlong_220 : decode cX1_holdsAlong 220 = .ok (.iconst 0, 1) := by decide +kernel
theorem dX1_holdsAlong_221 : decode cX1_holdsAlong 221 = .ok (.ireturn, 1) := by decide +kernel
theorem dX2_init_0 : decode cX2_init 0 = .ok (.aload_n 0, 1) := by decide +kernel
theorem dX2_init_1 : decode cX2_init 1 = .ok (.invokespecial 3, 3) := by decide +kernel
theorem dX2_init_4 : decode cX2_init 4 = .ok (.aload_n 0, 1) := by decide +kernel
theorem dX2_init_5 : decode cX2_init 5 = .ok (.bipush 16, 2) := by decide +kernel
theorem dX2_init_7 : decode cX2_init 7 = .ok (.newarray .int, 2) := by decide +kernel
theorem dX2_init_9 : decode cX2_init 9 = .ok (.putfield 9, 3) := by decide +kernel
theorem dX2_init_12 : decode cX2_init 12 = .ok (.aload_n 0, 1) := by decide +kernel
theorem dX2_init_13 : decode cX2_init 13 = .ok (.bipush 16, 2) := by decide +kernel
theorem dX2_init_15 : decode cX2_init 15 = .ok (.newarray .int, 2) := by decide +kernel
theorem dX2_init_17 : decode cX2_init 17 = .ok (.putfield 15, 3) := by decide +kernel
theorem dX2_init_20 : decode cX2_init 20 = .ok (.aload_n 0, 1) := by decide +kernel
theorem dX2_init_21 : decode cX2_init 21 = .ok (.bipush 8, 2) := by decide +kernel
theorem dX2_init_23 : decode cX2_init 23 = .ok (.newarray .int, 2) := by decide +kernel
theorem dX2_init_25 : decode cX2_init 25 = .ok (.putfield 18, 3) := by decide +kernel
theorem dX2_init_28 : decode cX2_init 28 = .ok (.aload_n 0, 1) := by decide +kernel
theorem dX2_init_29 : decode cX2_init 29 = .ok (.bipush 8, 2) := by decide +kernel
theorem dX2_init_31 : decode cX2_init 31 = .ok (.newarray .char, 2) := by decide +kernel
theorem dX2_init_33 : decode cX2_init 33 = .ok (.putfield 21, 3) := by decide +kernel
theorem dX2_init_36 : decode cX2_init 36 = .ok (.aload_n 0, 1) := by decide +kernel
theorem dX2_init_37 : decode cX2_init 37 = .ok (.bipush 9, 2) := by decide +kernel
theorem dX2_init_39 : decode cX2_init 39 = .ok (.newarray .int, 2) := by decide +kernel
theorem dX2_init_41 : decode cX2_init 41 = .ok (.putfield 25, 3) := by decide +kernel
theorem dX2_init_44 : decode cX2_init 44 = .ok (.aload_n 0, 1) := by decide +kernel
theorem dX2_init_45 : decode cX2_init 45 = .ok (.bipush 9, 2) := by decide +kernel
theorem dX2_init_47 : decode cX2_init 47 = .ok (.newarray .int, 2) := by decide +kernel
theorem dX2_init_49 : decode cX2_init 49 = .ok (.putfield 28, 3) := by decide +kernel
theorem dX2_init_52 : decode cX2_init 52 = .ok (.aload_n 0, 1) := by decide +kernel
theorem dX2_init_53 : decode cX2_init 53 = .ok (.bipush 9, 2) := by decide +kernel
theorem dX2_init_55 : decode cX2_init 55 = .ok (.newarray .int, 2) := by decide +kernel
theorem dX2_init_57 : decode cX2_init 57 = .ok (.putfield 31, 3) := by decide +kernel
theorem dX2_init_60 : decode cX2_init 60 = .ok (.aload_n 0, 1) := by decide +kernel
theorem dX2_init_61 : decode cX2_init 61 = .ok (.bipush 9, 2) := by decide +kernel
theorem dX2_init_63 : decode cX2_init 63 = .ok (.newarray .int, 2) := by decide +kernel
theorem dX2_init_65 : decode cX2_init 65 = .ok (.putfield 34, 3) := by decide +kernel
theorem dX2_init_68 : decode cX2_init 68 = .ok (.aload_n 0, 1) := by decide +kernel
theorem dX2_init_69 : decode cX2_init 69 = .ok (.bipush 9, 2) := by decide +kernel
theorem dX2_init_71 : decode cX2_init 71 = .ok (.newarray .int, 2) := by decide +kernel
theorem dX2_init_73 : decode cX2_init 73 = .ok (.putfield 37, 3) := by decide +kernel
theorem dX2_init_76 : decode cX2_init 76 = .ok (.aload_n 0, 1) := by decide +kernel
theorem dX2_init_77 : decode cX2_init 77 = .ok (.bipush 9, 2) := by decide +kernel
theorem dX2_init_79 : decode cX2_init 79 = .ok (.newarray .int, 2) := by decide +kernel
theorem dX2_init_81 : decode cX2_init 81 = .ok (.putfield 40, 3) := by decide +kernel
theorem dX2_init_84 : decode cX2_init 84 = .ok (.return_, 1) := by decide +kernel
theorem dX2_addNode_0 : decode cX2_addNode 0 = .ok (.aload_n 0, 1) := by decide +kernel
theorem dX2_addNode_1 : decode cX2_addNode 1 = .ok (.getfield 43, 3) := by decide +kernel
theorem dX2_addNode_4 : decode cX2_addNode 4 = .ok (.istore 4, 2) := by decide +kernel
theorem dX2_addNode_6 : decode cX2_addNode 6 = .ok (.aload_n 0, 1) := by decide +kernel
theorem dX2_addNode_7 : decode cX2_addNode 7 = .ok (.getfield 9, 3) := by decide +kernel
theorem dX2_addNode_10 : decode cX2_addNode 10 = .ok (.iconst 2, 1) := by decide +kernel
theorem dX2_addNode_11 : decode cX2_addNode 11 = .ok (.iload 4, 2) := by decide +kernel
theorem dX2_addNode_13 : decode cX2_addNode 13 = .ok (.imul, 1) := by decide +kernel
theorem dX2_addNode_14 : decode cX2_addNode 14 = .ok (.iconst 0, 1) := by decide +kernel
theorem dX2_addNode_15 : decode cX2_addNode 15 = .ok (.iadd, 1) := by decide +kernel
theorem dX2_addNode_16 : decode cX2_addNode 16 = .ok (.iload_n 1, 1) := by decide +kernel
theorem dX2_addNode_17 : decode cX2_addNode 17 = .ok (.iastore, 1) := by decide +kernel
theorem dX2_addNode_18 : decode cX2_addNode 18 = .ok (.aload_n 0, 1) := by decide +kernel
theorem dX2_addNode_19 : decode cX2_addNode 19 = .ok (.getfield 9, 3) := by decide +kernel
theorem dX2_addNode_22 : decode cX2_addNode 22 = .ok (.iconst 2, 1) := by decide +kernel
theorem dX2_addNode_23 : decode cX2_addNode 23 = .ok (.iload 4, 2) := by decide +kernel
theorem dX2_addNode_25 : decode cX2_addNode 25 = .ok (.imul, 1) := by decide +kernel
theorem dX2_addNode_26 : decode cX2_addNode 26 = .ok (.iconst 1, 1) := by decide +kernel
theorem dX2_addNode_27 : decode cX2_addNode 27 = .ok (.iadd, 1) := by decide +kernel
theorem dX2_addNode_28 : decode cX2_addNode 28 = .ok (.iload_n 2, 1) := by decide +kernel
theorem dX2_addNode_29 : decode cX2_addNode 29 = .ok (.iastore, 1) := by decide +kernel
theorem dX2_addNode_30 : decode cX2_addNode 30 = .ok (.aload_n 0, 1) := by decide +kernel
theorem dX2_addNode_31 : decode cX2_addNode 31 = .ok (.getfield 21, 3) := by decide +kernel
theorem dX2_addNode_34 : decode cX2_addNode 34 = .ok (.iload 4, 2) := by decide +kernel
theorem dX2_addNode_36 : decode cX2_addNode 36 = .ok (.iload_n 3, 1) := by decide +kernel
theorem dX2_addNode_37 : decode cX2_addNode 37 = .ok (.castore, 1) := by decide +kernel
theorem dX2_addNode_38 : decode cX2_addNode 38 = .ok (.aload_n 0, 1) := by decide +kernel
theorem dX2_addNode_39 : decode cX2_addNode 39 = .ok (.iload 4, 2) := by decide +kernel
theorem dX2_addNode_41 : decode cX2_addNode 41 = .ok (.iconst 1, 1) := by decide +kernel
theorem dX2_addNode_42 : decode cX2_addNode 42 = .ok (.iadd, 1) := by decide +kernel
theorem dX2_addNode_43 : decode cX2_addNode 43 = .ok (.putfield 43, 3) := by decide +kernel
theorem dX2_addNode_46 : decode cX2_addNode 46 = .ok (.iload 4, 2) := by decide +kernel
theorem dX2_addNode_48 : decode cX2_addNode 48 = .ok (.ireturn, 1) := by decide +kernel
theorem dX2_addMember_0 : decode cX2_addMember 0 = .ok (.aload_n 0, 1) := by decide +kernel
theorem dX2_addMember_1 : decode cX2_addMember 1 = .ok (.getfield 47, 3) := by decide +kernel
theorem dX2_addMember_4 : decode cX2_addMember 4 = .ok (.istore 5, 2) := by decide +kernel
theorem dX2_addMember_6 : decode cX2_addMember 6 = .ok (.aload_n 0, 1) := by decide +kernel
theorem dX2_addMember_7 : decode cX2_addMember 7 = .ok (.getfield 25, 3) := by decide +kernel
theorem dX2_addMember_10 : decode cX2_addMember 10 = .ok (.iload 5, 2) := by decide +kernel
theorem dX2_addMember_12 : decode cX2_addMember 12 = .ok (.iload_n 1, 1) := by decide +kernel
theorem dX2_addMember_13 : decode cX2_addMember 13 = .ok (.iastore, 1) := by decide +kernel
theorem dX2_addMember_14 : decode cX2_addMember 14 = .ok (.aload_n 0, 1) := by decide +kernel
theorem dX2_addMember_15 : decode cX2_addMember 15 = .ok (.getfield 28, 3) := by decide +kernel
theorem dX2_addMember_18 : decode cX2_addMember 18 = .ok (.iload 5, 2) := by decide +kernel
theorem dX2_addMember_20 : decode cX2_addMember 20 = .ok (.iload_n 2, 1) := by decide +kernel
theorem dX2_addMember_21 : decode cX2_addMember 21 = .ok (.iastore, 1) := by decide +kernel
theorem dX2_addMember_22 : decode cX2_addMember 22 = .ok (.aload_n 0, 1) := by decide +kernel
theorem dX2_addMember_23 : decode cX2_addMember 23 = .ok (.getfield 31, 3) := by decide +kernel
theorem dX2_addMember_26 : decode cX2_addMember 26 = .ok (.iload 5, 2) := by decide +kernel
theorem dX2_addMember_28 : decode cX2_addMember 28 = .ok (.iload_n 3, 1) := by decide +kernel
theorem dX2_addMember_29 : decode cX2_addMember 29 = .ok (.iastore, 1) := by decide +kernel
theorem dX2_addMember_30 : decode cX2_addMember 30 = .ok (.aload_n 0, 1) := by decide +kernel
theorem dX2_addMember_31 : decode cX2_addMember 31 = .ok (.getfield 34, 3) := by decide +kernel
theorem dX2_addMember_34 : decode cX2_addMember 34 = .ok (.iload 5, 2) := by decide +kernel
theorem dX2_addMember_36 : decode cX2_addMember 36 = .ok (.iload 4, 2) := by decide +kernel
theorem dX2_addMember_38 : decode cX2_addMember 38 = .ok (.iastore, 1) := by decide +kernel
theorem dX2_addMember_39 : decode cX2_addMember 39 = .ok (.aload_n 0, 1) := by decide +kernel
theorem dX2_addMember_40 : decode cX2_addMember 40 = .ok (.getfield 37, 3) := by decide +kernel
theorem dX2_addMember_43 : decode cX2_addMember 43 = .ok (.iload 5, 2) := by decide +kernel
theorem dX2_addMember_45 : decode cX2_addMember 45 = .ok (.bipush 30, 2) := by decide +kernel
theorem dX2_addMember_47 : decode cX2_addMember 47 = .ok (.iastore, 1) := by decide +kernel
theorem dX2_addMember_48 : decode cX2_addMember 48 = .ok (.aload_n 0, 1) := by decide +kernel
theorem dX2_addMember_49 : decode cX2_addMember 49 = .ok (.getfield 40, 3) := by decide +kernel
theorem dX2_addMember_52 : decode cX2_addMember 52 = .ok (.iload 5, 2) := by decide +kernel
theorem dX2_addMember_54 : decode cX2_addMember 54 = .ok (.bipush 30, 2) := by decide +kernel
theorem dX2_addMember_56 : decode cX2_addMember 56 = .ok (.iastore, 1) := by decide +kernel
theorem dX2_addMember_57 : decode cX2_addMember 57 = .ok (.aload_n 0, 1) := by decide +kernel
theorem dX2_addMember_58 : decode cX2_addMember 58 = .ok (.iload 5, 2) := by decide +kernel
theorem dX2_addMember_60 : decode cX2_addMember 60 = .ok (.iconst 1, 1) := by decide +kernel
theorem dX2_addMember_61 : decode cX2_addMember 61 = .ok (.iadd, 1) := by decide +kernel
theorem dX2_addMember_62 : decode cX2_addMember 62 = .ok (.putfield 47, 3) := by decide +kernel
theorem dX2_addMember_65 : decode cX2_addMember 65 = .ok (.iload 5, 2) := by decide +kernel
theorem dX2_addMember_67 : decode cX2_addMember 67 = .ok (.ireturn, 1) := by decide +kernel
theorem dX2_addLoad_0 : decode cX2_addLoad 0 = .ok (.aload_n 0, 1) := by decide +kernel
theorem dX2_addLoad_1 : decode cX2_addLoad 1 = .ok (.getfield 15, 3) := by decide +kernel
theorem dX2_addLoad_4 : decode cX2_addLoad 4 = .ok (.iconst 2, 1) := by decide +kernel
theorem dX2_addLoad_5 : decode cX2_addLoad 5 = .ok (.iload_n 1, 1) := by decide +kernel
theorem dX2_addLoad_6 : decode cX2_addLoad 6 = .ok (.imul, 1) := by decide +kernel
theorem dX2_addLoad_7 : decode cX2_addLoad 7 = .ok (.iconst 0, 1) := by decide +kernel
theorem dX2_addLoad_8 : decode cX2_addLoad 8 = .ok (.iadd, 1) := by decide +kernel
theorem dX2_addLoad_9 : decode cX2_addLoad 9 = .ok (.dup2, 1) := by decide +kernel
theorem dX2_addLoad_10 : decode cX2_addLoad 10 = .ok (.iaload, 1) := by decide +kernel
theorem dX2_addLoad_11 : decode cX2_addLoad 11 = .ok (.iload_n 2, 1) := by decide +kernel
theorem dX2_addLoad_12 : decode cX2_addLoad 12 = .ok (.iadd, 1) := by decide +kernel
theorem dX2_addLoad_13 : decode cX2_addLoad 13 = .ok (.iastore, 1) := by decide +kernel
theorem dX2_addLoad_14 : decode cX2_addLoad 14 = .ok (.aload_n 0, 1) := by decide +kernel
theorem dX2_addLoad_15 : decode cX2_addLoad 15 = .ok (.getfield 15, 3) := by decide +kernel
theorem dX2_addLoad_18 : decode cX2_addLoad 18 = .ok (.iconst 2, 1) := by decide +kernel
theorem dX2_addLoad_19 : decode cX2_addLoad 19 = .ok (.iload_n 1, 1) := by decide +kernel
theorem dX2_addLoad_20 : decode cX2_addLoad 20 = .ok (.imul, 1) := by decide +kernel
theorem dX2_addLoad_21 : decode cX2_addLoad 21 = .ok (.iconst 1, 1) := by decide +kernel
theorem dX2_addLoad_22 : decode cX2_addLoad 22 = .ok (.iadd, 1) := by decide +kernel
theorem dX2_addLoad_23 : decode cX2_addLoad 23 = .ok (.dup2, 1) := by decide +kernel
theorem dX2_addLoad_24 : decode cX2_addLoad 24 = .ok (.iaload, 1) := by decide +kernel
theorem dX2_addLoad_25 : decode cX2_addLoad 25 = .ok (.iload_n 3, 1) := by decide +kernel
theorem dX2_addLoad_26 : decode cX2_addLoad 26 = .ok (.iadd, 1) := by decide +kernel
theorem dX2_addLoad_27 : decode cX2_addLoad 27 = .ok (.iastore, 1) := by decide +kernel
theorem dX2_addLoad_28 : decode cX2_addLoad 28 = .ok (.aload_n 0, 1) := by decide +kernel
theorem dX2_addLoad_29 : decode cX2_addLoad 29 = .ok (.getfield 18, 3) := by decide +kernel
theorem dX2_addLoad_32 : decode cX2_addLoad 32 = .ok (.iload_n 1, 1) := by decide +kernel
theorem dX2_addLoad_33 : decode cX2_addLoad 33 = .ok (.dup2, 1) := by decide +kernel
theorem dX2_addLoad_34 : decode cX2_addLoad 34 = .ok (.iaload, 1) := by decide +kernel
theorem dX2_addLoad_35 : decode cX2_addLoad 35 = .ok (.iconst 1, 1) := by decide +kernel
theorem dX2_addLoad_36 : decode cX2_addLoad 36 = .ok (.iadd, 1) := by decide +kernel
theorem dX2_addLoad_37 : decode cX2_addLoad 37 = .ok (.iastore, 1) := by decide +kernel
theorem dX2_addLoad_38 : decode cX2_addLoad 38 = .ok (.aload_n 0, 1) := by decide +kernel
theorem dX2_addLoad_39 : decode cX2_addLoad 39 = .ok (.getfield 18, 3) := by decide +kernel
theorem dX2_addLoad_42 : decode cX2_addLoad 42 = .ok (.iload_n 1, 1) := by decide +kernel
theorem dX2_addLoad_43 : decode cX2_addLoad 43 = .ok (.iaload, 1) := by decide +kernel
theorem dX2_addLoad_44 : decode cX2_addLoad 44 = .ok (.ireturn, 1) := by decide +kernel
theorem dX2_isOnePlace_0 : decode cX2_isOnePlace 0 = .ok (.aload_n 0, 1) := by decide +kernel
theorem dX2_isOnePlace_1 : decode cX2_isOnePlace 1 = .ok (.getfield 9, 3) := by decide +kernel
theorem dX2_isOnePlace_4 : decode cX2_isOnePlace 4 = .ok (.iconst 2, 1) := by decide +kernel
theorem dX2_isOnePlace_5 : decode cX2_isOnePlace 5 = .ok (.iload_n 1, 1) := by decide +kernel
theorem dX2_isOnePlace_6 : decode cX2_isOnePlace 6 = .ok (.imul, 1) := by decide +kernel
theorem dX2_isOnePlace_7 : decode cX2_isOnePlace 7 = .ok (.iconst 0, 1) := by decide +kernel
theorem dX2_isOnePlace_8 : decode cX2_isOnePlace 8 = .ok (.iadd, 1) := by decide +kernel
theorem dX2_isOnePlace_9 : decode cX2_isOnePlace 9 = .ok (.iaload, 1) := by decide +kernel
theorem dX2_isOnePlace_10 : decode cX2_isOnePlace 10 = .ok (.aload_n 0, 1) := by decide +kernel
theorem dX2_isOnePlace_11 : decode cX2_isOnePlace 11 = .ok (.getfield 9, 3) := by decide +kernel
theorem dX2_isOnePlace_14 : decode cX2_isOnePlace 14 = .ok (.iconst 2, 1) := by decide +kernel
theorem dX2_isOnePlace_15 : decode cX2_isOnePlace 15 = .ok (.iload_n 2, 1) := by decide +kernel
theorem dX2_isOnePlace_16 : decode cX2_isOnePlace 16 = .ok (.imul, 1) := by decide +kernel
theorem dX2_isOnePlace_17 : decode cX2_isOnePlace 17 = .ok (.iconst 0, 1) := by decide +kernel
theorem dX2_isOnePlace_18 : decode cX2_isOnePlace 18 = .ok (.iadd, 1) := by decide +kernel
theorem dX2_isOnePlace_19 : decode cX2_isOnePlace 19 = .ok (.iaload, 1) := by decide +kernel
theorem dX2_isOnePlace_20 : decode cX2_isOnePlace 20 = .ok (.if_icmp .ne 30, 3) := by decide +kernel
theorem dX2_isOnePlace_23 : decode cX2_isOnePlace 23 = .ok (.aload_n 0, 1) := by decide +kernel
theorem dX2_isOnePlace_24 : decode cX2_isOnePlace 24 = .ok (.getfield 9, 3) := by decide +kernel
theorem dX2_isOnePlace_27 : decode cX2_isOnePlace 27 = .ok (.iconst 2, 1) := by decide +kernel
theorem dX2_isOnePlace_28 : decode cX2_isOnePlace 28 = .ok (.iload_n 1, 1) := by decide +kernel
theorem dX2_isOnePlace_29 : decode cX2_isOnePlace 29 = .ok (.imul, 1) := by decide +kernel
theorem dX2_isOnePlace_30 : decode cX2_isOnePlace 30 = .ok (.iconst 1, 1) := by decide +kernel
theorem dX2_isOnePlace_31 : decode cX2_isOnePlace 31 = .ok (.iadd, 1) := by decide +kernel
theorem dX2_isOnePlace_32 : decode cX2_isOnePlace 32 = .ok (.iaload, 1) := by decide +kernel
theorem dX2_isOnePlace_33 : decode cX2_isOnePlace 33 = .ok (.aload_n 0, 1) := by decide +kernel
theorem dX2_isOnePlace_34 : decode cX2_isOnePlace 34 = .ok (.getfield 9, 3) := by decide +kernel
theorem dX2_isOnePlace_37 : decode cX2_isOnePlace 37 = .ok (.iconst 2, 1) := by decide +kernel
theorem dX2_isOnePlace_38 : decode cX2_isOnePlace 38 = .ok (.iload_n 2, 1) := by decide +kernel
theorem dX2_isOnePlace_39 : decode cX2_isOnePlace 39 = .ok (.imul, 1) := by decide +kernel
theorem dX2_isOnePlace_40 : decode cX2_isOnePlace 40 = .ok (.iconst 1, 1) := by decide +kernel
theorem dX2_isOnePlace_41 : decode cX2_isOnePlace 41 = .ok (.iadd, 1) := by decide +kernel
theorem dX2_isOnePlace_42 : decode cX2_isOnePlace 42 = .ok (.iaload, 1) := by decide +kernel
theorem dX2_isOnePlace_43 : decode cX2_isOnePlace 43 = .ok (.if_icmp .ne 7, 3) := by decide +kernel
theorem dX2_isOnePlace_46 : decode cX2_isOnePlace 46 = .ok (.iconst 1, 1) := by decide +kernel
theorem dX2_isOnePlace_47 : decode cX2_isOnePlace 47 = .ok (.goto 4, 3) := by decide +kernel
theorem dX2_isOnePlace_50 : decode cX2_isOnePlace 50 = .ok (.iconst 0, 1) := by decide +kernel
theorem dX2_isOnePlace_51 : decode cX2_isOnePlace 51 = .ok (.ireturn, 1) := by decide +kernel
theorem dX2_isBorne_0 : decode cX2_isBorne 0 = .ok (.aload_n 0, 1) := by decide +kernel
theorem dX2_isBorne_1 : decode cX2_isBorne 1 = .ok (.getfield 21, 3) := by decide +kernel
theorem dX2_isBorne_4 : decode cX2_isBorne 4 = .ok (.iload_n 1, 1) := by decide +kernel
theorem dX2_isBorne_5 : decode cX2_isBorne 5 = .ok (.caload, 1) := by decide +kernel
theorem dX2_isBorne_6 : decode cX2_isBorne 6 = .ok (.bipush 112, 2) := by decide +kernel
theorem dX2_isBorne_8 : decode cX2_isBorne 8 = .ok (.if_icmp .eq 19, 3) := by decide +kernel
theorem dX2_isBorne_11 : decode cX2_isBorne 11 = .ok (.aload_n 0, 1) := by decide +kernel
theorem dX2_isBorne_12 : decode cX2_isBorne 12 = .ok (.getfield 21, 3) := by decide +kernel
theorem dX2_isBorne_15 : decode cX2_isBorne 15 = .ok (.iload_n 1, 1) := by decide +kernel
theorem dX2_isBorne_16 : decode cX2_isBorne 16 = .ok (.caload, 1) := by decide +kernel
theorem dX2_isBorne_17 : decode cX2_isBorne 17 = .ok (.bipush 114, 2) := by decide +kernel
theorem dX2_isBorne_19 : decode cX2_isBorne 19 = .ok (.if_icmp .ne 12, 3) := by decide +kernel
theorem dX2_isBorne_22 : decode cX2_isBorne 22 = .ok (.iload_n 2, 1) := by decide +kernel
theorem dX2_isBorne_23 : decode cX2_isBorne 23 = .ok (.iconst 1, 1) := by decide +kernel
theorem dX2_isBorne_24 : decode cX2_isBorne 24 = .ok (.if_icmp .ne 7, 3) := by decide +kernel
theorem dX2_isBorne_27 : decode cX2_isBorne 27 = .ok (.iconst 1, 1) := by decide +kernel
theorem dX2_isBorne_28 : decode cX2_isBorne 28 = .ok (.goto 4, 3) := by decide +kernel
theorem dX2_isBorne_31 : decode cX2_isBorne 31 = .ok (.iconst 0, 1) := by decide +kernel
theorem dX2_isBorne_32 : decode cX2_isBorne 32 = .ok (.ireturn, 1) := by decide +kernel
theorem dX2_otherEnd_0 : decode cX2_otherEnd 0 = .ok (.aload_n 0, 1) := by decide +kernel
theorem dX2_otherEnd_1 : decode cX2_otherEnd 1 = .ok (.getfield 25, 3) := by decide +kernel
theorem dX2_otherEnd_4 : decode cX2_otherEnd 4 = .ok (.iload_n 1, 1) := by decide +kernel
theorem dX2_otherEnd_5 : decode cX2_otherEnd 5 = .ok (.iaload, 1) := by decide +kernel
theorem dX2_otherEnd_6 : decode cX2_otherEnd 6 = .ok (.iload_n 2, 1) := by decide +kernel
theorem dX2_otherEnd_7 : decode cX2_otherEnd 7 = .ok (.if_icmp .ne 10, 3) := by decide +kernel
theorem dX2_otherEnd_10 : decode cX2_otherEnd 10 = .ok (.aload_n 0, 1) := by decide +kernel
theorem dX2_otherEnd_11 : decode cX2_otherEnd 11 = .ok (.getfield 28, 3) := by decide +kernel
theorem dX2_otherEnd_14 : decode cX2_otherEnd 14 = .ok (.iload_n 1, 1) := by decide +kernel
theorem dX2_otherEnd_15 : decode cX2_otherEnd 15 = .ok (.iaload, 1) := by decide +kernel
theorem dX2_otherEnd_16 : decode cX2_otherEnd 16 = .ok (.ireturn, 1) := by decide +kernel
theorem dX2_otherEnd_17 : decode cX2_otherEnd 17 = .ok (.aload_n 0, 1) := by decide +kernel
theorem dX2_otherEnd_18 : decode cX2_otherEnd 18 = .ok (.getfield 28, 3) := by decide +kernel
theorem dX2_otherEnd_21 : decode cX2_otherEnd 21 = .ok (.iload_n 1, 1) := by decide +kernel
theorem dX2_otherEnd_22 : decode cX2_otherEnd 22 = .ok (.iaload, 1) := by decide +kernel
theorem dX2_otherEnd_23 : decode cX2_otherEnd 23 = .ok (.iload_n 2, 1) := by decide +kernel
theorem dX2_otherEnd_24 : decode cX2_otherEnd 24 = .ok (.if_icmp .ne 12, 3) := by decide +kernel
theorem dX2_otherEnd_27 : decode cX2_otherEnd 27 = .ok (.aload_n 0, 1) := by decide +kernel
theorem dX2_otherEnd_28 : decode cX2_otherEnd 28 = .ok (.getfield 25, 3) := by decide +kernel
theorem dX2_otherEnd_31 : decode cX2_otherEnd 31 = .ok (.iload_n 1, 1) := by decide +kernel
theorem dX2_otherEnd_32 : decode cX2_otherEnd 32 = .ok (.iaload, 1) := by decide +kernel
theorem dX2_otherEnd_33 : decode cX2_otherEnd 33 = .ok (.goto 4, 3) := by decide +kernel
theorem dX2_otherEnd_36 : decode cX2_otherEnd 36 = .ok (.iconst (-1), 1) := by decide +kernel
theorem dX2_otherEnd_37 : decode cX2_otherEnd 37 = .ok (.ireturn, 1) := by decide +kernel
theorem dX2_haveCommonNode_0 : decode cX2_haveCommonNode 0 = .ok (.aload_n 0, 1) := by decide +kernel
theorem dX2_haveCommonNode_1 : decode cX2_haveCommonNode 1 = .ok (.iload_n 1, 1) := by decide +kernel
theorem dX2_haveCommonNode_2 : decode cX2_haveCommonNode 2 = .ok (.aload_n 0, 1) := by decide +kernel
theorem dX2_haveCommonNode_3 : decode cX2_haveCommonNode 3 = .ok (.getfield 25, 3) := by decide +kernel
theorem dX2_haveCommonNode_6 : decode cX2_haveCommonNode 6 = .ok (.iload_n 2, 1) := by decide +kernel
theorem dX2_haveCommonNode_7 : decode cX2_haveCommonNode 7 = .ok (.iaload, 1) := by decide +kernel
theorem dX2_haveCommonNode_8 : decode cX2_haveCommonNode 8 = .ok (.invokevirtual 50, 3) := by decide +kernel
theorem dX2_haveCommonNode_11 : decode cX2_haveCommonNode 11 = .ok (.ifCond .ge 17, 3) := by decide +kernel
theorem dX2_haveCommonNode_14 : decode cX2_haveCommonNode 14 = .ok (.aload_n 0, 1) := by decide +kernel
theorem dX2_haveCommonNode_15 : decode cX2_haveCommonNode 15 = .ok (.iload_n 1, 1) := by decide +kernel
theorem dX2_haveCommonNode_16 : decode cX2_haveCommonNode 16 = .ok (.aload_n 0, 1) := by decide +kernel
theorem dX2_haveCommonNode_17 : decode cX2_haveCommonNode 17 = .ok (.getfield 28, 3) := by decide +kernel
theorem dX2_haveCommonNode_20 : decode cX2_haveCommonNode 20 = .ok (.iload_n 2, 1) := by decide +kernel
theorem dX2_haveCommonNode_21 : decode cX2_haveCommonNode 21 = .ok (.iaload, 1) := by decide +kernel
theorem dX2_haveCommonNode_22 : decode cX2_haveCommonNode 22 = .ok (.invokevirtual 50, 3) := by decide +kernel
theorem dX2_haveCommonNode_25 : decode cX2_haveCommonNode 25 = .ok (.ifCond .lt 7, 3) := by decide +kernel
theorem dX2_haveCommonNode_28 : decode cX2_haveCommonNode 28 = .ok (.iconst 1, 1) := by decide +kernel
theorem dX2_haveCommonNode_29 : decode cX2_haveCommonNode 29 = .ok (.goto 4, 3) := by decide +kernel
theorem dX2_haveCommonNode_32 : decode cX2_haveCommonNode 32 = .ok (.iconst 0, 1) := by decide +kernel
theorem dX2_haveCommonNode_33 : decode cX2_haveCommonNode 33 = .ok (.ireturn, 1) := by decide +kernel
theorem dX2_wayAlong_0 : decode cX2_wayAlong 0 = .ok (.aload_n 0, 1) := by decide +kernel
theorem dX2_wayAlong_1 : decode cX2_wayAlong 1 = .ok (.iload_n 1, 1) := by decide +kernel
theorem dX2_wayAlong_2 : decode cX2_wayAlong 2 = .ok (.iload_n 2, 1) := by decide +kernel
theorem dX2_wayAlong_3 : decode cX2_wayAlong 3 = .ok (.invokevirtual 50, 3) := by decide +kernel
theorem dX2_wayAlong_6 : decode cX2_wayAlong 6 = .ok (.istore 4, 2) := by decide +kernel
theorem dX2_wayAlong_8 : decode cX2_wayAlong 8 = .ok (.iload 4, 2) := by decide +kernel
theorem dX2_wayAlong_10 : decode cX2_wayAlong 10 = .ok (.ifCond .ge 7, 3) := by decide +kernel
theorem dX2_wayAlong_13 : decode cX2_wayAlong 13 = .ok (.iconst 0, 1) := by decide +kernel
theorem dX2_wayAlong_14 : decode cX2_wayAlong 14 = .ok (.goto 25, 3) := by decide +kernel
theorem dX2_wayAlong_17 : decode cX2_wayAlong 17 = .ok (.aload_n 0, 1) := by decide +kernel
theorem dX2_wayAlong_18 : decode cX2_wayAlong 18 = .ok (.getfield 9, 3) := by decide +kernel
theorem dX2_wayAlong_21 : decode cX2_wayAlong 21 = .ok (.iconst 2, 1) := by decide +kernel
theorem dX2_wayAlong_22 : decode cX2_wayAlong 22 = .ok (.iload 4, 2) := by decide +kernel
theorem dX2_wayAlong_24 : decode cX2_wayAlong 24 = .ok (.imul, 1) := by decide +kernel
theorem dX2_wayAlong_25 : decode cX2_wayAlong 25 = .ok (.iload_n 3, 1) := by decide +kernel
theorem dX2_wayAlong_26 : decode cX2_wayAlong 26 = .ok (.iadd, 1) := by decide +kernel
theorem dX2_wayAlong_27 : decode cX2_wayAlong 27 = .ok (.iaload, 1) := by decide +kernel
theorem dX2_wayAlong_28 : decode cX2_wayAlong 28 = .ok (.aload_n 0, 1) := by decide +kernel
theorem dX2_wayAlong_29 : decode cX2_wayAlong 29 = .ok (.getfield 9, 3) := by decide +kernel
theorem dX2_wayAlong_32 : decode cX2_wayAlong 32 = .ok (.iconst 2, 1) := by decide +kernel
theorem dX2_wayAlong_33 : decode cX2_wayAlong 33 = .ok (.iload_n 2, 1) := by decide +kernel
theorem dX2_wayAlong_34 : decode cX2_wayAlong 34 = .ok (.imul, 1) := by decide +kernel
theorem dX2_wayAlong_35 : decode cX2_wayAlong 35 = .ok (.iload_n 3, 1) := by decide +kernel
theorem dX2_wayAlong_36 : decode cX2_wayAlong 36 = .ok (.iadd, 1) := by decide +kernel
theorem dX2_wayAlong_37 : decode cX2_wayAlong 37 = .ok (.iaload, 1) := by decide +kernel
theorem dX2_wayAlong_38 : decode cX2_wayAlong 38 = .ok (.isub, 1) := by decide +kernel
theorem dX2_wayAlong_39 : decode cX2_wayAlong 39 = .ok (.ireturn, 1) := by decide +kernel
theorem dX2_lengthSquare_0 : decode cX2_lengthSquare 0 = .ok (.iconst 2, 1) := by decide +kernel
theorem dX2_lengthSquare_1 : decode cX2_lengthSquare 1 = .ok (.aload_n 0, 1) := by decide +kernel
theorem dX2_lengthSquare_2 : decode cX2_lengthSquare 2 = .ok (.getfield 25, 3) := by decide +kernel
theorem dX2_lengthSquare_5 : decode cX2_lengthSquare 5 = .ok (.iload_n 1, 1) := by decide +kernel
theorem dX2_lengthSquare_6 : decode cX2_lengthSquare 6 = .ok (.iaload, 1) := by decide +kernel
theorem dX2_lengthSquare_7 : decode cX2_lengthSquare 7 = .ok (.imul, 1) := by decide +kernel
theorem dX2_lengthSquare_8 : decode cX2_lengthSquare 8 = .ok (.istore_n 2, 1) := by decide +kernel
theorem dX2_lengthSquare_9 : decode cX2_lengthSquare 9 = .ok (.iconst 2, 1) := by decide +kernel
theorem dX2_lengthSquare_10 : decode cX2_lengthSquare 10 = .ok (.aload_n 0, 1) := by decide +kernel
theorem dX2_lengthSquare_11 : decode cX2_lengthSquare 11 = .ok (.getfield 28, 3) := by decide +kernel
theorem dX2_lengthSquare_14 : decode cX2_lengthSquare 14 = .ok (.iload_n 1, 1) := by decide +kernel
theorem dX2_lengthSquare_15 : decode cX2_lengthSquare 15 = .ok (.iaload, 1) := by decide +kernel
theorem dX2_lengthSquare_16 : decode cX2_lengthSquare 16 = .ok (.imul, 1) := by decide +kernel
theorem dX2_lengthSquare_17 : decode cX2_lengthSquare 17 = .ok (.istore_n 3, 1) := by decide +kernel
theorem dX2_lengthSquare_18 : decode cX2_lengthSquare 18 = .ok (.aload_n 0, 1) := by decide +kernel
theorem dX2_lengthSquare_19 : decode cX2_lengthSquare 19 = .ok (.getfield 9, 3) := by decide +kernel
theorem dX2_lengthSquare_22 : decode cX2_lengthSquare 22 = .ok (.iload_n 3, 1) := by decide +kernel
theorem dX2_lengthSquare_23 : decode cX2_lengthSquare 23 = .ok (.iconst 0, 1) := by decide +kernel
theorem dX2_lengthSquare_24 : decode cX2_lengthSquare 24 = .ok (.iadd, 1) := by decide +kernel
theorem dX2_lengthSquare_25 : decode cX2_lengthSquare 25 = .ok (.iaload, 1) := by decide +kernel
theorem dX2_lengthSquare_26 : decode cX2_lengthSquare 26 = .ok (.aload_n 0, 1) := by decide +kernel
theorem dX2_lengthSquare_27 : decode cX2_lengthSquare 27 = .ok (.getfield 9, 3) := by decide +kernel
theorem dX2_lengthSquare_30 : decode cX2_lengthSquare 30 = .ok (.iload_n 2, 1) := by decide +kernel
theorem dX2_lengthSquare_31 : decode cX2_lengthSquare 31 = .ok (.iconst 0, 1) := by decide +kernel
theorem dX2_lengthSquare_32 : decode cX2_lengthSquare 32 = .ok (.iadd, 1) := by decide +kernel
theorem dX2_lengthSquare_33 : decode cX2_lengthSquare 33 = .ok (.iaload, 1) := by decide +kernel
theorem dX2_lengthSquare_34 : decode cX2_lengthSquare 34 = .ok (.isub, 1) := by decide +kernel
theorem dX2_lengthSquare_35 : decode cX2_lengthSquare 35 = .ok (.istore 4, 2) := by decide +kernel
theorem dX2_lengthSquare_37 : decode cX2_lengthSquare 37 = .ok (.aload_n 0, 1) := by decide +kernel
theorem dX2_lengthSquare_38 : decode cX2_lengthSquare 38 = .ok (.getfield 9, 3) := by decide +kernel
theorem dX2_lengthSquare_41 : decode cX2_lengthSquare 41 = .ok (.iload_n 3, 1) := by decide +kernel
theorem dX2_lengthSquare_42 : decode cX2_lengthSquare 42 = .ok (.iconst 1, 1) := by decide +kernel
theorem dX2_lengthSquare_43 : decode cX2_lengthSquare 43 = .ok (.iadd, 1) := by decide +kernel
theorem dX2_lengthSquare_44 : decode cX2_lengthSquare 44 = .ok (.iaload, 1) := by decide +kernel
theorem dX2_lengthSquare_45 : decode cX2_lengthSquare 45 = .ok (.aload_n 0, 1) := by decide +kernel
theorem dX2_lengthSquare_46 : decode cX2_lengthSquare 46 = .ok (.getfield 9, 3) := by decide +kernel
theorem dX2_lengthSquare_49 : decode cX2_lengthSquare 49 = .ok (.iload_n 2, 1) := by decide +kernel
theorem dX2_lengthSquare_50 : decode cX2_lengthSquare 50 = .ok (.iconst 1, 1) := by decide +kernel
theorem dX2_lengthSquare_51 : decode cX2_lengthSquare 51 = .ok (.iadd, 1) := by decide +kernel
theorem dX2_lengthSquare_52 : decode cX2_lengthSquare 52 = .ok (.iaload, 1) := by decide +kernel
theorem dX2_lengthSquare_53 : decode cX2_lengthSquare 53 = .ok (.isub, 1) := by decide +kernel
theorem dX2_lengthSquare_54 : decode cX2_lengthSquare 54 = .ok (.istore 5, 2) := by decide +kernel
theorem dX2_lengthSquare_56 : decode cX2_lengthSquare 56 = .ok (.iload 4, 2) := by decide +kernel
theorem dX2_lengthSquare_58 : decode cX2_lengthSquare 58 = .ok (.iload 4, 2) := by decide +kernel
theorem dX2_lengthSquare_60 : decode cX2_lengthSquare 60 = .ok (.imul, 1) := by decide +kernel
theorem dX2_lengthSquare_61 : decode cX2_lengthSquare 61 = .ok (.iload 5, 2) := by decide +kernel
theorem dX2_lengthSquare_63 : decode cX2_lengthSquare 63 = .ok (.iload 5, 2) := by decide +kernel
theorem dX2_lengthSquare_65 : decode cX2_lengthSquare 65 = .ok (.imul, 1) := by decide +kernel
theorem dX2_lengthSquare_66 : decode cX2_lengthSquare 66 = .ok (.iadd, 1) := by decide +kernel
theorem dX2_lengthSquare_67 : decode cX2_lengthSquare 67 = .ok (.ireturn, 1) := by decide +kernel
theorem dX2_isOnGround_0 : decode cX2_isOnGround 0 = .ok (.aload_n 0, 1) := by decide +kernel
theorem dX2_isOnGround_1 : decode cX2_isOnGround 1 = .ok (.getfield 21, 3) := by decide +kernel
theorem dX2_isOnGround_4 : decode cX2_isOnGround 4 = .ok (.aload_n 0, 1) := by decide +kernel
theorem dX2_isOnGround_5 : decode cX2_isOnGround 5 = .ok (.getfield 25, 3) := by decide +kernel
theorem dX2_isOnGround_8 : decode cX2_isOnGround 8 = .ok (.iload_n 1, 1) := by decide +kernel
theorem dX2_isOnGround_9 : decode cX2_isOnGround 9 = .ok (.iaload, 1) := by decide +kernel
theorem dX2_isOnGround_10 : decode cX2_isOnGround 10 = .ok (.caload, 1) := by decide +kernel
theorem dX2_isOnGround_11 : decode cX2_isOnGround 11 = .ok (.bipush 45, 2) := by decide +kernel
theorem dX2_isOnGround_13 : decode cX2_isOnGround 13 = .ok (.if_icmp .ne 19, 3) := by decide +kernel
theorem dX2_isOnGround_16 : decode cX2_isOnGround 16 = .ok (.aload_n 0, 1) := by decide +kernel
theorem dX2_isOnGround_17 : decode cX2_isOnGround 17 = .ok (.getfield 21, 3) := by decide +kernel
theorem dX2_isOnGround_20 : decode cX2_isOnGround 20 = .ok (.aload_n 0, 1) := by decide +kernel
theorem dX2_isOnGround_21 : decode cX2_isOnGround 21 = .ok (.getfield 28, 3) := by decide +kernel
theorem dX2_isOnGround_24 : decode cX2_isOnGround 24 = .ok (.iload_n 1, 1) := by decide +kernel
theorem dX2_isOnGround_25 : decode cX2_isOnGround 25 = .ok (.iaload, 1) := by decide +kernel
theorem dX2_isOnGround_26 : decode cX2_isOnGround 26 = .ok (.caload, 1) := by decide +kernel
theorem dX2_isOnGround_27 : decode cX2_isOnGround 27 = .ok (.bipush 45, 2) := by decide +kernel
theorem dX2_isOnGround_29 : decode cX2_isOnGround 29 = .ok (.if_icmp .eq 7, 3) := by decide +kernel
theorem dX2_isOnGround_32 : decode cX2_isOnGround 32 = .ok (.iconst 1, 1) := by decide +kernel
theorem dX2_isOnGround_33 : decode cX2_isOnGround 33 = .ok (.goto 4, 3) := by decide +kernel
theorem dX2_isOnGround_36 : decode cX2_isOnGround 36 = .ok (.iconst 0, 1) := by decide +kernel
theorem dX2_isOnGround_37 : decode cX2_isOnGround 37 = .ok (.ireturn, 1) := by decide +kernel
theorem dX3_init_0 : decode cX3_init 0 = .ok (.aload_n 0, 1) := by decide +kernel
theorem dX3_init_1 : decode cX3_init 1 = .ok (.invokespecial 3, 3) := by decide +kernel
theorem dX3_init_4 : decode cX3_init 4 = .ok (.aload_n 0, 1) := by decide +kernel
theorem dX3_init_5 : decode cX3_init 5 = .ok (.bipush 12, 2) := by decide +kernel
theorem dX3_init_7 : decode cX3_init 7 = .ok (.newarray .int, 2) := by decide +kernel
theorem dX3_init_9 : decode cX3_init 9 = .ok (.putfield 9, 3) := by decide +kernel
theorem dX3_init_12 : decode cX3_init 12 = .ok (.aload_n 0, 1) := by decide +kernel
theorem dX3_init_13 : decode cX3_init 13 = .ok (.bipush 12, 2) := by decide +kernel
theorem dX3_init_15 : decode cX3_init 15 = .ok (.newarray .int, 2) := by decide +kernel
theorem dX3_init_17 : decode cX3_init 17 = .ok (.putfield 15, 3) := by decide +kernel
theorem dX3_init_20 : decode cX3_init 20 = .ok (.aload_n 0, 1) := by decide +kernel
theorem dX3_init_21 : decode cX3_init 21 = .ok (.bipush 12, 2) := by decide +kernel
theorem dX3_init_23 : decode cX3_init 23 = .ok (.newarray .int, 2) := by decide +kernel
theorem dX3_init_25 : decode cX3_init 25 = .ok (.putfield 18, 3) := by decide +kernel
theorem dX3_init_28 : decode cX3_init 28 = .ok (.aload_n 0, 1) := by decide +kernel
theorem dX3_init_29 : decode cX3_init 29 = .ok (.bipush 12, 2) := by decide +kernel
theorem dX3_init_31 : decode cX3_init 31 = .ok (.newarray .int, 2) := by decide +kernel
theorem dX3_init_33 : decode cX3_init 33 = .ok (.putfield 21, 3) := by decide +kernel
theorem dX3_init_36 : decode cX3_init 36 = .ok (.aload_n 0, 1) := by decide +kernel
theorem dX3_init_37 : decode cX3_init 37 = .ok (.bipush 12, 2) := by decide +kernel
theorem dX3_init_39 : decode cX3_init 39 = .ok (.newarray .int, 2) := by decide +kernel
theorem dX3_init_41 : decode cX3_init 41 = .ok (.putfield 24, 3) := by decide +kernel
theorem dX3_init_44 : decode cX3_init 44 = .ok (.return_, 1) := by decide +kernel
theorem dX3_wayIndex_0 : decode cX3_wayIndex 0 = .ok (.ldc 27, 2) := by decide +kernel
theorem dX3_wayIndex_2 : decode cX3_wayIndex 2 = .ok (.iload_n 1, 1) := by decide +kernel
theorem dX3_wayIndex_3 : decode cX3_wayIndex 3 = .ok (.invokevirtual 29, 3) := by decide +kernel
theorem dX3_wayIndex_6 : decode cX3_wayIndex 6 = .ok (.ireturn, 1) := by decide +kernel
theorem dX3_add_0 : decode cX3_add 0 = .ok (.aload_n 0, 1) := by decide +kernel
theorem dX3_add_1 : decode cX3_add 1 = .ok (.getfield 35, 3) := by decide +kernel
theorem dX3_add_4 : decode cX3_add 4 = .ok (.istore 6, 2) := by decide +kernel
theorem dX3_add_6 : decode cX3_add 6 = .ok (.aload_n 0, 1) := by decide +kernel
theorem dX3_add_7 : decode cX3_add 7 = .ok (.getfield 9, 3) := by decide +kernel
theorem dX3_add_10 : decode cX3_add 10 = .ok (.iload 6, 2) := by decide +kernel
theorem dX3_add_12 : decode cX3_add 12 = .ok (.iload_n 1, 1) := by decide +kernel
theorem dX3_add_13 : decode cX3_add 13 = .ok (.iastore, 1) := by decide +kernel
theorem dX3_add_14 : decode cX3_add 14 = .ok (.aload_n 0, 1) := by decide +kernel
theorem dX3_add_15 : decode cX3_add 15 = .ok (.getfield 15, 3) := by decide +kernel
theorem dX3_add_18 : decode cX3_add 18 = .ok (.iload 6, 2) := by decide +kernel
theorem dX3_add_20 : decode cX3_add 20 = .ok (.iload_n 2, 1) := by decide +kernel
theorem dX3_add_21 : decode cX3_add 21 = .ok (.iastore, 1) := by decide +kernel
theorem dX3_add_22 : decode cX3_add 22 = .ok (.aload_n 0, 1) := by decide +kernel
theorem dX3_add_23 : decode cX3_add 23 = .ok (.getfield 18, 3) := by decide +kernel
theorem dX3_add_26 : decode cX3_add 26 = .ok (.iload 6, 2) := by decide +kernel
theorem dX3_add_28 : decode cX3_add 28 = .ok (.iload_n 3, 1) := by decide +kernel
theorem dX3_add_29 : decode cX3_add 29 = .ok (.iastore, 1) := by decide +kernel
theorem dX3_add_30 : decode cX3_add 30 = .ok (.aload_n 0, 1) := by decide +kernel
theorem dX3_add_31 : decode cX3_add 31 = .ok (.getfield 21, 3) := by decide +kernel
theorem dX3_add_34 : decode cX3_add 34 = .ok (.iload 6, 2) := by decide +kernel
theorem dX3_add_36 : decode cX3_add 36 = .ok (.iload 4, 2) := by decide +kernel
theorem dX3_add_38 : decode cX3_add 38 = .ok (.iastore, 1) := by decide +kernel
theorem dX3_add_39 : decode cX3_add 39 = .ok (.aload_n 0, 1) := by decide +kernel
theorem dX3_add_40 : decode cX3_add 40 = .ok (.getfield 24, 3) := by decide +kernel
theorem dX3_add_43 : decode cX3_add 43 = .ok (.iload 6, 2) := by decide +kernel
theorem dX3_add_45 : decode cX3_add 45 = .ok (.iload 5, 2) := by decide +kernel
theorem dX3_add_47 : decode cX3_add 47 = .ok (.iastore, 1) := by decide +kernel
theorem dX3_add_48 : decode cX3_add 48 = .ok (.aload_n 0, 1) := by decide +kernel
theorem dX3_add_49 : decode cX3_add 49 = .ok (.iload 6, 2) := by decide +kernel
theorem dX3_add_51 : decode cX3_add 51 = .ok (.iconst 1, 1) := by decide +kernel
theorem dX3_add_52 : decode cX3_add 52 = .ok (.iadd, 1) := by decide +kernel
theorem dX3_add_53 : decode cX3_add 53 = .ok (.putfield 35, 3) := by decide +kernel
theorem dX3_add_56 : decode cX3_add 56 = .ok (.iload 6, 2) := by decide +kernel
theorem dX3_add_58 : decode cX3_add 58 = .ok (.ireturn, 1) := by decide +kernel
theorem dX3_areJoined_0 : decode cX3_areJoined 0 = .ok (.iconst 0, 1) := by decide +kernel
theorem dX3_areJoined_1 : decode cX3_areJoined 1 = .ok (.istore_n 3, 1) := by decide +kernel
theorem dX3_areJoined_2 : decode cX3_areJoined 2 = .ok (.iload_n 3, 1) := by decide +kernel
theorem dX3_areJoined_3 : decode cX3_areJoined 3 = .ok (.aload_n 0, 1) := by decide +kernel
theorem dX3_areJoined_4 : decode cX3_areJoined 4 = .ok (.getfield 35, 3) := by decide +kernel
theorem dX3_areJoined_7 : decode cX3_areJoined 7 = .ok (.if_icmp .ge 21, 3) := by decide +kernel
theorem dX3_areJoined_10 : decode cX3_areJoined 10 = .ok (.aload_n 0, 1) := by decide +kernel
theorem dX3_areJoined_11 : decode cX3_areJoined 11 = .ok (.iload_n 3, 1) := by decide +kernel
theorem dX3_areJoined_12 : decode cX3_areJoined 12 = .ok (.iload_n 1, 1) := by decide +kernel
theorem dX3_areJoined_13 : decode cX3_areJoined 13 = .ok (.invokevirtual 39, 3) := by decide +kernel
theorem dX3_areJoined_16 : decode cX3_areJoined 16 = .ok (.iload_n 2, 1) := by decide +kernel
theorem dX3_areJoined_17 : decode cX3_areJoined 17 = .ok (.if_icmp .ne 5, 3) := by decide +kernel
theorem dX3_areJoined_20 : decode cX3_areJoined 20 = .ok (.iconst 1, 1) := by decide +kernel
theorem dX3_areJoined_21 : decode cX3_areJoined 21 = .ok (.ireturn, 1) := by decide +kernel
theorem dX3_areJoined_22 : decode cX3_areJoined 22 = .ok (.iinc 3 1, 3) := by decide +kernel
theorem dX3_areJoined_25 : decode cX3_areJoined 25 = .ok (.goto (-23), 3) := by decide +kernel
theorem dX3_areJoined_28 : decode cX3_areJoined 28 = .ok (.iconst 0, 1) := by decide +kernel
theorem dX3_areJoined_29 : decode cX3_areJoined 29 = .ok (.ireturn, 1) := by decide +kernel
theorem dX3_partner_0 : decode cX3_partner 0 = .ok (.aload_n 0, 1) := by decide +kernel
theorem dX3_partner_1 : decode cX3_partner 1 = .ok (.getfield 9, 3) := by decide +kernel
theorem dX3_partner_4 : decode cX3_partner 4 = .ok (.iload_n 1, 1) := by decide +kernel
theorem dX3_partner_5 : decode cX3_partner 5 = .ok (.iaload, 1) := by decide +kernel
theorem dX3_partner_6 : decode cX3_partner 6 = .ok (.iload_n 2, 1) := by decide +kernel
theorem dX3_partner_7 : decode cX3_partner 7 = .ok (.if_icmp .ne 10, 3) := by decide +kernel
theorem dX3_partner_10 : decode cX3_partner 10 = .ok (.aload_n 0, 1) := by decide +kernel
theorem dX3_partner_11 : decode cX3_partner 11 = .ok (.getfield 15, 3) := by decide +kernel
theorem dX3_partner_14 : decode cX3_partner 14 = .ok (.iload_n 1, 1) := by decide +kernel
theorem dX3_partner_15 : decode cX3_partner 15 = .ok (.iaload, 1) := by decide +kernel
theorem dX3_partner_16 : decode cX3_partner 16 = .ok (.ireturn, 1) := by decide +kernel
theorem dX3_partner_17 : decode cX3_partner 17 = .ok (.aload_n 0, 1) := by decide +kernel
theorem dX3_partner_18 : decode cX3_partner 18 = .ok (.getfield 15, 3) := by decide +kernel
theorem dX3_partner_21 : decode cX3_partner 21 = .ok (.iload_n 1, 1) := by decide +kernel
theorem dX3_partner_22 : decode cX3_partner 22 = .ok (.iaload, 1) := by decide +kernel
theorem dX3_partner_23 : decode cX3_partner 23 = .ok (.iload_n 2, 1) := by decide +kernel
theorem dX3_partner_24 : decode cX3_partner 24 = .ok (.if_icmp .ne 12, 3) := by decide +kernel
theorem dX3_partner_27 : decode cX3_partner 27 = .ok (.aload_n 0, 1) := by decide +kernel
theorem dX3_partner_28 : decode cX3_partner 28 = .ok (.getfield 9, 3) := by decide +kernel
theorem dX3_partner_31 : decode cX3_partner 31 = .ok (.iload_n 1, 1) := by decide +kernel
theorem dX3_partner_32 : decode cX3_partner 32 = .ok (.iaload, 1) := by decide +kernel
theorem dX3_partner_33 : decode cX3_partner 33 = .ok (.goto 4, 3) := by decide +kernel
theorem dX3_partner_36 : decode cX3_partner 36 = .ok (.iconst (-1), 1) := by decide +kernel
theorem dX3_partner_37 : decode cX3_partner 37 = .ok (.ireturn, 1) := by decide +kernel
theorem dX3_wayFor_0 : decode cX3_wayFor 0 = .ok (.aload_n 0, 1) := by decide +kernel
theorem dX3_wayFor_1 : decode cX3_wayFor 1 = .ok (.getfield 18, 3) := by decide +kernel
theorem dX3_wayFor_4 : decode cX3_wayFor 4 = .ok (.iload_n 1, 1) := by decide +kernel
theorem dX3_wayFor_5 : decode cX3_wayFor 5 = .ok (.iaload, 1) := by decide +kernel
theorem dX3_wayFor_6 : decode cX3_wayFor 6 = .ok (.istore_n 3, 1) := by decide +kernel
theorem dX3_wayFor_7 : decode cX3_wayFor 7 = .ok (.aload_n 0, 1) := by decide +kernel
theorem dX3_wayFor_8 : decode cX3_wayFor 8 = .ok (.getfield 9, 3) := by decide +kernel
theorem dX3_wayFor_11 : decode cX3_wayFor 11 = .ok (.iload_n 1, 1) := by decide +kernel
theorem dX3_wayFor_12 : decode cX3_wayFor 12 = .ok (.iaload, 1) := by decide +kernel
theorem dX3_wayFor_13 : decode cX3_wayFor 13 = .ok (.iload_n 2, 1) := by decide +kernel
theorem dX3_wayFor_14 : decode cX3_wayFor 14 = .ok (.if_icmp .eq 8, 3) := by decide +kernel
theorem dX3_wayFor_17 : decode cX3_wayFor 17 = .ok (.iload_n 3, 1) := by decide +kernel
theorem dX3_wayFor_18 : decode cX3_wayFor 18 = .ok (.iconst 4, 1) := by decide +kernel
theorem dX3_wayFor_19 : decode cX3_wayFor 19 = .ok (.if_icmp .ne 5, 3) := by decide +kernel
theorem dX3_wayFor_22 : decode cX3_wayFor 22 = .ok (.iload_n 3, 1) := by decide +kernel
theorem dX3_wayFor_23 : decode cX3_wayFor 23 = .ok (.ireturn, 1) := by decide +kernel
theorem dX3_wayFor_24 : decode cX3_wayFor 24 = .ok (.iload_n 3, 1) := by decide +kernel
theorem dX3_wayFor_25 : decode cX3_wayFor 25 = .ok (.iconst 1, 1) := by decide +kernel
theorem dX3_wayFor_26 : decode cX3_wayFor 26 = .ok (.ixor, 1) := by decide +kernel
theorem dX3_wayFor_27 : decode cX3_wayFor 27 = .ok (.ireturn, 1) := by decide +kernel
theorem dX3_joinsGoingIn_0 : decode cX3_joinsGoingIn 0 = .ok (.iconst 0, 1) := by decide +kernel
theorem dX3_joinsGoingIn_1 : decode cX3_joinsGoingIn 1 = .ok (.istore_n 2, 1) := by decide +kernel
theorem dX3_joinsGoingIn_2 : decode cX3_joinsGoingIn 2 = .ok (.iconst 0, 1) := by decide +kernel
theorem dX3_joinsGoingIn_3 : decode cX3_joinsGoingIn 3 = .ok (.istore_n 3, 1) := by decide +kernel
theorem dX3_joinsGoingIn_4 : decode cX3_joinsGoingIn 4 = .ok (.iload_n 3, 1) := by decide +kernel
theorem dX3_joinsGoingIn_5 : decode cX3_joinsGoingIn 5 = .ok (.aload_n 0, 1) := by decide +kernel
theorem dX3_joinsGoingIn_6 : decode cX3_joinsGoingIn 6 = .ok (.getfield 35, 3) := by decide +kernel
theorem dX3_joinsGoingIn_9 : decode cX3_joinsGoingIn 9 = .ok (.if_icmp .ge 27, 3) := by decide +kernel
theorem dX3_joinsGoingIn_12 : decode cX3_joinsGoingIn 12 = .ok (.iload_n 2, 1) := by decide +kernel
theorem dX3_joinsGoingIn_13 : decode cX3_joinsGoingIn 13 = .ok (.aload_n 0, 1) := by decide +kernel
theorem dX3_joinsGoingIn_14 : decode cX3_joinsGoingIn 14 = .ok (.getfield 9, 3) := by decide +kernel
theorem dX3_joinsGoingIn_17 : decode cX3_joinsGoingIn 17 = .ok (.iload_n 3, 1) := by decide +kernel
theorem dX3_joinsGoingIn_18 : decode cX3_joinsGoingIn 18 = .ok (.iaload, 1) := by decide +kernel
theorem dX3_joinsGoingIn_19 : decode cX3_joinsGoingIn 19 = .ok (.iload_n 1, 1) := by decide +kernel
theorem dX3_joinsGoingIn_20 : decode cX3_joinsGoingIn 20 = .ok (.if_icmp .ne 7, 3) := by decide +kernel
theorem dX3_joinsGoingIn_23 : decode cX3_joinsGoingIn 23 = .ok (.iconst 1, 1) := by decide +kernel
theorem dX3_joinsGoingIn_24 : decode cX3_joinsGoingIn 24 = .ok (.goto 4, 3) := by decide +kernel
theorem dX3_joinsGoingIn_27 : decode cX3_joinsGoingIn 27 = .ok (.iconst 0, 1) := by decide +kernel
theorem dX3_joinsGoingIn_28 : decode cX3_joinsGoingIn 28 = .ok (.iadd, 1) := by decide +kernel
theorem dX3_joinsGoingIn_29 : decode cX3_joinsGoingIn 29 = .ok (.istore_n 2, 1) := by decide +kernel
theorem dX3_joinsGoingIn_30 : decode cX3_joinsGoingIn 30 = .ok (.iinc 3 1, 3) := by decide +kernel
theorem dX3_joinsGoingIn_33 : decode cX3_joinsGoingIn 33 = .ok (.goto (-29), 3) := by decide +kernel
theorem dX3_joinsGoingIn_36 : decode cX3_joinsGoingIn 36 = .ok (.iload_n 2, 1) := by decide +kernel
theorem dX3_joinsGoingIn_37 : decode cX3_joinsGoingIn 37 = .ok (.ireturn, 1) := by decide +kernel
theorem dX3_isThinEnough_0 : decode cX3_isThinEnough 0 = .ok (.aload_n 2, 1) := by decide +kernel
theorem dX3_isThinEnough_1 : decode cX3_isThinEnough 1 = .ok (.getfield 43, 3) := by decide +kernel
theorem dX3_isThinEnough_4 : decode cX3_isThinEnough 4 = .ok (.aload_n 0, 1) := by decide +kernel
theorem dX3_isThinEnough_5 : decode cX3_isThinEnough 5 = .ok (.getfield 9, 3) := by decide +kernel
theorem dX3_isThinEnough_8 : decode cX3_isThinEnough 8 = .ok (.iload_n 1, 1) := by decide +kernel
theorem dX3_isThinEnough_9 : decode cX3_isThinEnough 9 = .ok (.iaload, 1) := by decide +kernel
theorem dX3_isThinEnough_10 : decode cX3_isThinEnough 10 = .ok (.iaload, 1) := by decide +kernel
theorem dX3_isThinEnough_11 : decode cX3_isThinEnough 11 = .ok (.istore_n 3, 1) := by decide +kernel
theorem dX3_isThinEnough_12 : decode cX3_isThinEnough 12 = .ok (.aload_n 2, 1) := by decide +kernel
theorem dX3_isThinEnough_13 : decode cX3_isThinEnough 13 = .ok (.getfield 43, 3) := by decide +kernel
theorem dX3_isThinEnough_16 : decode cX3_isThinEnough 16 = .ok (.aload_n 0, 1) := by decide +kernel
theorem dX3_isThinEnough_17 : decode cX3_isThinEnough 17 = .ok (.getfield 15, 3) := by decide +kernel
theorem dX3_isThinEnough_20 : decode cX3_isThinEnough 20 = .ok (.iload_n 1, 1) := by decide +kernel
theorem dX3_isThinEnough_21 : decode cX3_isThinEnough 21 = .ok (.iaload, 1) := by decide +kernel
theorem dX3_isThinEnough_22 : decode cX3_isThinEnough 22 = .ok (.iaload, 1) := by decide +kernel
theorem dX3_isThinEnough_23 : decode cX3_isThinEnough 23 = .ok (.istore 4, 2) := by decide +kernel
theorem dX3_isThinEnough_25 : decode cX3_isThinEnough 25 = .ok (.aload_n 0, 1) := by decide +kernel
theorem dX3_isThinEnough_26 : decode cX3_isThinEnough 26 = .ok (.getfield 21, 3) := by decide +kernel
theorem dX3_isThinEnough_29 : decode cX3_isThinEnough 29 = .ok (.iload_n 1, 1) := by decide +kernel
theorem dX3_isThinEnough_30 : decode cX3_isThinEnough 30 = .ok (.iaload, 1) := by decide +kernel
theorem dX3_isThinEnough_31 : decode cX3_isThinEnough 31 = .ok (.iload_n 3, 1) := by decide +kernel
theorem dX3_isThinEnough_32 : decode cX3_isThinEnough 32 = .ok (.iload 4, 2) := by decide +kernel
theorem dX3_isThinEnough_34 : decode cX3_isThinEnough 34 = .ok (.invokestatic 48, 3) := by decide +kernel
theorem dX3_isThinEnough_37 : decode cX3_isThinEnough 37 = .ok (.iconst 3, 1) := by decide +kernel
theorem dX3_isThinEnough_38 : decode cX3_isThinEnough 38 = .ok (.idiv, 1) := by decide +kernel
theorem dX3_isThinEnough_39 : decode cX3_isThinEnough 39 = .ok (.if_icmp .gt 7, 3) := by decide +kernel
theorem dX3_isThinEnough_42 : decode cX3_isThinEnough 42 = .ok (.iconst 1, 1) := by decide +kernel
theorem dX3_isThinEnough_43 : decode cX3_isThinEnough 43 = .ok (.goto 4, 3) := by decide +kernel
theorem dX3_isThinEnough_46 : decode cX3_isThinEnough 46 = .ok (.iconst 0, 1) := by decide +kernel
theorem dX3_isThinEnough_47 : decode cX3_isThinEnough 47 = .ok (.ireturn, 1) := by decide +kernel
theorem dX3_misreadMark_0 : decode cX3_misreadMark 0 = .ok (.iconst 0, 1) := by decide +kernel
theorem dX3_misreadMark_1 : decode cX3_misreadMark 1 = .ok (.istore_n 2, 1) := by decide +kernel
theorem dX3_misreadMark_2 : decode cX3_misreadMark 2 = .ok (.iconst 0, 1) := by decide +kernel
theorem dX3_misreadMark_3 : decode cX3_misreadMark 3 = .ok (.istore_n 3, 1) := by decide +kernel
theorem dX3_misreadMark_4 : decode cX3_misreadMark 4 = .ok (.iload_n 3, 1) := by decide +kernel
theorem dX3_misreadMark_5 : decode cX3_misreadMark 5 = .ok (.iconst 5, 1) := by decide +kernel
theorem dX3_misreadMark_6 : decode cX3_misreadMark 6 = .ok (.if_icmp .ge 24, 3) := by decide +kernel
theorem dX3_misreadMark_9 : decode cX3_misreadMark 9 = .ok (.iload_n 2, 1) := by decide +kernel
theorem dX3_misreadMark_10 : decode cX3_misreadMark 10 = .ok (.iconst 1, 1) := by decide +kernel
theorem dX3_misreadMark_11 : decode cX3_misreadMark 11 = .ok (.ishl, 1) := by decide +kernel
theorem dX3_misreadMark_12 : decode cX3_misreadMark 12 = .ok (.aload_n 0, 1) := by decide +kernel
theorem dX3_misreadMark_13 : decode cX3_misreadMark 13 = .ok (.getfield 24, 3) := by decide +kernel
theorem dX3_misreadMark_16 : decode cX3_misreadMark 16 = .ok (.iload_n 1, 1) := by decide +kernel
theorem dX3_misreadMark_17 : decode cX3_misreadMark 17 = .ok (.iaload, 1) := by decide +kernel
theorem dX3_misreadMark_18 : decode cX3_misreadMark 18 = .ok (.iload_n 3, 1) := by decide +kernel
theorem dX3_misreadMark_19 : decode cX3_misreadMark 19 = .ok (.ishr, 1) := by decide +kernel
theorem dX3_misreadMark_20 : decode cX3_misreadMark 20 = .ok (.iconst 1, 1) := by decide +kernel
theorem dX3_misreadMark_21 : decode cX3_misreadMark 21 = .ok (.iand, 1) := by decide +kernel
theorem dX3_misreadMark_22 : decode cX3_misreadMark 22 = .ok (.ior, 1) := by decide +kernel
theorem dX3_misreadMark_23 : decode cX3_misreadMark 23 = .ok (.istore_n 2, 1) := by decide +kernel
theorem dX3_misreadMark_24 : decode cX3_misreadMark 24 = .ok (.iinc 3 1, 3) := by decide +kernel
theorem dX3_misreadMark_27 : decode cX3_misreadMark 27 = .ok (.goto (-23), 3) := by decide +kernel
theorem dX3_misreadMark_30 : decode cX3_misreadMark 30 = .ok (.iload_n 2, 1) := by decide +kernel
theorem dX3_misreadMark_31 : decode cX3_misreadMark 31 = .ok (.ireturn, 1) := by decide +kernel
theorem dX3_canBeConfused_0 : decode cX3_canBeConfused 0 = .ok (.aload_n 0, 1) := by decide +kernel
theorem dX3_canBeConfused_1 : decode cX3_canBeConfused 1 = .ok (.getfield 24, 3) := by decide +kernel
theorem dX3_canBeConfused_4 : decode cX3_canBeConfused 4 = .ok (.iload_n 1, 1) := by decide +kernel
theorem dX3_canBeConfused_5 : decode cX3_canBeConfused 5 = .ok (.iaload, 1) := by decide +kernel
theorem dX3_canBeConfused_6 : decode cX3_canBeConfused 6 = .ok (.aload_n 0, 1) := by decide +kernel
theorem dX3_canBeConfused_7 : decode cX3_canBeConfused 7 = .ok (.getfield 24, 3) := by decide +kernel
theorem dX3_canBeConfused_10 : decode cX3_canBeConfused 10 = .ok (.iload_n 2, 1) := by decide +kernel
theorem dX3_canBeConfused_11 : decode cX3_canBeConfused 11 = .ok (.iaload, 1) := by decide +kernel
theorem dX3_canBeConfused_12 : decode cX3_canBeConfused 12 = .ok (.if_icmp .eq 17, 3) := by decide +kernel
theorem dX3_canBeConfused_15 : decode cX3_canBeConfused 15 = .ok (.aload_n 0, 1) := by decide +kernel
theorem dX3_canBeConfused_16 : decode cX3_canBeConfused 16 = .ok (.iload_n 1, 1) := by decide +kernel
theorem dX3_canBeConfused_17 : decode cX3_canBeConfused 17 = .ok (.invokevirtual 53, 3) := by decide +kernel
theorem dX3_canBeConfused_20 : decode cX3_canBeConfused 20 = .ok (.aload_n 0, 1) := by decide +kernel
theorem dX3_canBeConfused_21 : decode cX3_canBeConfused 21 = .ok (.getfield 24, 3) := by decide +kernel
theorem dX3_canBeConfused_24 : decode cX3_canBeConfused 24 = .ok (.iload_n 2, 1) := by decide +kernel
theorem dX3_canBeConfused_25 : decode cX3_canBeConfused 25 = .ok (.iaload, 1) := by decide +kernel
theorem dX3_canBeConfused_26 : decode cX3_canBeConfused 26 = .ok (.if_icmp .ne 7, 3) := by decide +kernel
theorem dX3_canBeConfused_29 : decode cX3_canBeConfused 29 = .ok (.iconst 1, 1) := by decide +kernel
theorem dX3_canBeConfused_30 : decode cX3_canBeConfused 30 = .ok (.goto 4, 3) := by decide +kernel
theorem dX3_canBeConfused_33 : decode cX3_canBeConfused 33 = .ok (.iconst 0, 1) := by decide +kernel
theorem dX3_canBeConfused_34 : decode cX3_canBeConfused 34 = .ok (.ireturn, 1) := by decide +kernel
theorem dX3_opening_0 : decode cX3_opening 0 = .ok (.aload_n 0, 1) := by decide +kernel
theorem dX3_opening_1 : decode cX3_opening 1 = .ok (.getfield 9, 3) := by decide +kernel
theorem dX3_opening_4 : decode cX3_opening 4 = .ok (.iload_n 1, 1) := by decide +kernel
theorem dX3_opening_5 : decode cX3_opening 5 = .ok (.iaload, 1) := by decide +kernel
theorem dX3_opening_6 : decode cX3_opening 6 = .ok (.istore_n 3, 1) := by decide +kernel
theorem dX3_opening_7 : decode cX3_opening 7 = .ok (.aload_n 2, 1) := by decide +kernel
theorem dX3_opening_8 : decode cX3_opening 8 = .ok (.getfield 56, 3) := by decide +kernel
theorem dX3_opening_11 : decode cX3_opening 11 = .ok (.iload_n 3, 1) := by decide +kernel
theorem dX3_opening_12 : decode cX3_opening 12 = .ok (.iaload, 1) := by decide +kernel
theorem dX3_opening_13 : decode cX3_opening 13 = .ok (.aload_n 2, 1) := by decide +kernel
theorem dX3_opening_14 : decode cX3_opening 14 = .ok (.getfield 59, 3) := by decide +kernel
theorem dX3_opening_17 : decode cX3_opening 17 = .ok (.iload_n 3, 1) := by decide +kernel
theorem dX3_opening_18 : decode cX3_opening 18 = .ok (.iaload, 1) := by decide +kernel
theorem dX3_opening_19 : decode cX3_opening 19 = .ok (.isub, 1) := by decide +kernel
theorem dX3_opening_20 : decode cX3_opening 20 = .ok (.istore 4, 2) := by decide +kernel
theorem dX3_opening_22 : decode cX3_opening 22 = .ok (.aload_n 0, 1) := by decide +kernel
theorem dX3_opening_23 : decode cX3_opening 23 = .ok (.getfield 21, 3) := by decide +kernel
theorem dX3_opening_26 : decode cX3_opening 26 = .ok (.iload_n 1, 1) := by decide +kernel
theorem dX3_opening_27 : decode cX3_opening 27 = .ok (.iaload, 1) := by decide +kernel
theorem dX3_opening_28 : decode cX3_opening 28 = .ok (.istore 5, 2) := by decide +kernel
theorem dX3_opening_30 : decode cX3_opening 30 = .ok (.iload 4, 2) := by decide +kernel
theorem dX3_opening_32 : decode cX3_opening 32 = .ok (.ifCond .le 24, 3) := by decide +kernel
theorem dX3_opening_35 : decode cX3_opening 35 = .ok (.iload 5, 2) := by decide +kernel
theorem dX3_opening_37 : decode cX3_opening 37 = .ok (.iload 5, 2) := by decide +kernel
theorem dX3_opening_39 : decode cX3_opening 39 = .ok (.sipush 1000, 3) := by decide +kernel
theorem dX3_opening_42 : decode cX3_opening 42 = .ok (.iconst 3, 1) := by decide +kernel
theorem dX3_opening_43 : decode cX3_opening 43 = .ok (.iload 4, 2) := by decide +kernel
theorem dX3_opening_45 : decode cX3_opening 45 = .ok (.imul, 1) := by decide +kernel
theorem dX3_opening_46 : decode cX3_opening 46 = .ok (.isub, 1) := by decide +kernel
theorem dX3_opening_47 : decode cX3_opening 47 = .ok (.imul, 1) := by decide +kernel
theorem dX3_opening_48 : decode cX3_opening 48 = .ok (.sipush 1000, 3) := by decide +kernel
theorem dX3_opening_51 : decode cX3_opening 51 = .ok (.idiv, 1) := by decide +kernel
theorem dX3_opening_52 : decode cX3_opening 52 = .ok (.isub, 1) := by decide +kernel
theorem dX3_opening_53 : decode cX3_opening 53 = .ok (.goto 4, 3) := by decide +kernel
theorem dX3_opening_56 : decode cX3_opening 56 = .ok (.iconst 0, 1) := by decide +kernel
theorem dX3_opening_57 : decode cX3_opening 57 = .ok (.ireturn, 1) := by decide +kernel
theorem dX4_init_0 : decode cX4_init 0 = .ok (.aload_n 0, 1) := by decide +kernel
theorem dX4_init_1 : decode cX4_init 1 = .ok (.invokespecial 3, 3) := by decide +kernel
theorem dX4_init_4 : decode cX4_init 4 = .ok (.aload_n 0, 1) := by decide +kernel
theorem dX4_init_5 : decode cX4_init 5 = .ok (.iconst 2, 1) := by decide +kernel
theorem dX4_init_6 : decode cX4_init 6 = .ok (.putfield 9, 3) := by decide +kernel
theorem dX4_init_9 : decode cX4_init 9 = .ok (.aload_n 0, 1) := by decide +kernel
theorem dX4_init_10 : decode cX4_init 10 = .ok (.bipush 45, 2) := by decide +kernel
theorem dX4_init_12 : decode cX4_init 12 = .ok (.newarray .int, 2) := by decide +kernel
theorem dX4_init_14 : decode cX4_init 14 = .ok (.putfield 17, 3) := by decide +kernel
theorem dX4_init_17 : decode cX4_init 17 = .ok (.aload_n 0, 1) := by decide +kernel
theorem dX4_init_18 : decode cX4_init 18 = .ok (.bipush 9, 2) := by decide +kernel
theorem dX4_init_20 : decode cX4_init 20 = .ok (.newarray .int, 2) := by decide +kernel
theorem dX4_init_22 : decode cX4_init 22 = .ok (.putfield 21, 3) := by decide +kernel
theorem dX4_init_25 : decode cX4_init 25 = .ok (.aload_n 0, 1) := by decide +kernel
theorem dX4_init_26 : decode cX4_init 26 = .ok (.sipush 512, 3) := by decide +kernel
theorem dX4_init_29 : decode cX4_init 29 = .ok (.newarray .int, 2) := by decide +kernel
theorem dX4_init_31 : decode cX4_init 31 = .ok (.putfield 24, 3) := by decide +kernel
theorem dX4_init_34 : decode cX4_init 34 = .ok (.aload_n 0, 1) := by decide +kernel
theorem dX4_init_35 : decode cX4_init 35 = .ok (.sipush 512, 3) := by decide +kernel
theorem dX4_init_38 : decode cX4_init 38 = .ok (.newarray .boolean, 2) := by decide +kernel
theorem dX4_init_40 : decode cX4_init 40 = .ok (.putfield 27, 3) := by decide +kernel
theorem dX4_init_43 : decode cX4_init 43 = .ok (.aload_n 0, 1) := by decide +kernel
theorem dX4_init_44 : decode cX4_init 44 = .ok (.bipush 9, 2) := by decide +kernel
theorem dX4_init_46 : decode cX4_init 46 = .ok (.newarray .int, 2) := by decide +kernel
theorem dX4_init_48 : decode cX4_init 48 = .ok (.putfield 31, 3) := by decide +kernel
theorem dX4_init_51 : decode cX4_init 51 = .ok (.return_, 1) := by decide +kernel
theorem dX4_orderCount_0 : decode cX4_orderCount 0 = .ok (.aload_n 0, 1) := by decide +kernel
theorem dX4_orderCount_1 : decode cX4_orderCount 1 = .ok (.getfield 24, 3) := by decide +kernel
theorem dX4_orderCount_4 : decode cX4_orderCount 4 = .ok (.aload_n 0, 1) := by decide +kernel
theorem dX4_orderCount_5 : decode cX4_orderCount 5 = .ok (.getfield 34, 3) := by decide +kernel
theorem dX4_orderCount_8 : decode cX4_orderCount 8 = .ok (.iaload, 1) := by decide +kernel
theorem dX4_orderCount_9 : decode cX4_orderCount 9 = .ok (.ireturn, 1) := by decide +kernel
theorem dX4_find_0 : decode cX4_find 0 = .ok (.aload_n 0, 1) := by decide +kernel
theorem dX4_find_1 : decode cX4_find 1 = .ok (.getfield 37, 3) := by decide +kernel
theorem dX4_find_4 : decode cX4_find 4 = .ok (.ifCond .eq 4, 3) := by decide +kernel
theorem dX4_find_7 : decode cX4_find 7 = .ok (.return_, 1) := by decide +kernel
theorem dX4_find_8 : decode cX4_find 8 = .ok (.aload_n 0, 1) := by decide +kernel
theorem dX4_find_9 : decode cX4_find 9 = .ok (.iconst 1, 1) := by decide +kernel
theorem dX4_find_10 : decode cX4_find 10 = .ok (.aload_n 1, 1) := by decide +kernel
theorem dX4_find_11 : decode cX4_find 11 = .ok (.getfield 41, 3) := by decide +kernel
theorem dX4_find_14 : decode cX4_find 14 = .ok (.ishl, 1) := by decide +kernel
theorem dX4_find_15 : decode cX4_find 15 = .ok (.iconst 1, 1) := by decide +kernel
theorem dX4_find_16 : decode cX4_find 16 = .ok (.isub, 1) := by decide +kernel
theorem dX4_find_17 : decode cX4_find 17 = .ok (.putfield 34, 3) := by decide +kernel
theorem dX4_find_20 : decode cX4_find 20 = .ok (.aload_n 0, 1) := by decide +kernel
theorem dX4_find_21 : decode cX4_find 21 = .ok (.aload_n 1, 1) := by decide +kernel
theorem dX4_find_22 : decode cX4_find 22 = .ok (.aload_n 2, 1) := by decide +kernel
theorem dX4_find_23 : decode cX4_find 23 = .ok (.invokevirtual 46, 3) := by decide +kernel
theorem dX4_find_26 : decode cX4_find 26 = .ok (.aload_n 0, 1) := by decide +kernel
theorem dX4_find_27 : decode cX4_find 27 = .ok (.aload_n 1, 1) := by decide +kernel
theorem dX4_find_28 : decode cX4_find 28 = .ok (.getfield 41, 3) := by decide +kernel
theorem dX4_find_31 : decode cX4_find 31 = .ok (.invokevirtual 50, 3) := by decide +kernel
theorem dX4_find_34 : decode cX4_find 34 = .ok (.aload_n 0, 1) := by decide +kernel
theorem dX4_find_35 : decode cX4_find 35 = .ok (.aload_n 1, 1) := by decide +kernel
theorem dX4_find_36 : decode cX4_find 36 = .ok (.getfield 41, 3) := by decide +kernel
theorem dX4_find_39 : decode cX4_find 39 = .ok (.invokevirtual 54, 3) := by decide +kernel
theorem dX4_find_42 : decode cX4_find 42 = .ok (.aload_n 0, 1) := by decide +kernel
theorem dX4_find_43 : decode cX4_find 43 = .ok (.aload_n 1, 1) := by decide +kernel
theorem dX4_find_44 : decode cX4_find 44 = .ok (.getfield 41, 3) := by decide +kernel
theorem dX4_find_47 : decode cX4_find 47 = .ok (.invokevirtual 57, 3) := by decide +kernel
theorem dX4_find_50 : decode cX4_find 50 = .ok (.aload_n 0, 1) := by decide +kernel
theorem dX4_find_51 : decode cX4_find 51 = .ok (.iconst 1, 1) := by decide +kernel
theorem dX4_find_52 : decode cX4_find 52 = .ok (.putfield 37, 3) := by decide +kernel
theorem dX4_find_55 : decode cX4_find 55 = .ok (.return_, 1) := by decide +kernel
theorem dX4_gather_0 : decode cX4_gather 0 = .ok (.aload_n 0, 1) := by decide +kernel
theorem dX4_gather_1 : decode cX4_gather 1 = .ok (.iconst 0, 1) := by decide +kernel
theorem dX4_gather_2 : decode cX4_gather 2 = .ok (.putfield 60, 3) := by decide +kernel
theorem dX4_gather_5 : decode cX4_gather 5 = .ok (.iconst 0, 1) := by decide +kernel
theorem dX4_gather_6 : decode cX4_gather 6 = .ok (.istore_n 3, 1) := by decide +kernel
theorem dX4_gather_7 : decode cX4_gather 7 = .ok (.iload_n 3, 1) := by decide +kernel
theorem dX4_gather_8 : decode cX4_gather 8 = .ok (.aload_n 1, 1) := by decide +kernel
theorem dX4_gather_9 : decode cX4_gather 9 = .ok (.getfield 41, 3) := by decide +kernel
theorem dX4_gather_12 : decode cX4_gather 12 = .ok (.if_icmp .ge 135, 3) := by decide +kernel
theorem dX4_gather_15 : decode cX4_gather 15 = .ok (.aload_n 0, 1) := by decide +kernel
theorem dX4_gather_16 : decode cX4_gather 16 = .ok (.dup, 1) := by decide +kernel
theorem dX4_gather_17 : decode cX4_gather 17 = .ok (.getfield 60, 3) := by decide +kernel
theorem dX4_gather_20 : decode cX4_gather 20 = .ok (.aload_n 1, 1) := by decide +kernel
theorem dX4_gather_21 : decode cX4_gather 21 = .ok (.iload_n 3, 1) := by decide +kernel
theorem dX4_gather_22 : decode cX4_gather 22 = .ok (.invokevirtual 63, 3) := by decide +kernel
theorem dX4_gather_25 : decode cX4_gather 25 = .ok (.ifCond .eq 7, 3) := by decide +kernel
theorem dX4_gather_28 : decode cX4_gather 28 = .ok (.iconst 0, 1) := by decide +kernel
theorem dX4_gather_29 : decode cX4_gather 29 = .ok (.goto 6, 3) := by decide +kernel
theorem dX4_gather_32 : decode cX4_gather 32 = .ok (.iconst 1, 1) := by decide +kernel
theorem dX4_gather_33 : decode cX4_gather 33 = .ok (.iload_n 3, 1) := by decide +kernel
theorem dX4_gather_34 : decode cX4_gather 34 = .ok (.ishl, 1) := by decide +kernel
theorem dX4_gather_35 : decode cX4_gather 35 = .ok (.ior, 1) := by decide +kernel
theorem dX4_gather_36 : decode cX4_gather 36 = .ok (.putfield 60, 3) := by decide +kernel
theorem dX4_gather_39 : decode cX4_gather 39 = .ok (.aload_n 0, 1) := by decide +kernel
theorem dX4_gather_40 : decode cX4_gather 40 = .ok (.getfield 21, 3) := by decide +kernel
theorem dX4_gather_43 : decode cX4_gather 43 = .ok (.iload_n 3, 1) := by decide +kernel
theorem dX4_gather_44 : decode cX4_gather 44 = .ok (.iconst 0, 1) := by decide +kernel
theorem dX4_gather_45 : decode cX4_gather 45 = .ok (.iastore, 1) := by decide +kernel
theorem dX4_gather_46 : decode cX4_gather 46 = .ok (.iconst 0, 1) := by decide +kernel
theorem dX4_gather_47 : decode cX4_gather 47 = .ok (.istore 4, 2) := by decide +kernel
theorem dX4_gather_49 : decode cX4_gather 49 = .ok (.iload 4, 2) := by decide +kernel
theorem dX4_gather_51 : decode cX4_gather 51 = .ok (.iconst 5, 1) := by decide +kernel
theorem dX4_gather_52 : decode cX4_gather 52 = .ok (.if_icmp .ge 21, 3) := by decide +kernel
theorem dX4_gather_55 : decode cX4_gather 55 = .ok (.aload_n 0, 1) := by decide +kernel
theorem dX4_gather_56 : decode cX4_gather 56 = .ok (.getfield 17, 3) := by decide +kernel
theorem dX4_gather_59 : decode cX4_gather 59 = .ok (.iload_n 3, 1) := by decide +kernel
theorem dX4_gather_60 : decode cX4_gather 60 = .ok (.iconst 5, 1) := by decide +kernel
theorem dX4_gather_61 : decode cX4_gather 61 = .ok (.imul, 1) := by decide +kernel
theorem dX4_gather_62 : decode cX4_gather 62 = .ok (.iload 4, 2) := by decide +kernel
theorem dX4_gather_64 : decode cX4_gather 64 = .ok (.iadd, 1) := by decide +kernel
theorem dX4_gather_65 : decode cX4_gather 65 = .ok (.iconst 0, 1) := by decide +kernel
theorem dX4_gather_66 : decode cX4_gather 66 = .ok (.iastore, 1) := by decide +kernel
theorem dX4_gather_67 : decode cX4_gather 67 = .ok (.iinc 4 1, 3) := by decide +kernel
theorem dX4_gather_70 : decode cX4_gather 70 = .ok (.goto (-21), 3) := by decide +kernel
theorem dX4_gather_73 : decode cX4_gather 73 = .ok (.iconst 0, 1) := by decide +kernel
theorem dX4_gather_74 : decode cX4_gather 74 = .ok (.istore 4, 2) := by decide +kernel
theorem dX4_gather_76 : decode cX4_gather 76 = .ok (.iload 4, 2) := by decide +kernel
theorem dX4_gather_78 : decode cX4_gather 78 = .ok (.aload_n 2, 1) := by decide +kernel
theorem dX4_gather_79 : decode cX4_gather 79 = .ok (.getfield 67, 3) := by decide +kernel
theorem dX4_gather_82 : decode cX4_gather 82 = .ok (.if_icmp .ge 59, 3) := by decide +kernel
theorem dX4_gather_85 : decode cX4_gather 85 = .ok (.aload_n 2, 1) := by decide +kernel
theorem dX4_gather_86 : decode cX4_gather 86 = .ok (.iload 4, 2) := by decide +kernel
theorem dX4_gather_88 : decode cX4_gather 88 = .ok (.iload_n 3, 1) := by decide +kernel
theorem dX4_gather_89 : decode cX4_gather 89 = .ok (.invokevirtual 70, 3) := by decide +kernel
theorem dX4_gather_92 : decode cX4_gather 92 = .ok (.istore 5, 2) := by decide +kernel
theorem dX4_gather_94 : decode cX4_gather 94 = .ok (.iload 5, 2) := by decide +kernel
theorem dX4_gather_96 : decode cX4_gather 96 = .ok (.ifCond .lt 39, 3) := by decide +kernel
theorem dX4_gather_99 : decode cX4_gather 99 = .ok (.aload_n 0, 1) := by decide +kernel
theorem dX4_gather_100 : decode cX4_gather 100 = .ok (.getfield 21, 3) := by decide +kernel
theorem dX4_gather_103 : decode cX4_gather 103 = .ok (.iload_n 3, 1) := by decide +kernel
theorem dX4_gather_104 : decode cX4_gather 104 = .ok (.dup2, 1) := by decide +kernel
theorem dX4_gather_105 : decode cX4_gather 105 = .ok (.iaload, 1) := by decide +kernel
theorem dX4_gather_106 : decode cX4_gather 106 = .ok (.iconst 1, 1) := by decide +kernel
theorem dX4_gather_107 : decode cX4_gather 107 = .ok (.iload 5, 2) := by decide +kernel
theorem dX4_gather_109 : decode cX4_gather 109 = .ok (.ishl, 1) := by decide +kernel
theorem dX4_gather_110 : decode cX4_gather 110 = .ok (.ior, 1) := by decide +kernel
theorem dX4_gather_111 : decode cX4_gather 111 = .ok (.iastore, 1) := by decide +kernel
theorem dX4_gather_112 : decode cX4_gather 112 = .ok (.aload_n 0, 1) := by decide +kernel
theorem dX4_gather_113 : decode cX4_gather 113 = .ok (.getfield 17, 3) := by decide +kernel
theorem dX4_gather_116 : decode cX4_gather 116 = .ok (.iload_n 3, 1) := by decide +kernel
theorem dX4_gather_117 : decode cX4_gather 117 = .ok (.iconst 5, 1) := by decide +kernel
theorem dX4_gather_118 : decode cX4_gather 118 = .ok (.imul, 1) := by decide +kernel
theorem dX4_gather_119 : decode cX4_gather 119 = .ok (.aload_n 2, 1) := by decide +kernel
theorem dX4_gather_120 : decode cX4_gather 120 = .ok (.iload 4, 2) := by decide +kernel
theorem dX4_gather_122 : decode cX4_gather 122 = .ok (.iload_n 3, 1) := by decide +kernel
theorem dX4_gather_123 : decode cX4_gather 123 = .ok (.invokevirtual 74, 3) := by decide +kernel
theorem dX4_gather_126 : decode cX4_gather 126 = .ok (.iadd, 1) := by decide +kernel
theorem dX4_gather_127 : decode cX4_gather 127 = .ok (.dup2, 1) := by decide +kernel
theorem dX4_gather_128 : decode cX4_gather 128 = .ok (.iaload, 1) := by decide +kernel
theorem dX4_gather_129 : decode cX4_gather 129 = .ok (.iconst 1, 1) := by decide +kernel
theorem dX4_gather_130 : decode cX4_gather 130 = .ok (.iload 5, 2) := by decide +kernel
theorem dX4_gather_132 : decode cX4_gather 132 = .ok (.ishl, 1) := by decide +kernel
theorem dX4_gather_133 : decode cX4_gather 133 = .ok (.ior, 1) := by decide +kernel
theorem dX4_gather_134 : decode cX4_gather 134 = .ok (.iastore, 1) := by decide +kernel
theorem dX4_gather_135 : decode cX4_gather 135 = .ok (.iinc 4 1, 3) := by decide +kernel
theorem dX4_gather_138 : decode cX4_gather 138 = .ok (.goto (-62), 3) := by decide +kernel
theorem dX4_gather_141 : decode cX4_gather 141 = .ok (.iinc 3 1, 3) := by decide +kernel
theorem dX4_gather_144 : decode cX4_gather 144 = .ok (.goto (-137), 3) := by decide +kernel
theorem dX4_gather_147 : decode cX4_gather 147 = .ok (.return_, 1) := by decide +kernel
theorem dX4_canMoveIn_0 : decode cX4_canMoveIn 0 = .ok (.iconst 0, 1) := by decide +kernel
theorem dX4_canMoveIn_1 : decode cX4_canMoveIn 1 = .ok (.istore_n 3, 1) := by decide +kernel
theorem dX4_canMoveIn_2 : decode cX4_canMoveIn 2 = .ok (.iconst 0, 1) := by decide +kernel
theorem dX4_canMoveIn_3 : decode cX4_canMoveIn 3 = .ok (.istore 4, 2) := by decide +kernel
theorem dX4_canMoveIn_5 : decode cX4_canMoveIn 5 = .ok (.iload 4, 2) := by decide +kernel
theorem dX4_canMoveIn_7 : decode cX4_canMoveIn 7 = .ok (.iconst 5, 1) := by decide +kernel
theorem dX4_canMoveIn_8 : decode cX4_canMoveIn 8 = .ok (.if_icmp .ge 33, 3) := by decide +kernel
theorem dX4_canMoveIn_11 : decode cX4_canMoveIn 11 = .ok (.iload_n 3, 1) := by decide +kernel
theorem dX4_canMoveIn_12 : decode cX4_canMoveIn 12 = .ok (.aload_n 0, 1) := by decide +kernel
theorem dX4_canMoveIn_13 : decode cX4_canMoveIn 13 = .ok (.getfield 17, 3) := by decide +kernel
theorem dX4_canMoveIn_16 : decode cX4_canMoveIn 16 = .ok (.iload_n 1, 1) := by decide +kernel
theorem dX4_canMoveIn_17 : decode cX4_canMoveIn 17 = .ok (.iconst 5, 1) := by decide +kernel
theorem dX4_canMoveIn_18 : decode cX4_canMoveIn 18 = .ok (.imul, 1) := by decide +kernel
theorem dX4_canMoveIn_19 : decode cX4_canMoveIn 19 = .ok (.iload 4, 2) := by decide +kernel
theorem dX4_canMoveIn_21 : decode cX4_canMoveIn 21 = .ok (.iadd, 1) := by decide +kernel
theorem dX4_canMoveIn_22 : decode cX4_canMoveIn 22 = .ok (.iaload, 1) := by decide +kernel
theorem dX4_canMoveIn_23 : decode cX4_canMoveIn 23 = .ok (.iload_n 2, 1) := by decide +kernel
theorem dX4_canMoveIn_24 : decode cX4_canMoveIn 24 = .ok (.iand, 1) := by decide +kernel
theorem dX4_canMoveIn_25 : decode cX4_canMoveIn 25 = .ok (.ifCond .eq 7, 3) := by decide +kernel
theorem dX4_canMoveIn_28 : decode cX4_canMoveIn 28 = .ok (.iconst 1, 1) := by decide +kernel
theorem dX4_canMoveIn_29 : decode cX4_canMoveIn 29 = .ok (.goto 4, 3) := by decide +kernel
theorem dX4_canMoveIn_32 : decode cX4_canMoveIn 32 = .ok (.iconst 0, 1) := by decide +kernel
theorem dX4_canMoveIn_33 : decode cX4_canMoveIn 33 = .ok (.iadd, 1) := by decide +kernel
theorem dX4_canMoveIn_34 : decode cX4_canMoveIn 34 = .ok (.istore_n 3, 1) := by decide +kernel
theorem dX4_canMoveIn_35 : decode cX4_canMoveIn 35 = .ok (.iinc 4 1, 3) := by decide +kernel
theorem dX4_canMoveIn_38 : decode cX4_canMoveIn 38 = .ok (.goto (-33), 3) := by decide +kernel
theorem dX4_canMoveIn_41 : decode cX4_canMoveIn 41 = .ok (.iload_n 3, 1) := by decide +kernel
theorem dX4_canMoveIn_42 : decode cX4_canMoveIn 42 = .ok (.iconst 1, 1) := by decide +kernel
theorem dX4_canMoveIn_43 : decode cX4_canMoveIn 43 = .ok (.if_icmp .gt 7, 3) := by decide +kernel
theorem dX4_canMoveIn_46 : decode cX4_canMoveIn 46 = .ok (.iconst 1, 1) := by decide +kernel
theorem dX4_canMoveIn_47 : decode cX4_canMoveIn 47 = .ok (.goto 4, 3) := by decide +kernel
theorem dX4_canMoveIn_50 : decode cX4_canMoveIn 50 = .ok (.iconst 0, 1) := by decide +kernel
theorem dX4_canMoveIn_51 : decode cX4_canMoveIn 51 = .ok (.ireturn, 1) := by decide +kernel
theorem dX4_propsFor_0 : decode cX4_propsFor 0 = .ok (.iconst 0, 1) := by decide +kernel
theorem dX4_propsFor_1 : decode cX4_propsFor 1 = .ok (.istore_n 2, 1) := by decide +kernel
theorem dX4_propsFor_2 : decode cX4_propsFor 2 = .ok (.iconst 0, 1) := by decide +kernel
theorem dX4_propsFor_3 : decode cX4_propsFor 3 = .ok (.istore_n 3, 1) := by decide +kernel
theorem dX4_propsFor_4 : decode cX4_propsFor 4 = .ok (.iload_n 3, 1) := by decide +kernel
theorem dX4_propsFor_5 : decode cX4_propsFor 5 = .ok (.bipush 9, 2) := by decide +kernel
theorem dX4_propsFor_7 : decode cX4_propsFor 7 = .ok (.if_icmp .ge 52, 3) := by decide +kernel
theorem dX4_propsFor_10 : decode cX4_propsFor 10 = .ok (.iload_n 1, 1) := by decide +kernel
theorem dX4_propsFor_11 : decode cX4_propsFor 11 = .ok (.aload_n 0, 1) := by decide +kernel
theorem dX4_propsFor_12 : decode cX4_propsFor 12 = .ok (.getfield 60, 3) := by decide +kernel
theorem dX4_propsFor_15 : decode cX4_propsFor 15 = .ok (.iand, 1) := by decide +kernel
theorem dX4_propsFor_16 : decode cX4_propsFor 16 = .ok (.iconst 1, 1) := by decide +kernel
theorem dX4_propsFor_17 : decode cX4_propsFor 17 = .ok (.iload_n 3, 1) := by decide +kernel
theorem dX4_propsFor_18 : decode cX4_propsFor 18 = .ok (.ishl, 1) := by decide +kernel
theorem dX4_propsFor_19 : decode cX4_propsFor 19 = .ok (.iand, 1) := by decide +kernel
theorem dX4_propsFor_20 : decode cX4_propsFor 20 = .ok (.ifCond .eq 7, 3) := by decide +kernel
theorem dX4_propsFor_23 : decode cX4_propsFor 23 = .ok (.iconst 1, 1) := by decide +kernel
theorem dX4_propsFor_24 : decode cX4_propsFor 24 = .ok (.goto 4, 3) := by decide +kernel
theorem dX4_propsFor_27 : decode cX4_propsFor 27 = .ok (.iconst 0, 1) := by decide +kernel
theorem dX4_propsFor_28 : decode cX4_propsFor 28 = .ok (.istore 4, 2) := by decide +kernel
theorem dX4_propsFor_30 : decode cX4_propsFor 30 = .ok (.iload 4, 2) := by decide +kernel
theorem dX4_propsFor_32 : decode cX4_propsFor 32 = .ok (.ifCond .eq 21, 3) := by decide +kernel
theorem dX4_propsFor_35 : decode cX4_propsFor 35 = .ok (.aload_n 0, 1) := by decide +kernel
theorem dX4_propsFor_36 : decode cX4_propsFor 36 = .ok (.getfield 21, 3) := by decide +kernel
theorem dX4_propsFor_39 : decode cX4_propsFor 39 = .ok (.iload_n 3, 1) := by decide +kernel
theorem dX4_propsFor_40 : decode cX4_propsFor 40 = .ok (.iaload, 1) := by decide +kernel
theorem dX4_propsFor_41 : decode cX4_propsFor 41 = .ok (.iload_n 1, 1) := by decide +kernel
theorem dX4_propsFor_42 : decode cX4_propsFor 42 = .ok (.iand, 1) := by decide +kernel
theorem dX4_propsFor_43 : decode cX4_propsFor 43 = .ok (.invokestatic 77, 3) := by decide +kernel
theorem dX4_propsFor_46 : decode cX4_propsFor 46 = .ok (.iconst 2, 1) := by decide +kernel
theorem dX4_propsFor_47 : decode cX4_propsFor 47 = .ok (.if_icmp .ge 6, 3) := by decide +kernel
theorem dX4_propsFor_50 : decode cX4_propsFor 50 = .ok (.iinc 2 1, 3) := by decide +kernel
theorem dX4_propsFor_53 : decode cX4_propsFor 53 = .ok (.iinc 3 1, 3) := by decide +kernel
theorem dX4_propsFor_56 : decode cX4_propsFor 56 = .ok (.goto (-52), 3) := by decide +kernel
theorem dX4_propsFor_59 : decode cX4_propsFor 59 = .ok (.iload_n 2, 1) := by decide +kernel
theorem dX4_propsFor_60 : decode cX4_propsFor 60 = .ok (.ireturn, 1) := by decide +kernel
theorem dX4_goForward_0 : decode cX4_goForward 0 = .ok (.aload_n 0, 1) := by decide +kernel
theorem dX4_goForward_1 : decode cX4_goForward 1 = .ok (.getfield 24, 3) := by decide +kernel
theorem dX4_goForward_4 : decode cX4_goForward 4 = .ok (.iconst 0, 1) := by decide +kernel
theorem dX4_goForward_5 : decode cX4_goForward 5 = .ok (.iconst 1, 1) := by decide +kernel
theorem dX4_goForward_6 : decode cX4_goForward 6 = .ok (.iastore, 1) := by decide +kernel
theorem dX4_goForward_7 : decode cX4_goForward 7 = .ok (.iconst 1, 1) := by decide +kernel
theorem dX4_goForward_8 : decode cX4_goForward 8 = .ok (.istore_n 2, 1) := by decide +kernel
theorem dX4_goForward_9 : decode cX4_goForward 9 = .ok (.iload_n 2, 1) := by decide +kernel
theorem dX4_goForward_10 : decode cX4_goForward 10 = .ok (.aload_n 0, 1) := by decide +kernel
theorem dX4_goForward_11 : decode cX4_goForward 11 = .ok (.getfield 34, 3) := by decide +kernel
theorem dX4_goForward_14 : decode cX4_goForward 14 = .ok (.if_icmp .gt 106, 3) := by decide +kernel
theorem dX4_goForward_17 : decode cX4_goForward 17 = .ok (.aload_n 0, 1) := by decide +kernel
theorem dX4_goForward_18 : decode cX4_goForward 18 = .ok (.getfield 24, 3) := by decide +kernel
theorem dX4_goForward_21 : decode cX4_goForward 21 = .ok (.iload_n 2, 1) := by decide +kernel
theorem dX4_goForward_22 : decode cX4_goForward 22 = .ok (.iconst 0, 1) := by decide +kernel
theorem dX4_goForward_23 : decode cX4_goForward 23 = .ok (.iastore, 1) := by decide +kernel
theorem dX4_goForward_24 : decode cX4_goForward 24 = .ok (.aload_n 0, 1) := by decide +kernel
theorem dX4_goForward_25 : decode cX4_goForward 25 = .ok (.iload_n 2, 1) := by decide +kernel
theorem dX4_goForward_26 : decode cX4_goForward 26 = .ok (.invokevirtual 83, 3) := by decide +kernel
theorem dX4_goForward_29 : decode cX4_goForward 29 = .ok (.aload_n 0, 1) := by decide +kernel
theorem dX4_goForward_30 : decode cX4_goForward 30 = .ok (.getfield 9, 3) := by decide +kernel
theorem dX4_goForward_33 : decode cX4_goForward 33 = .ok (.if_icmp .gt 7, 3) := by decide +kernel
theorem dX4_goForward_36 : decode cX4_goForward 36 = .ok (.iconst 1, 1) := by decide +kernel
theorem dX4_goForward_37 : decode cX4_goForward 37 = .ok (.goto 4, 3) := by decide +kernel
theorem dX4_goForward_40 : decode cX4_goForward 40 = .ok (.iconst 0, 1) := by decide +kernel
theorem dX4_goForward_41 : decode cX4_goForward 41 = .ok (.istore_n 3, 1) := by decide +kernel
theorem dX4_goForward_42 : decode cX4_goForward 42 = .ok (.iconst 0, 1) := by decide +kernel
theorem dX4_goForward_43 : decode cX4_goForward 43 = .ok (.istore 4, 2) := by decide +kernel
theorem dX4_goForward_45 : decode cX4_goForward 45 = .ok (.iload 4, 2) := by decide +kernel
theorem dX4_goForward_47 : decode cX4_goForward 47 = .ok (.iload_n 1, 1) := by decide +kernel
theorem dX4_goForward_48 : decode cX4_goForward 48 = .ok (.if_icmp .ge 66, 3) := by decide +kernel
theorem dX4_goForward_51 : decode cX4_goForward 51 = .ok (.iload_n 3, 1) := by decide +kernel
theorem dX4_goForward_52 : decode cX4_goForward 52 = .ok (.ifCond .eq 62, 3) := by decide +kernel
theorem dX4_goForward_55 : decode cX4_goForward 55 = .ok (.iload_n 2, 1) := by decide +kernel
theorem dX4_goForward_56 : decode cX4_goForward 56 = .ok (.iconst 1, 1) := by decide +kernel
theorem dX4_goForward_57 : decode cX4_goForward 57 = .ok (.iload 4, 2) := by decide +kernel
theorem dX4_goForward_59 : decode cX4_goForward 59 = .ok (.ishl, 1) := by decide +kernel
theorem dX4_goForward_60 : decode cX4_goForward 60 = .ok (.iconst (-1), 1) := by decide +kernel
theorem dX4_goForward_61 : decode cX4_goForward 61 = .ok (.ixor, 1) := by decide +kernel
theorem dX4_goForward_62 : decode cX4_goForward 62 = .ok (.iand, 1) := by decide +kernel
theorem dX4_goForward_63 : decode cX4_goForward 63 = .ok (.istore 5, 2) := by decide +kernel
theorem dX4_goForward_65 : decode cX4_goForward 65 = .ok (.iload 5, 2) := by decide +kernel
theorem dX4_goForward_67 : decode cX4_goForward 67 = .ok (.iload_n 2, 1) := by decide +kernel
theorem dX4_goForward_68 : decode cX4_goForward 68 = .ok (.if_icmp .eq 40, 3) := by decide +kernel
theorem dX4_goForward_71 : decode cX4_goForward 71 = .ok (.aload_n 0, 1) := by decide +kernel
theorem dX4_goForward_72 : decode cX4_goForward 72 = .ok (.getfield 24, 3) := by decide +kernel
theorem dX4_goForward_75 : decode cX4_goForward 75 = .ok (.iload 5, 2) := by decide +kernel
theorem dX4_goForward_77 : decode cX4_goForward 77 = .ok (.iaload, 1) := by decide +kernel
theorem dX4_goForward_78 : decode cX4_goForward 78 = .ok (.ifCond .le 30, 3) := by decide +kernel
theorem dX4_goForward_81 : decode cX4_goForward 81 = .ok (.aload_n 0, 1) := by decide +kernel
theorem dX4_goForward_82 : decode cX4_goForward 82 = .ok (.iload 4, 2) := by decide +kernel
theorem dX4_goForward_84 : decode cX4_goForward 84 = .ok (.iload 5, 2) := by decide +kernel
theorem dX4_goForward_86 : decode cX4_goForward 86 = .ok (.invokevirtual 86, 3) := by decide +kernel
theorem dX4_goForward_89 : decode cX4_goForward 89 = .ok (.ifCond .eq 19, 3) := by decide +kernel
theorem dX4_goForward_92 : decode cX4_goForward 92 = .ok (.aload_n 0, 1) := by decide +kernel
theorem dX4_goForward_93 : decode cX4_goForward 93 = .ok (.getfield 24, 3) := by decide +kernel
theorem dX4_goForward_96 : decode cX4_goForward 96 = .ok (.iload_n 2, 1) := by decide +kernel
theorem dX4_goForward_97 : decode cX4_goForward 97 = .ok (.dup2, 1) := by decide +kernel
theorem dX4_goForward_98 : decode cX4_goForward 98 = .ok (.iaload, 1) := by decide +kernel
theorem dX4_goForward_99 : decode cX4_goForward 99 = .ok (.aload_n 0, 1) := by decide +kernel
theorem dX4_goForward_100 : decode cX4_goForward 100 = .ok (.getfield 24, 3) := by decide +kernel
theorem dX4_goForward_103 : decode cX4_goForward 103 = .ok (.iload 5, 2) := by decide +kernel
theorem dX4_goForward_105 : decode cX4_goForward 105 = .ok (.iaload, 1) := by decide +kernel
theorem dX4_goForward_106 : decode cX4_goForward 106 = .ok (.iadd, 1) := by decide +kernel
theorem dX4_goForward_107 : decode cX4_goForward 107 = .ok (.iastore, 1) := by decide +kernel
theorem dX4_goForward_108 : decode cX4_goForward 108 = .ok (.iinc 4 1, 3) := by decide +kernel
theorem dX4_goForward_111 : decode cX4_goForward 111 = .ok (.goto (-66), 3) := by decide +kernel
theorem dX4_goForward_114 : decode cX4_goForward 114 = .ok (.iinc 2 1, 3) := by decide +kernel
theorem dX4_goForward_117 : decode cX4_goForward 117 = .ok (.goto (-108), 3) := by decide +kernel
theorem dX4_goForward_120 : decode cX4_goForward 120 = .ok (.return_, 1) := by decide +kernel
theorem dX4_goBackward_0 : decode cX4_goBackward 0 = .ok (.iconst 0, 1) := by decide +kernel
theorem dX4_goBackward_1 : decode cX4_goBackward 1 = .ok (.istore_n 2, 1) := by decide +kernel
theorem dX4_goBackward_2 : decode cX4_goBackward 2 = .ok (.iload_n 2, 1) := by decide +kernel
theorem dX4_goBackward_3 : decode cX4_goBackward 3 = .ok (.aload_n 0, 1) := by decide +kernel
theorem dX4_goBackward_4 : decode cX4_goBackward 4 = .ok (.getfield 34, 3) := by decide +kernel
theorem dX4_goBackward_7 : decode cX4_goBackward 7 = .ok (.if_icmp .gt 28, 3) := by decide +kernel
theorem dX4_goBackward_10 : decode cX4_goBackward 10 = .ok (.aload_n 0, 1) := by decide +kernel
theorem dX4_goBackward_11 : decode cX4_goBackward 11 = .ok (.getfield 27, 3) := by decide +kernel
theorem dX4_goBackward_14 : decode cX4_goBackward 14 = .ok (.iload_n 2, 1) := by decide +kernel
theorem dX4_goBackward_15 : decode cX4_goBackward 15 = .ok (.iload_n 2, 1) := by decide +kernel
theorem dX4_goBackward_16 : decode cX4_goBackward 16 = .ok (.aload_n 0, 1) := by decide +kernel
theorem dX4_goBackward_17 : decode cX4_goBackward 17 = .ok (.getfield 34, 3) := by decide +kernel
theorem dX4_goBackward_20 : decode cX4_goBackward 20 = .ok (.if_icmp .ne 7, 3) := by decide +kernel
theorem dX4_goBackward_23 : decode cX4_goBackward 23 = .ok (.iconst 1, 1) := by decide +kernel
theorem dX4_goBackward_24 : decode cX4_goBackward 24 = .ok (.goto 4, 3) := by decide +kernel
theorem dX4_goBackward_27 : decode cX4_goBackward 27 = .ok (.iconst 0, 1) := by decide +kernel
theorem dX4_goBackward_28 : decode cX4_goBackward 28 = .ok (.bastore, 1) := by decide +kernel
theorem dX4_goBackward_29 : decode cX4_goBackward 29 = .ok (.iinc 2 1, 3) := by decide +kernel
theorem dX4_goBackward_32 : decode cX4_goBackward 32 = .ok (.goto (-30), 3) := by decide +kernel
theorem dX4_goBackward_35 : decode cX4_goBackward 35 = .ok (.aload_n 0, 1) := by decide +kernel
theorem dX4_goBackward_36 : decode cX4_goBackward 36 = .ok (.getfield 34, 3) := by decide +kernel
theorem dX4_goBackward_39 : decode cX4_goBackward 39 = .ok (.istore_n 2, 1) := by decide +kernel
theorem dX4_goBackward_40 : decode cX4_goBackward 40 = .ok (.iload_n 2, 1) := by decide +kernel
theorem dX4_goBackward_41 : decode cX4_goBackward 41 = .ok (.ifCond .le 90, 3) := by decide +kernel
theorem dX4_goBackward_44 : decode cX4_goBackward 44 = .ok (.aload_n 0, 1) := by decide +kernel
theorem dX4_goBackward_45 : decode cX4_goBackward 45 = .ok (.getfield 27, 3) := by decide +kernel
theorem dX4_goBackward_48 : decode cX4_goBackward 48 = .ok (.iload_n 2, 1) := by decide +kernel
theorem dX4_goBackward_49 : decode cX4_goBackward 49 = .ok (.baload, 1) := by decide +kernel
theorem dX4_goBackward_50 : decode cX4_goBackward 50 = .ok (.ifCond .eq 19, 3) := by decide +kernel
theorem dX4_goBackward_53 : decode cX4_goBackward 53 = .ok (.aload_n 0, 1) := by decide +kernel
theorem dX4_goBackward_54 : decode cX4_goBackward 54 = .ok (.iload_n 2, 1) := by decide +kernel
theorem dX4_goBackward_55 : decode cX4_goBackward 55 = .ok (.invokevirtual 83, 3) := by decide +kernel
theorem dX4_goBackward_58 : decode cX4_goBackward 58 = .ok (.aload_n 0, 1) := by decide +kernel
theorem dX4_goBackward_59 : decode cX4_goBackward 59 = .ok (.getfield 9, 3) := by decide +kernel
theorem dX4_goBackward_62 : decode cX4_goBackward 62 = .ok (.if_icmp .gt 7, 3) := by decide +kernel
theorem dX4_goBackward_65 : decode cX4_goBackward 65 = .ok (.iconst 1, 1) := by decide +kernel
theorem dX4_goBackward_66 : decode cX4_goBackward 66 = .ok (.goto 4, 3) := by decide +kernel
theorem dX4_goBackward_69 : decode cX4_goBackward 69 = .ok (.iconst 0, 1) := by decide +kernel
theorem dX4_goBackward_70 : decode cX4_goBackward 70 = .ok (.istore_n 3, 1) := by decide +kernel
theorem dX4_goBackward_71 : decode cX4_goBackward 71 = .ok (.iconst 0, 1) := by decide +kernel
theorem dX4_goBackward_72 : decode cX4_goBackward 72 = .ok (.istore 4, 2) := by decide +kernel
theorem dX4_goBackward_74 : decode cX4_goBackward 74 = .ok (.iload 4, 2) := by decide +kernel
theorem dX4_goBackward_76 : decode cX4_goBackward 76 = .ok (.iload_n 1, 1) := by decide +kernel
theorem dX4_goBackward_77 : decode cX4_goBackward 77 = .ok (.if_icmp .ge 48, 3) := by decide +kernel
theorem dX4_goBackward_80 : decode cX4_goBackward 80 = .ok (.iload_n 3, 1) := by decide +kernel
theorem dX4_goBackward_81 : decode cX4_goBackward 81 = .ok (.ifCond .eq 44, 3) := by decide +kernel
theorem dX4_goBackward_84 : decode cX4_goBackward 84 = .ok (.iload_n 2, 1) := by decide +kernel
theorem dX4_goBackward_85 : decode cX4_goBackward 85 = .ok (.iconst 1, 1) := by decide +kernel
theorem dX4_goBackward_86 : decode cX4_goBackward 86 = .ok (.iload 4, 2) := by decide +kernel
theorem dX4_goBackward_88 : decode cX4_goBackward 88 = .ok (.ishl, 1) := by decide +kernel
theorem dX4_goBackward_89 : decode cX4_goBackward 89 = .ok (.iconst (-1), 1) := by decide +kernel
theorem dX4_goBackward_90 : decode cX4_goBackward 90 = .ok (.ixor, 1) := by decide +kernel
theorem dX4_goBackward_91 : decode cX4_goBackward 91 = .ok (.iand, 1) := by decide +kernel
theorem dX4_goBackward_92 : decode cX4_goBackward 92 = .ok (.istore 5, 2) := by decide +kernel
theorem dX4_goBackward_94 : decode cX4_goBackward 94 = .ok (.iload 5, 2) := by decide +kernel
theorem dX4_goBackward_96 : decode cX4_goBackward 96 = .ok (.iload_n 2, 1) := by decide +kernel
theorem dX4_goBackward_97 : decode cX4_goBackward 97 = .ok (.if_icmp .eq 22, 3) := by decide +kernel
theorem dX4_goBackward_100 : decode cX4_goBackward 100 = .ok (.aload_n 0, 1) := by decide +kernel
theorem dX4_goBackward_101 : decode cX4_goBackward 101 = .ok (.iload 4, 2) := by decide +kernel
theorem dX4_goBackward_103 : decode cX4_goBackward 103 = .ok (.iload 5, 2) := by decide +kernel
theorem dX4_goBackward_105 : decode cX4_goBackward 105 = .ok (.invokevirtual 86, 3) := by decide +kernel
theorem dX4_goBackward_108 : decode cX4_goBackward 108 = .ok (.ifCond .eq 11, 3) := by decide +kernel
theorem dX4_goBackward_111 : decode cX4_goBackward 111 = .ok (.aload_n 0, 1) := by decide +kernel
theorem dX4_goBackward_112 : decode cX4_goBackward 112 = .ok (.getfield 27, 3) := by decide +kernel
theorem dX4_goBackward_115 : decode cX4_goBackward 115 = .ok (.iload 5, 2) := by decide +kernel
theorem dX4_goBackward_117 : decode cX4_goBackward 117 = .ok (.iconst 1, 1) := by decide +kernel
theorem dX4_goBackward_118 : decode cX4_goBackward 118 = .ok (.bastore, 1) := by decide +kernel
theorem dX4_goBackward_119 : decode cX4_goBackward 119 = .ok (.iinc 4 1, 3) := by decide +kernel
theorem dX4_goBackward_122 : decode cX4_goBackward 122 = .ok (.goto (-48), 3) := by decide +kernel
theorem dX4_goBackward_125 : decode cX4_goBackward 125 = .ok (.iinc 2 (-1), 3) := by decide +kernel
theorem dX4_goBackward_128 : decode cX4_goBackward 128 = .ok (.goto (-88), 3) := by decide +kernel
theorem dX4_goBackward_131 : decode cX4_goBackward 131 = .ok (.return_, 1) := by decide +kernel
theorem dX4_findOrder_0 : decode cX4_findOrder 0 = .ok (.iconst 0, 1) := by decide +kernel
theorem dX4_findOrder_1 : decode cX4_findOrder 1 = .ok (.istore_n 2, 1) := by decide +kernel
theorem dX4_findOrder_2 : decode cX4_findOrder 2 = .ok (.iconst 0, 1) := by decide +kernel
theorem dX4_findOrder_3 : decode cX4_findOrder 3 = .ok (.istore_n 3, 1) := by decide +kernel
theorem dX4_findOrder_4 : decode cX4_findOrder 4 = .ok (.iload_n 3, 1) := by decide +kernel
theorem dX4_findOrder_5 : decode cX4_findOrder 5 = .ok (.iload_n 1, 1) := by decide +kernel
theorem dX4_findOrder_6 : decode cX4_findOrder 6 = .ok (.if_icmp .ge 38, 3) := by decide +kernel
theorem dX4_findOrder_9 : decode cX4_findOrder 9 = .ok (.aload_n 0, 1) := by decide +kernel
theorem dX4_findOrder_10 : decode cX4_findOrder 10 = .ok (.iload_n 2, 1) := by decide +kernel
theorem dX4_findOrder_11 : decode cX4_findOrder 11 = .ok (.iload_n 1, 1) := by decide +kernel
theorem dX4_findOrder_12 : decode cX4_findOrder 12 = .ok (.invokevirtual 90, 3) := by decide +kernel
theorem dX4_findOrder_15 : decode cX4_findOrder 15 = .ok (.istore 4, 2) := by decide +kernel
theorem dX4_findOrder_17 : decode cX4_findOrder 17 = .ok (.iload 4, 2) := by decide +kernel
theorem dX4_findOrder_19 : decode cX4_findOrder 19 = .ok (.ifCond .ge 4, 3) := by decide +kernel
theorem dX4_findOrder_22 : decode cX4_findOrder 22 = .ok (.return_, 1) := by decide +kernel
theorem dX4_findOrder_23 : decode cX4_findOrder 23 = .ok (.aload_n 0, 1) := by decide +kernel
theorem dX4_findOrder_24 : decode cX4_findOrder 24 = .ok (.getfield 31, 3) := by decide +kernel
theorem dX4_findOrder_27 : decode cX4_findOrder 27 = .ok (.iload_n 3, 1) := by decide +kernel
theorem dX4_findOrder_28 : decode cX4_findOrder 28 = .ok (.iload 4, 2) := by decide +kernel
theorem dX4_findOrder_30 : decode cX4_findOrder 30 = .ok (.iastore, 1) := by decide +kernel
theorem dX4_findOrder_31 : decode cX4_findOrder 31 = .ok (.iload_n 2, 1) := by decide +kernel
theorem dX4_findOrder_32 : decode cX4_findOrder 32 = .ok (.iconst 1, 1) := by decide +kernel
theorem dX4_findOrder_33 : decode cX4_findOrder 33 = .ok (.iload 4, 2) := by decide +kernel
theorem dX4_findOrder_35 : decode cX4_findOrder 35 = .ok (.ishl, 1) := by decide +kernel
theorem dX4_findOrder_36 : decode cX4_findOrder 36 = .ok (.ior, 1) := by decide +kernel
theorem dX4_findOrder_37 : decode cX4_findOrder 37 = .ok (.istore_n 2, 1) := by decide +kernel
theorem dX4_findOrder_38 : decode cX4_findOrder 38 = .ok (.iinc 3 1, 3) := by decide +kernel
theorem dX4_findOrder_41 : decode cX4_findOrder 41 = .ok (.goto (-37), 3) := by decide +kernel
theorem dX4_findOrder_44 : decode cX4_findOrder 44 = .ok (.return_, 1) := by decide +kernel
theorem dX4_firstThatLeads_0 : decode cX4_firstThatLeads 0 = .ok (.iconst 0, 1) := by decide +kernel
theorem dX4_firstThatLeads_1 : decode cX4_firstThatLeads 1 = .ok (.istore_n 3, 1) := by decide +kernel
theorem dX4_firstThatLeads_2 : decode cX4_firstThatLeads 2 = .ok (.iload_n 3, 1) := by decide +kernel
theorem dX4_firstThatLeads_3 : decode cX4_firstThatLeads 3 = .ok (.iload_n 2, 1) := by decide +kernel
theorem dX4_firstThatLeads_4 : decode cX4_firstThatLeads 4 = .ok (.if_icmp .ge 68, 3) := by decide +kernel
theorem dX4_firstThatLeads_7 : decode cX4_firstThatLeads 7 = .ok (.iload_n 1, 1) := by decide +kernel
theorem dX4_firstThatLeads_8 : decode cX4_firstThatLeads 8 = .ok (.iconst 1, 1) := by decide +kernel
theorem dX4_firstThatLeads_9 : decode cX4_firstThatLeads 9 = .ok (.iload_n 3, 1) := by decide +kernel
theorem dX4_firstThatLeads_10 : decode cX4_firstThatLeads 10 = .ok (.ishl, 1) := by decide +kernel
theorem dX4_firstThatLeads_11 : decode cX4_firstThatLeads 11 = .ok (.ior, 1) := by decide +kernel
theorem dX4_firstThatLeads_12 : decode cX4_firstThatLeads 12 = .ok (.istore 4, 2) := by decide +kernel
theorem dX4_firstThatLeads_14 : decode cX4_firstThatLeads 14 = .ok (.iload 4, 2) := by decide +kernel
theorem dX4_firstThatLeads_16 : decode cX4_firstThatLeads 16 = .ok (.iload_n 1, 1) := by decide +kernel
theorem dX4_firstThatLeads_17 : decode cX4_firstThatLeads 17 = .ok (.if_icmp .eq 30, 3) := by decide +kernel
theorem dX4_firstThatLeads_20 : decode cX4_firstThatLeads 20 = .ok (.aload_n 0, 1) := by decide +kernel
theorem dX4_firstThatLeads_21 : decode cX4_firstThatLeads 21 = .ok (.getfield 27, 3) := by decide +kernel
theorem dX4_firstThatLeads_24 : decode cX4_firstThatLeads 24 = .ok (.iload 4, 2) := by decide +kernel
theorem dX4_firstThatLeads_26 : decode cX4_firstThatLeads 26 = .ok (.baload, 1) := by decide +kernel
theorem dX4_firstThatLeads_27 : decode cX4_firstThatLeads 27 = .ok (.ifCond .eq 20, 3) := by decide +kernel
theorem dX4_firstThatLeads_30 : decode cX4_firstThatLeads 30 = .ok (.aload_n 0, 1) := by decide +kernel
theorem dX4_firstThatLeads_31 : decode cX4_firstThatLeads 31 = .ok (.iload 4, 2) := by decide +kernel
theorem dX4_firstThatLeads_33 : decode cX4_firstThatLeads 33 = .ok (.invokevirtual 83, 3) := by decide +kernel
theorem dX4_firstThatLeads_36 : decode cX4_firstThatLeads 36 = .ok (.aload_n 0, 1) := by decide +kernel
theorem dX4_firstThatLeads_37 : decode cX4_firstThatLeads 37 = .ok (.getfield 9, 3) := by decide +kernel
theorem dX4_firstThatLeads_40 : decode cX4_firstThatLeads 40 = .ok (.if_icmp .gt 7, 3) := by decide +kernel
theorem dX4_firstThatLeads_43 : decode cX4_firstThatLeads 43 = .ok (.iconst 1, 1) := by decide +kernel
theorem dX4_firstThatLeads_44 : decode cX4_firstThatLeads 44 = .ok (.goto 4, 3) := by decide +kernel
theorem dX4_firstThatLeads_47 : decode cX4_firstThatLeads 47 = .ok (.iconst 0, 1) := by decide +kernel
theorem dX4_firstThatLeads_48 : decode cX4_firstThatLeads 48 = .ok (.istore 5, 2) := by decide +kernel
theorem dX4_firstThatLeads_50 : decode cX4_firstThatLeads 50 = .ok (.iload 5, 2) := by decide +kernel
theorem dX4_firstThatLeads_52 : decode cX4_firstThatLeads 52 = .ok (.ifCond .eq 14, 3) := by decide +kernel
theorem dX4_firstThatLeads_55 : decode cX4_firstThatLeads 55 = .ok (.aload_n 0, 1) := by decide +kernel
theorem dX4_firstThatLeads_56 : decode cX4_firstThatLeads 56 = .ok (.iload_n 3, 1) := by decide +kernel
theorem dX4_firstThatLeads_57 : decode cX4_firstThatLeads 57 = .ok (.iload_n 1, 1) := by decide +kernel
theorem dX4_firstThatLeads_58 : decode cX4_firstThatLeads 58 = .ok (.invokevirtual 86, 3) := by decide +kernel
theorem dX4_firstThatLeads_61 : decode cX4_firstThatLeads 61 = .ok (.ifCond .eq 5, 3) := by decide +kernel
theorem dX4_firstThatLeads_64 : decode cX4_firstThatLeads 64 = .ok (.iload_n 3, 1) := by decide +kernel
theorem dX4_firstThatLeads_65 : decode cX4_firstThatLeads 65 = .ok (.ireturn, 1) := by decide +kernel
theorem dX4_firstThatLeads_66 : decode cX4_firstThatLeads 66 = .ok (.iinc 3 1, 3) := by decide +kernel
theorem dX4_firstThatLeads_69 : decode cX4_firstThatLeads 69 = .ok (.goto (-67), 3) := by decide +kernel
theorem dX4_firstThatLeads_72 : decode cX4_firstThatLeads 72 = .ok (.iconst (-1), 1) := by decide +kernel
theorem dX4_firstThatLeads_73 : decode cX4_firstThatLeads 73 = .ok (.ireturn, 1) := by decide +kernel
theorem dX4_lowestStuck_0 : decode cX4_lowestStuck 0 = .ok (.iconst 0, 1) := by decide +kernel
theorem dX4_lowestStuck_1 : decode cX4_lowestStuck 1 = .ok (.istore_n 1, 1) := by decide +kernel
theorem dX4_lowestStuck_2 : decode cX4_lowestStuck 2 = .ok (.iload_n 1, 1) := by decide +kernel
theorem dX4_lowestStuck_3 : decode cX4_lowestStuck 3 = .ok (.bipush 9, 2) := by decide +kernel
theorem dX4_lowestStuck_5 : decode cX4_lowestStuck 5 = .ok (.if_icmp .ge 38, 3) := by decide +kernel
theorem dX4_lowestStuck_8 : decode cX4_lowestStuck 8 = .ok (.iconst 1, 1) := by decide +kernel
theorem dX4_lowestStuck_9 : decode cX4_lowestStuck 9 = .ok (.iload_n 1, 1) := by decide +kernel
theorem dX4_lowestStuck_10 : decode cX4_lowestStuck 10 = .ok (.ishl, 1) := by decide +kernel
theorem dX4_lowestStuck_11 : decode cX4_lowestStuck 11 = .ok (.istore_n 2, 1) := by decide +kernel
theorem dX4_lowestStuck_12 : decode cX4_lowestStuck 12 = .ok (.aload_n 0, 1) := by decide +kernel
theorem dX4_lowestStuck_13 : decode cX4_lowestStuck 13 = .ok (.getfield 34, 3) := by decide +kernel
theorem dX4_lowestStuck_16 : decode cX4_lowestStuck 16 = .ok (.iload_n 2, 1) := by decide +kernel
theorem dX4_lowestStuck_17 : decode cX4_lowestStuck 17 = .ok (.iand, 1) := by decide +kernel
theorem dX4_lowestStuck_18 : decode cX4_lowestStuck 18 = .ok (.ifCond .eq 19, 3) := by decide +kernel
theorem dX4_lowestStuck_21 : decode cX4_lowestStuck 21 = .ok (.aload_n 0, 1) := by decide +kernel
theorem dX4_lowestStuck_22 : decode cX4_lowestStuck 22 = .ok (.iload_n 1, 1) := by decide +kernel
theorem dX4_lowestStuck_23 : decode cX4_lowestStuck 23 = .ok (.aload_n 0, 1) := by decide +kernel
theorem dX4_lowestStuck_24 : decode cX4_lowestStuck 24 = .ok (.getfield 34, 3) := by decide +kernel
theorem dX4_lowestStuck_27 : decode cX4_lowestStuck 27 = .ok (.iload_n 2, 1) := by decide +kernel
theorem dX4_lowestStuck_28 : decode cX4_lowestStuck 28 = .ok (.ixor, 1) := by decide +kernel
theorem dX4_lowestStuck_29 : decode cX4_lowestStuck 29 = .ok (.invokevirtual 86, 3) := by decide +kernel
theorem dX4_lowestStuck_32 : decode cX4_lowestStuck 32 = .ok (.ifCond .ne 5, 3) := by decide +kernel
theorem dX4_lowestStuck_35 : decode cX4_lowestStuck 35 = .ok (.iload_n 1, 1) := by decide +kernel
theorem dX4_lowestStuck_36 : decode cX4_lowestStuck 36 = .ok (.ireturn, 1) := by decide +kernel
theorem dX4_lowestStuck_37 : decode cX4_lowestStuck 37 = .ok (.iinc 1 1, 3) := by decide +kernel
theorem dX4_lowestStuck_40 : decode cX4_lowestStuck 40 = .ok (.goto (-38), 3) := by decide +kernel
theorem dX4_lowestStuck_43 : decode cX4_lowestStuck 43 = .ok (.iconst (-1), 1) := by decide +kernel
theorem dX4_lowestStuck_44 : decode cX4_lowestStuck 44 = .ok (.ireturn, 1) := by decide +kernel
theorem dX5_init_0 : decode cX5_init 0 = .ok (.aload_n 0, 1) := by decide +kernel
theorem dX5_init_1 : decode cX5_init 1 = .ok (.invokespecial 1, 3) := by decide +kernel
theorem dX5_init_4 : decode cX5_init 4 = .ok (.aload_n 0, 1) := by decide +kernel
theorem dX5_init_5 : decode cX5_init 5 = .ok (.bipush 8, 2) := by decide +kernel
theorem dX5_init_7 : decode cX5_init 7 = .ok (.newarray .long, 2) := by decide +kernel
theorem dX5_init_9 : decode cX5_init 9 = .ok (.putfield 9, 3) := by decide +kernel
theorem dX5_init_12 : decode cX5_init 12 = .ok (.return_, 1) := by decide +kernel
theorem dX5_set_0 : decode cX5_set 0 = .ok (.iconst 2, 1) := by decide +kernel
theorem dX5_set_1 : decode cX5_set 1 = .ok (.istore_n 3, 1) := by decide +kernel
theorem dX5_set_2 : decode cX5_set 2 = .ok (.iload_n 3, 1) := by decide +kernel
theorem dX5_set_3 : decode cX5_set 3 = .ok (.bipush 8, 2) := by decide +kernel
theorem dX5_set_5 : decode cX5_set 5 = .ok (.if_icmp .ge 16, 3) := by decide +kernel
theorem dX5_set_8 : decode cX5_set 8 = .ok (.aload_n 0, 1) := by decide +kernel
theorem dX5_set_9 : decode cX5_set 9 = .ok (.getfield 9, 3) := by decide +kernel
theorem dX5_set_12 : decode cX5_set 12 = .ok (.iload_n 3, 1) := by decide +kernel
theorem dX5_set_13 : decode cX5_set 13 = .ok (.lconst 0, 1) := by decide +kernel
theorem dX5_set_14 : decode cX5_set 14 = .ok (.lastore, 1) := by decide +kernel
theorem dX5_set_15 : decode cX5_set 15 = .ok (.iinc 3 1, 3) := by decide +kernel
theorem dX5_set_18 : decode cX5_set 18 = .ok (.goto (-16), 3) := by decide +kernel
theorem dX5_set_21 : decode cX5_set 21 = .ok (.aload_n 0, 1) := by decide +kernel
theorem dX5_set_22 : decode cX5_set 22 = .ok (.getfield 9, 3) := by decide +kernel
theorem dX5_set_25 : decode cX5_set 25 = .ok (.iconst 0, 1) := by decide +kernel
theorem dX5_set_26 : decode cX5_set 26 = .ok (.lload_n 1, 1) := by decide +kernel
theorem dX5_set_27 : decode cX5_set 27 = .ok (.ldc2_w 13, 3) := by decide +kernel
theorem dX5_set_30 : decode cX5_set 30 = .ok (.land, 1) := by decide +kernel
theorem dX5_set_31 : decode cX5_set 31 = .ok (.lastore, 1) := by decide +kernel
theorem dX5_set_32 : decode cX5_set 32 = .ok (.aload_n 0, 1) := by decide +kernel
theorem dX5_set_33 : decode cX5_set 33 = .ok (.getfield 9, 3) := by decide +kernel
theorem dX5_set_36 : decode cX5_set 36 = .ok (.iconst 1, 1) := by decide +kernel
theorem dX5_set_37 : decode cX5_set 37 = .ok (.lload_n 1, 1) := by decide +kernel
theorem dX5_set_38 : decode cX5_set 38 = .ok (.bipush 32, 2) := by decide +kernel
theorem dX5_set_40 : decode cX5_set 40 = .ok (.lushr, 1) := by decide +kernel
theorem dX5_set_41 : decode cX5_set 41 = .ok (.lastore, 1) := by decide +kernel
theorem dX5_set_42 : decode cX5_set 42 = .ok (.return_, 1) := by decide +kernel
theorem dX5_add_0 : decode cX5_add 0 = .ok (.lload_n 1, 1) := by decide +kernel
theorem dX5_add_1 : decode cX5_add 1 = .ok (.lstore_n 3, 1) := by decide +kernel
theorem dX5_add_2 : decode cX5_add 2 = .ok (.iconst 0, 1) := by decide +kernel
theorem dX5_add_3 : decode cX5_add 3 = .ok (.istore 5, 2) := by decide +kernel
theorem dX5_add_5 : decode cX5_add 5 = .ok (.iload 5, 2) := by decide +kernel
theorem dX5_add_7 : decode cX5_add 7 = .ok (.bipush 8, 2) := by decide +kernel
theorem dX5_add_9 : decode cX5_add 9 = .ok (.if_icmp .ge 48, 3) := by decide +kernel
theorem dX5_add_12 : decode cX5_add 12 = .ok (.aload_n 0, 1) := by decide +kernel
theorem dX5_add_13 : decode cX5_add 13 = .ok (.getfield 9, 3) := by decide +kernel
theorem dX5_add_16 : decode cX5_add 16 = .ok (.iload 5, 2) := by decide +kernel
theorem dX5_add_18 : decode cX5_add 18 = .ok (.laload, 1) := by decide +kernel
theorem dX5_add_19 : decode cX5_add 19 = .ok (.lload_n 3, 1) := by decide +kernel
theorem dX5_add_20 : decode cX5_add 20 = .ok (.ldc2_w 13, 3) := by decide +kernel
theorem dX5_add_23 : decode cX5_add 23 = .ok (.land, 1) := by decide +kernel
theorem dX5_add_24 : decode cX5_add 24 = .ok (.ladd, 1) := by decide +kernel
theorem dX5_add_25 : decode cX5_add 25 = .ok (.lstore 6, 2) := by decide +kernel
theorem dX5_add_27 : decode cX5_add 27 = .ok (.aload_n 0, 1) := by decide +kernel
theorem dX5_add_28 : decode cX5_add 28 = .ok (.getfield 9, 3) := by decide +kernel
theorem dX5_add_31 : decode cX5_add 31 = .ok (.iload 5, 2) := by decide +kernel
theorem dX5_add_33 : decode cX5_add 33 = .ok (.lload 6, 2) := by decide +kernel
theorem dX5_add_35 : decode cX5_add 35 = .ok (.ldc2_w 13, 3) := by decide +kernel
theorem dX5_add_38 : decode cX5_add 38 = .ok (.land, 1) := by decide +kernel
theorem dX5_add_39 : decode cX5_add 39 = .ok (.lastore, 1) := by decide +kernel
theorem dX5_add_40 : decode cX5_add 40 = .ok (.lload_n 3, 1) := by decide +kernel
theorem dX5_add_41 : decode cX5_add 41 = .ok (.bipush 32, 2) := by decide +kernel
theorem dX5_add_43 : decode cX5_add 43 = .ok (.lushr, 1) := by decide +kernel
theorem dX5_add_44 : decode cX5_add 44 = .ok (.lload 6, 2) := by decide +kernel
theorem dX5_add_46 : decode cX5_add 46 = .ok (.bipush 32, 2) := by decide +kernel
theorem dX5_add_48 : decode cX5_add 48 = .ok (.lushr, 1) := by decide +kernel
theorem dX5_add_49 : decode cX5_add 49 = .ok (.ladd, 1) := by decide +kernel
theorem dX5_add_50 : decode cX5_add 50 = .ok (.lstore_n 3, 1) := by decide +kernel
theorem dX5_add_51 : decode cX5_add 51 = .ok (.iinc 5 1, 3) := by decide +kernel
theorem dX5_add_54 : decode cX5_add 54 = .ok (.goto (-49), 3) := by decide +kernel
theorem dX5_add_57 : decode cX5_add 57 = .ok (.return_, 1) := by decide +kernel
theorem dX5_setProduct_0 : decode cX5_setProduct 0 = .ok (.iconst 0, 1) := by decide +kernel
theorem dX5_setProduct_1 : decode cX5_setProduct 1 = .ok (.istore_n 3, 1) := by decide +kernel
theorem dX5_setProduct_2 : decode cX5_setProduct 2 = .ok (.iload_n 3, 1) := by decide +kernel
theorem dX5_setProduct_3 : decode cX5_setProduct 3 = .ok (.bipush 8, 2) := by decide +kernel
theorem dX5_setProduct_5 : decode cX5_setProduct 5 = .ok (.if_icmp .ge 16, 3) := by decide +kernel
theorem dX5_setProduct_8 : decode cX5_setProduct 8 = .ok (.aload_n 0, 1) := by decide +kernel
theorem dX5_setProduct_9 : decode cX5_setProduct 9 = .ok (.getfield 9, 3) := by decide +kernel
theorem dX5_setProduct_12 : decode cX5_setProduct 12 = .ok (.iload_n 3, 1) := by decide +kernel
theorem dX5_setProduct_13 : decode cX5_setProduct 13 = .ok (.lconst 0, 1) := by decide +kernel
theorem dX5_setProduct_14 : decode cX5_setProduct 14 = .ok (.lastore, 1) := by decide +kernel
theorem dX5_setProduct_15 : decode cX5_setProduct 15 = .ok (.iinc 3 1, 3) := by decide +kernel
theorem dX5_setProduct_18 : decode cX5_setProduct 18 = .ok (.goto (-16), 3) := by decide +kernel
theorem dX5_setProduct_21 : decode cX5_setProduct 21 = .ok (.iconst 0, 1) := by decide +kernel
theorem dX5_setProduct_22 : decode cX5_setProduct 22 = .ok (.istore_n 3, 1) := by decide +kernel
theorem dX5_setProduct_23 : decode cX5_setProduct 23 = .ok (.iload_n 3, 1) := by decide +kernel
theorem dX5_setProduct_24 : decode cX5_setProduct 24 = .ok (.bipush 8, 2) := by decide +kernel
theorem dX5_setProduct_26 : decode cX5_setProduct 26 = .ok (.if_icmp .ge 77, 3) := by decide +kernel
theorem dX5_setProduct_29 : decode cX5_setProduct 29 = .ok (.lconst 0, 1) := by decide +kernel
theorem dX5_setProduct_30 : decode cX5_setProduct 30 = .ok (.lstore 4, 2) := by decide +kernel
theorem dX5_setProduct_32 : decode cX5_setProduct 32 = .ok (.iload_n 3, 1) := by decide +kernel
theorem dX5_setProduct_33 : decode cX5_setProduct 33 = .ok (.istore 6, 2) := by decide +kernel
theorem dX5_setProduct_35 : decode cX5_setProduct 35 = .ok (.iload 6, 2) := by decide +kernel
theorem dX5_setProduct_37 : decode cX5_setProduct 37 = .ok (.bipush 8, 2) := by decide +kernel
theorem dX5_setProduct_39 : decode cX5_setProduct 39 = .ok (.if_icmp .ge 58, 3) := by decide +kernel
theorem dX5_setProduct_42 : decode cX5_setProduct 42 = .ok (.lload 4, 2) := by decide +kernel
theorem dX5_setProduct_44 : decode cX5_setProduct 44 = .ok (.aload_n 1, 1) := by decide +kernel
theorem dX5_setProduct_45 : decode cX5_setProduct 45 = .ok (.getfield 9, 3) := by decide +kernel
theorem dX5_setProduct_48 : decode cX5_setProduct 48 = .ok (.iload_n 3, 1) := by decide +kernel
theorem dX5_setProduct_49 : decode cX5_setProduct 49 = .ok (.laload, 1) := by decide +kernel
theorem dX5_setProduct_50 : decode cX5_setProduct 50 = .ok (.aload_n 2, 1) := by decide +kernel
theorem dX5_setProduct_51 : decode cX5_setProduct 51 = .ok (.getfield 9, 3) := by decide +kernel
theorem dX5_setProduct_54 : decode cX5_setProduct 54 = .ok (.iload 6, 2) := by decide +kernel
theorem dX5_setProduct_56 : decode cX5_setProduct 56 = .ok (.iload_n 3, 1) := by decide +kernel
theorem dX5_setProduct_57 : decode cX5_setProduct 57 = .ok (.isub, 1) := by decide +kernel
theorem dX5_setProduct_58 : decode cX5_setProduct 58 = .ok (.laload, 1) := by decide +kernel
theorem dX5_setProduct_59 : decode cX5_setProduct 59 = .ok (.lmul, 1) := by decide +kernel
theorem dX5_setProduct_60 : decode cX5_setProduct 60 = .ok (.aload_n 0, 1) := by decide +kernel
theorem dX5_setProduct_61 : decode cX5_setProduct 61 = .ok (.getfield 9, 3) := by decide +kernel
theorem dX5_setProduct_64 : decode cX5_setProduct 64 = .ok (.iload 6, 2) := by decide +kernel
theorem dX5_setProduct_66 : decode cX5_setProduct 66 = .ok (.laload, 1) := by decide +kernel
theorem dX5_setProduct_67 : decode cX5_setProduct 67 = .ok (.ladd, 1) := by decide +kernel
theorem dX5_setProduct_68 : decode cX5_setProduct 68 = .ok (.ladd, 1) := by decide +kernel
theorem dX5_setProduct_69 : decode cX5_setProduct 69 = .ok (.lstore 4, 2) := by decide +kernel
theorem dX5_setProduct_71 : decode cX5_setProduct 71 = .ok (.aload_n 0, 1) := by decide +kernel
theorem dX5_setProduct_72 : decode cX5_setProduct 72 = .ok (.getfield 9, 3) := by decide +kernel
theorem dX5_setProduct_75 : decode cX5_setProduct 75 = .ok (.iload 6, 2) := by decide +kernel
theorem dX5_setProduct_77 : decode cX5_setProduct 77 = .ok (.lload 4, 2) := by decide +kernel
theorem dX5_setProduct_79 : decode cX5_setProduct 79 = .ok (.ldc2_w 13, 3) := by decide +kernel
theorem dX5_setProduct_82 : decode cX5_setProduct 82 = .ok (.land, 1) := by decide +kernel
theorem dX5_setProduct_83 : decode cX5_setProduct 83 = .ok (.lastore, 1) := by decide +kernel
theorem dX5_setProduct_84 : decode cX5_setProduct 84 = .ok (.lload 4, 2) := by decide +kernel
theorem dX5_setProduct_86 : decode cX5_setProduct 86 = .ok (.bipush 32, 2) := by decide +kernel
theorem dX5_setProduct_88 : decode cX5_setProduct 88 = .ok (.lushr, 1) := by decide +kernel
theorem dX5_setProduct_89 : decode cX5_setProduct 89 = .ok (.lstore 4, 2) := by decide +kernel
theorem dX5_setProduct_91 : decode cX5_setProduct 91 = .ok (.iinc 6 1, 3) := by decide +kernel
theorem dX5_setProduct_94 : decode cX5_setProduct 94 = .ok (.goto (-59), 3) := by decide +kernel
theorem dX5_setProduct_97 : decode cX5_setProduct 97 = .ok (.iinc 3 1, 3) := by decide +kernel
theorem dX5_setProduct_100 : decode cX5_setProduct 100 = .ok (.goto (-77), 3) := by decide +kernel
theorem dX5_setProduct_103 : decode cX5_setProduct 103 = .ok (.return_, 1) := by decide +kernel
theorem dX5_isAtMost_0 : decode cX5_isAtMost 0 = .ok (.bipush 7, 2) := by decide +kernel
theorem dX5_isAtMost_2 : decode cX5_isAtMost 2 = .ok (.istore_n 2, 1) := by decide +kernel
theorem dX5_isAtMost_3 : decode cX5_isAtMost 3 = .ok (.iload_n 2, 1) := by decide +kernel
theorem dX5_isAtMost_4 : decode cX5_isAtMost 4 = .ok (.ifCond .lt 47, 3) := by decide +kernel
theorem dX5_isAtMost_7 : decode cX5_isAtMost 7 = .ok (.aload_n 0, 1) := by decide +kernel
theorem dX5_isAtMost_8 : decode cX5_isAtMost 8 = .ok (.getfield 9, 3) := by decide +kernel
theorem dX5_isAtMost_11 : decode cX5_isAtMost 11 = .ok (.iload_n 2, 1) := by decide +kernel
theorem dX5_isAtMost_12 : decode cX5_isAtMost 12 = .ok (.laload, 1) := by decide +kernel
theorem dX5_isAtMost_13 : decode cX5_isAtMost 13 = .ok (.aload_n 1, 1) := by decide +kernel
theorem dX5_isAtMost_14 : decode cX5_isAtMost 14 = .ok (.getfield 9, 3) := by decide +kernel
theorem dX5_isAtMost_17 : decode cX5_isAtMost 17 = .ok (.iload_n 2, 1) := by decide +kernel
theorem dX5_isAtMost_18 : decode cX5_isAtMost 18 = .ok (.laload, 1) := by decide +kernel
theorem dX5_isAtMost_19 : decode cX5_isAtMost 19 = .ok (.lcmp, 1) := by decide +kernel
theorem dX5_isAtMost_20 : decode cX5_isAtMost 20 = .ok (.ifCond .eq 25, 3) := by decide +kernel
theorem dX5_isAtMost_23 : decode cX5_isAtMost 23 = .ok (.aload_n 0, 1) := by decide +kernel
theorem dX5_isAtMost_24 : decode cX5_isAtMost 24 = .ok (.getfield 9, 3) := by decide +kernel
theorem dX5_isAtMost_27 : decode cX5_isAtMost 27 = .ok (.iload_n 2, 1) := by decide +kernel
theorem dX5_isAtMost_28 : decode cX5_isAtMost 28 = .ok (.laload, 1) := by decide +kernel
theorem dX5_isAtMost_29 : decode cX5_isAtMost 29 = .ok (.aload_n 1, 1) := by decide +kernel
theorem dX5_isAtMost_30 : decode cX5_isAtMost 30 = .ok (.getfield 9, 3) := by decide +kernel
theorem dX5_isAtMost_33 : decode cX5_isAtMost 33 = .ok (.iload_n 2, 1) := by decide +kernel
theorem dX5_isAtMost_34 : decode cX5_isAtMost 34 = .ok (.laload, 1) := by decide +kernel
theorem dX5_isAtMost_35 : decode cX5_isAtMost 35 = .ok (.lcmp, 1) := by decide +kernel
theorem dX5_isAtMost_36 : decode cX5_isAtMost 36 = .ok (.ifCond .ge 7, 3) := by decide +kernel
theorem dX5_isAtMost_39 : decode cX5_isAtMost 39 = .ok (.iconst 1, 1) := by decide +kernel
theorem dX5_isAtMost_40 : decode cX5_isAtMost 40 = .ok (.goto 4, 3) := by decide +kernel
theorem dX5_isAtMost_43 : decode cX5_isAtMost 43 = .ok (.iconst 0, 1) := by decide +kernel
theorem dX5_isAtMost_44 : decode cX5_isAtMost 44 = .ok (.ireturn, 1) := by decide +kernel
theorem dX5_isAtMost_45 : decode cX5_isAtMost 45 = .ok (.iinc 2 (-1), 3) := by decide +kernel
theorem dX5_isAtMost_48 : decode cX5_isAtMost 48 = .ok (.goto (-45), 3) := by decide +kernel
theorem dX5_isAtMost_51 : decode cX5_isAtMost 51 = .ok (.iconst 1, 1) := by decide +kernel
theorem dX5_isAtMost_52 : decode cX5_isAtMost 52 = .ok (.ireturn, 1) := by decide +kernel
theorem dX6_init_0 : decode cX6_init 0 = .ok (.aload_n 0, 1) := by decide +kernel
theorem dX6_init_1 : decode cX6_init 1 = .ok (.invokespecial 3, 3) := by decide +kernel
theorem dX6_init_4 : decode cX6_init 4 = .ok (.aload_n 0, 1) := by decide +kernel
theorem dX6_init_5 : decode cX6_init 5 = .ok (.new 9, 3) := by decide +kernel
theorem dX6_init_8 : decode cX6_init 8 = .ok (.dup, 1) := by decide +kernel
theorem dX6_init_9 : decode cX6_init 9 = .ok (.invokespecial 11, 3) := by decide +kernel
theorem dX6_init_12 : decode cX6_init 12 = .ok (.putfield 12, 3) := by decide +kernel
theorem dX6_init_15 : decode cX6_init 15 = .ok (.aload_n 0, 1) := by decide +kernel
theorem dX6_init_16 : decode cX6_init 16 = .ok (.new 16, 3) := by decide +kernel
theorem dX6_init_19 : decode cX6_init 19 = .ok (.dup, 1) := by decide +kernel
theorem dX6_init_20 : decode cX6_init 20 = .ok (.invokespecial 18, 3) := by decide +kernel
theorem dX6_init_23 : decode cX6_init 23 = .ok (.putfield 19, 3) := by decide +kernel
theorem dX6_init_26 : decode cX6_init 26 = .ok (.aload_n 0, 1) := by decide +kernel
theorem dX6_init_27 : decode cX6_init 27 = .ok (.new 23, 3) := by decide +kernel
theorem dX6_init_30 : decode cX6_init 30 = .ok (.dup, 1) := by decide +kernel
theorem dX6_init_31 : decode cX6_init 31 = .ok (.invokespecial 25, 3) := by decide +kernel
theorem dX6_init_34 : decode cX6_init 34 = .ok (.putfield 26, 3) := by decide +kernel
theorem dX6_init_37 : decode cX6_init 37 = .ok (.aload_n 0, 1) := by decide +kernel
theorem dX6_init_38 : decode cX6_init 38 = .ok (.new 30, 3) := by decide +kernel
theorem dX6_init_41 : decode cX6_init 41 = .ok (.dup, 1) := by decide +kernel
theorem dX6_init_42 : decode cX6_init 42 = .ok (.invokespecial 32, 3) := by decide +kernel
theorem dX6_init_45 : decode cX6_init 45 = .ok (.putfield 33, 3) := by decide +kernel
theorem dX6_init_48 : decode cX6_init 48 = .ok (.aload_n 0, 1) := by decide +kernel
