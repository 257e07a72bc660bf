theorem dX6_init_0 : decode cX6_init 0 = .ok (.aload_n 0, 1) := by decide +kernel
theorem dX6_init_1 : decode cX6_init 1 = .ok (.invokespecial 3, 3) := by decide +kernel
theorem dX6_init_4 : decode cX6_init 4 = .ok (.aload_n 0, 1) := by decide +kernel
theorem dX6_init_5 : decode cX6_init 5 = .ok (.new 9, 3) := by decide +kernel
theorem dX6_init_8 : decode cX6_init 8 = .ok (.dup, 1) := by decide +kernel
theorem dX6_init_9 : decode cX6_init 9 = .ok (.invokespecial 11, 3) := by decide +kernel
theorem dX2_init_0 : decode cX2_init 0 = .ok (.aload_n 0, 1) := by decide +kernel
theorem dX2_init_1 : decode cX2_init 1 = .ok (.invokespecial 3, 3) := by decide +kernel
theorem dX2_init_4 : decode cX2_init 4 = .ok (.aload_n 0, 1) := by decide +kernel
theorem dX2_init_5 : decode cX2_init 5 = .ok (.bipush 16, 2) := by decide +kernel
theorem dX2_init_7 : decode cX2_init 7 = .ok (.newarray .int, 2) := by decide +kernel
theorem dX2_init_9 : decode cX2_init 9 = .ok (.putfield 9, 3) := by decide +kernel
theorem dX2_init_12 : decode cX2_init 12 = .ok (.aload_n 0, 1) := by decide +kernel
theorem dX2_init_13 : decode cX2_init 13 = .ok (.bipush 16, 2) := by decide +kernel
theorem dX2_init_15 : decode cX2_init 15 = .ok (.newarray .int, 2) := by decide +kernel
theorem dX2_init_17 : decode cX2_init 17 = .ok (.putfield 15, 3) := by decide +kernel
theorem dX2_init_20 : decode cX2_init 20 = .ok (.aload_n 0, 1) := by decide +kernel
theorem dX2_init_21 : decode cX2_init 21 = .ok (.bipush 8, 2) := by decide +kernel
theorem dX2_init_23 : decode cX2_init 23 = .ok (.newarray .int, 2) := by decide +kernel
theorem dX2_init_25 : decode cX2_init 25 = .ok (.putfield 18, 3) := by decide +kernel
theorem dX2_init_28 : decode cX2_init 28 = .ok (.aload_n 0, 1) := by decide +kernel
theorem dX2_init_29 : decode cX2_init 29 = .ok (.bipush 8, 2) := by decide +kernel
theorem dX2_init_31 : decode cX2_init 31 = .ok (.newarray .char, 2) := by decide +kernel
theorem dX2_init_33 : decode cX2_init 33 = .ok (.putfield 21, 3) := by decide +kernel
theorem dX2_init_36 : decode cX2_init 36 = .ok (.aload_n 0, 1) := by decide +kernel
theorem dX2_init_37 : decode cX2_init 37 = .ok (.bipush 9, 2) := by decide +kernel
theorem dX2_init_39 : decode cX2_init 39 = .ok (.newarray .int, 2) := by decide +kernel
theorem dX2_init_41 : decode cX2_init 41 = .ok (.putfield 25, 3) := by decide +kernel
theorem dX2_init_44 : decode cX2_init 44 = .ok (.aload_n 0, 1) := by decide +kernel
theorem dX2_init_45 : decode cX2_init 45 = .ok (.bipush 9, 2) := by decide +kernel
theorem dX2_init_47 : decode cX2_init 47 = .ok (.newarray .int, 2) := by decide +kernel
theorem dX2_init_49 : decode cX2_init 49 = .ok (.putfield 28, 3) := by decide +kernel
theorem dX2_init_52 : decode cX2_init 52 = .ok (.aload_n 0, 1) := by decide +kernel
theorem dX2_init_53 : decode cX2_init 53 = .ok (.bipush 9, 2) := by decide +kernel
theorem dX2_init_55 : decode cX2_init 55 = .ok (.newarray .int, 2) := by decide +kernel
theorem dX2_init_57 : decode cX2_init 57 = .ok (.putfield 31, 3) := by decide +kernel
theorem dX2_init_60 : decode cX2_init 60 = .ok (.aload_n 0, 1) := by decide +kernel
theorem dX2_init_61 : decode cX2_init 61 = .ok (.bipush 9, 2) := by decide +kernel
theorem dX2_init_63 : decode cX2_init 63 = .ok (.newarray .int, 2) := by decide +kernel
theorem dX2_init_65 : decode cX2_init 65 = .ok (.putfield 34, 3) := by decide +kernel
theorem dX2_init_68 : decode cX2_init 68 = .ok (.aload_n 0, 1) := by decide +kernel
theorem dX2_init_69 : decode cX2_init 69 = .ok (.bipush 9, 2) := by decide +kernel
theorem dX2_init_71 : decode cX2_init 71 = .ok (.newarray .int, 2) := by decide +kernel
theorem dX2_init_73 : decode cX2_init 73 = .ok (.putfield 37, 3) := by decide +kernel
theorem dX2_init_76 : decode cX2_init 76 = .ok (.aload_n 0, 1) := by decide +kernel
theorem dX2_init_77 : decode cX2_init 77 = .ok (.bipush 9, 2) := by decide +kernel
theorem dX2_init_79 : decode cX2_init 79 = .ok (.newarray .int, 2) := by decide +kernel
theorem dX2_init_81 : decode cX2_init 81 = .ok (.putfield 40, 3) := by decide +kernel
theorem dX2_init_84 : decode cX2_init 84 = .ok (.return_, 1) := by decide +kernel
theorem dX6_init_12 : decode cX6_init 12 = .ok (.putfield 12, 3) := by decide +kernel
theorem dX6_init_15 : decode cX6_init 15 = .ok (.aload_n 0, 1) := by decide +kernel
theorem dX6_init_16 : decode cX6_init 16 = .ok (.new 16, 3) := by decide +kernel
theorem dX6_init_19 : decode cX6_init 19 = .ok (.dup, 1) := by decide +kernel
theorem dX6_init_20 : decode cX6_init 20 = .ok (.invokespecial 18, 3) := by decide +kernel
theorem dX1_init_0 : decode cX1_init 0 = .ok (.aload_n 0, 1) := by decide +kernel
theorem dX1_init_1 : decode cX1_init 1 = .ok (.invokespecial 3, 3) := by decide +kernel
theorem dX1_init_4 : decode cX1_init 4 = .ok (.aload_n 0, 1) := by decide +kernel
theorem dX1_init_5 : decode cX1_init 5 = .ok (.bipush 25, 2) := by decide +kernel
theorem dX1_init_7 : decode cX1_init 7 = .ok (.newarray .long, 2) := by decide +kernel
theorem dX1_init_9 : decode cX1_init 9 = .ok (.putfield 11, 3) := by decide +kernel
theorem dX1_init_12 : decode cX1_init 12 = .ok (.aload_n 0, 1) := by decide +kernel
theorem dX1_init_13 : decode cX1_init 13 = .ok (.bipush 25, 2) := by decide +kernel
theorem dX1_init_15 : decode cX1_init 15 = .ok (.newarray .long, 2) := by decide +kernel
theorem dX1_init_17 : decode cX1_init 17 = .ok (.putfield 15, 3) := by decide +kernel
theorem dX1_init_20 : decode cX1_init 20 = .ok (.aload_n 0, 1) := by decide +kernel
theorem dX1_init_21 : decode cX1_init 21 = .ok (.bipush 9, 2) := by decide +kernel
theorem dX1_init_23 : decode cX1_init 23 = .ok (.newarray .long, 2) := by decide +kernel
theorem dX1_init_25 : decode cX1_init 25 = .ok (.putfield 18, 3) := by decide +kernel
theorem dX1_init_28 : decode cX1_init 28 = .ok (.aload_n 0, 1) := by decide +kernel
theorem dX1_init_29 : decode cX1_init 29 = .ok (.bipush 81, 2) := by decide +kernel
theorem dX1_init_31 : decode cX1_init 31 = .ok (.newarray .int, 2) := by decide +kernel
theorem dX1_init_33 : decode cX1_init 33 = .ok (.putfield 21, 3) := by decide +kernel
theorem dX1_init_36 : decode cX1_init 36 = .ok (.aload_n 0, 1) := by decide +kernel
theorem dX1_init_37 : decode cX1_init 37 = .ok (.bipush 9, 2) := by decide +kernel
theorem dX1_init_39 : decode cX1_init 39 = .ok (.newarray .int, 2) := by decide +kernel
theorem dX1_init_41 : decode cX1_init 41 = .ok (.putfield 25, 3) := by decide +kernel
theorem dX1_init_44 : decode cX1_init 44 = .ok (.aload_n 0, 1) := by decide +kernel
theorem dX1_init_45 : decode cX1_init 45 = .ok (.bipush 9, 2) := by decide +kernel
theorem dX1_init_47 : decode cX1_init 47 = .ok (.newarray .int, 2) := by decide +kernel
theorem dX1_init_49 : decode cX1_init 49 = .ok (.putfield 28, 3) := by decide +kernel
theorem dX1_init_52 : decode cX1_init 52 = .ok (.aload_n 0, 1) := by decide +kernel
theorem dX1_init_53 : decode cX1_init 53 = .ok (.sipush 512, 3) := by decide +kernel
theorem dX1_init_56 : decode cX1_init 56 = .ok (.newarray .long, 2) := by decide +kernel
theorem dX1_init_58 : decode cX1_init 58 = .ok (.putfield 31, 3) := by decide +kernel
theorem dX1_init_61 : decode cX1_init 61 = .ok (.aload_n 0, 1) := by decide +kernel
theorem dX1_init_62 : decode cX1_init 62 = .ok (.sipush 512, 3) := by decide +kernel
theorem dX1_init_65 : decode cX1_init 65 = .ok (.newarray .long, 2) := by decide +kernel
theorem dX1_init_67 : decode cX1_init 67 = .ok (.putfield 34, 3) := by decide +kernel
theorem dX1_init_70 : decode cX1_init 70 = .ok (.aload_n 0, 1) := by decide +kernel
theorem dX1_init_71 : decode cX1_init 71 = .ok (.sipush 512, 3) := by decide +kernel
theorem dX1_init_74 : decode cX1_init 74 = .ok (.newarray .long, 2) := by decide +kernel
theorem dX1_init_76 : decode cX1_init 76 = .ok (.putfield 37, 3) := by decide +kernel
theorem dX1_init_79 : decode cX1_init 79 = .ok (.aload_n 0, 1) := by decide +kernel
theorem dX1_init_80 : decode cX1_init 80 = .ok (.new 40, 3) := by decide +kernel
theorem dX1_init_83 : decode cX1_init 83 = .ok (.dup, 1) := by decide +kernel
theorem dX1_init_84 : decode cX1_init 84 = .ok (.invokespecial 42, 3) := by decide +kernel
theorem dX5_init_0 : decode cX5_init 0 = .ok (.aload_n 0, 1) := by decide +kernel
theorem dX5_init_1 : decode cX5_init 1 = .ok (.invokespecial 1, 3) := by decide +kernel
theorem dX5_init_4 : decode cX5_init 4 = .ok (.aload_n 0, 1) := by decide +kernel
theorem dX5_init_5 : decode cX5_init 5 = .ok (.bipush 8, 2) := by decide +kernel
theorem dX5_init_7 : decode cX5_init 7 = .ok (.newarray .long, 2) := by decide +kernel
theorem dX5_init_9 : decode cX5_init 9 = .ok (.putfield 9, 3) := by decide +kernel
theorem dX5_init_12 : decode cX5_init 12 = .ok (.return_, 1) := by decide +kernel
theorem dX1_init_87 : decode cX1_init 87 = .ok (.putfield 43, 3) := by decide +kernel
theorem dX1_init_90 : decode cX1_init 90 = .ok (.aload_n 0, 1) := by decide +kernel
theorem dX1_init_91 : decode cX1_init 91 = .ok (.new 40, 3) := by decide +kernel
theorem dX1_init_94 : decode cX1_init 94 = .ok (.dup, 1) := by decide +kernel
theorem dX1_init_95 : decode cX1_init 95 = .ok (.invokespecial 42, 3) := by decide +kernel
theorem dX1_init_98 : decode cX1_init 98 = .ok (.putfield 47, 3) := by decide +kernel
theorem dX1_init_101 : decode cX1_init 101 = .ok (.aload_n 0, 1) := by decide +kernel
theorem dX1_init_102 : decode cX1_init 102 = .ok (.new 40, 3) := by decide +kernel
theorem dX1_init_105 : decode cX1_init 105 = .ok (.dup, 1) := by decide +kernel
theorem dX1_init_106 : decode cX1_init 106 = .ok (.invokespecial 42, 3) := by decide +kernel
theorem dX1_init_109 : decode cX1_init 109 = .ok (.putfield 50, 3) := by decide +kernel
theorem dX1_init_112 : decode cX1_init 112 = .ok (.aload_n 0, 1) := by decide +kernel
theorem dX1_init_113 : decode cX1_init 113 = .ok (.new 40, 3) := by decide +kernel
theorem dX1_init_116 : decode cX1_init 116 = .ok (.dup, 1) := by decide +kernel
theorem dX1_init_117 : decode cX1_init 117 = .ok (.invokespecial 42, 3) := by decide +kernel
theorem dX1_init_120 : decode cX1_init 120 = .ok (.putfield 53, 3) := by decide +kernel
theorem dX1_init_123 : decode cX1_init 123 = .ok (.aload_n 0, 1) := by decide +kernel
theorem dX1_init_124 : decode cX1_init 124 = .ok (.new 40, 3) := by decide +kernel
theorem dX1_init_127 : decode cX1_init 127 = .ok (.dup, 1) := by decide +kernel
theorem dX1_init_128 : decode cX1_init 128 = .ok (.invokespecial 42, 3) := by decide +kernel
theorem dX1_init_131 : decode cX1_init 131 = .ok (.putfield 56, 3) := by decide +kernel
theorem dX1_init_134 : decode cX1_init 134 = .ok (.return_, 1) := by decide +kernel
theorem dX6_init_23 : decode cX6_init 23 = .ok (.putfield 19, 3) := by decide +kernel
theorem dX6_init_26 : decode cX6_init 26 = .ok (.aload_n 0, 1) := by decide +kernel
theorem dX6_init_27 : decode cX6_init 27 = .ok (.new 23, 3) := by decide +kernel
theorem dX6_init_30 : decode cX6_init 30 = .ok (.dup, 1) := by decide +kernel
theorem dX6_init_31 : decode cX6_init 31 = .ok (.invokespecial 25, 3) := by decide +kernel
theorem dX3_init_0 : decode cX3_init 0 = .ok (.aload_n 0, 1) := by decide +kernel
theorem dX3_init_1 : decode cX3_init 1 = .ok (.invokespecial 3, 3) := by decide +kernel
theorem dX3_init_4 : decode cX3_init 4 = .ok (.aload_n 0, 1) := by decide +kernel
theorem dX3_init_5 : decode cX3_init 5 = .ok (.bipush 12, 2) := by decide +kernel
theorem dX3_init_7 : decode cX3_init 7 = .ok (.newarray .int, 2) := by decide +kernel
theorem dX3_init_9 : decode cX3_init 9 = .ok (.putfield 9, 3) := by decide +kernel
theorem dX3_init_12 : decode cX3_init 12 = .ok (.aload_n 0, 1) := by decide +kernel
theorem dX3_init_13 : decode cX3_init 13 = .ok (.bipush 12, 2) := by decide +kernel
theorem dX3_init_15 : decode cX3_init 15 = .ok (.newarray .int, 2) := by decide +kernel
theorem dX3_init_17 : decode cX3_init 17 = .ok (.putfield 15, 3) := by decide +kernel
theorem dX3_init_20 : decode cX3_init 20 = .ok (.aload_n 0, 1) := by decide +kernel
theorem dX3_init_21 : decode cX3_init 21 = .ok (.bipush 12, 2) := by decide +kernel
theorem dX3_init_23 : decode cX3_init 23 = .ok (.newarray .int, 2) := by decide +kernel
theorem dX3_init_25 : decode cX3_init 25 = .ok (.putfield 18, 3) := by decide +kernel
theorem dX3_init_28 : decode cX3_init 28 = .ok (.aload_n 0, 1) := by decide +kernel
theorem dX3_init_29 : decode cX3_init 29 = .ok (.bipush 12, 2) := by decide +kernel
theorem dX3_init_31 : decode cX3_init 31 = .ok (.newarray .int, 2) := by decide +kernel
theorem dX3_init_33 : decode cX3_init 33 = .ok (.putfield 21, 3) := by decide +kernel
theorem dX3_init_36 : decode cX3_init 36 = .ok (.aload_n 0, 1) := by decide +kernel
theorem dX3_init_37 : decode cX3_init 37 = .ok (.bipush 12, 2) := by decide +kernel
theorem dX3_init_39 : decode cX3_init 39 = .ok (.newarray .int, 2) := by decide +kernel
theorem dX3_init_41 : decode cX3_init 41 = .ok (.putfield 24, 3) := by decide +kernel
theorem dX3_init_44 : decode cX3_init 44 = .ok (.return_, 1) := by decide +kernel
theorem dX6_init_34 : decode cX6_init 34 = .ok (.putfield 26, 3) := by decide +kernel
theorem dX6_init_37 : decode cX6_init 37 = .ok (.aload_n 0, 1) := by decide +kernel
theorem dX6_init_38 : decode cX6_init 38 = .ok (.new 30, 3) := by decide +kernel
theorem dX6_init_41 : decode cX6_init 41 = .ok (.dup, 1) := by decide +kernel
theorem dX6_init_42 : decode cX6_init 42 = .ok (.invokespecial 32, 3) := by decide +kernel
theorem dX0_init_0 : decode cX0_init 0 = .ok (.aload_n 0, 1) := by decide +kernel
theorem dX0_init_1 : decode cX0_init 1 = .ok (.invokespecial 3, 3) := by decide +kernel
theorem dX0_init_4 : decode cX0_init 4 = .ok (.aload_n 0, 1) := by decide +kernel
theorem dX0_init_5 : decode cX0_init 5 = .ok (.bipush 9, 2) := by decide +kernel
theorem dX0_init_7 : decode cX0_init 7 = .ok (.newarray .int, 2) := by decide +kernel
theorem dX0_init_9 : decode cX0_init 9 = .ok (.putfield 9, 3) := by decide +kernel
theorem dX0_init_12 : decode cX0_init 12 = .ok (.aload_n 0, 1) := by decide +kernel
theorem dX0_init_13 : decode cX0_init 13 = .ok (.iconst 5, 1) := by decide +kernel
theorem dX0_init_14 : decode cX0_init 14 = .ok (.newarray .int, 2) := by decide +kernel
theorem dX0_init_16 : decode cX0_init 16 = .ok (.putfield 15, 3) := by decide +kernel
theorem dX0_init_19 : decode cX0_init 19 = .ok (.aload_n 0, 1) := by decide +kernel
theorem dX0_init_20 : decode cX0_init 20 = .ok (.iconst 5, 1) := by decide +kernel
theorem dX0_init_21 : decode cX0_init 21 = .ok (.newarray .int, 2) := by decide +kernel
theorem dX0_init_23 : decode cX0_init 23 = .ok (.putfield 18, 3) := by decide +kernel
theorem dX0_init_26 : decode cX0_init 26 = .ok (.aload_n 0, 1) := by decide +kernel
theorem dX0_init_27 : decode cX0_init 27 = .ok (.iconst 5, 1) := by decide +kernel
theorem dX0_init_28 : decode cX0_init 28 = .ok (.newarray .int, 2) := by decide +kernel
theorem dX0_init_30 : decode cX0_init 30 = .ok (.putfield 21, 3) := by decide +kernel
theorem dX0_init_33 : decode cX0_init 33 = .ok (.aload_n 0, 1) := by decide +kernel
theorem dX0_init_34 : decode cX0_init 34 = .ok (.sipush 512, 3) := by decide +kernel
theorem dX0_init_37 : decode cX0_init 37 = .ok (.newarray .int, 2) := by decide +kernel
theorem dX0_init_39 : decode cX0_init 39 = .ok (.putfield 24, 3) := by decide +kernel
theorem dX0_init_42 : decode cX0_init 42 = .ok (.aload_n 0, 1) := by decide +kernel
theorem dX0_init_43 : decode cX0_init 43 = .ok (.sipush 512, 3) := by decide +kernel
theorem dX0_init_46 : decode cX0_init 46 = .ok (.newarray .int, 2) := by decide +kernel
theorem dX0_init_48 : decode cX0_init 48 = .ok (.putfield 27, 3) := by decide +kernel
theorem dX0_init_51 : decode cX0_init 51 = .ok (.aload_n 0, 1) := by decide +kernel
theorem dX0_init_52 : decode cX0_init 52 = .ok (.sipush 512, 3) := by decide +kernel
theorem dX0_init_55 : decode cX0_init 55 = .ok (.newarray .long, 2) := by decide +kernel
theorem dX0_init_57 : decode cX0_init 57 = .ok (.putfield 30, 3) := by decide +kernel
theorem dX0_init_60 : decode cX0_init 60 = .ok (.return_, 1) := by decide +kernel
theorem dX6_init_45 : decode cX6_init 45 = .ok (.putfield 33, 3) := by decide +kernel
theorem dX6_init_48 : decode cX6_init 48 = .ok (.aload_n 0, 1) := by decide +kernel
theorem dX6_init_49 : decode cX6_init 49 = .ok (.new 37, 3) := by decide +kernel
theorem dX6_init_52 : decode cX6_init 52 = .ok (.dup, 1) := by decide +kernel
theorem dX6_init_53 : decode cX6_init 53 = .ok (.invokespecial 39, 3) := by decide +kernel
theorem dX4_init_0 : decode cX4_init 0 = .ok (.aload_n 0, 1) := by decide +kernel
theorem dX4_init_1 : decode cX4_init 1 = .ok (.invokespecial 3, 3) := by decide +kernel
theorem dX4_init_4 : decode cX4_init 4 = .ok (.aload_n 0, 1) := by decide +kernel
theorem dX4_init_5 : decode cX4_init 5 = .ok (.iconst 2, 1) := by decide +kernel
theorem dX4_init_6 : decode cX4_init 6 = .ok (.putfield 9, 3) := by decide +kernel
theorem dX4_init_9 : decode cX4_init 9 = .ok (.aload_n 0, 1) := by decide +kernel
theorem dX4_init_10 : decode cX4_init 10 = .ok (.bipush 45, 2) := by decide +kernel
theorem dX4_init_12 : decode cX4_init 12 = .ok (.newarray .int, 2) := by decide +kernel
theorem dX4_init_14 : decode cX4_init 14 = .ok (.putfield 17, 3) := by decide +kernel
theorem dX4_init_17 : decode cX4_init 17 = .ok (.aload_n 0, 1) := by decide +kernel
theorem dX4_init_18 : decode cX4_init 18 = .ok (.bipush 9, 2) := by decide +kernel
theorem dX4_init_20 : decode cX4_init 20 = .ok (.newarray .int, 2) := by decide +kernel
theorem dX4_init_22 : decode cX4_init 22 = .ok (.putfield 21, 3) := by decide +kernel
theorem dX4_init_25 : decode cX4_init 25 = .ok (.aload_n 0, 1) := by decide +kernel
theorem dX4_init_26 : decode cX4_init 26 = .ok (.sipush 512, 3) := by decide +kernel
theorem dX4_init_29 : decode cX4_init 29 = .ok (.newarray .int, 2) := by decide +kernel
theorem dX4_init_31 : decode cX4_init 31 = .ok (.putfield 24, 3) := by decide +kernel
theorem dX4_init_34 : decode cX4_init 34 = .ok (.aload_n 0, 1) := by decide +kernel
theorem dX4_init_35 : decode cX4_init 35 = .ok (.sipush 512, 3) := by decide +kernel
theorem dX4_init_38 : decode cX4_init 38 = .ok (.newarray .boolean, 2) := by decide +kernel
theorem dX4_init_40 : decode cX4_init 40 = .ok (.putfield 27, 3) := by decide +kernel
theorem dX4_init_43 : decode cX4_init 43 = .ok (.aload_n 0, 1) := by decide +kernel
theorem dX4_init_44 : decode cX4_init 44 = .ok (.bipush 9, 2) := by decide +kernel
theorem dX4_init_46 : decode cX4_init 46 = .ok (.newarray .int, 2) := by decide +kernel
theorem dX4_init_48 : decode cX4_init 48 = .ok (.putfield 31, 3) := by decide +kernel
theorem dX4_init_51 : decode cX4_init 51 = .ok (.return_, 1) := by decide +kernel
theorem dX6_init_56 : decode cX6_init 56 = .ok (.putfield 40, 3) := by decide +kernel
theorem dX6_init_59 : decode cX6_init 59 = .ok (.return_, 1) := by decide +kernel
theorem dX12_init_0 : decode cX12_init 0 = .ok (.aload_n 0, 1) := by decide +kernel
theorem dX12_init_1 : decode cX12_init 1 = .ok (.invokespecial 1, 3) := by decide +kernel
theorem dX12_init_4 : decode cX12_init 4 = .ok (.aload_n 0, 1) := by decide +kernel
theorem dX12_init_5 : decode cX12_init 5 = .ok (.new 7, 3) := by decide +kernel
theorem dX12_init_8 : decode cX12_init 8 = .ok (.dup, 1) := by decide +kernel
theorem dX12_init_9 : decode cX12_init 9 = .ok (.invokespecial 9, 3) := by decide +kernel
theorem dJx4a65c_init_da8c8_0 : decode cJx4a65c_init_da8c8 0 = .ok (.aload_n 0, 1) := by decide +kernel
theorem dJx4a65c_init_da8c8_1 : decode cJx4a65c_init_da8c8 1 = .ok (.invokespecial 1, 3) := by decide +kernel
theorem dJxc12de_init_da8c8_0 : decode cJxc12de_init_da8c8 0 = .ok (.aload_n 0, 1) := by decide +kernel
theorem dJxc12de_init_da8c8_1 : decode cJxc12de_init_da8c8 1 = .ok (.invokespecial 1, 3) := by decide +kernel
theorem dJxa1e45_init_da8c8_0 : decode cJxa1e45_init_da8c8 0 = .ok (.aload_n 0, 1) := by decide +kernel
theorem dJxa1e45_init_da8c8_1 : decode cJxa1e45_init_da8c8 1 = .ok (.invokespecial 1, 3) := by decide +kernel
theorem dJxa1e45_init_da8c8_4 : decode cJxa1e45_init_da8c8 4 = .ok (.return_, 1) := by decide +kernel
theorem dJxc12de_init_da8c8_4 : decode cJxc12de_init_da8c8 4 = .ok (.aload_n 0, 1) := by decide +kernel
theorem dJxc12de_init_da8c8_5 : decode cJxc12de_init_da8c8 5 = .ok (.iconst 0, 1) := by decide +kernel
theorem dJxc12de_init_da8c8_6 : decode cJxc12de_init_da8c8 6 = .ok (.putfield 7, 3) := by decide +kernel
theorem dJxc12de_init_da8c8_9 : decode cJxc12de_init_da8c8 9 = .ok (.return_, 1) := by decide +kernel
theorem dJx4a65c_init_da8c8_4 : decode cJx4a65c_init_da8c8 4 = .ok (.aload_n 0, 1) := by decide +kernel
theorem dJx4a65c_init_da8c8_5 : decode cJx4a65c_init_da8c8 5 = .ok (.getstatic 39, 3) := by decide +kernel
theorem dJx4a65c_init_da8c8_8 : decode cJx4a65c_init_da8c8 8 = .ok (.putfield 9, 3) := by decide +kernel
theorem dJx4a65c_init_da8c8_11 : decode cJx4a65c_init_da8c8 11 = .ok (.return_, 1) := by decide +kernel
theorem dX12_init_12 : decode cX12_init 12 = .ok (.putfield 10, 3) := by decide +kernel
theorem dX12_init_15 : decode cX12_init 15 = .ok (.aload_n 0, 1) := by decide +kernel
theorem dX12_init_16 : decode cX12_init 16 = .ok (.new 7, 3) := by decide +kernel
theorem dX12_init_19 : decode cX12_init 19 = .ok (.dup, 1) := by decide +kernel
theorem dX12_init_20 : decode cX12_init 20 = .ok (.invokespecial 9, 3) := by decide +kernel
theorem dX12_init_23 : decode cX12_init 23 = .ok (.putfield 16, 3) := by decide +kernel
theorem dX12_init_26 : decode cX12_init 26 = .ok (.aload_n 0, 1) := by decide +kernel
theorem dX12_init_27 : decode cX12_init 27 = .ok (.new 7, 3) := by decide +kernel
theorem dX12_init_30 : decode cX12_init 30 = .ok (.dup, 1) := by decide +kernel
theorem dX12_init_31 : decode cX12_init 31 = .ok (.invokespecial 9, 3) := by decide +kernel
theorem dX12_init_34 : decode cX12_init 34 = .ok (.putfield 19, 3) := by decide +kernel
theorem dX12_init_37 : decode cX12_init 37 = .ok (.aload_n 0, 1) := by decide +kernel
theorem dX12_init_38 : decode cX12_init 38 = .ok (.new 7, 3) := by decide +kernel
theorem dX12_init_41 : decode cX12_init 41 = .ok (.dup, 1) := by decide +kernel
theorem dX12_init_42 : decode cX12_init 42 = .ok (.invokespecial 9, 3) := by decide +kernel
theorem dX12_init_45 : decode cX12_init 45 = .ok (.putfield 22, 3) := by decide +kernel
theorem dX12_init_48 : decode cX12_init 48 = .ok (.aload_n 0, 1) := by decide +kernel
theorem dX12_init_49 : decode cX12_init 49 = .ok (.sipush 512, 3) := by decide +kernel
theorem dX12_init_52 : decode cX12_init 52 = .ok (.newarray .long, 2) := by decide +kernel
theorem dX12_init_54 : decode cX12_init 54 = .ok (.putfield 25, 3) := by decide +kernel
theorem dX12_init_57 : decode cX12_init 57 = .ok (.aload_n 0, 1) := by decide +kernel
theorem dX12_init_58 : decode cX12_init 58 = .ok (.bipush 9, 2) := by decide +kernel
theorem dX12_init_60 : decode cX12_init 60 = .ok (.newarray .long, 2) := by decide +kernel
theorem dX12_init_62 : decode cX12_init 62 = .ok (.putfield 29, 3) := by decide +kernel
theorem dX12_init_65 : decode cX12_init 65 = .ok (.aload_n 0, 1) := by decide +kernel
theorem dX12_init_66 : decode cX12_init 66 = .ok (.bipush 9, 2) := by decide +kernel
theorem dX12_init_68 : decode cX12_init 68 = .ok (.newarray .long, 2) := by decide +kernel
theorem dX12_init_70 : decode cX12_init 70 = .ok (.putfield 32, 3) := by decide +kernel
theorem dX12_init_73 : decode cX12_init 73 = .ok (.aload_n 0, 1) := by decide +kernel
theorem dX12_init_74 : decode cX12_init 74 = .ok (.sipush 512, 3) := by decide +kernel
theorem dX12_init_77 : decode cX12_init 77 = .ok (.newarray .boolean, 2) := by decide +kernel
theorem dX12_init_79 : decode cX12_init 79 = .ok (.putfield 35, 3) := by decide +kernel
theorem dX12_init_82 : decode cX12_init 82 = .ok (.aload_n 0, 1) := by decide +kernel
theorem dX12_init_83 : decode cX12_init 83 = .ok (.sipush 512, 3) := by decide +kernel
theorem dX12_init_86 : decode cX12_init 86 = .ok (.newarray .boolean, 2) := by decide +kernel
theorem dX12_init_88 : decode cX12_init 88 = .ok (.putfield 39, 3) := by decide +kernel
theorem dX12_init_91 : decode cX12_init 91 = .ok (.aload_n 0, 1) := by decide +kernel
theorem dX12_init_92 : decode cX12_init 92 = .ok (.sipush 512, 3) := by decide +kernel
theorem dX12_init_95 : decode cX12_init 95 = .ok (.newarray .int, 2) := by decide +kernel
theorem dX12_init_97 : decode cX12_init 97 = .ok (.putfield 42, 3) := by decide +kernel
theorem dX12_init_100 : decode cX12_init 100 = .ok (.aload_n 0, 1) := by decide +kernel
theorem dX12_init_101 : decode cX12_init 101 = .ok (.bipush 9, 2) := by decide +kernel
theorem dX12_init_103 : decode cX12_init 103 = .ok (.newarray .int, 2) := by decide +kernel
theorem dX12_init_105 : decode cX12_init 105 = .ok (.putfield 46, 3) := by decide +kernel
theorem dX12_init_108 : decode cX12_init 108 = .ok (.aload_n 0, 1) := by decide +kernel
theorem dX12_init_109 : decode cX12_init 109 = .ok (.bipush 9, 2) := by decide +kernel
theorem dX12_init_111 : decode cX12_init 111 = .ok (.newarray .int, 2) := by decide +kernel
theorem dX12_init_113 : decode cX12_init 113 = .ok (.putfield 49, 3) := by decide +kernel
theorem dX12_init_116 : decode cX12_init 116 = .ok (.aload_n 0, 1) := by decide +kernel
theorem dX12_init_117 : decode cX12_init 117 = .ok (.bipush 9, 2) := by decide +kernel
theorem dX12_init_119 : decode cX12_init 119 = .ok (.newarray .int, 2) := by decide +kernel
theorem dX12_init_121 : decode cX12_init 121 = .ok (.putfield 52, 3) := by decide +kernel
theorem dX12_init_124 : decode cX12_init 124 = .ok (.aload_n 0, 1) := by decide +kernel
theorem dX12_init_125 : decode cX12_init 125 = .ok (.iconst 5, 1) := by decide +kernel
theorem dX12_init_126 : decode cX12_init 126 = .ok (.newarray .int, 2) := by decide +kernel
theorem dX12_init_128 : decode cX12_init 128 = .ok (.putfield 55, 3) := by decide +kernel
theorem dX12_init_131 : decode cX12_init 131 = .ok (.aload_n 0, 1) := by decide +kernel
theorem dX12_init_132 : decode cX12_init 132 = .ok (.bipush 9, 2) := by decide +kernel
theorem dX12_init_134 : decode cX12_init 134 = .ok (.newarray .int, 2) := by decide +kernel
theorem dX12_init_136 : decode cX12_init 136 = .ok (.putfield 58, 3) := by decide +kernel
theorem dX12_init_139 : decode cX12_init 139 = .ok (.aload_n 0, 1) := by decide +kernel
theorem dX12_init_140 : decode cX12_init 140 = .ok (.sipush 512, 3) := by decide +kernel
theorem dX12_init_143 : decode cX12_init 143 = .ok (.newarray .int, 2) := by decide +kernel
theorem dX12_init_145 : decode cX12_init 145 = .ok (.putfield 61, 3) := by decide +kernel
theorem dX12_init_148 : decode cX12_init 148 = .ok (.aload_n 0, 1) := by decide +kernel
theorem dX12_init_149 : decode cX12_init 149 = .ok (.sipush 512, 3) := by decide +kernel
theorem dX12_init_152 : decode cX12_init 152 = .ok (.newarray .int, 2) := by decide +kernel
theorem dX12_init_154 : decode cX12_init 154 = .ok (.putfield 64, 3) := by decide +kernel
theorem dX12_init_157 : decode cX12_init 157 = .ok (.aload_n 0, 1) := by decide +kernel
theorem dX12_init_158 : decode cX12_init 158 = .ok (.sipush 512, 3) := by decide +kernel
theorem dX12_init_161 : decode cX12_init 161 = .ok (.newarray .int, 2) := by decide +kernel
theorem dX12_init_163 : decode cX12_init 163 = .ok (.putfield 67, 3) := by decide +kernel
theorem dX12_init_166 : decode cX12_init 166 = .ok (.aload_n 0, 1) := by decide +kernel
theorem dX12_init_167 : decode cX12_init 167 = .ok (.iconst 2, 1) := by decide +kernel
theorem dX12_init_168 : decode cX12_init 168 = .ok (.putfield 70, 3) := by decide +kernel
theorem dX12_init_171 : decode cX12_init 171 = .ok (.return_, 1) := by decide +kernel
theorem dL_law_192 : decode cL_law 192 = .ok (.aload_n 1, 1) := by decide +kernel
theorem dL_law_193 : decode cL_law 193 = .ok (.aload_n 0, 1) := by decide +kernel
theorem dL_law_194 : decode cL_law 194 = .ok (.iload 5, 2) := by decide +kernel
theorem dL_law_196 : decode cL_law 196 = .ok (.iconst 1, 1) := by decide +kernel
theorem dL_law_197 : decode cL_law 197 = .ok (.iadd, 1) := by decide +kernel
theorem dL_law_198 : decode cL_law 198 = .ok (.iaload, 1) := by decide +kernel
theorem dL_law_199 : decode cL_law 199 = .ok (.aload_n 0, 1) := by decide +kernel
theorem dL_law_200 : decode cL_law 200 = .ok (.iload 5, 2) := by decide +kernel
theorem dL_law_202 : decode cL_law 202 = .ok (.iconst 2, 1) := by decide +kernel
theorem dL_law_203 : decode cL_law 203 = .ok (.iadd, 1) := by decide +kernel
theorem dL_law_204 : decode cL_law 204 = .ok (.iaload, 1) := by decide +kernel
theorem dL_law_205 : decode cL_law 205 = .ok (.aload_n 0, 1) := by decide +kernel
theorem dL_law_206 : decode cL_law 206 = .ok (.iload 5, 2) := by decide +kernel
theorem dL_law_208 : decode cL_law 208 = .ok (.iconst 3, 1) := by decide +kernel
theorem dL_law_209 : decode cL_law 209 = .ok (.iadd, 1) := by decide +kernel
theorem dL_law_210 : decode cL_law 210 = .ok (.iaload, 1) := by decide +kernel
theorem dL_law_211 : decode cL_law 211 = .ok (.i2c, 1) := by decide +kernel
theorem dL_law_212 : decode cL_law 212 = .ok (.aload_n 3, 1) := by decide +kernel
theorem dL_law_213 : decode cL_law 213 = .ok (.invokestatic 119, 3) := by decide +kernel
theorem dL_node_0 : decode cL_node 0 = .ok (.aload 4, 2) := by decide +kernel
theorem dL_node_2 : decode cL_node 2 = .ok (.iconst 0, 1) := by decide +kernel
theorem dL_node_3 : decode cL_node 3 = .ok (.aload_n 0, 1) := by decide +kernel
theorem dL_node_4 : decode cL_node 4 = .ok (.iload_n 1, 1) := by decide +kernel
theorem dL_node_5 : decode cL_node 5 = .ok (.iload_n 2, 1) := by decide +kernel
theorem dL_node_6 : decode cL_node 6 = .ok (.iload_n 3, 1) := by decide +kernel
theorem dL_node_7 : decode cL_node 7 = .ok (.invokevirtual 7, 3) := by decide +kernel
theorem dX6_node_0 : decode cX6_node 0 = .ok (.iload_n 1, 1) := by decide +kernel
theorem dX6_node_1 : decode cX6_node 1 = .ok (.iconst 0, 1) := by decide +kernel
theorem dX6_node_2 : decode cX6_node 2 = .ok (.bipush 30, 2) := by decide +kernel
theorem dX6_node_4 : decode cX6_node 4 = .ok (.invokestatic 44, 3) := by decide +kernel
theorem dX6_isWithin_0 : decode cX6_isWithin 0 = .ok (.iload_n 0, 1) := by decide +kernel
theorem dX6_isWithin_1 : decode cX6_isWithin 1 = .ok (.iload_n 1, 1) := by decide +kernel
theorem dX6_isWithin_2 : decode cX6_isWithin 2 = .ok (.if_icmp .lt 12, 3) := by decide +kernel
theorem dX6_isWithin_14 : decode cX6_isWithin 14 = .ok (.iconst 0, 1) := by decide +kernel
theorem dX6_isWithin_15 : decode cX6_isWithin 15 = .ok (.ireturn, 1) := by decide +kernel
theorem dX6_node_7 : decode cX6_node 7 = .ok (.ifCond .eq 22, 3) := by decide +kernel
theorem dX6_node_29 : decode cX6_node 29 = .ok (.new 56, 3) := by decide +kernel
theorem dX6_node_32 : decode cX6_node 32 = .ok (.dup, 1) := by decide +kernel
theorem dX6_node_33 : decode cX6_node 33 = .ok (.ldc 58, 2) := by decide +kernel
theorem dX6_node_35 : decode cX6_node 35 = .ok (.invokespecial 60, 3) := by decide +kernel
theorem dX6_node_38 : decode cX6_node 38 = .ok (.athrow, 1) := by decide +kernel
theorem dL_node_15 : decode cL_node 15 = .ok (.astore 5, 2) := by decide +kernel
theorem dL_node_17 : decode cL_node 17 = .ok (.iconst 1, 1) := by decide +kernel
theorem dL_node_18 : decode cL_node 18 = .ok (.ireturn, 1) := by decide +kernel
theorem dL_law_216 : decode cL_law 216 = .ok (.istore 6, 2) := by decide +kernel
theorem dL_law_218 : decode cL_law 218 = .ok (.aload_n 2, 1) := by decide +kernel
theorem dL_law_219 : decode cL_law 219 = .ok (.aload_n 0, 1) := by decide +kernel
theorem dL_law_220 : decode cL_law 220 = .ok (.iload 5, 2) := by decide +kernel
theorem dL_law_222 : decode cL_law 222 = .ok (.iconst 1, 1) := by decide +kernel
theorem dL_law_223 : decode cL_law 223 = .ok (.iadd, 1) := by decide +kernel
theorem dL_law_224 : decode cL_law 224 = .ok (.iaload, 1) := by decide +kernel
theorem dL_law_225 : decode cL_law 225 = .ok (.aload_n 0, 1) := by decide +kernel
theorem dL_law_226 : decode cL_law 226 = .ok (.iload 5, 2) := by decide +kernel
theorem dL_law_228 : decode cL_law 228 = .ok (.iconst 2, 1) := by decide +kernel
theorem dL_law_229 : decode cL_law 229 = .ok (.iadd, 1) := by decide +kernel
theorem dL_law_230 : decode cL_law 230 = .ok (.iaload, 1) := by decide +kernel
theorem dL_law_231 : decode cL_law 231 = .ok (.aload_n 0, 1) := by decide +kernel
theorem dL_law_232 : decode cL_law 232 = .ok (.iload 5, 2) := by decide +kernel
theorem dL_law_234 : decode cL_law 234 = .ok (.iconst 3, 1) := by decide +kernel
theorem dL_law_235 : decode cL_law 235 = .ok (.iadd, 1) := by decide +kernel
theorem dL_law_236 : decode cL_law 236 = .ok (.iaload, 1) := by decide +kernel
theorem dL_law_237 : decode cL_law 237 = .ok (.i2c, 1) := by decide +kernel
theorem dL_law_238 : decode cL_law 238 = .ok (.invokevirtual 124, 3) := by decide +kernel
theorem dX12_node_0 : decode cX12_node 0 = .ok (.iload_n 1, 1) := by decide +kernel
theorem dX12_node_1 : decode cX12_node 1 = .ok (.i2l, 1) := by decide +kernel
theorem dX12_node_2 : decode cX12_node 2 = .ok (.iconst 0, 1) := by decide +kernel
theorem dX12_node_3 : decode cX12_node 3 = .ok (.bipush 30, 2) := by decide +kernel
theorem dX12_node_5 : decode cX12_node 5 = .ok (.invokestatic 285, 3) := by decide +kernel
theorem dX12_in_0 : decode cX12_in 0 = .ok (.lload_n 0, 1) := by decide +kernel
theorem dX12_in_1 : decode cX12_in 1 = .ok (.iload_n 2, 1) := by decide +kernel
theorem dX12_in_2 : decode cX12_in 2 = .ok (.i2l, 1) := by decide +kernel
theorem dX12_in_3 : decode cX12_in 3 = .ok (.lcmp, 1) := by decide +kernel
theorem dX12_in_4 : decode cX12_in 4 = .ok (.ifCond .lt 14, 3) := by decide +kernel
theorem dX12_in_18 : decode cX12_in 18 = .ok (.iconst 0, 1) := by decide +kernel
theorem dX12_in_19 : decode cX12_in 19 = .ok (.ireturn, 1) := by decide +kernel
theorem dX12_node_8 : decode cX12_node 8 = .ok (.ifCond .eq 32, 3) := by decide +kernel
theorem dX12_node_40 : decode cX12_node 40 = .ok (.aload_n 0, 1) := by decide +kernel
theorem dX12_node_41 : decode cX12_node 41 = .ok (.iconst 1, 1) := by decide +kernel
theorem dX12_node_42 : decode cX12_node 42 = .ok (.invokevirtual 289, 3) := by decide +kernel
theorem dX12_fails_0 : decode cX12_fails 0 = .ok (.aload_n 0, 1) := by decide +kernel
theorem dX12_fails_1 : decode cX12_fails 1 = .ok (.iload_n 1, 1) := by decide +kernel
theorem dX12_fails_2 : decode cX12_fails 2 = .ok (.putfield 74, 3) := by decide +kernel
theorem dX12_fails_5 : decode cX12_fails 5 = .ok (.iconst 0, 1) := by decide +kernel
theorem dX12_fails_6 : decode cX12_fails 6 = .ok (.ireturn, 1) := by decide +kernel
theorem dX12_node_45 : decode cX12_node 45 = .ok (.ireturn, 1) := by decide +kernel
theorem dL_law_241 : decode cL_law 241 = .ok (.istore 7, 2) := by decide +kernel
theorem dL_law_243 : decode cL_law 243 = .ok (.aload_n 2, 1) := by decide +kernel
theorem dL_law_244 : decode cL_law 244 = .ok (.invokevirtual 125, 3) := by decide +kernel
theorem dX12_thrown_0 : decode cX12_thrown 0 = .ok (.aload_n 0, 1) := by decide +kernel
theorem dX12_thrown_1 : decode cX12_thrown 1 = .ok (.getfield 74, 3) := by decide +kernel
theorem dX12_thrown_4 : decode cX12_thrown 4 = .ok (.ireturn, 1) := by decide +kernel
theorem dL_law_247 : decode cL_law 247 = .ok (.iload 6, 2) := by decide +kernel
theorem dL_law_249 : decode cL_law 249 = .ok (.if_icmp .eq 5, 3) := by decide +kernel
theorem dL_law_254 : decode cL_law 254 = .ok (.iload 6, 2) := by decide +kernel
theorem dL_law_256 : decode cL_law 256 = .ok (.ifCond .ne 15, 3) := by decide +kernel
theorem dL_law_271 : decode cL_law 271 = .ok (.goto 1692, 3) := by decide +kernel
theorem dX6_isWithin_5 : decode cX6_isWithin 5 = .ok (.iload_n 0, 1) := by decide +kernel
theorem dX6_isWithin_6 : decode cX6_isWithin 6 = .ok (.iload_n 2, 1) := by decide +kernel
theorem dX6_isWithin_7 : decode cX6_isWithin 7 = .ok (.if_icmp .gt 7, 3) := by decide +kernel
theorem dX12_in_7 : decode cX12_in 7 = .ok (.lload_n 0, 1) := by decide +kernel
theorem dX12_in_8 : decode cX12_in 8 = .ok (.iload_n 3, 1) := by decide +kernel
theorem dX12_in_9 : decode cX12_in 9 = .ok (.i2l, 1) := by decide +kernel
theorem dX12_in_10 : decode cX12_in 10 = .ok (.lcmp, 1) := by decide +kernel
theorem dX12_in_11 : decode cX12_in 11 = .ok (.ifCond .gt 7, 3) := by decide +kernel
theorem dX6_isWithin_10 : decode cX6_isWithin 10 = .ok (.iconst 1, 1) := by decide +kernel
theorem dX6_isWithin_11 : decode cX6_isWithin 11 = .ok (.goto 4, 3) := by decide +kernel
theorem dX6_node_10 : decode cX6_node 10 = .ok (.iload_n 2, 1) := by decide +kernel
theorem dX6_node_11 : decode cX6_node 11 = .ok (.iconst 0, 1) := by decide +kernel
theorem dX6_node_12 : decode cX6_node 12 = .ok (.bipush 30, 2) := by decide +kernel
theorem dX6_node_14 : decode cX6_node 14 = .ok (.invokestatic 44, 3) := by decide +kernel
theorem dX6_node_17 : decode cX6_node 17 = .ok (.ifCond .eq 12, 3) := by decide +kernel
theorem dX12_in_14 : decode cX12_in 14 = .ok (.iconst 1, 1) := by decide +kernel
theorem dX12_in_15 : decode cX12_in 15 = .ok (.goto 4, 3) := by decide +kernel
theorem dX12_node_11 : decode cX12_node 11 = .ok (.iload_n 2, 1) := by decide +kernel
theorem dX12_node_12 : decode cX12_node 12 = .ok (.i2l, 1) := by decide +kernel
theorem dX12_node_13 : decode cX12_node 13 = .ok (.iconst 0, 1) := by decide +kernel
theorem dX12_node_14 : decode cX12_node 14 = .ok (.bipush 30, 2) := by decide +kernel
theorem dX12_node_16 : decode cX12_node 16 = .ok (.invokestatic 285, 3) := by decide +kernel
theorem dX12_node_19 : decode cX12_node 19 = .ok (.ifCond .eq 21, 3) := by decide +kernel
theorem dX6_node_20 : decode cX6_node 20 = .ok (.ldc 48, 2) := by decide +kernel
theorem dX6_node_22 : decode cX6_node 22 = .ok (.iload_n 3, 1) := by decide +kernel
theorem dX6_node_23 : decode cX6_node 23 = .ok (.invokevirtual 50, 3) := by decide +kernel
theorem dJ0_indexOf_0f7a4_0 : decode cJ0_indexOf_0f7a4 0 = .ok (.aload_n 0, 1) := by decide +kernel
theorem dJ0_indexOf_0f7a4_1 : decode cJ0_indexOf_0f7a4 1 = .ok (.iload_n 1, 1) := by decide +kernel
theorem dJ0_indexOf_0f7a4_2 : decode cJ0_indexOf_0f7a4 2 = .ok (.iconst 0, 1) := by decide +kernel
theorem dJ0_indexOf_0f7a4_3 : decode cJ0_indexOf_0f7a4 3 = .ok (.invokevirtual 633, 3) := by decide +kernel
theorem dJ0_indexOf_7cf53_0 : decode cJ0_indexOf_7cf53 0 = .ok (.aload_n 0, 1) := by decide +kernel
theorem dJ0_indexOf_7cf53_1 : decode cJ0_indexOf_7cf53 1 = .ok (.invokevirtual 492, 3) := by decide +kernel
theorem dJ0_isLatin1_aae02_0 : decode cJ0_isLatin1_aae02 0 = .ok (.getstatic 38, 3) := by decide +kernel
theorem dJ0_isLatin1_aae02_3 : decode cJ0_isLatin1_aae02 3 = .ok (.ifCond .eq 14, 3) := by decide +kernel
theorem dJ0_isLatin1_aae02_6 : decode cJ0_isLatin1_aae02 6 = .ok (.aload_n 0, 1) := by decide +kernel
theorem dJ0_isLatin1_aae02_7 : decode cJ0_isLatin1_aae02 7 = .ok (.getfield 15, 3) := by decide +kernel
theorem dJ0_isLatin1_aae02_10 : decode cJ0_isLatin1_aae02 10 = .ok (.ifCond .ne 7, 3) := by decide +kernel
theorem dJ0_isLatin1_aae02_13 : decode cJ0_isLatin1_aae02 13 = .ok (.iconst 1, 1) := by decide +kernel
theorem dJ0_isLatin1_aae02_14 : decode cJ0_isLatin1_aae02 14 = .ok (.goto 4, 3) := by decide +kernel
theorem dJ0_isLatin1_aae02_18 : decode cJ0_isLatin1_aae02 18 = .ok (.ireturn, 1) := by decide +kernel
theorem dJ0_indexOf_7cf53_4 : decode cJ0_indexOf_7cf53 4 = .ok (.ifCond .eq 19, 3) := by decide +kernel
theorem dJ0_indexOf_7cf53_7 : decode cJ0_indexOf_7cf53 7 = .ok (.aload_n 0, 1) := by decide +kernel
theorem dJ0_indexOf_7cf53_8 : decode cJ0_indexOf_7cf53 8 = .ok (.getfield 9, 3) := by decide +kernel
theorem dJ0_indexOf_7cf53_11 : decode cJ0_indexOf_7cf53 11 = .ok (.iload_n 1, 1) := by decide +kernel
theorem dJ0_indexOf_7cf53_12 : decode cJ0_indexOf_7cf53 12 = .ok (.iload_n 2, 1) := by decide +kernel
theorem dJ0_indexOf_7cf53_13 : decode cJ0_indexOf_7cf53 13 = .ok (.aload_n 0, 1) := by decide +kernel
theorem dJ0_indexOf_7cf53_14 : decode cJ0_indexOf_7cf53 14 = .ok (.invokevirtual 505, 3) := by decide +kernel
theorem dJ0_length_8abf5_0 : decode cJ0_length_8abf5 0 = .ok (.aload_n 0, 1) := by decide +kernel
theorem dJ0_length_8abf5_1 : decode cJ0_length_8abf5 1 = .ok (.getfield 9, 3) := by decide +kernel
theorem dJ0_length_8abf5_4 : decode cJ0_length_8abf5 4 = .ok (.arraylength, 1) := by decide +kernel
theorem dJ0_length_8abf5_5 : decode cJ0_length_8abf5 5 = .ok (.aload_n 0, 1) := by decide +kernel
theorem dJ0_length_8abf5_6 : decode cJ0_length_8abf5 6 = .ok (.invokevirtual 335, 3) := by decide +kernel
theorem dJ0_coder_7d493_0 : decode cJ0_coder_7d493 0 = .ok (.getstatic 38, 3) := by decide +kernel
theorem dJ0_coder_7d493_3 : decode cJ0_coder_7d493 3 = .ok (.ifCond .eq 10, 3) := by decide +kernel
theorem dJ0_coder_7d493_6 : decode cJ0_coder_7d493 6 = .ok (.aload_n 0, 1) := by decide +kernel
theorem dJ0_coder_7d493_7 : decode cJ0_coder_7d493 7 = .ok (.getfield 15, 3) := by decide +kernel
theorem dJ0_coder_7d493_10 : decode cJ0_coder_7d493 10 = .ok (.goto 4, 3) := by decide +kernel
theorem dJ0_coder_7d493_14 : decode cJ0_coder_7d493 14 = .ok (.ireturn, 1) := by decide +kernel
theorem dJ0_length_8abf5_9 : decode cJ0_length_8abf5 9 = .ok (.ishr, 1) := by decide +kernel
theorem dJ0_length_8abf5_10 : decode cJ0_length_8abf5 10 = .ok (.ireturn, 1) := by decide +kernel
theorem dJ0_indexOf_7cf53_17 : decode cJ0_indexOf_7cf53 17 = .ok (.invokestatic 637, 3) := by decide +kernel
theorem dJ1_indexOf_4cfef_0 : decode cJ1_indexOf_4cfef 0 = .ok (.iload_n 1, 1) := by decide +kernel
theorem dJ1_indexOf_4cfef_1 : decode cJ1_indexOf_4cfef 1 = .ok (.invokestatic 88, 3) := by decide +kernel
theorem dJ1_canEncode_9a6ad_0 : decode cJ1_canEncode_9a6ad 0 = .ok (.iload_n 0, 1) := by decide +kernel
theorem dJ1_canEncode_9a6ad_1 : decode cJ1_canEncode_9a6ad 1 = .ok (.ifCond .lt 14, 3) := by decide +kernel
theorem dJ1_canEncode_9a6ad_4 : decode cJ1_canEncode_9a6ad 4 = .ok (.iload_n 0, 1) := by decide +kernel
theorem dJ1_canEncode_9a6ad_5 : decode cJ1_canEncode_9a6ad 5 = .ok (.sipush 255, 3) := by decide +kernel
theorem dJ1_canEncode_9a6ad_8 : decode cJ1_canEncode_9a6ad 8 = .ok (.if_icmp .gt 7, 3) := by decide +kernel
theorem dJ1_canEncode_9a6ad_15 : decode cJ1_canEncode_9a6ad 15 = .ok (.iconst 0, 1) := by decide +kernel
theorem dJ1_canEncode_9a6ad_16 : decode cJ1_canEncode_9a6ad 16 = .ok (.ireturn, 1) := by decide +kernel
theorem dJ1_indexOf_4cfef_4 : decode cJ1_indexOf_4cfef 4 = .ok (.ifCond .ne 5, 3) := by decide +kernel
theorem dJ1_indexOf_4cfef_7 : decode cJ1_indexOf_4cfef 7 = .ok (.iconst (-1), 1) := by decide +kernel
theorem dJ1_indexOf_4cfef_8 : decode cJ1_indexOf_4cfef 8 = .ok (.ireturn, 1) := by decide +kernel
theorem dJ0_indexOf_7cf53_20 : decode cJ0_indexOf_7cf53 20 = .ok (.goto 16, 3) := by decide +kernel
theorem dJ0_indexOf_7cf53_36 : decode cJ0_indexOf_7cf53 36 = .ok (.ireturn, 1) := by decide +kernel
theorem dJ0_indexOf_0f7a4_6 : decode cJ0_indexOf_0f7a4 6 = .ok (.ireturn, 1) := by decide +kernel
theorem dX6_node_26 : decode cX6_node 26 = .ok (.ifCond .ge 13, 3) := by decide +kernel
theorem dX12_node_22 : decode cX12_node 22 = .ok (.iload_n 3, 1) := by decide +kernel
theorem dX12_node_23 : decode cX12_node 23 = .ok (.bipush 45, 2) := by decide +kernel
theorem dX12_node_25 : decode cX12_node 25 = .ok (.if_icmp .eq 21, 3) := by decide +kernel
theorem dX12_node_28 : decode cX12_node 28 = .ok (.iload_n 3, 1) := by decide +kernel
theorem dX12_node_29 : decode cX12_node 29 = .ok (.bipush 112, 2) := by decide +kernel
theorem dX12_node_31 : decode cX12_node 31 = .ok (.if_icmp .eq 15, 3) := by decide +kernel
theorem dX12_node_34 : decode cX12_node 34 = .ok (.iload_n 3, 1) := by decide +kernel
theorem dX12_node_35 : decode cX12_node 35 = .ok (.bipush 114, 2) := by decide +kernel
theorem dX12_node_37 : decode cX12_node 37 = .ok (.if_icmp .eq 9, 3) := by decide +kernel
theorem dJ1_canEncode_9a6ad_11 : decode cJ1_canEncode_9a6ad 11 = .ok (.iconst 1, 1) := by decide +kernel
theorem dJ1_canEncode_9a6ad_12 : decode cJ1_canEncode_9a6ad 12 = .ok (.goto 4, 3) := by decide +kernel
theorem dJ1_indexOf_4cfef_9 : decode cJ1_indexOf_4cfef 9 = .ok (.iload_n 2, 1) := by decide +kernel
theorem dJ1_indexOf_4cfef_10 : decode cJ1_indexOf_4cfef 10 = .ok (.iconst 0, 1) := by decide +kernel
theorem dJ1_indexOf_4cfef_11 : decode cJ1_indexOf_4cfef 11 = .ok (.invokestatic 92, 3) := by decide +kernel
theorem dJ1_indexOf_4cfef_14 : decode cJ1_indexOf_4cfef 14 = .ok (.istore_n 2, 1) := by decide +kernel
theorem dJ1_indexOf_4cfef_15 : decode cJ1_indexOf_4cfef 15 = .ok (.iload_n 3, 1) := by decide +kernel
theorem dJ1_indexOf_4cfef_16 : decode cJ1_indexOf_4cfef 16 = .ok (.aload_n 0, 1) := by decide +kernel
theorem dJ1_indexOf_4cfef_17 : decode cJ1_indexOf_4cfef 17 = .ok (.arraylength, 1) := by decide +kernel
theorem dJ1_indexOf_4cfef_18 : decode cJ1_indexOf_4cfef 18 = .ok (.invokestatic 38, 3) := by decide +kernel
theorem dJ1_indexOf_4cfef_21 : decode cJ1_indexOf_4cfef 21 = .ok (.istore_n 3, 1) := by decide +kernel
theorem dJ1_indexOf_4cfef_22 : decode cJ1_indexOf_4cfef 22 = .ok (.iload_n 2, 1) := by decide +kernel
theorem dJ1_indexOf_4cfef_23 : decode cJ1_indexOf_4cfef 23 = .ok (.iload_n 3, 1) := by decide +kernel
theorem dJ1_indexOf_4cfef_24 : decode cJ1_indexOf_4cfef 24 = .ok (.if_icmp .lt 5, 3) := by decide +kernel
theorem dJ1_indexOf_4cfef_29 : decode cJ1_indexOf_4cfef 29 = .ok (.aload_n 0, 1) := by decide +kernel
theorem dJ1_indexOf_4cfef_30 : decode cJ1_indexOf_4cfef 30 = .ok (.iload_n 1, 1) := by decide +kernel
theorem dJ1_indexOf_4cfef_31 : decode cJ1_indexOf_4cfef 31 = .ok (.iload_n 2, 1) := by decide +kernel
theorem dJ1_indexOf_4cfef_32 : decode cJ1_indexOf_4cfef 32 = .ok (.iload_n 3, 1) := by decide +kernel
theorem dJ1_indexOf_4cfef_33 : decode cJ1_indexOf_4cfef 33 = .ok (.invokestatic 95, 3) := by decide +kernel
theorem dJ1_indexOfChar_4cfef_0 : decode cJ1_indexOfChar_4cfef 0 = .ok (.iload_n 1, 1) := by decide +kernel
theorem dJ1_indexOfChar_4cfef_1 : decode cJ1_indexOfChar_4cfef 1 = .ok (.i2b, 1) := by decide +kernel
theorem dJ1_indexOfChar_4cfef_2 : decode cJ1_indexOfChar_4cfef 2 = .ok (.istore 4, 2) := by decide +kernel
theorem dJ1_indexOfChar_4cfef_4 : decode cJ1_indexOfChar_4cfef 4 = .ok (.iload_n 2, 1) := by decide +kernel
theorem dJ1_indexOfChar_4cfef_5 : decode cJ1_indexOfChar_4cfef 5 = .ok (.istore 5, 2) := by decide +kernel
theorem dJ1_indexOfChar_4cfef_7 : decode cJ1_indexOfChar_4cfef 7 = .ok (.iload 5, 2) := by decide +kernel
theorem dJ1_indexOfChar_4cfef_9 : decode cJ1_indexOfChar_4cfef 9 = .ok (.iload_n 3, 1) := by decide +kernel
theorem dJ1_indexOfChar_4cfef_10 : decode cJ1_indexOfChar_4cfef 10 = .ok (.if_icmp .ge 21, 3) := by decide +kernel
theorem dJ1_indexOfChar_4cfef_13 : decode cJ1_indexOfChar_4cfef 13 = .ok (.aload_n 0, 1) := by decide +kernel
theorem dJ1_indexOfChar_4cfef_14 : decode cJ1_indexOfChar_4cfef 14 = .ok (.iload 5, 2) := by decide +kernel
theorem dJ1_indexOfChar_4cfef_16 : decode cJ1_indexOfChar_4cfef 16 = .ok (.baload, 1) := by decide +kernel
theorem dJ1_indexOfChar_4cfef_17 : decode cJ1_indexOfChar_4cfef 17 = .ok (.iload 4, 2) := by decide +kernel
theorem dJ1_indexOfChar_4cfef_19 : decode cJ1_indexOfChar_4cfef 19 = .ok (.if_icmp .ne 6, 3) := by decide +kernel
theorem dJ1_indexOfChar_4cfef_25 : decode cJ1_indexOfChar_4cfef 25 = .ok (.iinc 5 1, 3) := by decide +kernel
theorem dJ1_indexOfChar_4cfef_28 : decode cJ1_indexOfChar_4cfef 28 = .ok (.goto (-21), 3) := by decide +kernel
theorem dJ1_indexOfChar_4cfef_31 : decode cJ1_indexOfChar_4cfef 31 = .ok (.iconst (-1), 1) := by decide +kernel
theorem dJ1_indexOfChar_4cfef_32 : decode cJ1_indexOfChar_4cfef 32 = .ok (.ireturn, 1) := by decide +kernel
theorem dJ1_indexOf_4cfef_36 : decode cJ1_indexOf_4cfef 36 = .ok (.ireturn, 1) := by decide +kernel
theorem dJ1_indexOfChar_4cfef_22 : decode cJ1_indexOfChar_4cfef 22 = .ok (.iload 5, 2) := by decide +kernel
theorem dJ1_indexOfChar_4cfef_24 : decode cJ1_indexOfChar_4cfef 24 = .ok (.ireturn, 1) := by decide +kernel
theorem dX6_node_39 : decode cX6_node 39 = .ok (.aload_n 0, 1) := by decide +kernel
theorem dX6_node_40 : decode cX6_node 40 = .ok (.getfield 12, 3) := by decide +kernel
theorem dX6_node_43 : decode cX6_node 43 = .ok (.getfield 63, 3) := by decide +kernel
theorem dX6_node_46 : decode cX6_node 46 = .ok (.bipush 8, 2) := by decide +kernel
theorem dX6_node_48 : decode cX6_node 48 = .ok (.if_icmp .lt 13, 3) := by decide +kernel
theorem dX6_node_61 : decode cX6_node 61 = .ok (.aload_n 0, 1) := by decide +kernel
theorem dX6_node_62 : decode cX6_node 62 = .ok (.getfield 19, 3) := by decide +kernel
theorem dX6_node_65 : decode cX6_node 65 = .ok (.iconst 0, 1) := by decide +kernel
theorem dX6_node_66 : decode cX6_node 66 = .ok (.putfield 72, 3) := by decide +kernel
theorem dX6_node_69 : decode cX6_node 69 = .ok (.aload_n 0, 1) := by decide +kernel
theorem dX6_node_70 : decode cX6_node 70 = .ok (.getfield 12, 3) := by decide +kernel
theorem dX6_node_73 : decode cX6_node 73 = .ok (.iload_n 1, 1) := by decide +kernel
theorem dX6_node_74 : decode cX6_node 74 = .ok (.iload_n 2, 1) := by decide +kernel
theorem dX6_node_75 : decode cX6_node 75 = .ok (.iload_n 3, 1) := by decide +kernel
theorem dX6_node_76 : decode cX6_node 76 = .ok (.invokevirtual 76, 3) := by decide +kernel
theorem dX2_addNode_0 : decode cX2_addNode 0 = .ok (.aload_n 0, 1) := by decide +kernel
theorem dX2_addNode_1 : decode cX2_addNode 1 = .ok (.getfield 43, 3) := by decide +kernel
theorem dX2_addNode_4 : decode cX2_addNode 4 = .ok (.istore 4, 2) := by decide +kernel
theorem dX2_addNode_6 : decode cX2_addNode 6 = .ok (.aload_n 0, 1) := by decide +kernel
theorem dX2_addNode_7 : decode cX2_addNode 7 = .ok (.getfield 9, 3) := by decide +kernel
theorem dX2_addNode_10 : decode cX2_addNode 10 = .ok (.iconst 2, 1) := by decide +kernel
theorem dX2_addNode_11 : decode cX2_addNode 11 = .ok (.iload 4, 2) := by decide +kernel
theorem dX2_addNode_13 : decode cX2_addNode 13 = .ok (.imul, 1) := by decide +kernel
theorem dX2_addNode_14 : decode cX2_addNode 14 = .ok (.iconst 0, 1) := by decide +kernel
theorem dX2_addNode_15 : decode cX2_addNode 15 = .ok (.iadd, 1) := by decide +kernel
theorem dX2_addNode_16 : decode cX2_addNode 16 = .ok (.iload_n 1, 1) := by decide +kernel
theorem dX2_addNode_17 : decode cX2_addNode 17 = .ok (.iastore, 1) := by decide +kernel
theorem dX2_addNode_18 : decode cX2_addNode 18 = .ok (.aload_n 0, 1) := by decide +kernel
theorem dX2_addNode_19 : decode cX2_addNode 19 = .ok (.getfield 9, 3) := by decide +kernel
theorem dX2_addNode_22 : decode cX2_addNode 22 = .ok (.iconst 2, 1) := by decide +kernel
theorem dX2_addNode_23 : decode cX2_addNode 23 = .ok (.iload 4, 2) := by decide +kernel
theorem dX2_addNode_25 : decode cX2_addNode 25 = .ok (.imul, 1) := by decide +kernel
theorem dX2_addNode_26 : decode cX2_addNode 26 = .ok (.iconst 1, 1) := by decide +kernel
theorem dX2_addNode_27 : decode cX2_addNode 27 = .ok (.iadd, 1) := by decide +kernel
theorem dX2_addNode_28 : decode cX2_addNode 28 = .ok (.iload_n 2, 1) := by decide +kernel
theorem dX2_addNode_29 : decode cX2_addNode 29 = .ok (.iastore, 1) := by decide +kernel
theorem dX2_addNode_30 : decode cX2_addNode 30 = .ok (.aload_n 0, 1) := by decide +kernel
theorem dX2_addNode_31 : decode cX2_addNode 31 = .ok (.getfield 21, 3) := by decide +kernel
theorem dX2_addNode_34 : decode cX2_addNode 34 = .ok (.iload 4, 2) := by decide +kernel
theorem dX2_addNode_36 : decode cX2_addNode 36 = .ok (.iload_n 3, 1) := by decide +kernel
theorem dX2_addNode_37 : decode cX2_addNode 37 = .ok (.castore, 1) := by decide +kernel
theorem dX2_addNode_38 : decode cX2_addNode 38 = .ok (.aload_n 0, 1) := by decide +kernel
theorem dX2_addNode_39 : decode cX2_addNode 39 = .ok (.iload 4, 2) := by decide +kernel
theorem dX2_addNode_41 : decode cX2_addNode 41 = .ok (.iconst 1, 1) := by decide +kernel
theorem dX2_addNode_42 : decode cX2_addNode 42 = .ok (.iadd, 1) := by decide +kernel
theorem dX2_addNode_43 : decode cX2_addNode 43 = .ok (.putfield 43, 3) := by decide +kernel
theorem dX2_addNode_46 : decode cX2_addNode 46 = .ok (.iload 4, 2) := by decide +kernel
theorem dX2_addNode_48 : decode cX2_addNode 48 = .ok (.ireturn, 1) := by decide +kernel
theorem dX6_node_79 : decode cX6_node 79 = .ok (.ireturn, 1) := by decide +kernel
theorem dL_node_10 : decode cL_node 10 = .ok (.i2l, 1) := by decide +kernel
theorem dL_node_11 : decode cL_node 11 = .ok (.lastore, 1) := by decide +kernel
theorem dL_node_12 : decode cL_node 12 = .ok (.goto 11, 3) := by decide +kernel
theorem dL_node_23 : decode cL_node 23 = .ok (.iconst 0, 1) := by decide +kernel
theorem dL_node_24 : decode cL_node 24 = .ok (.ireturn, 1) := by decide +kernel
theorem dX12_node_46 : decode cX12_node 46 = .ok (.aload_n 0, 1) := by decide +kernel
theorem dX12_node_47 : decode cX12_node 47 = .ok (.getfield 10, 3) := by decide +kernel
theorem dX12_node_50 : decode cX12_node 50 = .ok (.invokevirtual 125, 3) := by decide +kernel
theorem dJx4a65c_size_8abf5_0 : decode cJx4a65c_size_8abf5 0 = .ok (.aload_n 0, 1) := by decide +kernel
theorem dJx4a65c_size_8abf5_1 : decode cJx4a65c_size_8abf5 1 = .ok (.getfield 48, 3) := by decide +kernel
theorem dJx4a65c_size_8abf5_4 : decode cJx4a65c_size_8abf5 4 = .ok (.ireturn, 1) := by decide +kernel
theorem dX12_node_53 : decode cX12_node 53 = .ok (.bipush 8, 2) := by decide +kernel
theorem dX12_node_55 : decode cX12_node 55 = .ok (.if_icmp .ne 9, 3) := by decide +kernel
theorem dX12_node_64 : decode cX12_node 64 = .ok (.aload_n 0, 1) := by decide +kernel
theorem dX12_node_65 : decode cX12_node 65 = .ok (.getfield 10, 3) := by decide +kernel
theorem dX12_node_68 : decode cX12_node 68 = .ok (.new 99, 3) := by decide +kernel
theorem dX12_node_71 : decode cX12_node 71 = .ok (.dup, 1) := by decide +kernel
theorem dX12_node_72 : decode cX12_node 72 = .ok (.iload_n 1, 1) := by decide +kernel
theorem dX12_node_73 : decode cX12_node 73 = .ok (.iload_n 2, 1) := by decide +kernel
theorem dX12_node_74 : decode cX12_node 74 = .ok (.iload_n 3, 1) := by decide +kernel
theorem dX12_node_75 : decode cX12_node 75 = .ok (.invokespecial 292, 3) := by decide +kernel
theorem dX9_init_0 : decode cX9_init 0 = .ok (.aload_n 0, 1) := by decide +kernel
theorem dX9_init_1 : decode cX9_init 1 = .ok (.invokespecial 1, 3) := by decide +kernel
theorem dX9_init_4 : decode cX9_init 4 = .ok (.aload_n 0, 1) := by decide +kernel
theorem dX9_init_5 : decode cX9_init 5 = .ok (.iload_n 1, 1) := by decide +kernel
theorem dX9_init_6 : decode cX9_init 6 = .ok (.putfield 7, 3) := by decide +kernel
theorem dX9_init_9 : decode cX9_init 9 = .ok (.aload_n 0, 1) := by decide +kernel
theorem dX9_init_10 : decode cX9_init 10 = .ok (.iload_n 2, 1) := by decide +kernel
theorem dX9_init_11 : decode cX9_init 11 = .ok (.putfield 13, 3) := by decide +kernel
theorem dX9_init_14 : decode cX9_init 14 = .ok (.aload_n 0, 1) := by decide +kernel
theorem dX9_init_15 : decode cX9_init 15 = .ok (.iload_n 3, 1) := by decide +kernel
theorem dX9_init_16 : decode cX9_init 16 = .ok (.putfield 16, 3) := by decide +kernel
theorem dX9_init_19 : decode cX9_init 19 = .ok (.return_, 1) := by decide +kernel
theorem dX12_node_78 : decode cX12_node 78 = .ok (.invokevirtual 295, 3) := by decide +kernel
theorem dJx4a65c_add_9ea2d_0 : decode cJx4a65c_add_9ea2d 0 = .ok (.aload_n 0, 1) := by decide +kernel
theorem dJx4a65c_add_9ea2d_1 : decode cJx4a65c_add_9ea2d 1 = .ok (.dup, 1) := by decide +kernel
theorem dJx4a65c_add_9ea2d_2 : decode cJx4a65c_add_9ea2d 2 = .ok (.getfield 63, 3) := by decide +kernel
theorem dJx4a65c_add_9ea2d_5 : decode cJx4a65c_add_9ea2d 5 = .ok (.iconst 1, 1) := by decide +kernel
theorem dJx4a65c_add_9ea2d_6 : decode cJx4a65c_add_9ea2d 6 = .ok (.iadd, 1) := by decide +kernel
theorem dJx4a65c_add_9ea2d_7 : decode cJx4a65c_add_9ea2d 7 = .ok (.putfield 63, 3) := by decide +kernel
theorem dJx4a65c_add_9ea2d_10 : decode cJx4a65c_add_9ea2d 10 = .ok (.aload_n 0, 1) := by decide +kernel
theorem dJx4a65c_add_9ea2d_11 : decode cJx4a65c_add_9ea2d 11 = .ok (.aload_n 1, 1) := by decide +kernel
theorem dJx4a65c_add_9ea2d_12 : decode cJx4a65c_add_9ea2d 12 = .ok (.aload_n 0, 1) := by decide +kernel
theorem dJx4a65c_add_9ea2d_13 : decode cJx4a65c_add_9ea2d 13 = .ok (.getfield 9, 3) := by decide +kernel
theorem dJx4a65c_add_9ea2d_16 : decode cJx4a65c_add_9ea2d 16 = .ok (.aload_n 0, 1) := by decide +kernel
theorem dJx4a65c_add_9ea2d_17 : decode cJx4a65c_add_9ea2d 17 = .ok (.getfield 48, 3) := by decide +kernel
theorem dJx4a65c_add_9ea2d_20 : decode cJx4a65c_add_9ea2d 20 = .ok (.invokevirtual 131, 3) := by decide +kernel
theorem dJx4a65c_add_72be8_0 : decode cJx4a65c_add_72be8 0 = .ok (.iload_n 3, 1) := by decide +kernel
theorem dJx4a65c_add_72be8_1 : decode cJx4a65c_add_72be8 1 = .ok (.aload_n 2, 1) := by decide +kernel
theorem dJx4a65c_add_72be8_2 : decode cJx4a65c_add_72be8 2 = .ok (.arraylength, 1) := by decide +kernel
theorem dJx4a65c_add_72be8_3 : decode cJx4a65c_add_72be8 3 = .ok (.if_icmp .ne 8, 3) := by decide +kernel
theorem dJx4a65c_add_72be8_6 : decode cJx4a65c_add_72be8 6 = .ok (.aload_n 0, 1) := by decide +kernel
theorem dJx4a65c_add_72be8_7 : decode cJx4a65c_add_72be8 7 = .ok (.invokevirtual 129, 3) := by decide +kernel
theorem dJx4a65c_grow_d5877_0 : decode cJx4a65c_grow_d5877 0 = .ok (.aload_n 0, 1) := by decide +kernel
theorem dJx4a65c_grow_d5877_1 : decode cJx4a65c_grow_d5877 1 = .ok (.aload_n 0, 1) := by decide +kernel
theorem dJx4a65c_grow_d5877_2 : decode cJx4a65c_grow_d5877 2 = .ok (.getfield 48, 3) := by decide +kernel
theorem dJx4a65c_grow_d5877_5 : decode cJx4a65c_grow_d5877 5 = .ok (.iconst 1, 1) := by decide +kernel
theorem dJx4a65c_grow_d5877_6 : decode cJx4a65c_grow_d5877 6 = .ok (.iadd, 1) := by decide +kernel
theorem dJx4a65c_grow_d5877_7 : decode cJx4a65c_grow_d5877 7 = .ok (.invokevirtual 69, 3) := by decide +kernel
theorem dJx4a65c_grow_92f84_0 : decode cJx4a65c_grow_92f84 0 = .ok (.aload_n 0, 1) := by decide +kernel
theorem dJx4a65c_grow_92f84_1 : decode cJx4a65c_grow_92f84 1 = .ok (.getfield 9, 3) := by decide +kernel
theorem dJx4a65c_grow_92f84_4 : decode cJx4a65c_grow_92f84 4 = .ok (.arraylength, 1) := by decide +kernel
theorem dJx4a65c_grow_92f84_5 : decode cJx4a65c_grow_92f84 5 = .ok (.istore_n 2, 1) := by decide +kernel
theorem dJx4a65c_grow_92f84_6 : decode cJx4a65c_grow_92f84 6 = .ok (.iload_n 2, 1) := by decide +kernel
theorem dJx4a65c_grow_92f84_7 : decode cJx4a65c_grow_92f84 7 = .ok (.ifCond .gt 13, 3) := by decide +kernel
theorem dJx4a65c_grow_92f84_10 : decode cJx4a65c_grow_92f84 10 = .ok (.aload_n 0, 1) := by decide +kernel
theorem dJx4a65c_grow_92f84_11 : decode cJx4a65c_grow_92f84 11 = .ok (.getfield 9, 3) := by decide +kernel
theorem dJx4a65c_grow_92f84_14 : decode cJx4a65c_grow_92f84 14 = .ok (.getstatic 39, 3) := by decide +kernel
theorem dJx4a65c_grow_92f84_17 : decode cJx4a65c_grow_92f84 17 = .ok (.if_acmp .eq 28, 3) := by decide +kernel
theorem dJx4a65c_grow_92f84_45 : decode cJx4a65c_grow_92f84 45 = .ok (.aload_n 0, 1) := by decide +kernel
theorem dJx4a65c_grow_92f84_46 : decode cJx4a65c_grow_92f84 46 = .ok (.bipush 10, 2) := by decide +kernel
theorem dJx4a65c_grow_92f84_48 : decode cJx4a65c_grow_92f84 48 = .ok (.iload_n 1, 1) := by decide +kernel
theorem dJx4a65c_grow_92f84_49 : decode cJx4a65c_grow_92f84 49 = .ok (.invokestatic 79, 3) := by decide +kernel
theorem dJx4a65c_grow_92f84_52 : decode cJx4a65c_grow_92f84 52 = .ok (.anewarray 7, 3) := by decide +kernel
theorem dJx4a65c_grow_92f84_55 : decode cJx4a65c_grow_92f84 55 = .ok (.dup_x1, 1) := by decide +kernel
theorem dJx4a65c_grow_92f84_56 : decode cJx4a65c_grow_92f84 56 = .ok (.putfield 9, 3) := by decide +kernel
theorem dJx4a65c_grow_92f84_59 : decode cJx4a65c_grow_92f84 59 = .ok (.areturn, 1) := by decide +kernel
theorem dJx4a65c_grow_d5877_10 : decode cJx4a65c_grow_d5877 10 = .ok (.areturn, 1) := by decide +kernel
theorem dJx4a65c_add_72be8_10 : decode cJx4a65c_add_72be8 10 = .ok (.astore_n 2, 1) := by decide +kernel
theorem dJx4a65c_add_72be8_11 : decode cJx4a65c_add_72be8 11 = .ok (.aload_n 2, 1) := by decide +kernel
theorem dJx4a65c_add_72be8_12 : decode cJx4a65c_add_72be8 12 = .ok (.iload_n 3, 1) := by decide +kernel
theorem dJx4a65c_add_72be8_13 : decode cJx4a65c_add_72be8 13 = .ok (.aload_n 1, 1) := by decide +kernel
theorem dJx4a65c_add_72be8_14 : decode cJx4a65c_add_72be8 14 = .ok (.aastore, 1) := by decide +kernel
theorem dJx4a65c_add_72be8_15 : decode cJx4a65c_add_72be8 15 = .ok (.aload_n 0, 1) := by decide +kernel
theorem dJx4a65c_add_72be8_16 : decode cJx4a65c_add_72be8 16 = .ok (.iload_n 3, 1) := by decide +kernel
theorem dJx4a65c_add_72be8_17 : decode cJx4a65c_add_72be8 17 = .ok (.iconst 1, 1) := by decide +kernel
theorem dJx4a65c_add_72be8_18 : decode cJx4a65c_add_72be8 18 = .ok (.iadd, 1) := by decide +kernel
theorem dJx4a65c_add_72be8_19 : decode cJx4a65c_add_72be8 19 = .ok (.putfield 48, 3) := by decide +kernel
theorem dJx4a65c_add_72be8_22 : decode cJx4a65c_add_72be8 22 = .ok (.return_, 1) := by decide +kernel
theorem dJx4a65c_add_9ea2d_23 : decode cJx4a65c_add_9ea2d 23 = .ok (.iconst 1, 1) := by decide +kernel
theorem dJx4a65c_add_9ea2d_24 : decode cJx4a65c_add_9ea2d 24 = .ok (.ireturn, 1) := by decide +kernel
theorem dX12_node_81 : decode cX12_node 81 = .ok (.pop, 1) := by decide +kernel
theorem dX12_node_82 : decode cX12_node 82 = .ok (.aload_n 0, 1) := by decide +kernel
theorem dX12_node_83 : decode cX12_node 83 = .ok (.invokevirtual 299, 3) := by decide +kernel
theorem dX12_changes_0 : decode cX12_changes 0 = .ok (.aload_n 0, 1) := by decide +kernel
theorem dX12_changes_1 : decode cX12_changes 1 = .ok (.iconst 0, 1) := by decide +kernel
theorem dX12_changes_2 : decode cX12_changes 2 = .ok (.putfield 77, 3) := by decide +kernel
theorem dX12_changes_5 : decode cX12_changes 5 = .ok (.aload_n 0, 1) := by decide +kernel
theorem dX12_changes_6 : decode cX12_changes 6 = .ok (.iconst 0, 1) := by decide +kernel
theorem dX12_changes_7 : decode cX12_changes 7 = .ok (.putfield 81, 3) := by decide +kernel
theorem dX12_changes_10 : decode cX12_changes 10 = .ok (.aload_n 0, 1) := by decide +kernel
theorem dX12_changes_11 : decode cX12_changes 11 = .ok (.iconst 0, 1) := by decide +kernel
theorem dX12_changes_12 : decode cX12_changes 12 = .ok (.putfield 84, 3) := by decide +kernel
theorem dX12_changes_15 : decode cX12_changes 15 = .ok (.return_, 1) := by decide +kernel
theorem dX12_node_86 : decode cX12_node 86 = .ok (.aload_n 0, 1) := by decide +kernel
theorem dX12_node_87 : decode cX12_node 87 = .ok (.aload_n 0, 1) := by decide +kernel
theorem dX12_node_88 : decode cX12_node 88 = .ok (.getfield 10, 3) := by decide +kernel
theorem dX12_node_91 : decode cX12_node 91 = .ok (.invokevirtual 125, 3) := by decide +kernel
theorem dX12_node_94 : decode cX12_node 94 = .ok (.iconst 1, 1) := by decide +kernel
theorem dX12_node_95 : decode cX12_node 95 = .ok (.isub, 1) := by decide +kernel
theorem dX12_node_96 : decode cX12_node 96 = .ok (.invokevirtual 302, 3) := by decide +kernel
theorem dX12_tell_0 : decode cX12_tell 0 = .ok (.aload_n 0, 1) := by decide +kernel
theorem dX12_tell_1 : decode cX12_tell 1 = .ok (.iconst 0, 1) := by decide +kernel
theorem dX12_tell_2 : decode cX12_tell 2 = .ok (.putfield 74, 3) := by decide +kernel
theorem dX12_tell_5 : decode cX12_tell 5 = .ok (.iload_n 1, 1) := by decide +kernel
theorem dX12_tell_6 : decode cX12_tell 6 = .ok (.ireturn, 1) := by decide +kernel
theorem dX12_node_99 : decode cX12_node 99 = .ok (.ireturn, 1) := by decide +kernel
theorem dL_law_259 : decode cL_law 259 = .ok (.aload_n 3, 1) := by decide +kernel
theorem dL_law_260 : decode cL_law 260 = .ok (.iconst 0, 1) := by decide +kernel
theorem dL_law_261 : decode cL_law 261 = .ok (.laload, 1) := by decide +kernel
theorem dL_law_262 : decode cL_law 262 = .ok (.iload 7, 2) := by decide +kernel
theorem dL_law_264 : decode cL_law 264 = .ok (.i2l, 1) := by decide +kernel
theorem dL_law_265 : decode cL_law 265 = .ok (.lcmp, 1) := by decide +kernel
theorem dL_law_266 : decode cL_law 266 = .ok (.ifCond .eq 5, 3) := by decide +kernel
theorem dL_law_274 : decode cL_law 274 = .ok (.aload_n 1, 1) := by decide +kernel
theorem dL_law_275 : decode cL_law 275 = .ok (.aload_n 0, 1) := by decide +kernel
theorem dL_law_276 : decode cL_law 276 = .ok (.iload 5, 2) := by decide +kernel
theorem dL_law_278 : decode cL_law 278 = .ok (.iconst 1, 1) := by decide +kernel
theorem dL_law_279 : decode cL_law 279 = .ok (.iadd, 1) := by decide +kernel
theorem dL_law_280 : decode cL_law 280 = .ok (.iaload, 1) := by decide +kernel
theorem dL_law_281 : decode cL_law 281 = .ok (.aload_n 0, 1) := by decide +kernel
theorem dL_law_282 : decode cL_law 282 = .ok (.iload 5, 2) := by decide +kernel
theorem dL_law_284 : decode cL_law 284 = .ok (.iconst 2, 1) := by decide +kernel
theorem dL_law_285 : decode cL_law 285 = .ok (.iadd, 1) := by decide +kernel
theorem dL_law_286 : decode cL_law 286 = .ok (.iaload, 1) := by decide +kernel
theorem dL_law_287 : decode cL_law 287 = .ok (.aload_n 0, 1) := by decide +kernel
theorem dL_law_288 : decode cL_law 288 = .ok (.iload 5, 2) := by decide +kernel
theorem dL_law_290 : decode cL_law 290 = .ok (.iconst 3, 1) := by decide +kernel
theorem dL_law_291 : decode cL_law 291 = .ok (.iadd, 1) := by decide +kernel
theorem dL_law_292 : decode cL_law 292 = .ok (.iaload, 1) := by decide +kernel
theorem dL_law_293 : decode cL_law 293 = .ok (.aload_n 0, 1) := by decide +kernel
theorem dL_law_294 : decode cL_law 294 = .ok (.iload 5, 2) := by decide +kernel
theorem dL_law_296 : decode cL_law 296 = .ok (.iconst 4, 1) := by decide +kernel
theorem dL_law_297 : decode cL_law 297 = .ok (.iadd, 1) := by decide +kernel
theorem dL_law_298 : decode cL_law 298 = .ok (.iaload, 1) := by decide +kernel
theorem dL_law_299 : decode cL_law 299 = .ok (.aload_n 3, 1) := by decide +kernel
theorem dL_law_300 : decode cL_law 300 = .ok (.invokestatic 128, 3) := by decide +kernel
theorem dL_member_0 : decode cL_member 0 = .ok (.aload 5, 2) := by decide +kernel
theorem dL_member_2 : decode cL_member 2 = .ok (.iconst 0, 1) := by decide +kernel
theorem dL_member_3 : decode cL_member 3 = .ok (.aload_n 0, 1) := by decide +kernel
theorem dL_member_4 : decode cL_member 4 = .ok (.iload_n 1, 1) := by decide +kernel
theorem dL_member_5 : decode cL_member 5 = .ok (.iload_n 2, 1) := by decide +kernel
theorem dL_member_6 : decode cL_member 6 = .ok (.iload_n 3, 1) := by decide +kernel
theorem dL_member_7 : decode cL_member 7 = .ok (.iload 4, 2) := by decide +kernel
theorem dL_member_9 : decode cL_member 9 = .ok (.invokevirtual 17, 3) := by decide +kernel
theorem dX6_member_0 : decode cX6_member 0 = .ok (.aload_n 0, 1) := by decide +kernel
theorem dX6_member_1 : decode cX6_member 1 = .ok (.iload_n 1, 1) := by decide +kernel
theorem dX6_member_2 : decode cX6_member 2 = .ok (.invokevirtual 80, 3) := by decide +kernel
theorem dX6_checkNode_0 : decode cX6_checkNode 0 = .ok (.iload_n 1, 1) := by decide +kernel
theorem dX6_checkNode_1 : decode cX6_checkNode 1 = .ok (.ifCond .lt 14, 3) := by decide +kernel
theorem dX6_checkNode_15 : decode cX6_checkNode 15 = .ok (.new 228, 3) := by decide +kernel
theorem dX6_checkNode_18 : decode cX6_checkNode 18 = .ok (.dup, 1) := by decide +kernel
theorem dX6_checkNode_19 : decode cX6_checkNode 19 = .ok (.ldc_w 280, 3) := by decide +kernel
theorem dX6_checkNode_22 : decode cX6_checkNode 22 = .ok (.invokespecial 232, 3) := by decide +kernel
theorem dX6_checkNode_25 : decode cX6_checkNode 25 = .ok (.athrow, 1) := by decide +kernel
theorem dL_member_17 : decode cL_member 17 = .ok (.astore 6, 2) := by decide +kernel
theorem dL_member_19 : decode cL_member 19 = .ok (.iconst 1, 1) := by decide +kernel
theorem dL_member_20 : decode cL_member 20 = .ok (.ireturn, 1) := by decide +kernel
theorem dL_law_303 : decode cL_law 303 = .ok (.istore 6, 2) := by decide +kernel
theorem dL_law_305 : decode cL_law 305 = .ok (.aload_n 2, 1) := by decide +kernel
theorem dL_law_306 : decode cL_law 306 = .ok (.aload_n 0, 1) := by decide +kernel
theorem dL_law_307 : decode cL_law 307 = .ok (.iload 5, 2) := by decide +kernel
theorem dL_law_309 : decode cL_law 309 = .ok (.iconst 1, 1) := by decide +kernel
theorem dL_law_310 : decode cL_law 310 = .ok (.iadd, 1) := by decide +kernel
theorem dL_law_311 : decode cL_law 311 = .ok (.iaload, 1) := by decide +kernel
theorem dL_law_312 : decode cL_law 312 = .ok (.aload_n 0, 1) := by decide +kernel
theorem dL_law_313 : decode cL_law 313 = .ok (.iload 5, 2) := by decide +kernel
theorem dL_law_315 : decode cL_law 315 = .ok (.iconst 2, 1) := by decide +kernel
theorem dL_law_316 : decode cL_law 316 = .ok (.iadd, 1) := by decide +kernel
theorem dL_law_317 : decode cL_law 317 = .ok (.iaload, 1) := by decide +kernel
theorem dL_law_318 : decode cL_law 318 = .ok (.aload_n 0, 1) := by decide +kernel
theorem dL_law_319 : decode cL_law 319 = .ok (.iload 5, 2) := by decide +kernel
theorem dL_law_321 : decode cL_law 321 = .ok (.iconst 3, 1) := by decide +kernel
theorem dL_law_322 : decode cL_law 322 = .ok (.iadd, 1) := by decide +kernel
theorem dL_law_323 : decode cL_law 323 = .ok (.iaload, 1) := by decide +kernel
theorem dL_law_324 : decode cL_law 324 = .ok (.aload_n 0, 1) := by decide +kernel
theorem dL_law_325 : decode cL_law 325 = .ok (.iload 5, 2) := by decide +kernel
theorem dL_law_327 : decode cL_law 327 = .ok (.iconst 4, 1) := by decide +kernel
theorem dL_law_328 : decode cL_law 328 = .ok (.iadd, 1) := by decide +kernel
theorem dL_law_329 : decode cL_law 329 = .ok (.iaload, 1) := by decide +kernel
theorem dL_law_330 : decode cL_law 330 = .ok (.invokevirtual 131, 3) := by decide +kernel
theorem dX12_member_0 : decode cX12_member 0 = .ok (.aload_n 0, 1) := by decide +kernel
theorem dX12_member_1 : decode cX12_member 1 = .ok (.iload_n 1, 1) := by decide +kernel
theorem dX12_member_2 : decode cX12_member 2 = .ok (.invokevirtual 305, 3) := by decide +kernel
theorem dX12_isNode_0 : decode cX12_isNode 0 = .ok (.iload_n 1, 1) := by decide +kernel
theorem dX12_isNode_1 : decode cX12_isNode 1 = .ok (.i2l, 1) := by decide +kernel
theorem dX12_isNode_2 : decode cX12_isNode 2 = .ok (.iconst 0, 1) := by decide +kernel
theorem dX12_isNode_3 : decode cX12_isNode 3 = .ok (.aload_n 0, 1) := by decide +kernel
theorem dX12_isNode_4 : decode cX12_isNode 4 = .ok (.getfield 10, 3) := by decide +kernel
theorem dX12_isNode_7 : decode cX12_isNode 7 = .ok (.invokevirtual 125, 3) := by decide +kernel
theorem dX12_isNode_10 : decode cX12_isNode 10 = .ok (.iconst 1, 1) := by decide +kernel
theorem dX12_isNode_11 : decode cX12_isNode 11 = .ok (.isub, 1) := by decide +kernel
theorem dX12_isNode_12 : decode cX12_isNode 12 = .ok (.invokestatic 285, 3) := by decide +kernel
theorem dX12_isNode_15 : decode cX12_isNode 15 = .ok (.ireturn, 1) := by decide +kernel
theorem dX12_member_5 : decode cX12_member 5 = .ok (.ifCond .eq 11, 3) := by decide +kernel
theorem dX12_member_16 : decode cX12_member 16 = .ok (.aload_n 0, 1) := by decide +kernel
theorem dX12_member_17 : decode cX12_member 17 = .ok (.iconst 1, 1) := by decide +kernel
theorem dX12_member_18 : decode cX12_member 18 = .ok (.invokevirtual 289, 3) := by decide +kernel
theorem dX12_member_21 : decode cX12_member 21 = .ok (.ireturn, 1) := by decide +kernel
theorem dL_law_333 : decode cL_law 333 = .ok (.istore 7, 2) := by decide +kernel
theorem dL_law_335 : decode cL_law 335 = .ok (.aload_n 2, 1) := by decide +kernel
theorem dL_law_336 : decode cL_law 336 = .ok (.invokevirtual 125, 3) := by decide +kernel
theorem dL_law_339 : decode cL_law 339 = .ok (.iload 6, 2) := by decide +kernel
theorem dL_law_341 : decode cL_law 341 = .ok (.if_icmp .eq 5, 3) := by decide +kernel
theorem dL_law_346 : decode cL_law 346 = .ok (.iload 6, 2) := by decide +kernel
theorem dL_law_348 : decode cL_law 348 = .ok (.ifCond .ne 15, 3) := by decide +kernel
theorem dL_law_363 : decode cL_law 363 = .ok (.goto 1600, 3) := by decide +kernel
theorem dX6_checkNode_4 : decode cX6_checkNode 4 = .ok (.iload_n 1, 1) := by decide +kernel
theorem dX6_checkNode_5 : decode cX6_checkNode 5 = .ok (.aload_n 0, 1) := by decide +kernel
theorem dX6_checkNode_6 : decode cX6_checkNode 6 = .ok (.getfield 12, 3) := by decide +kernel
theorem dX6_checkNode_9 : decode cX6_checkNode 9 = .ok (.getfield 63, 3) := by decide +kernel
theorem dX6_checkNode_12 : decode cX6_checkNode 12 = .ok (.if_icmp .lt 14, 3) := by decide +kernel
theorem dL_law_366 : decode cL_law 366 = .ok (.aload_n 1, 1) := by decide +kernel
theorem dL_law_367 : decode cL_law 367 = .ok (.aload_n 0, 1) := by decide +kernel
theorem dL_law_368 : decode cL_law 368 = .ok (.iload 5, 2) := by decide +kernel
theorem dL_law_370 : decode cL_law 370 = .ok (.iconst 1, 1) := by decide +kernel
theorem dL_law_371 : decode cL_law 371 = .ok (.iadd, 1) := by decide +kernel
theorem dL_law_372 : decode cL_law 372 = .ok (.iaload, 1) := by decide +kernel
theorem dL_law_373 : decode cL_law 373 = .ok (.aload_n 0, 1) := by decide +kernel
theorem dL_law_374 : decode cL_law 374 = .ok (.iload 5, 2) := by decide +kernel
theorem dL_law_376 : decode cL_law 376 = .ok (.iconst 2, 1) := by decide +kernel
theorem dL_law_377 : decode cL_law 377 = .ok (.iadd, 1) := by decide +kernel
theorem dL_law_378 : decode cL_law 378 = .ok (.iaload, 1) := by decide +kernel
theorem dL_law_379 : decode cL_law 379 = .ok (.aload_n 0, 1) := by decide +kernel
theorem dL_law_380 : decode cL_law 380 = .ok (.iload 5, 2) := by decide +kernel
theorem dL_law_382 : decode cL_law 382 = .ok (.iconst 3, 1) := by decide +kernel
theorem dL_law_383 : decode cL_law 383 = .ok (.iadd, 1) := by decide +kernel
theorem dL_law_384 : decode cL_law 384 = .ok (.iaload, 1) := by decide +kernel
theorem dL_law_385 : decode cL_law 385 = .ok (.aload_n 3, 1) := by decide +kernel
theorem dL_law_386 : decode cL_law 386 = .ok (.invokestatic 132, 3) := by decide +kernel
theorem dL_load_0 : decode cL_load 0 = .ok (.aload 4, 2) := by decide +kernel
theorem dL_load_2 : decode cL_load 2 = .ok (.iconst 0, 1) := by decide +kernel
theorem dL_load_3 : decode cL_load 3 = .ok (.aload_n 0, 1) := by decide +kernel
theorem dL_load_4 : decode cL_load 4 = .ok (.iload_n 1, 1) := by decide +kernel
theorem dL_load_5 : decode cL_load 5 = .ok (.iload_n 2, 1) := by decide +kernel
theorem dL_load_6 : decode cL_load 6 = .ok (.iload_n 3, 1) := by decide +kernel
theorem dL_load_7 : decode cL_load 7 = .ok (.invokevirtual 23, 3) := by decide +kernel
theorem dX6_load_0 : decode cX6_load 0 = .ok (.aload_n 0, 1) := by decide +kernel
theorem dX6_load_1 : decode cX6_load 1 = .ok (.iload_n 1, 1) := by decide +kernel
theorem dX6_load_2 : decode cX6_load 2 = .ok (.invokevirtual 80, 3) := by decide +kernel
theorem dL_load_15 : decode cL_load 15 = .ok (.astore 5, 2) := by decide +kernel
theorem dL_load_17 : decode cL_load 17 = .ok (.iconst 1, 1) := by decide +kernel
theorem dL_load_18 : decode cL_load 18 = .ok (.ireturn, 1) := by decide +kernel
theorem dL_law_389 : decode cL_law 389 = .ok (.istore 6, 2) := by decide +kernel
theorem dL_law_391 : decode cL_law 391 = .ok (.aload_n 2, 1) := by decide +kernel
theorem dL_law_392 : decode cL_law 392 = .ok (.aload_n 0, 1) := by decide +kernel
theorem dL_law_393 : decode cL_law 393 = .ok (.iload 5, 2) := by decide +kernel
theorem dL_law_395 : decode cL_law 395 = .ok (.iconst 1, 1) := by decide +kernel
theorem dL_law_396 : decode cL_law 396 = .ok (.iadd, 1) := by decide +kernel
theorem dL_law_397 : decode cL_law 397 = .ok (.iaload, 1) := by decide +kernel
theorem dL_law_398 : decode cL_law 398 = .ok (.aload_n 0, 1) := by decide +kernel
theorem dL_law_399 : decode cL_law 399 = .ok (.iload 5, 2) := by decide +kernel
theorem dL_law_401 : decode cL_law 401 = .ok (.iconst 2, 1) := by decide +kernel
theorem dL_law_402 : decode cL_law 402 = .ok (.iadd, 1) := by decide +kernel
theorem dL_law_403 : decode cL_law 403 = .ok (.iaload, 1) := by decide +kernel
theorem dL_law_404 : decode cL_law 404 = .ok (.aload_n 0, 1) := by decide +kernel
theorem dL_law_405 : decode cL_law 405 = .ok (.iload 5, 2) := by decide +kernel
theorem dL_law_407 : decode cL_law 407 = .ok (.iconst 3, 1) := by decide +kernel
theorem dL_law_408 : decode cL_law 408 = .ok (.iadd, 1) := by decide +kernel
theorem dL_law_409 : decode cL_law 409 = .ok (.iaload, 1) := by decide +kernel
theorem dL_law_410 : decode cL_law 410 = .ok (.invokevirtual 135, 3) := by decide +kernel
theorem dX12_load_0 : decode cX12_load 0 = .ok (.aload_n 0, 1) := by decide +kernel
theorem dX12_load_1 : decode cX12_load 1 = .ok (.iload_n 1, 1) := by decide +kernel
theorem dX12_load_2 : decode cX12_load 2 = .ok (.invokevirtual 305, 3) := by decide +kernel
theorem dX12_load_5 : decode cX12_load 5 = .ok (.ifCond .ne 9, 3) := by decide +kernel
theorem dX12_load_8 : decode cX12_load 8 = .ok (.aload_n 0, 1) := by decide +kernel
theorem dX12_load_9 : decode cX12_load 9 = .ok (.iconst 1, 1) := by decide +kernel
theorem dX12_load_10 : decode cX12_load 10 = .ok (.invokevirtual 289, 3) := by decide +kernel
theorem dX12_load_13 : decode cX12_load 13 = .ok (.ireturn, 1) := by decide +kernel
theorem dL_law_413 : decode cL_law 413 = .ok (.istore 7, 2) := by decide +kernel
theorem dL_law_415 : decode cL_law 415 = .ok (.aload_n 2, 1) := by decide +kernel
theorem dL_law_416 : decode cL_law 416 = .ok (.invokevirtual 125, 3) := by decide +kernel
theorem dL_law_419 : decode cL_law 419 = .ok (.iload 6, 2) := by decide +kernel
theorem dL_law_421 : decode cL_law 421 = .ok (.if_icmp .eq 5, 3) := by decide +kernel
theorem dL_law_426 : decode cL_law 426 = .ok (.iload 6, 2) := by decide +kernel
theorem dL_law_428 : decode cL_law 428 = .ok (.ifCond .ne 15, 3) := by decide +kernel
theorem dL_law_443 : decode cL_law 443 = .ok (.goto 1520, 3) := by decide +kernel
theorem dL_law_446 : decode cL_law 446 = .ok (.aload_n 1, 1) := by decide +kernel
theorem dL_law_447 : decode cL_law 447 = .ok (.invokevirtual 136, 3) := by decide +kernel
theorem dX6_state_0 : decode cX6_state 0 = .ok (.aload_n 0, 1) := by decide +kernel
theorem dX6_state_1 : decode cX6_state 1 = .ok (.getfield 19, 3) := by decide +kernel
theorem dX6_state_4 : decode cX6_state 4 = .ok (.aload_n 0, 1) := by decide +kernel
theorem dX6_state_5 : decode cX6_state 5 = .ok (.getfield 12, 3) := by decide +kernel
theorem dX6_state_8 : decode cX6_state 8 = .ok (.invokevirtual 110, 3) := by decide +kernel
theorem dX1_find_0 : decode cX1_find 0 = .ok (.aload_n 0, 1) := by decide +kernel
theorem dX1_find_1 : decode cX1_find 1 = .ok (.getfield 59, 3) := by decide +kernel
theorem dX1_find_4 : decode cX1_find 4 = .ok (.ifCond .eq 4, 3) := by decide +kernel
theorem dX1_find_8 : decode cX1_find 8 = .ok (.aload_n 0, 1) := by decide +kernel
theorem dX1_find_9 : decode cX1_find 9 = .ok (.aload_n 0, 1) := by decide +kernel
theorem dX1_find_10 : decode cX1_find 10 = .ok (.aload_n 1, 1) := by decide +kernel
theorem dX1_find_11 : decode cX1_find 11 = .ok (.invokevirtual 63, 3) := by decide +kernel
theorem dX1_findPulls_0 : decode cX1_findPulls 0 = .ok (.iconst 0, 1) := by decide +kernel
theorem dX1_findPulls_1 : decode cX1_findPulls 1 = .ok (.istore_n 2, 1) := by decide +kernel
theorem dX1_findPulls_2 : decode cX1_findPulls 2 = .ok (.iconst 0, 1) := by decide +kernel
theorem dX1_findPulls_3 : decode cX1_findPulls 3 = .ok (.istore_n 3, 1) := by decide +kernel
theorem dX1_findPulls_4 : decode cX1_findPulls 4 = .ok (.iload_n 3, 1) := by decide +kernel
theorem dX1_findPulls_5 : decode cX1_findPulls 5 = .ok (.aload_n 1, 1) := by decide +kernel
theorem dX1_findPulls_6 : decode cX1_findPulls 6 = .ok (.getfield 78, 3) := by decide +kernel
theorem dX1_findPulls_9 : decode cX1_findPulls 9 = .ok (.if_icmp .ge 43, 3) := by decide +kernel
theorem dX1_findPulls_52 : decode cX1_findPulls 52 = .ok (.aload_n 1, 1) := by decide +kernel
theorem dX1_findPulls_53 : decode cX1_findPulls 53 = .ok (.getfield 88, 3) := by decide +kernel
theorem dX1_findPulls_56 : decode cX1_findPulls 56 = .ok (.iload_n 2, 1) := by decide +kernel
theorem dX1_findPulls_57 : decode cX1_findPulls 57 = .ok (.if_icmp .eq 19, 3) := by decide +kernel
theorem dX1_findPulls_76 : decode cX1_findPulls 76 = .ok (.aload_n 0, 1) := by decide +kernel
theorem dX1_findPulls_77 : decode cX1_findPulls 77 = .ok (.aload_n 1, 1) := by decide +kernel
theorem dX1_findPulls_78 : decode cX1_findPulls 78 = .ok (.invokevirtual 91, 3) := by decide +kernel
theorem dX1_fillRows_0 : decode cX1_fillRows 0 = .ok (.iconst 0, 1) := by decide +kernel
theorem dX1_fillRows_1 : decode cX1_fillRows 1 = .ok (.istore_n 2, 1) := by decide +kernel
theorem dX1_fillRows_2 : decode cX1_fillRows 2 = .ok (.iconst 0, 1) := by decide +kernel
theorem dX1_fillRows_3 : decode cX1_fillRows 3 = .ok (.istore_n 3, 1) := by decide +kernel
theorem dX1_fillRows_4 : decode cX1_fillRows 4 = .ok (.iload_n 3, 1) := by decide +kernel
theorem dX1_fillRows_5 : decode cX1_fillRows 5 = .ok (.iconst 2, 1) := by decide +kernel
theorem dX1_fillRows_6 : decode cX1_fillRows 6 = .ok (.aload_n 1, 1) := by decide +kernel
theorem dX1_fillRows_7 : decode cX1_fillRows 7 = .ok (.getfield 78, 3) := by decide +kernel
theorem dX1_fillRows_10 : decode cX1_fillRows 10 = .ok (.imul, 1) := by decide +kernel
theorem dX1_fillRows_11 : decode cX1_fillRows 11 = .ok (.if_icmp .ge 115, 3) := by decide +kernel
theorem dX1_fillRows_126 : decode cX1_fillRows 126 = .ok (.return_, 1) := by decide +kernel
theorem dX1_findPulls_81 : decode cX1_findPulls 81 = .ok (.aload_n 0, 1) := by decide +kernel
theorem dX1_findPulls_82 : decode cX1_findPulls 82 = .ok (.iload_n 2, 1) := by decide +kernel
theorem dX1_findPulls_83 : decode cX1_findPulls 83 = .ok (.invokevirtual 94, 3) := by decide +kernel
theorem dX1_findDeterminants_0 : decode cX1_findDeterminants 0 = .ok (.iconst 0, 1) := by decide +kernel
theorem dX1_findDeterminants_1 : decode cX1_findDeterminants 1 = .ok (.istore_n 2, 1) := by decide +kernel
theorem dX1_findDeterminants_2 : decode cX1_findDeterminants 2 = .ok (.iload_n 2, 1) := by decide +kernel
theorem dX1_findDeterminants_3 : decode cX1_findDeterminants 3 = .ok (.iconst 1, 1) := by decide +kernel
theorem dX1_findDeterminants_4 : decode cX1_findDeterminants 4 = .ok (.iload_n 1, 1) := by decide +kernel
theorem dX1_findDeterminants_5 : decode cX1_findDeterminants 5 = .ok (.ishl, 1) := by decide +kernel
theorem dX1_findDeterminants_6 : decode cX1_findDeterminants 6 = .ok (.if_icmp .ge 107, 3) := by decide +kernel
theorem dX1_findDeterminants_9 : decode cX1_findDeterminants 9 = .ok (.iload_n 2, 1) := by decide +kernel
theorem dX1_findDeterminants_10 : decode cX1_findDeterminants 10 = .ok (.invokestatic 119, 3) := by decide +kernel
theorem dJ6_bitCount_0f7a4_0 : decode cJ6_bitCount_0f7a4 0 = .ok (.iload_n 0, 1) := by decide +kernel
theorem dJ6_bitCount_0f7a4_1 : decode cJ6_bitCount_0f7a4 1 = .ok (.iload_n 0, 1) := by decide +kernel
theorem dJ6_bitCount_0f7a4_2 : decode cJ6_bitCount_0f7a4 2 = .ok (.iconst 1, 1) := by decide +kernel
theorem dJ6_bitCount_0f7a4_3 : decode cJ6_bitCount_0f7a4 3 = .ok (.iushr, 1) := by decide +kernel
theorem dJ6_bitCount_0f7a4_4 : decode cJ6_bitCount_0f7a4 4 = .ok (.ldc_w 265, 3) := by decide +kernel
theorem dJ6_bitCount_0f7a4_7 : decode cJ6_bitCount_0f7a4 7 = .ok (.iand, 1) := by decide +kernel
theorem dJ6_bitCount_0f7a4_8 : decode cJ6_bitCount_0f7a4 8 = .ok (.isub, 1) := by decide +kernel
theorem dJ6_bitCount_0f7a4_9 : decode cJ6_bitCount_0f7a4 9 = .ok (.istore_n 0, 1) := by decide +kernel
theorem dJ6_bitCount_0f7a4_10 : decode cJ6_bitCount_0f7a4 10 = .ok (.iload_n 0, 1) := by decide +kernel
theorem dJ6_bitCount_0f7a4_11 : decode cJ6_bitCount_0f7a4 11 = .ok (.ldc_w 266, 3) := by decide +kernel
theorem dJ6_bitCount_0f7a4_14 : decode cJ6_bitCount_0f7a4 14 = .ok (.iand, 1) := by decide +kernel
theorem dJ6_bitCount_0f7a4_15 : decode cJ6_bitCount_0f7a4 15 = .ok (.iload_n 0, 1) := by decide +kernel
theorem dJ6_bitCount_0f7a4_16 : decode cJ6_bitCount_0f7a4 16 = .ok (.iconst 2, 1) := by decide +kernel
theorem dJ6_bitCount_0f7a4_17 : decode cJ6_bitCount_0f7a4 17 = .ok (.iushr, 1) := by decide +kernel
theorem dJ6_bitCount_0f7a4_18 : decode cJ6_bitCount_0f7a4 18 = .ok (.ldc_w 266, 3) := by decide +kernel
theorem dJ6_bitCount_0f7a4_21 : decode cJ6_bitCount_0f7a4 21 = .ok (.iand, 1) := by decide +kernel
theorem dJ6_bitCount_0f7a4_22 : decode cJ6_bitCount_0f7a4 22 = .ok (.iadd, 1) := by decide +kernel
theorem dJ6_bitCount_0f7a4_23 : decode cJ6_bitCount_0f7a4 23 = .ok (.istore_n 0, 1) := by decide +kernel
theorem dJ6_bitCount_0f7a4_24 : decode cJ6_bitCount_0f7a4 24 = .ok (.iload_n 0, 1) := by decide +kernel
theorem dJ6_bitCount_0f7a4_25 : decode cJ6_bitCount_0f7a4 25 = .ok (.iload_n 0, 1) := by decide +kernel
theorem dJ6_bitCount_0f7a4_26 : decode cJ6_bitCount_0f7a4 26 = .ok (.iconst 4, 1) := by decide +kernel
theorem dJ6_bitCount_0f7a4_27 : decode cJ6_bitCount_0f7a4 27 = .ok (.iushr, 1) := by decide +kernel
theorem dJ6_bitCount_0f7a4_28 : decode cJ6_bitCount_0f7a4 28 = .ok (.iadd, 1) := by decide +kernel
theorem dJ6_bitCount_0f7a4_29 : decode cJ6_bitCount_0f7a4 29 = .ok (.ldc_w 267, 3) := by decide +kernel
theorem dJ6_bitCount_0f7a4_32 : decode cJ6_bitCount_0f7a4 32 = .ok (.iand, 1) := by decide +kernel
theorem dJ6_bitCount_0f7a4_33 : decode cJ6_bitCount_0f7a4 33 = .ok (.istore_n 0, 1) := by decide +kernel
theorem dJ6_bitCount_0f7a4_34 : decode cJ6_bitCount_0f7a4 34 = .ok (.iload_n 0, 1) := by decide +kernel
theorem dJ6_bitCount_0f7a4_35 : decode cJ6_bitCount_0f7a4 35 = .ok (.iload_n 0, 1) := by decide +kernel
theorem dJ6_bitCount_0f7a4_36 : decode cJ6_bitCount_0f7a4 36 = .ok (.bipush 8, 2) := by decide +kernel
theorem dJ6_bitCount_0f7a4_38 : decode cJ6_bitCount_0f7a4 38 = .ok (.iushr, 1) := by decide +kernel
theorem dJ6_bitCount_0f7a4_39 : decode cJ6_bitCount_0f7a4 39 = .ok (.iadd, 1) := by decide +kernel
theorem dJ6_bitCount_0f7a4_40 : decode cJ6_bitCount_0f7a4 40 = .ok (.istore_n 0, 1) := by decide +kernel
theorem dJ6_bitCount_0f7a4_41 : decode cJ6_bitCount_0f7a4 41 = .ok (.iload_n 0, 1) := by decide +kernel
theorem dJ6_bitCount_0f7a4_42 : decode cJ6_bitCount_0f7a4 42 = .ok (.iload_n 0, 1) := by decide +kernel
theorem dJ6_bitCount_0f7a4_43 : decode cJ6_bitCount_0f7a4 43 = .ok (.bipush 16, 2) := by decide +kernel
theorem dJ6_bitCount_0f7a4_45 : decode cJ6_bitCount_0f7a4 45 = .ok (.iushr, 1) := by decide +kernel
theorem dJ6_bitCount_0f7a4_46 : decode cJ6_bitCount_0f7a4 46 = .ok (.iadd, 1) := by decide +kernel
theorem dJ6_bitCount_0f7a4_47 : decode cJ6_bitCount_0f7a4 47 = .ok (.istore_n 0, 1) := by decide +kernel
theorem dJ6_bitCount_0f7a4_48 : decode cJ6_bitCount_0f7a4 48 = .ok (.iload_n 0, 1) := by decide +kernel
theorem dJ6_bitCount_0f7a4_49 : decode cJ6_bitCount_0f7a4 49 = .ok (.bipush 63, 2) := by decide +kernel
theorem dJ6_bitCount_0f7a4_51 : decode cJ6_bitCount_0f7a4 51 = .ok (.iand, 1) := by decide +kernel
theorem dJ6_bitCount_0f7a4_52 : decode cJ6_bitCount_0f7a4 52 = .ok (.ireturn, 1) := by decide +kernel
theorem dX1_findDeterminants_13 : decode cX1_findDeterminants 13 = .ok (.istore_n 3, 1) := by decide +kernel
theorem dX1_findDeterminants_14 : decode cX1_findDeterminants 14 = .ok (.aload_n 0, 1) := by decide +kernel
theorem dX1_findDeterminants_15 : decode cX1_findDeterminants 15 = .ok (.getfield 31, 3) := by decide +kernel
theorem dX1_findDeterminants_18 : decode cX1_findDeterminants 18 = .ok (.iload_n 2, 1) := by decide +kernel
theorem dX1_findDeterminants_19 : decode cX1_findDeterminants 19 = .ok (.iload_n 2, 1) := by decide +kernel
theorem dX1_findDeterminants_20 : decode cX1_findDeterminants 20 = .ok (.ifCond .ne 7, 3) := by decide +kernel
theorem dX1_findDeterminants_23 : decode cX1_findDeterminants 23 = .ok (.lconst 1, 1) := by decide +kernel
theorem dX1_findDeterminants_24 : decode cX1_findDeterminants 24 = .ok (.goto 15, 3) := by decide +kernel
theorem dX1_findDeterminants_39 : decode cX1_findDeterminants 39 = .ok (.lastore, 1) := by decide +kernel
theorem dX1_findDeterminants_40 : decode cX1_findDeterminants 40 = .ok (.iload_n 3, 1) := by decide +kernel
theorem dX1_findDeterminants_41 : decode cX1_findDeterminants 41 = .ok (.iload_n 1, 1) := by decide +kernel
theorem dX1_findDeterminants_42 : decode cX1_findDeterminants 42 = .ok (.if_icmp .ge 65, 3) := by decide +kernel
theorem dX1_findDeterminants_107 : decode cX1_findDeterminants 107 = .ok (.iinc 2 1, 3) := by decide +kernel
theorem dX1_findDeterminants_110 : decode cX1_findDeterminants 110 = .ok (.goto (-108), 3) := by decide +kernel
theorem dX1_findDeterminants_113 : decode cX1_findDeterminants 113 = .ok (.return_, 1) := by decide +kernel
theorem dX1_findPulls_86 : decode cX1_findPulls 86 = .ok (.aload_n 0, 1) := by decide +kernel
theorem dX1_findPulls_87 : decode cX1_findPulls 87 = .ok (.getfield 31, 3) := by decide +kernel
theorem dX1_findPulls_90 : decode cX1_findPulls 90 = .ok (.iconst 1, 1) := by decide +kernel
theorem dX1_findPulls_91 : decode cX1_findPulls 91 = .ok (.iload_n 2, 1) := by decide +kernel
theorem dX1_findPulls_92 : decode cX1_findPulls 92 = .ok (.ishl, 1) := by decide +kernel
theorem dX1_findPulls_93 : decode cX1_findPulls 93 = .ok (.iconst 1, 1) := by decide +kernel
theorem dX1_findPulls_94 : decode cX1_findPulls 94 = .ok (.isub, 1) := by decide +kernel
theorem dX1_findPulls_95 : decode cX1_findPulls 95 = .ok (.laload, 1) := by decide +kernel
theorem dX1_findPulls_96 : decode cX1_findPulls 96 = .ok (.lstore_n 3, 1) := by decide +kernel
theorem dX1_findPulls_97 : decode cX1_findPulls 97 = .ok (.lload_n 3, 1) := by decide +kernel
theorem dX1_findPulls_98 : decode cX1_findPulls 98 = .ok (.lconst 0, 1) := by decide +kernel
theorem dX1_findPulls_99 : decode cX1_findPulls 99 = .ok (.lcmp, 1) := by decide +kernel
theorem dX1_findPulls_100 : decode cX1_findPulls 100 = .ok (.ifCond .ne 6, 3) := by decide +kernel
theorem dX1_findPulls_106 : decode cX1_findPulls 106 = .ok (.aload_n 0, 1) := by decide +kernel
theorem dX1_findPulls_107 : decode cX1_findPulls 107 = .ok (.lload_n 3, 1) := by decide +kernel
theorem dX1_findPulls_108 : decode cX1_findPulls 108 = .ok (.invokestatic 98, 3) := by decide +kernel
theorem dX1_findPulls_111 : decode cX1_findPulls 111 = .ok (.putfield 104, 3) := by decide +kernel
theorem dX1_findPulls_114 : decode cX1_findPulls 114 = .ok (.iconst 0, 1) := by decide +kernel
theorem dX1_findPulls_115 : decode cX1_findPulls 115 = .ok (.istore 5, 2) := by decide +kernel
theorem dX1_findPulls_117 : decode cX1_findPulls 117 = .ok (.iload 5, 2) := by decide +kernel
theorem dX1_findPulls_119 : decode cX1_findPulls 119 = .ok (.iload_n 2, 1) := by decide +kernel
theorem dX1_findPulls_120 : decode cX1_findPulls 120 = .ok (.if_icmp .ge 59, 3) := by decide +kernel
theorem dX1_findPulls_179 : decode cX1_findPulls 179 = .ok (.bipush 46, 2) := by decide +kernel
theorem dX1_findPulls_181 : decode cX1_findPulls 181 = .ok (.ireturn, 1) := by decide +kernel
theorem dX1_find_14 : decode cX1_find 14 = .ok (.putfield 67, 3) := by decide +kernel
theorem dX1_find_17 : decode cX1_find 17 = .ok (.aload_n 0, 1) := by decide +kernel
theorem dX1_find_18 : decode cX1_find 18 = .ok (.getfield 67, 3) := by decide +kernel
theorem dX1_find_21 : decode cX1_find 21 = .ok (.bipush 46, 2) := by decide +kernel
theorem dX1_find_23 : decode cX1_find 23 = .ok (.if_icmp .ne 13, 3) := by decide +kernel
theorem dX1_find_26 : decode cX1_find 26 = .ok (.aload_n 0, 1) := by decide +kernel
theorem dX1_find_27 : decode cX1_find 27 = .ok (.aload_n 1, 1) := by decide +kernel
theorem dX1_find_28 : decode cX1_find 28 = .ok (.invokevirtual 71, 3) := by decide +kernel
theorem dX1_findBearings_0 : decode cX1_findBearings 0 = .ok (.iconst 0, 1) := by decide +kernel
theorem dX1_findBearings_1 : decode cX1_findBearings 1 = .ok (.istore_n 2, 1) := by decide +kernel
theorem dX1_findBearings_2 : decode cX1_findBearings 2 = .ok (.iload_n 2, 1) := by decide +kernel
theorem dX1_findBearings_3 : decode cX1_findBearings 3 = .ok (.iconst 2, 1) := by decide +kernel
theorem dX1_findBearings_4 : decode cX1_findBearings 4 = .ok (.aload_n 1, 1) := by decide +kernel
theorem dX1_findBearings_5 : decode cX1_findBearings 5 = .ok (.getfield 78, 3) := by decide +kernel
theorem dX1_findBearings_8 : decode cX1_findBearings 8 = .ok (.imul, 1) := by decide +kernel
theorem dX1_findBearings_9 : decode cX1_findBearings 9 = .ok (.if_icmp .ge 135, 3) := by decide +kernel
theorem dX1_findBearings_144 : decode cX1_findBearings 144 = .ok (.return_, 1) := by decide +kernel
theorem dX1_find_31 : decode cX1_find 31 = .ok (.aload_n 0, 1) := by decide +kernel
theorem dX1_find_32 : decode cX1_find 32 = .ok (.aload_n 1, 1) := by decide +kernel
theorem dX1_find_33 : decode cX1_find 33 = .ok (.invokevirtual 75, 3) := by decide +kernel
theorem dX1_findAmounts_0 : decode cX1_findAmounts 0 = .ok (.aload_n 0, 1) := by decide +kernel
theorem dX1_findAmounts_1 : decode cX1_findAmounts 1 = .ok (.getfield 47, 3) := by decide +kernel
theorem dX1_findAmounts_4 : decode cX1_findAmounts 4 = .ok (.aload_n 0, 1) := by decide +kernel
theorem dX1_findAmounts_5 : decode cX1_findAmounts 5 = .ok (.getfield 104, 3) := by decide +kernel
theorem dX1_findAmounts_8 : decode cX1_findAmounts 8 = .ok (.invokevirtual 141, 3) := by decide +kernel
theorem dX5_set_0 : decode cX5_set 0 = .ok (.iconst 2, 1) := by decide +kernel
theorem dX5_set_1 : decode cX5_set 1 = .ok (.istore_n 3, 1) := by decide +kernel
theorem dX5_set_2 : decode cX5_set 2 = .ok (.iload_n 3, 1) := by decide +kernel
theorem dX5_set_3 : decode cX5_set 3 = .ok (.bipush 8, 2) := by decide +kernel
theorem dX5_set_5 : decode cX5_set 5 = .ok (.if_icmp .ge 16, 3) := by decide +kernel
theorem dX5_set_8 : decode cX5_set 8 = .ok (.aload_n 0, 1) := by decide +kernel
theorem dX5_set_9 : decode cX5_set 9 = .ok (.getfield 9, 3) := by decide +kernel
theorem dX5_set_12 : decode cX5_set 12 = .ok (.iload_n 3, 1) := by decide +kernel
theorem dX5_set_13 : decode cX5_set 13 = .ok (.lconst 0, 1) := by decide +kernel
theorem dX5_set_14 : decode cX5_set 14 = .ok (.lastore, 1) := by decide +kernel
theorem dX5_set_15 : decode cX5_set 15 = .ok (.iinc 3 1, 3) := by decide +kernel
theorem dX5_set_18 : decode cX5_set 18 = .ok (.goto (-16), 3) := by decide +kernel
theorem dX5_set_21 : decode cX5_set 21 = .ok (.aload_n 0, 1) := by decide +kernel
theorem dX5_set_22 : decode cX5_set 22 = .ok (.getfield 9, 3) := by decide +kernel
theorem dX5_set_25 : decode cX5_set 25 = .ok (.iconst 0, 1) := by decide +kernel
theorem dX5_set_26 : decode cX5_set 26 = .ok (.lload_n 1, 1) := by decide +kernel
theorem dX5_set_27 : decode cX5_set 27 = .ok (.ldc2_w 13, 3) := by decide +kernel
theorem dX5_set_30 : decode cX5_set 30 = .ok (.land, 1) := by decide +kernel
theorem dX5_set_31 : decode cX5_set 31 = .ok (.lastore, 1) := by decide +kernel
theorem dX5_set_32 : decode cX5_set 32 = .ok (.aload_n 0, 1) := by decide +kernel
theorem dX5_set_33 : decode cX5_set 33 = .ok (.getfield 9, 3) := by decide +kernel
theorem dX5_set_36 : decode cX5_set 36 = .ok (.iconst 1, 1) := by decide +kernel
theorem dX5_set_37 : decode cX5_set 37 = .ok (.lload_n 1, 1) := by decide +kernel
theorem dX5_set_38 : decode cX5_set 38 = .ok (.bipush 32, 2) := by decide +kernel
theorem dX5_set_40 : decode cX5_set 40 = .ok (.lushr, 1) := by decide +kernel
theorem dX5_set_41 : decode cX5_set 41 = .ok (.lastore, 1) := by decide +kernel
theorem dX5_set_42 : decode cX5_set 42 = .ok (.return_, 1) := by decide +kernel
theorem dX1_findAmounts_11 : decode cX1_findAmounts 11 = .ok (.iconst 0, 1) := by decide +kernel
theorem dX1_findAmounts_12 : decode cX1_findAmounts 12 = .ok (.istore_n 2, 1) := by decide +kernel
theorem dX1_findAmounts_13 : decode cX1_findAmounts 13 = .ok (.iload_n 2, 1) := by decide +kernel
theorem dX1_findAmounts_14 : decode cX1_findAmounts 14 = .ok (.aload_n 1, 1) := by decide +kernel
theorem dX1_findAmounts_15 : decode cX1_findAmounts 15 = .ok (.getfield 88, 3) := by decide +kernel
theorem dX1_findAmounts_18 : decode cX1_findAmounts 18 = .ok (.if_icmp .ge 80, 3) := by decide +kernel
theorem dX1_findAmounts_98 : decode cX1_findAmounts 98 = .ok (.return_, 1) := by decide +kernel
theorem dX1_find_36 : decode cX1_find 36 = .ok (.aload_n 0, 1) := by decide +kernel
theorem dX1_find_37 : decode cX1_find 37 = .ok (.iconst 1, 1) := by decide +kernel
theorem dX1_find_38 : decode cX1_find 38 = .ok (.putfield 59, 3) := by decide +kernel
theorem dX1_find_41 : decode cX1_find 41 = .ok (.return_, 1) := by decide +kernel
theorem dX6_state_11 : decode cX6_state 11 = .ok (.aload_n 0, 1) := by decide +kernel
theorem dX6_state_12 : decode cX6_state 12 = .ok (.getfield 19, 3) := by decide +kernel
theorem dX6_state_15 : decode cX6_state 15 = .ok (.getfield 114, 3) := by decide +kernel
theorem dX6_state_18 : decode cX6_state 18 = .ok (.ireturn, 1) := by decide +kernel
theorem dL_law_450 : decode cL_law 450 = .ok (.aload_n 2, 1) := by decide +kernel
theorem dL_law_451 : decode cL_law 451 = .ok (.invokevirtual 140, 3) := by decide +kernel
theorem dX12_state_0 : decode cX12_state 0 = .ok (.aload_n 0, 1) := by decide +kernel
theorem dX12_state_1 : decode cX12_state 1 = .ok (.invokevirtual 166, 3) := by decide +kernel
theorem dX12_reckons_0 : decode cX12_reckons 0 = .ok (.aload_n 0, 1) := by decide +kernel
theorem dX12_reckons_1 : decode cX12_reckons 1 = .ok (.getfield 77, 3) := by decide +kernel
theorem dX12_reckons_4 : decode cX12_reckons 4 = .ok (.ifCond .eq 4, 3) := by decide +kernel
theorem dX12_reckons_8 : decode cX12_reckons 8 = .ok (.aload_n 0, 1) := by decide +kernel
theorem dX12_reckons_9 : decode cX12_reckons 9 = .ok (.iconst 1, 1) := by decide +kernel
theorem dX12_reckons_10 : decode cX12_reckons 10 = .ok (.putfield 77, 3) := by decide +kernel
theorem dX12_reckons_13 : decode cX12_reckons 13 = .ok (.aload_n 0, 1) := by decide +kernel
theorem dX12_reckons_14 : decode cX12_reckons 14 = .ok (.iconst 0, 1) := by decide +kernel
theorem dX12_reckons_15 : decode cX12_reckons 15 = .ok (.putfield 151, 3) := by decide +kernel
theorem dX12_reckons_18 : decode cX12_reckons 18 = .ok (.aload_n 0, 1) := by decide +kernel
theorem dX12_reckons_19 : decode cX12_reckons 19 = .ok (.invokevirtual 154, 3) := by decide +kernel
theorem dX12_unknowns_0 : decode cX12_unknowns 0 = .ok (.aload_n 0, 1) := by decide +kernel
theorem dX12_unknowns_1 : decode cX12_unknowns 1 = .ok (.getfield 16, 3) := by decide +kernel
theorem dX12_unknowns_4 : decode cX12_unknowns 4 = .ok (.invokevirtual 125, 3) := by decide +kernel
theorem dX12_unknowns_7 : decode cX12_unknowns 7 = .ok (.istore_n 1, 1) := by decide +kernel
theorem dX12_unknowns_8 : decode cX12_unknowns 8 = .ok (.iconst 0, 1) := by decide +kernel
theorem dX12_unknowns_9 : decode cX12_unknowns 9 = .ok (.istore_n 2, 1) := by decide +kernel
theorem dX12_unknowns_10 : decode cX12_unknowns 10 = .ok (.iload_n 2, 1) := by decide +kernel
theorem dX12_unknowns_11 : decode cX12_unknowns 11 = .ok (.aload_n 0, 1) := by decide +kernel
theorem dX12_unknowns_12 : decode cX12_unknowns 12 = .ok (.getfield 10, 3) := by decide +kernel
theorem dX12_unknowns_15 : decode cX12_unknowns 15 = .ok (.invokevirtual 125, 3) := by decide +kernel
theorem dX12_unknowns_18 : decode cX12_unknowns 18 = .ok (.if_icmp .ge 59, 3) := by decide +kernel
theorem dX12_unknowns_77 : decode cX12_unknowns 77 = .ok (.iload_n 1, 1) := by decide +kernel
theorem dX12_unknowns_78 : decode cX12_unknowns 78 = .ok (.ireturn, 1) := by decide +kernel
theorem dX12_reckons_22 : decode cX12_reckons 22 = .ok (.iconst 2, 1) := by decide +kernel
theorem dX12_reckons_23 : decode cX12_reckons 23 = .ok (.aload_n 0, 1) := by decide +kernel
theorem dX12_reckons_24 : decode cX12_reckons 24 = .ok (.getfield 10, 3) := by decide +kernel
theorem dX12_reckons_27 : decode cX12_reckons 27 = .ok (.invokevirtual 125, 3) := by decide +kernel
theorem dX12_reckons_30 : decode cX12_reckons 30 = .ok (.imul, 1) := by decide +kernel
theorem dX12_reckons_31 : decode cX12_reckons 31 = .ok (.isub, 1) := by decide +kernel
theorem dX12_reckons_32 : decode cX12_reckons 32 = .ok (.istore_n 1, 1) := by decide +kernel
theorem dX12_reckons_33 : decode cX12_reckons 33 = .ok (.aload_n 0, 1) := by decide +kernel
theorem dX12_reckons_34 : decode cX12_reckons 34 = .ok (.iload_n 1, 1) := by decide +kernel
theorem dX12_reckons_35 : decode cX12_reckons 35 = .ok (.ifCond .ge 8, 3) := by decide +kernel
theorem dX12_reckons_43 : decode cX12_reckons 43 = .ok (.iload_n 1, 1) := by decide +kernel
theorem dX12_reckons_44 : decode cX12_reckons 44 = .ok (.ifCond .le 8, 3) := by decide +kernel
theorem dX12_reckons_52 : decode cX12_reckons 52 = .ok (.bipush 46, 2) := by decide +kernel
theorem dX12_reckons_54 : decode cX12_reckons 54 = .ok (.putfield 157, 3) := by decide +kernel
theorem dX12_reckons_57 : decode cX12_reckons 57 = .ok (.aload_n 0, 1) := by decide +kernel
theorem dX12_reckons_58 : decode cX12_reckons 58 = .ok (.getfield 157, 3) := by decide +kernel
theorem dX12_reckons_61 : decode cX12_reckons 61 = .ok (.bipush 46, 2) := by decide +kernel
theorem dX12_reckons_63 : decode cX12_reckons 63 = .ok (.if_icmp .eq 4, 3) := by decide +kernel
theorem dX12_reckons_67 : decode cX12_reckons 67 = .ok (.aload_n 0, 1) := by decide +kernel
theorem dX12_reckons_68 : decode cX12_reckons 68 = .ok (.aload_n 0, 1) := by decide +kernel
theorem dX12_reckons_69 : decode cX12_reckons 69 = .ok (.iconst (-1), 1) := by decide +kernel
theorem dX12_reckons_70 : decode cX12_reckons 70 = .ok (.invokevirtual 160, 3) := by decide +kernel
theorem dX12_determinant_0 : decode cX12_determinant 0 = .ok (.aload_n 0, 1) := by decide +kernel
theorem dX12_determinant_1 : decode cX12_determinant 1 = .ok (.getfield 16, 3) := by decide +kernel
theorem dX12_determinant_4 : decode cX12_determinant 4 = .ok (.invokevirtual 125, 3) := by decide +kernel
theorem dX12_determinant_7 : decode cX12_determinant 7 = .ok (.istore_n 2, 1) := by decide +kernel
theorem dX12_determinant_8 : decode cX12_determinant 8 = .ok (.iconst 0, 1) := by decide +kernel
theorem dX12_determinant_9 : decode cX12_determinant 9 = .ok (.istore_n 3, 1) := by decide +kernel
theorem dX12_determinant_10 : decode cX12_determinant 10 = .ok (.iload_n 3, 1) := by decide +kernel
theorem dX12_determinant_11 : decode cX12_determinant 11 = .ok (.iconst 1, 1) := by decide +kernel
theorem dX12_determinant_12 : decode cX12_determinant 12 = .ok (.iload_n 2, 1) := by decide +kernel
theorem dX12_determinant_13 : decode cX12_determinant 13 = .ok (.ishl, 1) := by decide +kernel
theorem dX12_determinant_14 : decode cX12_determinant 14 = .ok (.if_icmp .ge 16, 3) := by decide +kernel
theorem dX12_determinant_17 : decode cX12_determinant 17 = .ok (.aload_n 0, 1) := by decide +kernel
theorem dX12_determinant_18 : decode cX12_determinant 18 = .ok (.getfield 25, 3) := by decide +kernel
theorem dX12_determinant_21 : decode cX12_determinant 21 = .ok (.iload_n 3, 1) := by decide +kernel
theorem dX12_determinant_22 : decode cX12_determinant 22 = .ok (.lconst 0, 1) := by decide +kernel
theorem dX12_determinant_23 : decode cX12_determinant 23 = .ok (.lastore, 1) := by decide +kernel
theorem dX12_determinant_24 : decode cX12_determinant 24 = .ok (.iinc 3 1, 3) := by decide +kernel
theorem dX12_determinant_27 : decode cX12_determinant 27 = .ok (.goto (-17), 3) := by decide +kernel
theorem dX12_determinant_30 : decode cX12_determinant 30 = .ok (.aload_n 0, 1) := by decide +kernel
theorem dX12_determinant_31 : decode cX12_determinant 31 = .ok (.getfield 25, 3) := by decide +kernel
theorem dX12_determinant_34 : decode cX12_determinant 34 = .ok (.iconst 0, 1) := by decide +kernel
theorem dX12_determinant_35 : decode cX12_determinant 35 = .ok (.lconst 1, 1) := by decide +kernel
theorem dX12_determinant_36 : decode cX12_determinant 36 = .ok (.lastore, 1) := by decide +kernel
theorem dX12_determinant_37 : decode cX12_determinant 37 = .ok (.iconst 0, 1) := by decide +kernel
theorem dX12_determinant_38 : decode cX12_determinant 38 = .ok (.istore_n 3, 1) := by decide +kernel
theorem dX12_determinant_39 : decode cX12_determinant 39 = .ok (.iconst 0, 1) := by decide +kernel
theorem dX12_determinant_40 : decode cX12_determinant 40 = .ok (.istore 4, 2) := by decide +kernel
theorem dX12_determinant_42 : decode cX12_determinant 42 = .ok (.iload 4, 2) := by decide +kernel
theorem dX12_determinant_44 : decode cX12_determinant 44 = .ok (.iconst 2, 1) := by decide +kernel
theorem dX12_determinant_45 : decode cX12_determinant 45 = .ok (.aload_n 0, 1) := by decide +kernel
theorem dX12_determinant_46 : decode cX12_determinant 46 = .ok (.getfield 10, 3) := by decide +kernel
theorem dX12_determinant_49 : decode cX12_determinant 49 = .ok (.invokevirtual 125, 3) := by decide +kernel
theorem dX12_determinant_52 : decode cX12_determinant 52 = .ok (.imul, 1) := by decide +kernel
theorem dX12_determinant_53 : decode cX12_determinant 53 = .ok (.if_icmp .ge 84, 3) := by decide +kernel
theorem dX12_determinant_137 : decode cX12_determinant 137 = .ok (.aload_n 0, 1) := by decide +kernel
theorem dX12_determinant_138 : decode cX12_determinant 138 = .ok (.getfield 25, 3) := by decide +kernel
theorem dX12_determinant_141 : decode cX12_determinant 141 = .ok (.iconst 1, 1) := by decide +kernel
theorem dX12_determinant_142 : decode cX12_determinant 142 = .ok (.iload_n 2, 1) := by decide +kernel
theorem dX12_determinant_143 : decode cX12_determinant 143 = .ok (.ishl, 1) := by decide +kernel
theorem dX12_determinant_144 : decode cX12_determinant 144 = .ok (.iconst 1, 1) := by decide +kernel
theorem dX12_determinant_145 : decode cX12_determinant 145 = .ok (.isub, 1) := by decide +kernel
theorem dX12_determinant_146 : decode cX12_determinant 146 = .ok (.laload, 1) := by decide +kernel
theorem dX12_determinant_147 : decode cX12_determinant 147 = .ok (.lreturn, 1) := by decide +kernel
theorem dX12_reckons_73 : decode cX12_reckons 73 = .ok (.putfield 163, 3) := by decide +kernel
theorem dX12_reckons_76 : decode cX12_reckons 76 = .ok (.aload_n 0, 1) := by decide +kernel
theorem dX12_reckons_77 : decode cX12_reckons 77 = .ok (.getfield 163, 3) := by decide +kernel
theorem dX12_reckons_80 : decode cX12_reckons 80 = .ok (.lconst 0, 1) := by decide +kernel
theorem dX12_reckons_81 : decode cX12_reckons 81 = .ok (.lcmp, 1) := by decide +kernel
theorem dX12_reckons_82 : decode cX12_reckons 82 = .ok (.ifCond .ne 9, 3) := by decide +kernel
theorem dX12_reckons_91 : decode cX12_reckons 91 = .ok (.iconst 0, 1) := by decide +kernel
theorem dX12_reckons_92 : decode cX12_reckons 92 = .ok (.istore_n 2, 1) := by decide +kernel
theorem dX12_reckons_93 : decode cX12_reckons 93 = .ok (.iload_n 2, 1) := by decide +kernel
theorem dX12_reckons_94 : decode cX12_reckons 94 = .ok (.aload_n 0, 1) := by decide +kernel
theorem dX12_reckons_95 : decode cX12_reckons 95 = .ok (.getfield 16, 3) := by decide +kernel
theorem dX12_reckons_98 : decode cX12_reckons 98 = .ok (.invokevirtual 125, 3) := by decide +kernel
theorem dX12_reckons_101 : decode cX12_reckons 101 = .ok (.if_icmp .ge 29, 3) := by decide +kernel
theorem dX12_reckons_130 : decode cX12_reckons 130 = .ok (.iconst 0, 1) := by decide +kernel
theorem dX12_reckons_131 : decode cX12_reckons 131 = .ok (.istore_n 2, 1) := by decide +kernel
theorem dX12_reckons_132 : decode cX12_reckons 132 = .ok (.iload_n 2, 1) := by decide +kernel
theorem dX12_reckons_133 : decode cX12_reckons 133 = .ok (.aload_n 0, 1) := by decide +kernel
theorem dX12_reckons_134 : decode cX12_reckons 134 = .ok (.getfield 16, 3) := by decide +kernel
theorem dX12_reckons_137 : decode cX12_reckons 137 = .ok (.invokevirtual 125, 3) := by decide +kernel
theorem dX12_reckons_140 : decode cX12_reckons 140 = .ok (.if_icmp .ge 31, 3) := by decide +kernel
theorem dX12_reckons_171 : decode cX12_reckons 171 = .ok (.aload_n 0, 1) := by decide +kernel
theorem dX12_reckons_172 : decode cX12_reckons 172 = .ok (.aload_n 0, 1) := by decide +kernel
theorem dX12_reckons_173 : decode cX12_reckons 173 = .ok (.getfield 163, 3) := by decide +kernel
theorem dX12_reckons_176 : decode cX12_reckons 176 = .ok (.lconst 0, 1) := by decide +kernel
theorem dX12_reckons_177 : decode cX12_reckons 177 = .ok (.lcmp, 1) := by decide +kernel
theorem dX12_reckons_178 : decode cX12_reckons 178 = .ok (.ifCond .ge 11, 3) := by decide +kernel
theorem dX12_reckons_189 : decode cX12_reckons 189 = .ok (.aload_n 0, 1) := by decide +kernel
theorem dX12_reckons_190 : decode cX12_reckons 190 = .ok (.getfield 163, 3) := by decide +kernel
theorem dX12_reckons_193 : decode cX12_reckons 193 = .ok (.putfield 163, 3) := by decide +kernel
theorem dX12_reckons_196 : decode cX12_reckons 196 = .ok (.return_, 1) := by decide +kernel
theorem dX12_state_4 : decode cX12_state 4 = .ok (.aload_n 0, 1) := by decide +kernel
theorem dX12_state_5 : decode cX12_state 5 = .ok (.iconst 0, 1) := by decide +kernel
theorem dX12_state_6 : decode cX12_state 6 = .ok (.putfield 74, 3) := by decide +kernel
theorem dX12_state_9 : decode cX12_state 9 = .ok (.aload_n 0, 1) := by decide +kernel
theorem dX12_state_10 : decode cX12_state 10 = .ok (.getfield 157, 3) := by decide +kernel
theorem dX12_state_13 : decode cX12_state 13 = .ok (.ireturn, 1) := by decide +kernel
theorem dL_law_454 : decode cL_law 454 = .ok (.if_icmp .eq 1509, 3) := by decide +kernel
theorem dL_law_459 : decode cL_law 459 = .ok (.aload_n 1, 1) := by decide +kernel
theorem dL_law_460 : decode cL_law 460 = .ok (.aload_n 0, 1) := by decide +kernel
theorem dL_law_461 : decode cL_law 461 = .ok (.iload 5, 2) := by decide +kernel
theorem dL_law_463 : decode cL_law 463 = .ok (.iconst 1, 1) := by decide +kernel
theorem dL_law_464 : decode cL_law 464 = .ok (.iadd, 1) := by decide +kernel
theorem dL_law_465 : decode cL_law 465 = .ok (.iaload, 1) := by decide +kernel
theorem dL_law_466 : decode cL_law 466 = .ok (.aload_n 3, 1) := by decide +kernel
theorem dL_law_467 : decode cL_law 467 = .ok (.invokestatic 141, 3) := by decide +kernel
theorem dL_force_0 : decode cL_force 0 = .ok (.aload_n 2, 1) := by decide +kernel
theorem dL_force_1 : decode cL_force 1 = .ok (.iconst 0, 1) := by decide +kernel
theorem dL_force_2 : decode cL_force 2 = .ok (.aload_n 0, 1) := by decide +kernel
theorem dL_force_3 : decode cL_force 3 = .ok (.iload_n 1, 1) := by decide +kernel
theorem dL_force_4 : decode cL_force 4 = .ok (.invokevirtual 27, 3) := by decide +kernel
theorem dX6_force_0 : decode cX6_force 0 = .ok (.aload_n 0, 1) := by decide +kernel
theorem dX6_force_1 : decode cX6_force 1 = .ok (.iload_n 1, 1) := by decide +kernel
theorem dX6_force_2 : decode cX6_force 2 = .ok (.invokevirtual 118, 3) := by decide +kernel
theorem dX6_checkMember_0 : decode cX6_checkMember 0 = .ok (.iload_n 1, 1) := by decide +kernel
theorem dX6_checkMember_1 : decode cX6_checkMember 1 = .ok (.ifCond .lt 14, 3) := by decide +kernel
theorem dX6_checkMember_15 : decode cX6_checkMember 15 = .ok (.new 228, 3) := by decide +kernel
theorem dX6_checkMember_18 : decode cX6_checkMember 18 = .ok (.dup, 1) := by decide +kernel
theorem dX6_checkMember_19 : decode cX6_checkMember 19 = .ok (.ldc_w 282, 3) := by decide +kernel
theorem dX6_checkMember_22 : decode cX6_checkMember 22 = .ok (.invokespecial 232, 3) := by decide +kernel
theorem dX6_checkMember_25 : decode cX6_checkMember 25 = .ok (.athrow, 1) := by decide +kernel
theorem dL_force_11 : decode cL_force 11 = .ok (.astore_n 3, 1) := by decide +kernel
theorem dL_force_12 : decode cL_force 12 = .ok (.iconst 1, 1) := by decide +kernel
theorem dL_force_13 : decode cL_force 13 = .ok (.ireturn, 1) := by decide +kernel
theorem dL_law_470 : decode cL_law 470 = .ok (.istore 6, 2) := by decide +kernel
theorem dL_law_472 : decode cL_law 472 = .ok (.aload_n 2, 1) := by decide +kernel
theorem dL_law_473 : decode cL_law 473 = .ok (.aload_n 0, 1) := by decide +kernel
theorem dL_law_474 : decode cL_law 474 = .ok (.iload 5, 2) := by decide +kernel
theorem dL_law_476 : decode cL_law 476 = .ok (.iconst 1, 1) := by decide +kernel
theorem dL_law_477 : decode cL_law 477 = .ok (.iadd, 1) := by decide +kernel
theorem dL_law_478 : decode cL_law 478 = .ok (.iaload, 1) := by decide +kernel
theorem dL_law_479 : decode cL_law 479 = .ok (.invokevirtual 144, 3) := by decide +kernel
theorem dX12_force_0 : decode cX12_force 0 = .ok (.aload_n 0, 1) := by decide +kernel
theorem dX12_force_1 : decode cX12_force 1 = .ok (.iload_n 1, 1) := by decide +kernel
theorem dX12_force_2 : decode cX12_force 2 = .ok (.invokevirtual 314, 3) := by decide +kernel
theorem dX12_isMember_0 : decode cX12_isMember 0 = .ok (.iload_n 1, 1) := by decide +kernel
theorem dX12_isMember_1 : decode cX12_isMember 1 = .ok (.i2l, 1) := by decide +kernel
theorem dX12_isMember_2 : decode cX12_isMember 2 = .ok (.iconst 0, 1) := by decide +kernel
theorem dX12_isMember_3 : decode cX12_isMember 3 = .ok (.aload_n 0, 1) := by decide +kernel
theorem dX12_isMember_4 : decode cX12_isMember 4 = .ok (.getfield 16, 3) := by decide +kernel
theorem dX12_isMember_7 : decode cX12_isMember 7 = .ok (.invokevirtual 125, 3) := by decide +kernel
theorem dX12_isMember_10 : decode cX12_isMember 10 = .ok (.iconst 1, 1) := by decide +kernel
theorem dX12_isMember_11 : decode cX12_isMember 11 = .ok (.isub, 1) := by decide +kernel
theorem dX12_isMember_12 : decode cX12_isMember 12 = .ok (.invokestatic 285, 3) := by decide +kernel
theorem dX12_isMember_15 : decode cX12_isMember 15 = .ok (.ireturn, 1) := by decide +kernel
theorem dX12_force_5 : decode cX12_force 5 = .ok (.ifCond .ne 9, 3) := by decide +kernel
theorem dX12_force_8 : decode cX12_force 8 = .ok (.aload_n 0, 1) := by decide +kernel
theorem dX12_force_9 : decode cX12_force 9 = .ok (.iconst 1, 1) := by decide +kernel
theorem dX12_force_10 : decode cX12_force 10 = .ok (.invokevirtual 317, 3) := by decide +kernel
theorem dX12_failsLong_0 : decode cX12_failsLong 0 = .ok (.aload_n 0, 1) := by decide +kernel
theorem dX12_failsLong_1 : decode cX12_failsLong 1 = .ok (.iload_n 1, 1) := by decide +kernel
theorem dX12_failsLong_2 : decode cX12_failsLong 2 = .ok (.putfield 74, 3) := by decide +kernel
theorem dX12_failsLong_5 : decode cX12_failsLong 5 = .ok (.lconst 0, 1) := by decide +kernel
theorem dX12_failsLong_6 : decode cX12_failsLong 6 = .ok (.lreturn, 1) := by decide +kernel
theorem dX12_force_13 : decode cX12_force 13 = .ok (.lreturn, 1) := by decide +kernel
theorem dL_law_482 : decode cL_law 482 = .ok (.lstore 7, 2) := by decide +kernel
theorem dL_law_484 : decode cL_law 484 = .ok (.aload_n 2, 1) := by decide +kernel
theorem dL_law_485 : decode cL_law 485 = .ok (.invokevirtual 125, 3) := by decide +kernel
theorem dL_law_488 : decode cL_law 488 = .ok (.iload 6, 2) := by decide +kernel
theorem dL_law_490 : decode cL_law 490 = .ok (.if_icmp .eq 5, 3) := by decide +kernel
theorem dL_law_495 : decode cL_law 495 = .ok (.iload 6, 2) := by decide +kernel
theorem dL_law_497 : decode cL_law 497 = .ok (.ifCond .ne 14, 3) := by decide +kernel
theorem dL_law_511 : decode cL_law 511 = .ok (.goto 1452, 3) := by decide +kernel
theorem dX6_checkMember_4 : decode cX6_checkMember 4 = .ok (.iload_n 1, 1) := by decide +kernel
theorem dX6_checkMember_5 : decode cX6_checkMember 5 = .ok (.aload_n 0, 1) := by decide +kernel
theorem dX6_checkMember_6 : decode cX6_checkMember 6 = .ok (.getfield 12, 3) := by decide +kernel
theorem dX6_checkMember_9 : decode cX6_checkMember 9 = .ok (.getfield 93, 3) := by decide +kernel
theorem dX6_checkMember_12 : decode cX6_checkMember 12 = .ok (.if_icmp .lt 14, 3) := by decide +kernel
theorem dL_law_514 : decode cL_law 514 = .ok (.aload_n 1, 1) := by decide +kernel
theorem dL_law_515 : decode cL_law 515 = .ok (.aload_n 0, 1) := by decide +kernel
theorem dL_law_516 : decode cL_law 516 = .ok (.iload 5, 2) := by decide +kernel
theorem dL_law_518 : decode cL_law 518 = .ok (.iconst 1, 1) := by decide +kernel
theorem dL_law_519 : decode cL_law 519 = .ok (.iadd, 1) := by decide +kernel
theorem dL_law_520 : decode cL_law 520 = .ok (.iaload, 1) := by decide +kernel
theorem dL_law_521 : decode cL_law 521 = .ok (.aload_n 3, 1) := by decide +kernel
theorem dL_law_522 : decode cL_law 522 = .ok (.invokestatic 145, 3) := by decide +kernel
theorem dL_pull_0 : decode cL_pull 0 = .ok (.aload_n 2, 1) := by decide +kernel
theorem dL_pull_1 : decode cL_pull 1 = .ok (.iconst 0, 1) := by decide +kernel
theorem dL_pull_2 : decode cL_pull 2 = .ok (.aload_n 0, 1) := by decide +kernel
theorem dL_pull_3 : decode cL_pull 3 = .ok (.iload_n 1, 1) := by decide +kernel
theorem dL_pull_4 : decode cL_pull 4 = .ok (.invokevirtual 31, 3) := by decide +kernel
theorem dX6_pull_0 : decode cX6_pull 0 = .ok (.aload_n 0, 1) := by decide +kernel
theorem dX6_pull_1 : decode cX6_pull 1 = .ok (.iload_n 1, 1) := by decide +kernel
theorem dX6_pull_2 : decode cX6_pull 2 = .ok (.invokevirtual 118, 3) := by decide +kernel
theorem dL_pull_11 : decode cL_pull 11 = .ok (.astore_n 3, 1) := by decide +kernel
theorem dL_pull_12 : decode cL_pull 12 = .ok (.iconst 1, 1) := by decide +kernel
theorem dL_pull_13 : decode cL_pull 13 = .ok (.ireturn, 1) := by decide +kernel
theorem dL_law_525 : decode cL_law 525 = .ok (.istore 6, 2) := by decide +kernel
theorem dL_law_527 : decode cL_law 527 = .ok (.aload_n 2, 1) := by decide +kernel
theorem dL_law_528 : decode cL_law 528 = .ok (.aload_n 0, 1) := by decide +kernel
theorem dL_law_529 : decode cL_law 529 = .ok (.iload 5, 2) := by decide +kernel
theorem dL_law_531 : decode cL_law 531 = .ok (.iconst 1, 1) := by decide +kernel
theorem dL_law_532 : decode cL_law 532 = .ok (.iadd, 1) := by decide +kernel
theorem dL_law_533 : decode cL_law 533 = .ok (.iaload, 1) := by decide +kernel
theorem dL_law_534 : decode cL_law 534 = .ok (.invokevirtual 147, 3) := by decide +kernel
theorem dX12_pull_0 : decode cX12_pull 0 = .ok (.aload_n 0, 1) := by decide +kernel
theorem dX12_pull_1 : decode cX12_pull 1 = .ok (.iload_n 1, 1) := by decide +kernel
theorem dX12_pull_2 : decode cX12_pull 2 = .ok (.invokevirtual 314, 3) := by decide +kernel
theorem dX12_pull_5 : decode cX12_pull 5 = .ok (.ifCond .ne 9, 3) := by decide +kernel
theorem dX12_pull_8 : decode cX12_pull 8 = .ok (.aload_n 0, 1) := by decide +kernel
theorem dX12_pull_9 : decode cX12_pull 9 = .ok (.iconst 1, 1) := by decide +kernel
theorem dX12_pull_10 : decode cX12_pull 10 = .ok (.invokevirtual 317, 3) := by decide +kernel
theorem dX12_pull_13 : decode cX12_pull 13 = .ok (.lreturn, 1) := by decide +kernel
theorem dL_law_537 : decode cL_law 537 = .ok (.lstore 7, 2) := by decide +kernel
theorem dL_law_539 : decode cL_law 539 = .ok (.aload_n 2, 1) := by decide +kernel
theorem dL_law_540 : decode cL_law 540 = .ok (.invokevirtual 125, 3) := by decide +kernel
theorem dL_law_543 : decode cL_law 543 = .ok (.iload 6, 2) := by decide +kernel
theorem dL_law_545 : decode cL_law 545 = .ok (.if_icmp .eq 5, 3) := by decide +kernel
theorem dL_law_550 : decode cL_law 550 = .ok (.iload 6, 2) := by decide +kernel
theorem dL_law_552 : decode cL_law 552 = .ok (.ifCond .ne 14, 3) := by decide +kernel
theorem dL_law_566 : decode cL_law 566 = .ok (.goto 1397, 3) := by decide +kernel
theorem dL_law_569 : decode cL_law 569 = .ok (.aload_n 1, 1) := by decide +kernel
theorem dL_law_570 : decode cL_law 570 = .ok (.aload_n 0, 1) := by decide +kernel
theorem dL_law_571 : decode cL_law 571 = .ok (.iload 5, 2) := by decide +kernel
theorem dL_law_573 : decode cL_law 573 = .ok (.iconst 1, 1) := by decide +kernel
theorem dL_law_574 : decode cL_law 574 = .ok (.iadd, 1) := by decide +kernel
theorem dL_law_575 : decode cL_law 575 = .ok (.iaload, 1) := by decide +kernel
theorem dL_law_576 : decode cL_law 576 = .ok (.aload_n 0, 1) := by decide +kernel
theorem dL_law_577 : decode cL_law 577 = .ok (.iload 5, 2) := by decide +kernel
theorem dL_law_579 : decode cL_law 579 = .ok (.iconst 2, 1) := by decide +kernel
theorem dL_law_580 : decode cL_law 580 = .ok (.iadd, 1) := by decide +kernel
theorem dL_law_581 : decode cL_law 581 = .ok (.iaload, 1) := by decide +kernel
theorem dL_law_582 : decode cL_law 582 = .ok (.ifCond .eq 7, 3) := by decide +kernel
theorem dL_law_589 : decode cL_law 589 = .ok (.iconst 0, 1) := by decide +kernel
theorem dL_law_590 : decode cL_law 590 = .ok (.aload_n 3, 1) := by decide +kernel
theorem dL_law_591 : decode cL_law 591 = .ok (.invokestatic 148, 3) := by decide +kernel
theorem dL_bearing_0 : decode cL_bearing 0 = .ok (.aload_n 3, 1) := by decide +kernel
theorem dL_bearing_1 : decode cL_bearing 1 = .ok (.iconst 0, 1) := by decide +kernel
theorem dL_bearing_2 : decode cL_bearing 2 = .ok (.aload_n 0, 1) := by decide +kernel
theorem dL_bearing_3 : decode cL_bearing 3 = .ok (.iload_n 1, 1) := by decide +kernel
theorem dL_bearing_4 : decode cL_bearing 4 = .ok (.iload_n 2, 1) := by decide +kernel
theorem dL_bearing_5 : decode cL_bearing 5 = .ok (.invokevirtual 34, 3) := by decide +kernel
theorem dX6_bearing_0 : decode cX6_bearing 0 = .ok (.aload_n 0, 1) := by decide +kernel
theorem dX6_bearing_1 : decode cX6_bearing 1 = .ok (.iload_n 1, 1) := by decide +kernel
theorem dX6_bearing_2 : decode cX6_bearing 2 = .ok (.invokevirtual 80, 3) := by decide +kernel
theorem dL_bearing_12 : decode cL_bearing 12 = .ok (.astore 4, 2) := by decide +kernel
theorem dL_bearing_14 : decode cL_bearing 14 = .ok (.iconst 1, 1) := by decide +kernel
theorem dL_bearing_15 : decode cL_bearing 15 = .ok (.ireturn, 1) := by decide +kernel
theorem dL_law_594 : decode cL_law 594 = .ok (.istore 6, 2) := by decide +kernel
theorem dL_law_596 : decode cL_law 596 = .ok (.aload_n 2, 1) := by decide +kernel
theorem dL_law_597 : decode cL_law 597 = .ok (.aload_n 0, 1) := by decide +kernel
theorem dL_law_598 : decode cL_law 598 = .ok (.iload 5, 2) := by decide +kernel
theorem dL_law_600 : decode cL_law 600 = .ok (.iconst 1, 1) := by decide +kernel
theorem dL_law_601 : decode cL_law 601 = .ok (.iadd, 1) := by decide +kernel
theorem dL_law_602 : decode cL_law 602 = .ok (.iaload, 1) := by decide +kernel
theorem dL_law_603 : decode cL_law 603 = .ok (.aload_n 0, 1) := by decide +kernel
theorem dL_law_604 : decode cL_law 604 = .ok (.iload 5, 2) := by decide +kernel
theorem dL_law_606 : decode cL_law 606 = .ok (.iconst 2, 1) := by decide +kernel
theorem dL_law_607 : decode cL_law 607 = .ok (.iadd, 1) := by decide +kernel
theorem dL_law_608 : decode cL_law 608 = .ok (.iaload, 1) := by decide +kernel
theorem dL_law_609 : decode cL_law 609 = .ok (.ifCond .eq 7, 3) := by decide +kernel
theorem dL_law_616 : decode cL_law 616 = .ok (.iconst 0, 1) := by decide +kernel
theorem dL_law_617 : decode cL_law 617 = .ok (.invokevirtual 151, 3) := by decide +kernel
theorem dX12_bearing_0 : decode cX12_bearing 0 = .ok (.aload_n 0, 1) := by decide +kernel
theorem dX12_bearing_1 : decode cX12_bearing 1 = .ok (.iload_n 1, 1) := by decide +kernel
theorem dX12_bearing_2 : decode cX12_bearing 2 = .ok (.invokevirtual 305, 3) := by decide +kernel
theorem dX12_bearing_5 : decode cX12_bearing 5 = .ok (.ifCond .ne 9, 3) := by decide +kernel
theorem dX12_bearing_8 : decode cX12_bearing 8 = .ok (.aload_n 0, 1) := by decide +kernel
theorem dX12_bearing_9 : decode cX12_bearing 9 = .ok (.iconst 1, 1) := by decide +kernel
theorem dX12_bearing_10 : decode cX12_bearing 10 = .ok (.invokevirtual 317, 3) := by decide +kernel
theorem dX12_bearing_13 : decode cX12_bearing 13 = .ok (.lreturn, 1) := by decide +kernel
theorem dL_law_620 : decode cL_law 620 = .ok (.lstore 7, 2) := by decide +kernel
theorem dL_law_622 : decode cL_law 622 = .ok (.aload_n 2, 1) := by decide +kernel
theorem dL_law_623 : decode cL_law 623 = .ok (.invokevirtual 125, 3) := by decide +kernel
theorem dL_law_626 : decode cL_law 626 = .ok (.iload 6, 2) := by decide +kernel
theorem dL_law_628 : decode cL_law 628 = .ok (.if_icmp .eq 5, 3) := by decide +kernel
theorem dL_law_633 : decode cL_law 633 = .ok (.iload 6, 2) := by decide +kernel
theorem dL_law_635 : decode cL_law 635 = .ok (.ifCond .ne 14, 3) := by decide +kernel
theorem dL_law_649 : decode cL_law 649 = .ok (.goto 1314, 3) := by decide +kernel
theorem dL_law_585 : decode cL_law 585 = .ok (.iconst 1, 1) := by decide +kernel
theorem dL_law_586 : decode cL_law 586 = .ok (.goto 4, 3) := by decide +kernel
theorem dL_law_612 : decode cL_law 612 = .ok (.iconst 1, 1) := by decide +kernel
theorem dL_law_613 : decode cL_law 613 = .ok (.goto 4, 3) := by decide +kernel
theorem dL_law_652 : decode cL_law 652 = .ok (.aload_n 1, 1) := by decide +kernel
theorem dL_law_653 : decode cL_law 653 = .ok (.aload_n 0, 1) := by decide +kernel
theorem dL_law_654 : decode cL_law 654 = .ok (.iload 5, 2) := by decide +kernel
theorem dL_law_656 : decode cL_law 656 = .ok (.iconst 1, 1) := by decide +kernel
theorem dL_law_657 : decode cL_law 657 = .ok (.iadd, 1) := by decide +kernel
theorem dL_law_658 : decode cL_law 658 = .ok (.iaload, 1) := by decide +kernel
theorem dL_law_659 : decode cL_law 659 = .ok (.aload_n 3, 1) := by decide +kernel
theorem dL_law_660 : decode cL_law 660 = .ok (.invokestatic 152, 3) := by decide +kernel
theorem dL_isBalanced_0 : decode cL_isBalanced 0 = .ok (.aload_n 2, 1) := by decide +kernel
theorem dL_isBalanced_1 : decode cL_isBalanced 1 = .ok (.iconst 0, 1) := by decide +kernel
theorem dL_isBalanced_2 : decode cL_isBalanced 2 = .ok (.aload_n 0, 1) := by decide +kernel
theorem dL_isBalanced_3 : decode cL_isBalanced 3 = .ok (.iload_n 1, 1) := by decide +kernel
theorem dL_isBalanced_4 : decode cL_isBalanced 4 = .ok (.invokevirtual 38, 3) := by decide +kernel
theorem dX6_isBalanced_0 : decode cX6_isBalanced 0 = .ok (.iload_n 1, 1) := by decide +kernel
theorem dX6_isBalanced_1 : decode cX6_isBalanced 1 = .ok (.iconst 0, 1) := by decide +kernel
theorem dX6_isBalanced_2 : decode cX6_isBalanced 2 = .ok (.bipush 30, 2) := by decide +kernel
theorem dX6_isBalanced_4 : decode cX6_isBalanced 4 = .ok (.invokestatic 44, 3) := by decide +kernel
theorem dX6_isBalanced_7 : decode cX6_isBalanced 7 = .ok (.ifCond .ne 13, 3) := by decide +kernel
theorem dX6_isBalanced_10 : decode cX6_isBalanced 10 = .ok (.new 56, 3) := by decide +kernel
theorem dX6_isBalanced_13 : decode cX6_isBalanced 13 = .ok (.dup, 1) := by decide +kernel
theorem dX6_isBalanced_14 : decode cX6_isBalanced 14 = .ok (.ldc 136, 2) := by decide +kernel
theorem dX6_isBalanced_16 : decode cX6_isBalanced 16 = .ok (.invokespecial 60, 3) := by decide +kernel
theorem dX6_isBalanced_19 : decode cX6_isBalanced 19 = .ok (.athrow, 1) := by decide +kernel
theorem dL_isBalanced_19 : decode cL_isBalanced 19 = .ok (.astore_n 3, 1) := by decide +kernel
theorem dL_isBalanced_20 : decode cL_isBalanced 20 = .ok (.iconst 1, 1) := by decide +kernel
theorem dL_isBalanced_21 : decode cL_isBalanced 21 = .ok (.ireturn, 1) := by decide +kernel
theorem dL_law_663 : decode cL_law 663 = .ok (.istore 6, 2) := by decide +kernel
theorem dL_law_665 : decode cL_law 665 = .ok (.aload_n 2, 1) := by decide +kernel
theorem dL_law_666 : decode cL_law 666 = .ok (.aload_n 0, 1) := by decide +kernel
theorem dL_law_667 : decode cL_law 667 = .ok (.iload 5, 2) := by decide +kernel
theorem dL_law_669 : decode cL_law 669 = .ok (.iconst 1, 1) := by decide +kernel
theorem dL_law_670 : decode cL_law 670 = .ok (.iadd, 1) := by decide +kernel
theorem dL_law_671 : decode cL_law 671 = .ok (.iaload, 1) := by decide +kernel
theorem dL_law_672 : decode cL_law 672 = .ok (.invokevirtual 154, 3) := by decide +kernel
theorem dX12_isBalanced_0 : decode cX12_isBalanced 0 = .ok (.iload_n 1, 1) := by decide +kernel
theorem dX12_isBalanced_1 : decode cX12_isBalanced 1 = .ok (.i2l, 1) := by decide +kernel
theorem dX12_isBalanced_2 : decode cX12_isBalanced 2 = .ok (.iconst 0, 1) := by decide +kernel
theorem dX12_isBalanced_3 : decode cX12_isBalanced 3 = .ok (.bipush 30, 2) := by decide +kernel
theorem dX12_isBalanced_5 : decode cX12_isBalanced 5 = .ok (.invokestatic 285, 3) := by decide +kernel
theorem dX12_isBalanced_8 : decode cX12_isBalanced 8 = .ok (.ifCond .ne 9, 3) := by decide +kernel
theorem dX12_isBalanced_11 : decode cX12_isBalanced 11 = .ok (.aload_n 0, 1) := by decide +kernel
theorem dX12_isBalanced_12 : decode cX12_isBalanced 12 = .ok (.iconst 1, 1) := by decide +kernel
theorem dX12_isBalanced_13 : decode cX12_isBalanced 13 = .ok (.invokevirtual 336, 3) := by decide +kernel
theorem dX12_refuses_0 : decode cX12_refuses 0 = .ok (.aload_n 0, 1) := by decide +kernel
theorem dX12_refuses_1 : decode cX12_refuses 1 = .ok (.iload_n 1, 1) := by decide +kernel
theorem dX12_refuses_2 : decode cX12_refuses 2 = .ok (.putfield 74, 3) := by decide +kernel
theorem dX12_refuses_5 : decode cX12_refuses 5 = .ok (.iconst 0, 1) := by decide +kernel
theorem dX12_refuses_6 : decode cX12_refuses 6 = .ok (.ireturn, 1) := by decide +kernel
theorem dX12_isBalanced_16 : decode cX12_isBalanced 16 = .ok (.ireturn, 1) := by decide +kernel
theorem dL_law_675 : decode cL_law 675 = .ok (.istore 7, 2) := by decide +kernel
theorem dL_law_677 : decode cL_law 677 = .ok (.aload_n 2, 1) := by decide +kernel
theorem dL_law_678 : decode cL_law 678 = .ok (.invokevirtual 125, 3) := by decide +kernel
theorem dL_law_681 : decode cL_law 681 = .ok (.iload 6, 2) := by decide +kernel
theorem dL_law_683 : decode cL_law 683 = .ok (.if_icmp .eq 5, 3) := by decide +kernel
theorem dL_law_688 : decode cL_law 688 = .ok (.iload 6, 2) := by decide +kernel
theorem dL_law_690 : decode cL_law 690 = .ok (.ifCond .ne 22, 3) := by decide +kernel
theorem dL_law_712 : decode cL_law 712 = .ok (.goto 1251, 3) := by decide +kernel
theorem dX6_isBalanced_20 : decode cX6_isBalanced 20 = .ok (.aload_n 0, 1) := by decide +kernel
theorem dX6_isBalanced_21 : decode cX6_isBalanced 21 = .ok (.invokevirtual 121, 3) := by decide +kernel
theorem dX6_checkStanding_0 : decode cX6_checkStanding 0 = .ok (.aload_n 0, 1) := by decide +kernel
theorem dX6_checkStanding_1 : decode cX6_checkStanding 1 = .ok (.getfield 19, 3) := by decide +kernel
theorem dX6_checkStanding_4 : decode cX6_checkStanding 4 = .ok (.aload_n 0, 1) := by decide +kernel
theorem dX6_checkStanding_5 : decode cX6_checkStanding 5 = .ok (.getfield 12, 3) := by decide +kernel
theorem dX6_checkStanding_8 : decode cX6_checkStanding 8 = .ok (.invokevirtual 110, 3) := by decide +kernel
theorem dX6_checkStanding_11 : decode cX6_checkStanding 11 = .ok (.aload_n 0, 1) := by decide +kernel
theorem dX6_checkStanding_12 : decode cX6_checkStanding 12 = .ok (.getfield 19, 3) := by decide +kernel
theorem dX6_checkStanding_15 : decode cX6_checkStanding 15 = .ok (.getfield 114, 3) := by decide +kernel
theorem dX6_checkStanding_18 : decode cX6_checkStanding 18 = .ok (.bipush 46, 2) := by decide +kernel
theorem dX6_checkStanding_20 : decode cX6_checkStanding 20 = .ok (.if_icmp .eq 14, 3) := by decide +kernel
theorem dX6_checkStanding_34 : decode cX6_checkStanding 34 = .ok (.return_, 1) := by decide +kernel
theorem dX6_isBalanced_24 : decode cX6_isBalanced 24 = .ok (.aload_n 0, 1) := by decide +kernel
theorem dX6_isBalanced_25 : decode cX6_isBalanced 25 = .ok (.getfield 19, 3) := by decide +kernel
theorem dX6_isBalanced_28 : decode cX6_isBalanced 28 = .ok (.aload_n 0, 1) := by decide +kernel
theorem dX6_isBalanced_29 : decode cX6_isBalanced 29 = .ok (.getfield 12, 3) := by decide +kernel
theorem dX6_isBalanced_32 : decode cX6_isBalanced 32 = .ok (.iload_n 1, 1) := by decide +kernel
theorem dX6_isBalanced_33 : decode cX6_isBalanced 33 = .ok (.invokevirtual 138, 3) := by decide +kernel
theorem dX1_holdsAt_0 : decode cX1_holdsAt 0 = .ok (.aload_n 0, 1) := by decide +kernel
theorem dX1_holdsAt_1 : decode cX1_holdsAt 1 = .ok (.aload_n 1, 1) := by decide +kernel
theorem dX1_holdsAt_2 : decode cX1_holdsAt 2 = .ok (.iload_n 2, 1) := by decide +kernel
theorem dX1_holdsAt_3 : decode cX1_holdsAt 3 = .ok (.iconst 0, 1) := by decide +kernel
theorem dX1_holdsAt_4 : decode cX1_holdsAt 4 = .ok (.invokevirtual 185, 3) := by decide +kernel
theorem dX1_holdsAlong_0 : decode cX1_holdsAlong 0 = .ok (.lconst 0, 1) := by decide +kernel
theorem dX1_holdsAlong_1 : decode cX1_holdsAlong 1 = .ok (.lstore 4, 2) := by decide +kernel
theorem dX1_holdsAlong_3 : decode cX1_holdsAlong 3 = .ok (.lconst 0, 1) := by decide +kernel
theorem dX1_holdsAlong_4 : decode cX1_holdsAlong 4 = .ok (.lstore 6, 2) := by decide +kernel
theorem dX1_holdsAlong_6 : decode cX1_holdsAlong 6 = .ok (.iconst 0, 1) := by decide +kernel
theorem dX1_holdsAlong_7 : decode cX1_holdsAlong 7 = .ok (.istore 8, 2) := by decide +kernel
theorem dX1_holdsAlong_9 : decode cX1_holdsAlong 9 = .ok (.iload 8, 2) := by decide +kernel
theorem dX1_holdsAlong_11 : decode cX1_holdsAlong 11 = .ok (.aload_n 1, 1) := by decide +kernel
theorem dX1_holdsAlong_12 : decode cX1_holdsAlong 12 = .ok (.getfield 78, 3) := by decide +kernel
theorem dX1_holdsAlong_15 : decode cX1_holdsAlong 15 = .ok (.if_icmp .ge 165, 3) := by decide +kernel
theorem dX1_holdsAlong_180 : decode cX1_holdsAlong 180 = .ok (.aload_n 0, 1) := by decide +kernel
theorem dX1_holdsAlong_181 : decode cX1_holdsAlong 181 = .ok (.getfield 104, 3) := by decide +kernel
theorem dX1_holdsAlong_184 : decode cX1_holdsAlong 184 = .ok (.lconst 0, 1) := by decide +kernel
theorem dX1_holdsAlong_185 : decode cX1_holdsAlong 185 = .ok (.lcmp, 1) := by decide +kernel
theorem dX1_holdsAlong_186 : decode cX1_holdsAlong 186 = .ok (.ifCond .le 34, 3) := by decide +kernel
theorem dX1_holdsAlong_189 : decode cX1_holdsAlong 189 = .ok (.lload 6, 2) := by decide +kernel
theorem dX1_holdsAlong_191 : decode cX1_holdsAlong 191 = .ok (.aload_n 0, 1) := by decide +kernel
theorem dX1_holdsAlong_192 : decode cX1_holdsAlong 192 = .ok (.getfield 104, 3) := by decide +kernel
theorem dX1_holdsAlong_195 : decode cX1_holdsAlong 195 = .ok (.lrem, 1) := by decide +kernel
theorem dX1_holdsAlong_196 : decode cX1_holdsAlong 196 = .ok (.lconst 0, 1) := by decide +kernel
theorem dX1_holdsAlong_197 : decode cX1_holdsAlong 197 = .ok (.lcmp, 1) := by decide +kernel
theorem dX1_holdsAlong_198 : decode cX1_holdsAlong 198 = .ok (.ifCond .ne 22, 3) := by decide +kernel
theorem dX1_holdsAlong_201 : decode cX1_holdsAlong 201 = .ok (.lload 4, 2) := by decide +kernel
theorem dX1_holdsAlong_203 : decode cX1_holdsAlong 203 = .ok (.lload 6, 2) := by decide +kernel
theorem dX1_holdsAlong_205 : decode cX1_holdsAlong 205 = .ok (.aload_n 0, 1) := by decide +kernel
theorem dX1_holdsAlong_206 : decode cX1_holdsAlong 206 = .ok (.getfield 104, 3) := by decide +kernel
theorem dX1_holdsAlong_209 : decode cX1_holdsAlong 209 = .ok (.ldiv, 1) := by decide +kernel
theorem dX1_holdsAlong_210 : decode cX1_holdsAlong 210 = .ok (.ladd, 1) := by decide +kernel
theorem dX1_holdsAlong_211 : decode cX1_holdsAlong 211 = .ok (.lconst 0, 1) := by decide +kernel
theorem dX1_holdsAlong_212 : decode cX1_holdsAlong 212 = .ok (.lcmp, 1) := by decide +kernel
theorem dX1_holdsAlong_213 : decode cX1_holdsAlong 213 = .ok (.ifCond .ne 7, 3) := by decide +kernel
theorem dX1_holdsAlong_216 : decode cX1_holdsAlong 216 = .ok (.iconst 1, 1) := by decide +kernel
theorem dX1_holdsAlong_217 : decode cX1_holdsAlong 217 = .ok (.goto 4, 3) := by decide +kernel
theorem dX1_holdsAlong_221 : decode cX1_holdsAlong 221 = .ok (.ireturn, 1) := by decide +kernel
theorem dX1_holdsAt_7 : decode cX1_holdsAt 7 = .ok (.ifCond .eq 17, 3) := by decide +kernel
theorem dX1_holdsAt_10 : decode cX1_holdsAt 10 = .ok (.aload_n 0, 1) := by decide +kernel
theorem dX1_holdsAt_11 : decode cX1_holdsAt 11 = .ok (.aload_n 1, 1) := by decide +kernel
theorem dX1_holdsAt_12 : decode cX1_holdsAt 12 = .ok (.iload_n 2, 1) := by decide +kernel
theorem dX1_holdsAt_13 : decode cX1_holdsAt 13 = .ok (.iconst 1, 1) := by decide +kernel
theorem dX1_holdsAt_14 : decode cX1_holdsAt 14 = .ok (.invokevirtual 185, 3) := by decide +kernel
theorem dX1_holdsAt_17 : decode cX1_holdsAt 17 = .ok (.ifCond .eq 7, 3) := by decide +kernel
theorem dX1_holdsAt_20 : decode cX1_holdsAt 20 = .ok (.iconst 1, 1) := by decide +kernel
theorem dX1_holdsAt_21 : decode cX1_holdsAt 21 = .ok (.goto 4, 3) := by decide +kernel
theorem dX1_holdsAt_25 : decode cX1_holdsAt 25 = .ok (.ireturn, 1) := by decide +kernel
theorem dX6_isBalanced_36 : decode cX6_isBalanced 36 = .ok (.ireturn, 1) := by decide +kernel
theorem dL_isBalanced_7 : decode cL_isBalanced 7 = .ok (.ifCond .eq 7, 3) := by decide +kernel
theorem dL_isBalanced_10 : decode cL_isBalanced 10 = .ok (.lconst 1, 1) := by decide +kernel
theorem dL_isBalanced_11 : decode cL_isBalanced 11 = .ok (.goto 4, 3) := by decide +kernel
theorem dL_isBalanced_15 : decode cL_isBalanced 15 = .ok (.lastore, 1) := by decide +kernel
theorem dL_isBalanced_16 : decode cL_isBalanced 16 = .ok (.goto 9, 3) := by decide +kernel
theorem dL_isBalanced_25 : decode cL_isBalanced 25 = .ok (.iconst 0, 1) := by decide +kernel
theorem dL_isBalanced_26 : decode cL_isBalanced 26 = .ok (.ireturn, 1) := by decide +kernel
theorem dX12_isBalanced_17 : decode cX12_isBalanced 17 = .ok (.aload_n 0, 1) := by decide +kernel
theorem dX12_isBalanced_18 : decode cX12_isBalanced 18 = .ok (.invokevirtual 320, 3) := by decide +kernel
theorem dX12_stands_0 : decode cX12_stands 0 = .ok (.aload_n 0, 1) := by decide +kernel
theorem dX12_stands_1 : decode cX12_stands 1 = .ok (.invokevirtual 166, 3) := by decide +kernel
theorem dX12_stands_4 : decode cX12_stands 4 = .ok (.aload_n 0, 1) := by decide +kernel
theorem dX12_stands_5 : decode cX12_stands 5 = .ok (.getfield 157, 3) := by decide +kernel
theorem dX12_stands_8 : decode cX12_stands 8 = .ok (.bipush 46, 2) := by decide +kernel
theorem dX12_stands_10 : decode cX12_stands 10 = .ok (.if_icmp .ne 7, 3) := by decide +kernel
theorem dX12_stands_13 : decode cX12_stands 13 = .ok (.iconst 1, 1) := by decide +kernel
theorem dX12_stands_14 : decode cX12_stands 14 = .ok (.goto 4, 3) := by decide +kernel
theorem dX12_stands_18 : decode cX12_stands 18 = .ok (.ireturn, 1) := by decide +kernel
theorem dX12_isBalanced_21 : decode cX12_isBalanced 21 = .ok (.ifCond .eq 37, 3) := by decide +kernel
theorem dX12_isBalanced_24 : decode cX12_isBalanced 24 = .ok (.aload_n 0, 1) := by decide +kernel
theorem dX12_isBalanced_25 : decode cX12_isBalanced 25 = .ok (.aload_n 0, 1) := by decide +kernel
theorem dX12_isBalanced_26 : decode cX12_isBalanced 26 = .ok (.iload_n 1, 1) := by decide +kernel
theorem dX12_isBalanced_27 : decode cX12_isBalanced 27 = .ok (.iconst 0, 1) := by decide +kernel
theorem dX12_isBalanced_28 : decode cX12_isBalanced 28 = .ok (.invokevirtual 339, 3) := by decide +kernel
theorem dX12_restOf_0 : decode cX12_restOf 0 = .ok (.lconst 0, 1) := by decide +kernel
theorem dX12_restOf_1 : decode cX12_restOf 1 = .ok (.lstore_n 3, 1) := by decide +kernel
theorem dX12_restOf_2 : decode cX12_restOf 2 = .ok (.iconst 0, 1) := by decide +kernel
theorem dX12_restOf_3 : decode cX12_restOf 3 = .ok (.istore 5, 2) := by decide +kernel
theorem dX12_restOf_5 : decode cX12_restOf 5 = .ok (.iload 5, 2) := by decide +kernel
theorem dX12_restOf_7 : decode cX12_restOf 7 = .ok (.aload_n 0, 1) := by decide +kernel
theorem dX12_restOf_8 : decode cX12_restOf 8 = .ok (.getfield 10, 3) := by decide +kernel
theorem dX12_restOf_11 : decode cX12_restOf 11 = .ok (.invokevirtual 125, 3) := by decide +kernel
theorem dX12_restOf_14 : decode cX12_restOf 14 = .ok (.if_icmp .ge 205, 3) := by decide +kernel
theorem dX12_restOf_219 : decode cX12_restOf 219 = .ok (.lload_n 3, 1) := by decide +kernel
theorem dX12_restOf_220 : decode cX12_restOf 220 = .ok (.lreturn, 1) := by decide +kernel
theorem dX12_isBalanced_31 : decode cX12_isBalanced 31 = .ok (.lconst 0, 1) := by decide +kernel
theorem dX12_isBalanced_32 : decode cX12_isBalanced 32 = .ok (.lcmp, 1) := by decide +kernel
theorem dX12_isBalanced_33 : decode cX12_isBalanced 33 = .ok (.ifCond .ne 18, 3) := by decide +kernel
theorem dX12_isBalanced_36 : decode cX12_isBalanced 36 = .ok (.aload_n 0, 1) := by decide +kernel
theorem dX12_isBalanced_37 : decode cX12_isBalanced 37 = .ok (.iload_n 1, 1) := by decide +kernel
theorem dX12_isBalanced_38 : decode cX12_isBalanced 38 = .ok (.iconst 1, 1) := by decide +kernel
theorem dX12_isBalanced_39 : decode cX12_isBalanced 39 = .ok (.invokevirtual 339, 3) := by decide +kernel
theorem dX12_isBalanced_42 : decode cX12_isBalanced 42 = .ok (.lconst 0, 1) := by decide +kernel
theorem dX12_isBalanced_43 : decode cX12_isBalanced 43 = .ok (.lcmp, 1) := by decide +kernel
theorem dX12_isBalanced_44 : decode cX12_isBalanced 44 = .ok (.ifCond .ne 7, 3) := by decide +kernel
theorem dX12_isBalanced_47 : decode cX12_isBalanced 47 = .ok (.iconst 1, 1) := by decide +kernel
theorem dX12_isBalanced_48 : decode cX12_isBalanced 48 = .ok (.goto 4, 3) := by decide +kernel
theorem dX12_isBalanced_52 : decode cX12_isBalanced 52 = .ok (.invokevirtual 343, 3) := by decide +kernel
theorem dX12_tells_0 : decode cX12_tells 0 = .ok (.aload_n 0, 1) := by decide +kernel
theorem dX12_tells_1 : decode cX12_tells 1 = .ok (.iconst 0, 1) := by decide +kernel
theorem dX12_tells_2 : decode cX12_tells 2 = .ok (.putfield 74, 3) := by decide +kernel
theorem dX12_tells_5 : decode cX12_tells 5 = .ok (.iload_n 1, 1) := by decide +kernel
theorem dX12_tells_6 : decode cX12_tells 6 = .ok (.ireturn, 1) := by decide +kernel
theorem dX12_isBalanced_55 : decode cX12_isBalanced 55 = .ok (.goto 8, 3) := by decide +kernel
theorem dX12_isBalanced_63 : decode cX12_isBalanced 63 = .ok (.ireturn, 1) := by decide +kernel
theorem dL_law_693 : decode cL_law 693 = .ok (.aload_n 3, 1) := by decide +kernel
theorem dL_law_694 : decode cL_law 694 = .ok (.iconst 0, 1) := by decide +kernel
theorem dL_law_695 : decode cL_law 695 = .ok (.laload, 1) := by decide +kernel
theorem dL_law_696 : decode cL_law 696 = .ok (.iload 7, 2) := by decide +kernel
theorem dL_law_698 : decode cL_law 698 = .ok (.ifCond .eq 7, 3) := by decide +kernel
theorem dL_law_701 : decode cL_law 701 = .ok (.lconst 1, 1) := by decide +kernel
theorem dL_law_702 : decode cL_law 702 = .ok (.goto 4, 3) := by decide +kernel
theorem dL_law_706 : decode cL_law 706 = .ok (.lcmp, 1) := by decide +kernel
theorem dL_law_707 : decode cL_law 707 = .ok (.ifCond .eq 5, 3) := by decide +kernel
theorem dL_law_715 : decode cL_law 715 = .ok (.aload_n 1, 1) := by decide +kernel
theorem dL_law_716 : decode cL_law 716 = .ok (.aload_n 3, 1) := by decide +kernel
theorem dL_law_717 : decode cL_law 717 = .ok (.invokestatic 155, 3) := by decide +kernel
theorem dL_weakest_0 : decode cL_weakest 0 = .ok (.aload_n 1, 1) := by decide +kernel
theorem dL_weakest_1 : decode cL_weakest 1 = .ok (.iconst 0, 1) := by decide +kernel
theorem dL_weakest_2 : decode cL_weakest 2 = .ok (.aload_n 0, 1) := by decide +kernel
theorem dL_weakest_3 : decode cL_weakest 3 = .ok (.invokevirtual 42, 3) := by decide +kernel
theorem dX6_weakest_0 : decode cX6_weakest 0 = .ok (.aload_n 0, 1) := by decide +kernel
theorem dX6_weakest_1 : decode cX6_weakest 1 = .ok (.invokevirtual 121, 3) := by decide +kernel
theorem dX6_weakest_4 : decode cX6_weakest 4 = .ok (.aload_n 0, 1) := by decide +kernel
theorem dX6_weakest_5 : decode cX6_weakest 5 = .ok (.getfield 12, 3) := by decide +kernel
theorem dX6_weakest_8 : decode cX6_weakest 8 = .ok (.getfield 93, 3) := by decide +kernel
theorem dX6_weakest_11 : decode cX6_weakest 11 = .ok (.ifCond .ne 13, 3) := by decide +kernel
theorem dX6_weakest_14 : decode cX6_weakest 14 = .ok (.new 142, 3) := by decide +kernel
theorem dX6_weakest_17 : decode cX6_weakest 17 = .ok (.dup, 1) := by decide +kernel
theorem dX6_weakest_18 : decode cX6_weakest 18 = .ok (.ldc 144, 2) := by decide +kernel
theorem dX6_weakest_20 : decode cX6_weakest 20 = .ok (.invokespecial 146, 3) := by decide +kernel
theorem dX6_weakest_23 : decode cX6_weakest 23 = .ok (.athrow, 1) := by decide +kernel
theorem dL_weakest_14 : decode cL_weakest 14 = .ok (.astore_n 2, 1) := by decide +kernel
theorem dL_weakest_15 : decode cL_weakest 15 = .ok (.iconst 2, 1) := by decide +kernel
theorem dL_weakest_16 : decode cL_weakest 16 = .ok (.ireturn, 1) := by decide +kernel
theorem dL_law_720 : decode cL_law 720 = .ok (.istore 6, 2) := by decide +kernel
theorem dL_law_722 : decode cL_law 722 = .ok (.aload_n 2, 1) := by decide +kernel
theorem dL_law_723 : decode cL_law 723 = .ok (.invokevirtual 158, 3) := by decide +kernel
theorem dX12_weakest_0 : decode cX12_weakest 0 = .ok (.aload_n 0, 1) := by decide +kernel
theorem dX12_weakest_1 : decode cX12_weakest 1 = .ok (.invokevirtual 320, 3) := by decide +kernel
theorem dX12_weakest_4 : decode cX12_weakest 4 = .ok (.ifCond .ne 9, 3) := by decide +kernel
theorem dX12_weakest_13 : decode cX12_weakest 13 = .ok (.iconst (-1), 1) := by decide +kernel
theorem dX12_weakest_14 : decode cX12_weakest 14 = .ok (.istore_n 1, 1) := by decide +kernel
theorem dX12_weakest_15 : decode cX12_weakest 15 = .ok (.iconst 0, 1) := by decide +kernel
theorem dX12_weakest_16 : decode cX12_weakest 16 = .ok (.istore_n 2, 1) := by decide +kernel
theorem dX12_weakest_17 : decode cX12_weakest 17 = .ok (.iload_n 2, 1) := by decide +kernel
theorem dX12_weakest_18 : decode cX12_weakest 18 = .ok (.aload_n 0, 1) := by decide +kernel
theorem dX12_weakest_19 : decode cX12_weakest 19 = .ok (.getfield 16, 3) := by decide +kernel
theorem dX12_weakest_22 : decode cX12_weakest 22 = .ok (.invokevirtual 125, 3) := by decide +kernel
theorem dX12_weakest_25 : decode cX12_weakest 25 = .ok (.if_icmp .ge 36, 3) := by decide +kernel
theorem dX12_weakest_61 : decode cX12_weakest 61 = .ok (.iload_n 1, 1) := by decide +kernel
theorem dX12_weakest_62 : decode cX12_weakest 62 = .ok (.iconst (-1), 1) := by decide +kernel
theorem dX12_weakest_63 : decode cX12_weakest 63 = .ok (.if_icmp .ne 11, 3) := by decide +kernel
theorem dX12_weakest_66 : decode cX12_weakest 66 = .ok (.aload_n 0, 1) := by decide +kernel
theorem dX12_weakest_67 : decode cX12_weakest 67 = .ok (.iconst 2, 1) := by decide +kernel
theorem dX12_weakest_68 : decode cX12_weakest 68 = .ok (.invokevirtual 289, 3) := by decide +kernel
theorem dX12_weakest_71 : decode cX12_weakest 71 = .ok (.goto 8, 3) := by decide +kernel
theorem dX12_weakest_79 : decode cX12_weakest 79 = .ok (.ireturn, 1) := by decide +kernel
theorem dL_law_726 : decode cL_law 726 = .ok (.istore 7, 2) := by decide +kernel
theorem dL_law_728 : decode cL_law 728 = .ok (.aload_n 2, 1) := by decide +kernel
theorem dL_law_729 : decode cL_law 729 = .ok (.invokevirtual 125, 3) := by decide +kernel
theorem dL_law_732 : decode cL_law 732 = .ok (.iload 6, 2) := by decide +kernel
theorem dL_law_734 : decode cL_law 734 = .ok (.if_icmp .eq 5, 3) := by decide +kernel
theorem dL_law_739 : decode cL_law 739 = .ok (.iload 6, 2) := by decide +kernel
theorem dL_law_741 : decode cL_law 741 = .ok (.ifCond .ne 15, 3) := by decide +kernel
theorem dL_law_756 : decode cL_law 756 = .ok (.goto 1207, 3) := by decide +kernel
theorem dL_law_759 : decode cL_law 759 = .ok (.aload_n 1, 1) := by decide +kernel
theorem dL_law_760 : decode cL_law 760 = .ok (.aload_n 0, 1) := by decide +kernel
theorem dL_law_761 : decode cL_law 761 = .ok (.iload 5, 2) := by decide +kernel
theorem dL_law_763 : decode cL_law 763 = .ok (.iconst 1, 1) := by decide +kernel
theorem dL_law_764 : decode cL_law 764 = .ok (.iadd, 1) := by decide +kernel
theorem dL_law_765 : decode cL_law 765 = .ok (.iaload, 1) := by decide +kernel
theorem dL_law_766 : decode cL_law 766 = .ok (.aload_n 0, 1) := by decide +kernel
theorem dL_law_767 : decode cL_law 767 = .ok (.iload 5, 2) := by decide +kernel
theorem dL_law_769 : decode cL_law 769 = .ok (.iconst 2, 1) := by decide +kernel
theorem dL_law_770 : decode cL_law 770 = .ok (.iadd, 1) := by decide +kernel
theorem dL_law_771 : decode cL_law 771 = .ok (.iaload, 1) := by decide +kernel
theorem dL_law_772 : decode cL_law 772 = .ok (.aload_n 0, 1) := by decide +kernel
theorem dL_law_773 : decode cL_law 773 = .ok (.iload 5, 2) := by decide +kernel
theorem dL_law_775 : decode cL_law 775 = .ok (.iconst 3, 1) := by decide +kernel
theorem dL_law_776 : decode cL_law 776 = .ok (.iadd, 1) := by decide +kernel
theorem dL_law_777 : decode cL_law 777 = .ok (.iaload, 1) := by decide +kernel
theorem dL_law_778 : decode cL_law 778 = .ok (.i2c, 1) := by decide +kernel
theorem dL_law_779 : decode cL_law 779 = .ok (.aload_n 0, 1) := by decide +kernel
theorem dL_law_780 : decode cL_law 780 = .ok (.iload 5, 2) := by decide +kernel
theorem dL_law_782 : decode cL_law 782 = .ok (.iconst 4, 1) := by decide +kernel
theorem dL_law_783 : decode cL_law 783 = .ok (.iadd, 1) := by decide +kernel
theorem dL_law_784 : decode cL_law 784 = .ok (.iaload, 1) := by decide +kernel
theorem dL_law_785 : decode cL_law 785 = .ok (.aload_n 0, 1) := by decide +kernel
theorem dL_law_786 : decode cL_law 786 = .ok (.iload 5, 2) := by decide +kernel
theorem dL_law_788 : decode cL_law 788 = .ok (.iconst 5, 1) := by decide +kernel
theorem dL_law_789 : decode cL_law 789 = .ok (.iadd, 1) := by decide +kernel
theorem dL_law_790 : decode cL_law 790 = .ok (.iaload, 1) := by decide +kernel
theorem dL_law_791 : decode cL_law 791 = .ok (.aload_n 3, 1) := by decide +kernel
theorem dL_law_792 : decode cL_law 792 = .ok (.invokestatic 159, 3) := by decide +kernel
theorem dL_joint_0 : decode cL_joint 0 = .ok (.aload 6, 2) := by decide +kernel
theorem dL_joint_2 : decode cL_joint 2 = .ok (.iconst 0, 1) := by decide +kernel
theorem dL_joint_3 : decode cL_joint 3 = .ok (.aload_n 0, 1) := by decide +kernel
theorem dL_joint_4 : decode cL_joint 4 = .ok (.iload_n 1, 1) := by decide +kernel
theorem dL_joint_5 : decode cL_joint 5 = .ok (.iload_n 2, 1) := by decide +kernel
theorem dL_joint_6 : decode cL_joint 6 = .ok (.iload_n 3, 1) := by decide +kernel
theorem dL_joint_7 : decode cL_joint 7 = .ok (.iload 4, 2) := by decide +kernel
theorem dL_joint_9 : decode cL_joint 9 = .ok (.iload 5, 2) := by decide +kernel
theorem dL_joint_11 : decode cL_joint 11 = .ok (.invokevirtual 48, 3) := by decide +kernel
theorem dX6_joint_0 : decode cX6_joint 0 = .ok (.aload_n 0, 1) := by decide +kernel
theorem dX6_joint_1 : decode cX6_joint 1 = .ok (.iload_n 1, 1) := by decide +kernel
theorem dX6_joint_2 : decode cX6_joint 2 = .ok (.invokevirtual 118, 3) := by decide +kernel
theorem dL_joint_19 : decode cL_joint 19 = .ok (.astore 7, 2) := by decide +kernel
theorem dL_joint_21 : decode cL_joint 21 = .ok (.iconst 1, 1) := by decide +kernel
theorem dL_joint_22 : decode cL_joint 22 = .ok (.ireturn, 1) := by decide +kernel
theorem dL_law_795 : decode cL_law 795 = .ok (.istore 6, 2) := by decide +kernel
theorem dL_law_797 : decode cL_law 797 = .ok (.aload_n 2, 1) := by decide +kernel
theorem dL_law_798 : decode cL_law 798 = .ok (.aload_n 0, 1) := by decide +kernel
theorem dL_law_799 : decode cL_law 799 = .ok (.iload 5, 2) := by decide +kernel
theorem dL_law_801 : decode cL_law 801 = .ok (.iconst 1, 1) := by decide +kernel
theorem dL_law_802 : decode cL_law 802 = .ok (.iadd, 1) := by decide +kernel
theorem dL_law_803 : decode cL_law 803 = .ok (.iaload, 1) := by decide +kernel
theorem dL_law_804 : decode cL_law 804 = .ok (.aload_n 0, 1) := by decide +kernel
theorem dL_law_805 : decode cL_law 805 = .ok (.iload 5, 2) := by decide +kernel
theorem dL_law_807 : decode cL_law 807 = .ok (.iconst 2, 1) := by decide +kernel
theorem dL_law_808 : decode cL_law 808 = .ok (.iadd, 1) := by decide +kernel
theorem dL_law_809 : decode cL_law 809 = .ok (.iaload, 1) := by decide +kernel
theorem dL_law_810 : decode cL_law 810 = .ok (.aload_n 0, 1) := by decide +kernel
theorem dL_law_811 : decode cL_law 811 = .ok (.iload 5, 2) := by decide +kernel
theorem dL_law_813 : decode cL_law 813 = .ok (.iconst 3, 1) := by decide +kernel
theorem dL_law_814 : decode cL_law 814 = .ok (.iadd, 1) := by decide +kernel
theorem dL_law_815 : decode cL_law 815 = .ok (.iaload, 1) := by decide +kernel
theorem dL_law_816 : decode cL_law 816 = .ok (.i2c, 1) := by decide +kernel
theorem dL_law_817 : decode cL_law 817 = .ok (.aload_n 0, 1) := by decide +kernel
theorem dL_law_818 : decode cL_law 818 = .ok (.iload 5, 2) := by decide +kernel
theorem dL_law_820 : decode cL_law 820 = .ok (.iconst 4, 1) := by decide +kernel
theorem dL_law_821 : decode cL_law 821 = .ok (.iadd, 1) := by decide +kernel
theorem dL_law_822 : decode cL_law 822 = .ok (.iaload, 1) := by decide +kernel
theorem dL_law_823 : decode cL_law 823 = .ok (.aload_n 0, 1) := by decide +kernel
theorem dL_law_824 : decode cL_law 824 = .ok (.iload 5, 2) := by decide +kernel
theorem dL_law_826 : decode cL_law 826 = .ok (.iconst 5, 1) := by decide +kernel
theorem dL_law_827 : decode cL_law 827 = .ok (.iadd, 1) := by decide +kernel
theorem dL_law_828 : decode cL_law 828 = .ok (.iaload, 1) := by decide +kernel
theorem dL_law_829 : decode cL_law 829 = .ok (.invokevirtual 162, 3) := by decide +kernel
theorem dX12_joint_0 : decode cX12_joint 0 = .ok (.aload_n 0, 1) := by decide +kernel
theorem dX12_joint_1 : decode cX12_joint 1 = .ok (.iload_n 1, 1) := by decide +kernel
theorem dX12_joint_2 : decode cX12_joint 2 = .ok (.invokevirtual 314, 3) := by decide +kernel
theorem dX12_joint_5 : decode cX12_joint 5 = .ok (.ifCond .eq 11, 3) := by decide +kernel
theorem dX12_joint_16 : decode cX12_joint 16 = .ok (.aload_n 0, 1) := by decide +kernel
theorem dX12_joint_17 : decode cX12_joint 17 = .ok (.iconst 1, 1) := by decide +kernel
theorem dX12_joint_18 : decode cX12_joint 18 = .ok (.invokevirtual 289, 3) := by decide +kernel
theorem dX12_joint_21 : decode cX12_joint 21 = .ok (.ireturn, 1) := by decide +kernel
theorem dL_law_832 : decode cL_law 832 = .ok (.istore 7, 2) := by decide +kernel
theorem dL_law_834 : decode cL_law 834 = .ok (.aload_n 2, 1) := by decide +kernel
theorem dL_law_835 : decode cL_law 835 = .ok (.invokevirtual 125, 3) := by decide +kernel
theorem dL_law_838 : decode cL_law 838 = .ok (.iload 6, 2) := by decide +kernel
theorem dL_law_840 : decode cL_law 840 = .ok (.if_icmp .eq 5, 3) := by decide +kernel
theorem dL_law_845 : decode cL_law 845 = .ok (.iload 6, 2) := by decide +kernel
theorem dL_law_847 : decode cL_law 847 = .ok (.ifCond .ne 15, 3) := by decide +kernel
theorem dL_law_862 : decode cL_law 862 = .ok (.goto 1101, 3) := by decide +kernel
theorem dL_law_865 : decode cL_law 865 = .ok (.aload_n 1, 1) := by decide +kernel
theorem dL_law_866 : decode cL_law 866 = .ok (.aload_n 0, 1) := by decide +kernel
theorem dL_law_867 : decode cL_law 867 = .ok (.iload 5, 2) := by decide +kernel
theorem dL_law_869 : decode cL_law 869 = .ok (.iconst 1, 1) := by decide +kernel
theorem dL_law_870 : decode cL_law 870 = .ok (.iadd, 1) := by decide +kernel
theorem dL_law_871 : decode cL_law 871 = .ok (.iaload, 1) := by decide +kernel
theorem dL_law_872 : decode cL_law 872 = .ok (.aload_n 3, 1) := by decide +kernel
theorem dL_law_873 : decode cL_law 873 = .ok (.invokestatic 163, 3) := by decide +kernel
theorem dL_isRight_0 : decode cL_isRight 0 = .ok (.aload_n 2, 1) := by decide +kernel
theorem dL_isRight_1 : decode cL_isRight 1 = .ok (.iconst 0, 1) := by decide +kernel
theorem dL_isRight_2 : decode cL_isRight 2 = .ok (.aload_n 0, 1) := by decide +kernel
theorem dL_isRight_3 : decode cL_isRight 3 = .ok (.iload_n 1, 1) := by decide +kernel
theorem dL_isRight_4 : decode cL_isRight 4 = .ok (.invokevirtual 54, 3) := by decide +kernel
theorem dX6_isRight_0 : decode cX6_isRight 0 = .ok (.aload_n 0, 1) := by decide +kernel
theorem dX6_isRight_1 : decode cX6_isRight 1 = .ok (.iload_n 1, 1) := by decide +kernel
theorem dX6_isRight_2 : decode cX6_isRight 2 = .ok (.invokevirtual 179, 3) := by decide +kernel
theorem dX6_checkJoint_0 : decode cX6_checkJoint 0 = .ok (.iload_n 1, 1) := by decide +kernel
theorem dX6_checkJoint_1 : decode cX6_checkJoint 1 = .ok (.ifCond .lt 14, 3) := by decide +kernel
theorem dX6_checkJoint_15 : decode cX6_checkJoint 15 = .ok (.new 228, 3) := by decide +kernel
theorem dX6_checkJoint_18 : decode cX6_checkJoint 18 = .ok (.dup, 1) := by decide +kernel
theorem dX6_checkJoint_19 : decode cX6_checkJoint 19 = .ok (.ldc_w 284, 3) := by decide +kernel
theorem dX6_checkJoint_22 : decode cX6_checkJoint 22 = .ok (.invokespecial 232, 3) := by decide +kernel
theorem dX6_checkJoint_25 : decode cX6_checkJoint 25 = .ok (.athrow, 1) := by decide +kernel
theorem dL_isRight_19 : decode cL_isRight 19 = .ok (.astore_n 3, 1) := by decide +kernel
theorem dL_isRight_20 : decode cL_isRight 20 = .ok (.iconst 1, 1) := by decide +kernel
theorem dL_isRight_21 : decode cL_isRight 21 = .ok (.ireturn, 1) := by decide +kernel
theorem dL_law_876 : decode cL_law 876 = .ok (.istore 6, 2) := by decide +kernel
theorem dL_law_878 : decode cL_law 878 = .ok (.aload_n 2, 1) := by decide +kernel
theorem dL_law_879 : decode cL_law 879 = .ok (.aload_n 0, 1) := by decide +kernel
theorem dL_law_880 : decode cL_law 880 = .ok (.iload 5, 2) := by decide +kernel
theorem dL_law_882 : decode cL_law 882 = .ok (.iconst 1, 1) := by decide +kernel
theorem dL_law_883 : decode cL_law 883 = .ok (.iadd, 1) := by decide +kernel
theorem dL_law_884 : decode cL_law 884 = .ok (.iaload, 1) := by decide +kernel
theorem dL_law_885 : decode cL_law 885 = .ok (.invokevirtual 165, 3) := by decide +kernel
theorem dX12_isRight_0 : decode cX12_isRight 0 = .ok (.aload_n 0, 1) := by decide +kernel
theorem dX12_isRight_1 : decode cX12_isRight 1 = .ok (.iload_n 1, 1) := by decide +kernel
theorem dX12_isRight_2 : decode cX12_isRight 2 = .ok (.invokevirtual 363, 3) := by decide +kernel
theorem dX12_isJoint_0 : decode cX12_isJoint 0 = .ok (.iload_n 1, 1) := by decide +kernel
theorem dX12_isJoint_1 : decode cX12_isJoint 1 = .ok (.i2l, 1) := by decide +kernel
theorem dX12_isJoint_2 : decode cX12_isJoint 2 = .ok (.iconst 0, 1) := by decide +kernel
theorem dX12_isJoint_3 : decode cX12_isJoint 3 = .ok (.aload_n 0, 1) := by decide +kernel
theorem dX12_isJoint_4 : decode cX12_isJoint 4 = .ok (.getfield 19, 3) := by decide +kernel
theorem dX12_isJoint_7 : decode cX12_isJoint 7 = .ok (.invokevirtual 125, 3) := by decide +kernel
theorem dX12_isJoint_10 : decode cX12_isJoint 10 = .ok (.iconst 1, 1) := by decide +kernel
theorem dX12_isJoint_11 : decode cX12_isJoint 11 = .ok (.isub, 1) := by decide +kernel
theorem dX12_isJoint_12 : decode cX12_isJoint 12 = .ok (.invokestatic 285, 3) := by decide +kernel
theorem dX12_isJoint_15 : decode cX12_isJoint 15 = .ok (.ireturn, 1) := by decide +kernel
theorem dX12_isRight_5 : decode cX12_isRight 5 = .ok (.ifCond .eq 25, 3) := by decide +kernel
theorem dX12_isRight_30 : decode cX12_isRight 30 = .ok (.aload_n 0, 1) := by decide +kernel
theorem dX12_isRight_31 : decode cX12_isRight 31 = .ok (.iconst 1, 1) := by decide +kernel
theorem dX12_isRight_32 : decode cX12_isRight 32 = .ok (.invokevirtual 336, 3) := by decide +kernel
theorem dX12_isRight_35 : decode cX12_isRight 35 = .ok (.ireturn, 1) := by decide +kernel
theorem dL_law_888 : decode cL_law 888 = .ok (.istore 7, 2) := by decide +kernel
theorem dL_law_890 : decode cL_law 890 = .ok (.aload_n 2, 1) := by decide +kernel
theorem dL_law_891 : decode cL_law 891 = .ok (.invokevirtual 125, 3) := by decide +kernel
theorem dL_law_894 : decode cL_law 894 = .ok (.iload 6, 2) := by decide +kernel
theorem dL_law_896 : decode cL_law 896 = .ok (.if_icmp .eq 5, 3) := by decide +kernel
theorem dL_law_901 : decode cL_law 901 = .ok (.iload 6, 2) := by decide +kernel
theorem dL_law_903 : decode cL_law 903 = .ok (.ifCond .ne 22, 3) := by decide +kernel
theorem dL_law_925 : decode cL_law 925 = .ok (.goto 1038, 3) := by decide +kernel
theorem dX6_checkJoint_4 : decode cX6_checkJoint 4 = .ok (.iload_n 1, 1) := by decide +kernel
theorem dX6_checkJoint_5 : decode cX6_checkJoint 5 = .ok (.aload_n 0, 1) := by decide +kernel
theorem dX6_checkJoint_6 : decode cX6_checkJoint 6 = .ok (.getfield 26, 3) := by decide +kernel
theorem dX6_checkJoint_9 : decode cX6_checkJoint 9 = .ok (.getfield 170, 3) := by decide +kernel
theorem dX6_checkJoint_12 : decode cX6_checkJoint 12 = .ok (.if_icmp .lt 14, 3) := by decide +kernel
theorem dL_law_928 : decode cL_law 928 = .ok (.aload_n 1, 1) := by decide +kernel
theorem dL_law_929 : decode cL_law 929 = .ok (.aload_n 0, 1) := by decide +kernel
theorem dL_law_930 : decode cL_law 930 = .ok (.iload 5, 2) := by decide +kernel
theorem dL_law_932 : decode cL_law 932 = .ok (.iconst 1, 1) := by decide +kernel
theorem dL_law_933 : decode cL_law 933 = .ok (.iadd, 1) := by decide +kernel
theorem dL_law_934 : decode cL_law 934 = .ok (.iaload, 1) := by decide +kernel
theorem dL_law_935 : decode cL_law 935 = .ok (.aload_n 3, 1) := by decide +kernel
theorem dL_law_936 : decode cL_law 936 = .ok (.invokestatic 166, 3) := by decide +kernel
theorem dL_misread_0 : decode cL_misread 0 = .ok (.aload_n 2, 1) := by decide +kernel
theorem dL_misread_1 : decode cL_misread 1 = .ok (.iconst 0, 1) := by decide +kernel
theorem dL_misread_2 : decode cL_misread 2 = .ok (.aload_n 0, 1) := by decide +kernel
theorem dL_misread_3 : decode cL_misread 3 = .ok (.iload_n 1, 1) := by decide +kernel
theorem dL_misread_4 : decode cL_misread 4 = .ok (.invokevirtual 57, 3) := by decide +kernel
theorem dX6_misread_0 : decode cX6_misread 0 = .ok (.aload_n 0, 1) := by decide +kernel
theorem dX6_misread_1 : decode cX6_misread 1 = .ok (.iload_n 1, 1) := by decide +kernel
theorem dX6_misread_2 : decode cX6_misread 2 = .ok (.invokevirtual 179, 3) := by decide +kernel
theorem dL_misread_12 : decode cL_misread 12 = .ok (.astore_n 3, 1) := by decide +kernel
theorem dL_misread_13 : decode cL_misread 13 = .ok (.iconst 1, 1) := by decide +kernel
theorem dL_misread_14 : decode cL_misread 14 = .ok (.ireturn, 1) := by decide +kernel
theorem dL_law_939 : decode cL_law 939 = .ok (.istore 6, 2) := by decide +kernel
theorem dL_law_941 : decode cL_law 941 = .ok (.aload_n 2, 1) := by decide +kernel
theorem dL_law_942 : decode cL_law 942 = .ok (.aload_n 0, 1) := by decide +kernel
theorem dL_law_943 : decode cL_law 943 = .ok (.iload 5, 2) := by decide +kernel
theorem dL_law_945 : decode cL_law 945 = .ok (.iconst 1, 1) := by decide +kernel
theorem dL_law_946 : decode cL_law 946 = .ok (.iadd, 1) := by decide +kernel
theorem dL_law_947 : decode cL_law 947 = .ok (.iaload, 1) := by decide +kernel
theorem dL_law_948 : decode cL_law 948 = .ok (.invokevirtual 168, 3) := by decide +kernel
theorem dX12_misread_0 : decode cX12_misread 0 = .ok (.aload_n 0, 1) := by decide +kernel
theorem dX12_misread_1 : decode cX12_misread 1 = .ok (.iload_n 1, 1) := by decide +kernel
theorem dX12_misread_2 : decode cX12_misread 2 = .ok (.invokevirtual 363, 3) := by decide +kernel
theorem dX12_misread_5 : decode cX12_misread 5 = .ok (.ifCond .eq 24, 3) := by decide +kernel
theorem dX12_misread_29 : decode cX12_misread 29 = .ok (.aload_n 0, 1) := by decide +kernel
theorem dX12_misread_30 : decode cX12_misread 30 = .ok (.iconst 1, 1) := by decide +kernel
theorem dX12_misread_31 : decode cX12_misread 31 = .ok (.invokevirtual 289, 3) := by decide +kernel
theorem dX12_misread_34 : decode cX12_misread 34 = .ok (.ireturn, 1) := by decide +kernel
theorem dL_law_951 : decode cL_law 951 = .ok (.istore 7, 2) := by decide +kernel
theorem dL_law_953 : decode cL_law 953 = .ok (.aload_n 2, 1) := by decide +kernel
theorem dL_law_954 : decode cL_law 954 = .ok (.invokevirtual 125, 3) := by decide +kernel
theorem dL_law_957 : decode cL_law 957 = .ok (.iload 6, 2) := by decide +kernel
theorem dL_law_959 : decode cL_law 959 = .ok (.if_icmp .eq 5, 3) := by decide +kernel
theorem dL_law_964 : decode cL_law 964 = .ok (.iload 6, 2) := by decide +kernel
theorem dL_law_966 : decode cL_law 966 = .ok (.ifCond .ne 15, 3) := by decide +kernel
theorem dL_law_981 : decode cL_law 981 = .ok (.goto 982, 3) := by decide +kernel
theorem dL_law_984 : decode cL_law 984 = .ok (.aload_n 1, 1) := by decide +kernel
theorem dL_law_985 : decode cL_law 985 = .ok (.invokevirtual 169, 3) := by decide +kernel
theorem dX6_clashes_0 : decode cX6_clashes 0 = .ok (.iconst 0, 1) := by decide +kernel
theorem dX6_clashes_1 : decode cX6_clashes 1 = .ok (.istore_n 1, 1) := by decide +kernel
theorem dX6_clashes_2 : decode cX6_clashes 2 = .ok (.iconst 0, 1) := by decide +kernel
theorem dX6_clashes_3 : decode cX6_clashes 3 = .ok (.istore_n 2, 1) := by decide +kernel
theorem dX6_clashes_4 : decode cX6_clashes 4 = .ok (.iload_n 2, 1) := by decide +kernel
theorem dX6_clashes_5 : decode cX6_clashes 5 = .ok (.aload_n 0, 1) := by decide +kernel
theorem dX6_clashes_6 : decode cX6_clashes 6 = .ok (.getfield 26, 3) := by decide +kernel
theorem dX6_clashes_9 : decode cX6_clashes 9 = .ok (.getfield 170, 3) := by decide +kernel
theorem dX6_clashes_12 : decode cX6_clashes 12 = .ok (.if_icmp .ge 42, 3) := by decide +kernel
theorem dX6_clashes_54 : decode cX6_clashes 54 = .ok (.iload_n 1, 1) := by decide +kernel
theorem dX6_clashes_55 : decode cX6_clashes 55 = .ok (.ireturn, 1) := by decide +kernel
theorem dL_law_988 : decode cL_law 988 = .ok (.aload_n 2, 1) := by decide +kernel
theorem dL_law_989 : decode cL_law 989 = .ok (.invokevirtual 172, 3) := by decide +kernel
theorem dX12_clashes_0 : decode cX12_clashes 0 = .ok (.iconst 0, 1) := by decide +kernel
theorem dX12_clashes_1 : decode cX12_clashes 1 = .ok (.istore_n 1, 1) := by decide +kernel
theorem dX12_clashes_2 : decode cX12_clashes 2 = .ok (.iconst 0, 1) := by decide +kernel
theorem dX12_clashes_3 : decode cX12_clashes 3 = .ok (.istore_n 2, 1) := by decide +kernel
theorem dX12_clashes_4 : decode cX12_clashes 4 = .ok (.iload_n 2, 1) := by decide +kernel
theorem dX12_clashes_5 : decode cX12_clashes 5 = .ok (.aload_n 0, 1) := by decide +kernel
theorem dX12_clashes_6 : decode cX12_clashes 6 = .ok (.getfield 19, 3) := by decide +kernel
theorem dX12_clashes_9 : decode cX12_clashes 9 = .ok (.invokevirtual 125, 3) := by decide +kernel
theorem dX12_clashes_12 : decode cX12_clashes 12 = .ok (.if_icmp .ge 92, 3) := by decide +kernel
theorem dX12_clashes_104 : decode cX12_clashes 104 = .ok (.aload_n 0, 1) := by decide +kernel
theorem dX12_clashes_105 : decode cX12_clashes 105 = .ok (.iload_n 1, 1) := by decide +kernel
theorem dX12_clashes_106 : decode cX12_clashes 106 = .ok (.invokevirtual 302, 3) := by decide +kernel
theorem dX12_clashes_109 : decode cX12_clashes 109 = .ok (.ireturn, 1) := by decide +kernel
theorem dL_law_992 : decode cL_law 992 = .ok (.if_icmp .eq 971, 3) := by decide +kernel
theorem dL_law_997 : decode cL_law 997 = .ok (.aload_n 1, 1) := by decide +kernel
theorem dL_law_998 : decode cL_law 998 = .ok (.aload_n 0, 1) := by decide +kernel
theorem dL_law_999 : decode cL_law 999 = .ok (.iload 5, 2) := by decide +kernel
theorem dL_law_1001 : decode cL_law 1001 = .ok (.iconst 1, 1) := by decide +kernel
theorem dL_law_1002 : decode cL_law 1002 = .ok (.iadd, 1) := by decide +kernel
theorem dL_law_1003 : decode cL_law 1003 = .ok (.iaload, 1) := by decide +kernel
theorem dL_law_1004 : decode cL_law 1004 = .ok (.aload_n 0, 1) := by decide +kernel
theorem dL_law_1005 : decode cL_law 1005 = .ok (.iload 5, 2) := by decide +kernel
theorem dL_law_1007 : decode cL_law 1007 = .ok (.iconst 2, 1) := by decide +kernel
theorem dL_law_1008 : decode cL_law 1008 = .ok (.iadd, 1) := by decide +kernel
theorem dL_law_1009 : decode cL_law 1009 = .ok (.iaload, 1) := by decide +kernel
theorem dL_law_1010 : decode cL_law 1010 = .ok (.aload_n 3, 1) := by decide +kernel
theorem dL_law_1011 : decode cL_law 1011 = .ok (.invokestatic 173, 3) := by decide +kernel
theorem dL_cutAt_0 : decode cL_cutAt 0 = .ok (.aload_n 3, 1) := by decide +kernel
theorem dL_cutAt_1 : decode cL_cutAt 1 = .ok (.iconst 0, 1) := by decide +kernel
theorem dL_cutAt_2 : decode cL_cutAt 2 = .ok (.aload_n 0, 1) := by decide +kernel
theorem dL_cutAt_3 : decode cL_cutAt 3 = .ok (.iload_n 1, 1) := by decide +kernel
theorem dL_cutAt_4 : decode cL_cutAt 4 = .ok (.iload_n 2, 1) := by decide +kernel
theorem dL_cutAt_5 : decode cL_cutAt 5 = .ok (.invokevirtual 61, 3) := by decide +kernel
theorem dX6_cutAt_0 : decode cX6_cutAt 0 = .ok (.aload_n 0, 1) := by decide +kernel
theorem dX6_cutAt_1 : decode cX6_cutAt 1 = .ok (.iload_n 1, 1) := by decide +kernel
theorem dX6_cutAt_2 : decode cX6_cutAt 2 = .ok (.invokevirtual 118, 3) := by decide +kernel
theorem dL_cutAt_13 : decode cL_cutAt 13 = .ok (.astore 4, 2) := by decide +kernel
theorem dL_cutAt_15 : decode cL_cutAt 15 = .ok (.iconst 1, 1) := by decide +kernel
theorem dL_cutAt_16 : decode cL_cutAt 16 = .ok (.ireturn, 1) := by decide +kernel
theorem dL_law_1014 : decode cL_law 1014 = .ok (.istore 6, 2) := by decide +kernel
theorem dL_law_1016 : decode cL_law 1016 = .ok (.aload_n 2, 1) := by decide +kernel
theorem dL_law_1017 : decode cL_law 1017 = .ok (.aload_n 0, 1) := by decide +kernel
theorem dL_law_1018 : decode cL_law 1018 = .ok (.iload 5, 2) := by decide +kernel
theorem dL_law_1020 : decode cL_law 1020 = .ok (.iconst 1, 1) := by decide +kernel
theorem dL_law_1021 : decode cL_law 1021 = .ok (.iadd, 1) := by decide +kernel
theorem dL_law_1022 : decode cL_law 1022 = .ok (.iaload, 1) := by decide +kernel
theorem dL_law_1023 : decode cL_law 1023 = .ok (.aload_n 0, 1) := by decide +kernel
theorem dL_law_1024 : decode cL_law 1024 = .ok (.iload 5, 2) := by decide +kernel
theorem dL_law_1026 : decode cL_law 1026 = .ok (.iconst 2, 1) := by decide +kernel
theorem dL_law_1027 : decode cL_law 1027 = .ok (.iadd, 1) := by decide +kernel
theorem dL_law_1028 : decode cL_law 1028 = .ok (.iaload, 1) := by decide +kernel
theorem dL_law_1029 : decode cL_law 1029 = .ok (.invokevirtual 176, 3) := by decide +kernel
theorem dX12_cutAt_0 : decode cX12_cutAt 0 = .ok (.aload_n 0, 1) := by decide +kernel
theorem dX12_cutAt_1 : decode cX12_cutAt 1 = .ok (.iload_n 1, 1) := by decide +kernel
theorem dX12_cutAt_2 : decode cX12_cutAt 2 = .ok (.invokevirtual 314, 3) := by decide +kernel
theorem dX12_cutAt_5 : decode cX12_cutAt 5 = .ok (.ifCond .ne 9, 3) := by decide +kernel
theorem dX12_cutAt_8 : decode cX12_cutAt 8 = .ok (.aload_n 0, 1) := by decide +kernel
theorem dX12_cutAt_9 : decode cX12_cutAt 9 = .ok (.iconst 1, 1) := by decide +kernel
theorem dX12_cutAt_10 : decode cX12_cutAt 10 = .ok (.invokevirtual 289, 3) := by decide +kernel
theorem dX12_cutAt_13 : decode cX12_cutAt 13 = .ok (.ireturn, 1) := by decide +kernel
theorem dL_law_1032 : decode cL_law 1032 = .ok (.istore 7, 2) := by decide +kernel
theorem dL_law_1034 : decode cL_law 1034 = .ok (.aload_n 2, 1) := by decide +kernel
theorem dL_law_1035 : decode cL_law 1035 = .ok (.invokevirtual 125, 3) := by decide +kernel
theorem dL_law_1038 : decode cL_law 1038 = .ok (.iload 6, 2) := by decide +kernel
theorem dL_law_1040 : decode cL_law 1040 = .ok (.if_icmp .eq 5, 3) := by decide +kernel
theorem dL_law_1045 : decode cL_law 1045 = .ok (.iload 6, 2) := by decide +kernel
theorem dL_law_1047 : decode cL_law 1047 = .ok (.ifCond .ne 15, 3) := by decide +kernel
theorem dL_law_1062 : decode cL_law 1062 = .ok (.goto 901, 3) := by decide +kernel
theorem dL_law_1065 : decode cL_law 1065 = .ok (.aload_n 1, 1) := by decide +kernel
theorem dL_law_1066 : decode cL_law 1066 = .ok (.aload_n 0, 1) := by decide +kernel
theorem dL_law_1067 : decode cL_law 1067 = .ok (.iload 5, 2) := by decide +kernel
theorem dL_law_1069 : decode cL_law 1069 = .ok (.iconst 1, 1) := by decide +kernel
theorem dL_law_1070 : decode cL_law 1070 = .ok (.iadd, 1) := by decide +kernel
theorem dL_law_1071 : decode cL_law 1071 = .ok (.iaload, 1) := by decide +kernel
theorem dL_law_1072 : decode cL_law 1072 = .ok (.aload_n 0, 1) := by decide +kernel
theorem dL_law_1073 : decode cL_law 1073 = .ok (.iload 5, 2) := by decide +kernel
theorem dL_law_1075 : decode cL_law 1075 = .ok (.iconst 2, 1) := by decide +kernel
theorem dL_law_1076 : decode cL_law 1076 = .ok (.iadd, 1) := by decide +kernel
theorem dL_law_1077 : decode cL_law 1077 = .ok (.iaload, 1) := by decide +kernel
theorem dL_law_1078 : decode cL_law 1078 = .ok (.aload_n 3, 1) := by decide +kernel
theorem dL_law_1079 : decode cL_law 1079 = .ok (.invokestatic 177, 3) := by decide +kernel
theorem dL_dry_0 : decode cL_dry 0 = .ok (.aload_n 3, 1) := by decide +kernel
theorem dL_dry_1 : decode cL_dry 1 = .ok (.iconst 0, 1) := by decide +kernel
theorem dL_dry_2 : decode cL_dry 2 = .ok (.aload_n 0, 1) := by decide +kernel
theorem dL_dry_3 : decode cL_dry 3 = .ok (.iload_n 1, 1) := by decide +kernel
theorem dL_dry_4 : decode cL_dry 4 = .ok (.iload_n 2, 1) := by decide +kernel
theorem dL_dry_5 : decode cL_dry 5 = .ok (.invokevirtual 65, 3) := by decide +kernel
theorem dX6_dry_0 : decode cX6_dry 0 = .ok (.aload_n 0, 1) := by decide +kernel
theorem dX6_dry_1 : decode cX6_dry 1 = .ok (.iload_n 1, 1) := by decide +kernel
theorem dX6_dry_2 : decode cX6_dry 2 = .ok (.invokevirtual 118, 3) := by decide +kernel
theorem dL_dry_13 : decode cL_dry 13 = .ok (.astore 4, 2) := by decide +kernel
theorem dL_dry_15 : decode cL_dry 15 = .ok (.iconst 1, 1) := by decide +kernel
theorem dL_dry_16 : decode cL_dry 16 = .ok (.ireturn, 1) := by decide +kernel
theorem dL_law_1082 : decode cL_law 1082 = .ok (.istore 6, 2) := by decide +kernel
theorem dL_law_1084 : decode cL_law 1084 = .ok (.aload_n 2, 1) := by decide +kernel
theorem dL_law_1085 : decode cL_law 1085 = .ok (.aload_n 0, 1) := by decide +kernel
theorem dL_law_1086 : decode cL_law 1086 = .ok (.iload 5, 2) := by decide +kernel
theorem dL_law_1088 : decode cL_law 1088 = .ok (.iconst 1, 1) := by decide +kernel
theorem dL_law_1089 : decode cL_law 1089 = .ok (.iadd, 1) := by decide +kernel
theorem dL_law_1090 : decode cL_law 1090 = .ok (.iaload, 1) := by decide +kernel
theorem dL_law_1091 : decode cL_law 1091 = .ok (.aload_n 0, 1) := by decide +kernel
theorem dL_law_1092 : decode cL_law 1092 = .ok (.iload 5, 2) := by decide +kernel
theorem dL_law_1094 : decode cL_law 1094 = .ok (.iconst 2, 1) := by decide +kernel
theorem dL_law_1095 : decode cL_law 1095 = .ok (.iadd, 1) := by decide +kernel
theorem dL_law_1096 : decode cL_law 1096 = .ok (.iaload, 1) := by decide +kernel
theorem dL_law_1097 : decode cL_law 1097 = .ok (.invokevirtual 179, 3) := by decide +kernel
theorem dX12_dry_0 : decode cX12_dry 0 = .ok (.aload_n 0, 1) := by decide +kernel
theorem dX12_dry_1 : decode cX12_dry 1 = .ok (.iload_n 1, 1) := by decide +kernel
theorem dX12_dry_2 : decode cX12_dry 2 = .ok (.invokevirtual 314, 3) := by decide +kernel
theorem dX12_dry_5 : decode cX12_dry 5 = .ok (.ifCond .ne 9, 3) := by decide +kernel
theorem dX12_dry_8 : decode cX12_dry 8 = .ok (.aload_n 0, 1) := by decide +kernel
theorem dX12_dry_9 : decode cX12_dry 9 = .ok (.iconst 1, 1) := by decide +kernel
theorem dX12_dry_10 : decode cX12_dry 10 = .ok (.invokevirtual 289, 3) := by decide +kernel
theorem dX12_dry_13 : decode cX12_dry 13 = .ok (.ireturn, 1) := by decide +kernel
theorem dL_law_1100 : decode cL_law 1100 = .ok (.istore 7, 2) := by decide +kernel
theorem dL_law_1102 : decode cL_law 1102 = .ok (.aload_n 2, 1) := by decide +kernel
theorem dL_law_1103 : decode cL_law 1103 = .ok (.invokevirtual 125, 3) := by decide +kernel
theorem dL_law_1106 : decode cL_law 1106 = .ok (.iload 6, 2) := by decide +kernel
theorem dL_law_1108 : decode cL_law 1108 = .ok (.if_icmp .eq 5, 3) := by decide +kernel
theorem dL_law_1113 : decode cL_law 1113 = .ok (.iload 6, 2) := by decide +kernel
theorem dL_law_1115 : decode cL_law 1115 = .ok (.ifCond .ne 15, 3) := by decide +kernel
theorem dL_law_1130 : decode cL_law 1130 = .ok (.goto 833, 3) := by decide +kernel
theorem dL_law_1133 : decode cL_law 1133 = .ok (.aload_n 1, 1) := by decide +kernel
theorem dL_law_1134 : decode cL_law 1134 = .ok (.aload_n 0, 1) := by decide +kernel
theorem dL_law_1135 : decode cL_law 1135 = .ok (.iload 5, 2) := by decide +kernel
theorem dL_law_1137 : decode cL_law 1137 = .ok (.iconst 1, 1) := by decide +kernel
theorem dL_law_1138 : decode cL_law 1138 = .ok (.iadd, 1) := by decide +kernel
theorem dL_law_1139 : decode cL_law 1139 = .ok (.iaload, 1) := by decide +kernel
theorem dL_law_1140 : decode cL_law 1140 = .ok (.aload_n 3, 1) := by decide +kernel
theorem dL_law_1141 : decode cL_law 1141 = .ok (.invokestatic 180, 3) := by decide +kernel
theorem dL_gap_0 : decode cL_gap 0 = .ok (.aload_n 2, 1) := by decide +kernel
theorem dL_gap_1 : decode cL_gap 1 = .ok (.iconst 0, 1) := by decide +kernel
theorem dL_gap_2 : decode cL_gap 2 = .ok (.aload_n 0, 1) := by decide +kernel
theorem dL_gap_3 : decode cL_gap 3 = .ok (.iload_n 1, 1) := by decide +kernel
theorem dL_gap_4 : decode cL_gap 4 = .ok (.invokevirtual 68, 3) := by decide +kernel
theorem dX6_gap_0 : decode cX6_gap 0 = .ok (.aload_n 0, 1) := by decide +kernel
theorem dX6_gap_1 : decode cX6_gap 1 = .ok (.iload_n 1, 1) := by decide +kernel
theorem dX6_gap_2 : decode cX6_gap 2 = .ok (.invokevirtual 179, 3) := by decide +kernel
theorem dL_gap_12 : decode cL_gap 12 = .ok (.astore_n 3, 1) := by decide +kernel
theorem dL_gap_13 : decode cL_gap 13 = .ok (.iconst 1, 1) := by decide +kernel
theorem dL_gap_14 : decode cL_gap 14 = .ok (.ireturn, 1) := by decide +kernel
theorem dL_law_1144 : decode cL_law 1144 = .ok (.istore 6, 2) := by decide +kernel
theorem dL_law_1146 : decode cL_law 1146 = .ok (.aload_n 2, 1) := by decide +kernel
theorem dL_law_1147 : decode cL_law 1147 = .ok (.aload_n 0, 1) := by decide +kernel
theorem dL_law_1148 : decode cL_law 1148 = .ok (.iload 5, 2) := by decide +kernel
theorem dL_law_1150 : decode cL_law 1150 = .ok (.iconst 1, 1) := by decide +kernel
theorem dL_law_1151 : decode cL_law 1151 = .ok (.iadd, 1) := by decide +kernel
theorem dL_law_1152 : decode cL_law 1152 = .ok (.iaload, 1) := by decide +kernel
theorem dL_law_1153 : decode cL_law 1153 = .ok (.invokevirtual 182, 3) := by decide +kernel
theorem dX12_gap_0 : decode cX12_gap 0 = .ok (.aload_n 0, 1) := by decide +kernel
theorem dX12_gap_1 : decode cX12_gap 1 = .ok (.iload_n 1, 1) := by decide +kernel
theorem dX12_gap_2 : decode cX12_gap 2 = .ok (.invokevirtual 363, 3) := by decide +kernel
theorem dX12_gap_5 : decode cX12_gap 5 = .ok (.ifCond .eq 25, 3) := by decide +kernel
theorem dX12_gap_30 : decode cX12_gap 30 = .ok (.aload_n 0, 1) := by decide +kernel
theorem dX12_gap_31 : decode cX12_gap 31 = .ok (.iconst 1, 1) := by decide +kernel
theorem dX12_gap_32 : decode cX12_gap 32 = .ok (.invokevirtual 289, 3) := by decide +kernel
theorem dX12_gap_35 : decode cX12_gap 35 = .ok (.ireturn, 1) := by decide +kernel
theorem dL_law_1156 : decode cL_law 1156 = .ok (.istore 7, 2) := by decide +kernel
theorem dL_law_1158 : decode cL_law 1158 = .ok (.aload_n 2, 1) := by decide +kernel
theorem dL_law_1159 : decode cL_law 1159 = .ok (.invokevirtual 125, 3) := by decide +kernel
theorem dL_law_1162 : decode cL_law 1162 = .ok (.iload 6, 2) := by decide +kernel
theorem dL_law_1164 : decode cL_law 1164 = .ok (.if_icmp .eq 5, 3) := by decide +kernel
theorem dL_law_1169 : decode cL_law 1169 = .ok (.iload 6, 2) := by decide +kernel
theorem dL_law_1171 : decode cL_law 1171 = .ok (.ifCond .ne 15, 3) := by decide +kernel
theorem dL_law_1186 : decode cL_law 1186 = .ok (.goto 777, 3) := by decide +kernel
theorem dL_law_1189 : decode cL_law 1189 = .ok (.aload_n 1, 1) := by decide +kernel
theorem dL_law_1190 : decode cL_law 1190 = .ok (.aload_n 3, 1) := by decide +kernel
theorem dL_law_1191 : decode cL_law 1191 = .ok (.invokestatic 183, 3) := by decide +kernel
theorem dL_widest_0 : decode cL_widest 0 = .ok (.aload_n 1, 1) := by decide +kernel
theorem dL_widest_1 : decode cL_widest 1 = .ok (.iconst 0, 1) := by decide +kernel
theorem dL_widest_2 : decode cL_widest 2 = .ok (.aload_n 0, 1) := by decide +kernel
theorem dL_widest_3 : decode cL_widest 3 = .ok (.invokevirtual 71, 3) := by decide +kernel
theorem dX6_widest_0 : decode cX6_widest 0 = .ok (.aload_n 0, 1) := by decide +kernel
theorem dX6_widest_1 : decode cX6_widest 1 = .ok (.getfield 26, 3) := by decide +kernel
theorem dX6_widest_4 : decode cX6_widest 4 = .ok (.getfield 170, 3) := by decide +kernel
theorem dX6_widest_7 : decode cX6_widest 7 = .ok (.ifCond .ne 13, 3) := by decide +kernel
theorem dX6_widest_10 : decode cX6_widest 10 = .ok (.new 142, 3) := by decide +kernel
theorem dX6_widest_13 : decode cX6_widest 13 = .ok (.dup, 1) := by decide +kernel
theorem dX6_widest_14 : decode cX6_widest 14 = .ok (.ldc 206, 2) := by decide +kernel
theorem dX6_widest_16 : decode cX6_widest 16 = .ok (.invokespecial 146, 3) := by decide +kernel
theorem dX6_widest_19 : decode cX6_widest 19 = .ok (.athrow, 1) := by decide +kernel
theorem dL_widest_11 : decode cL_widest 11 = .ok (.astore_n 2, 1) := by decide +kernel
theorem dL_widest_12 : decode cL_widest 12 = .ok (.iconst 1, 1) := by decide +kernel
theorem dL_widest_13 : decode cL_widest 13 = .ok (.ireturn, 1) := by decide +kernel
theorem dL_law_1194 : decode cL_law 1194 = .ok (.istore 6, 2) := by decide +kernel
theorem dL_law_1196 : decode cL_law 1196 = .ok (.aload_n 2, 1) := by decide +kernel
theorem dL_law_1197 : decode cL_law 1197 = .ok (.invokevirtual 185, 3) := by decide +kernel
theorem dX12_widest_0 : decode cX12_widest 0 = .ok (.iconst (-1), 1) := by decide +kernel
theorem dX12_widest_1 : decode cX12_widest 1 = .ok (.istore_n 1, 1) := by decide +kernel
theorem dX12_widest_2 : decode cX12_widest 2 = .ok (.iconst 0, 1) := by decide +kernel
theorem dX12_widest_3 : decode cX12_widest 3 = .ok (.istore_n 2, 1) := by decide +kernel
theorem dX12_widest_4 : decode cX12_widest 4 = .ok (.iload_n 2, 1) := by decide +kernel
theorem dX12_widest_5 : decode cX12_widest 5 = .ok (.aload_n 0, 1) := by decide +kernel
theorem dX12_widest_6 : decode cX12_widest 6 = .ok (.getfield 19, 3) := by decide +kernel
theorem dX12_widest_9 : decode cX12_widest 9 = .ok (.invokevirtual 125, 3) := by decide +kernel
theorem dX12_widest_12 : decode cX12_widest 12 = .ok (.if_icmp .ge 49, 3) := by decide +kernel
theorem dX12_widest_61 : decode cX12_widest 61 = .ok (.iload_n 1, 1) := by decide +kernel
theorem dX12_widest_62 : decode cX12_widest 62 = .ok (.iconst (-1), 1) := by decide +kernel
theorem dX12_widest_63 : decode cX12_widest 63 = .ok (.if_icmp .ne 11, 3) := by decide +kernel
theorem dX12_widest_66 : decode cX12_widest 66 = .ok (.aload_n 0, 1) := by decide +kernel
theorem dX12_widest_67 : decode cX12_widest 67 = .ok (.iconst 1, 1) := by decide +kernel
theorem dX12_widest_68 : decode cX12_widest 68 = .ok (.invokevirtual 289, 3) := by decide +kernel
theorem dX12_widest_71 : decode cX12_widest 71 = .ok (.goto 8, 3) := by decide +kernel
theorem dX12_widest_79 : decode cX12_widest 79 = .ok (.ireturn, 1) := by decide +kernel
theorem dL_law_1200 : decode cL_law 1200 = .ok (.istore 7, 2) := by decide +kernel
theorem dL_law_1202 : decode cL_law 1202 = .ok (.aload_n 2, 1) := by decide +kernel
theorem dL_law_1203 : decode cL_law 1203 = .ok (.invokevirtual 125, 3) := by decide +kernel
theorem dL_law_1206 : decode cL_law 1206 = .ok (.iload 6, 2) := by decide +kernel
theorem dL_law_1208 : decode cL_law 1208 = .ok (.if_icmp .eq 5, 3) := by decide +kernel
theorem dL_law_1213 : decode cL_law 1213 = .ok (.iload 6, 2) := by decide +kernel
theorem dL_law_1215 : decode cL_law 1215 = .ok (.ifCond .ne 15, 3) := by decide +kernel
theorem dL_law_1230 : decode cL_law 1230 = .ok (.goto 733, 3) := by decide +kernel
theorem dL_law_1233 : decode cL_law 1233 = .ok (.aload_n 1, 1) := by decide +kernel
theorem dL_law_1234 : decode cL_law 1234 = .ok (.aload_n 0, 1) := by decide +kernel
theorem dL_law_1235 : decode cL_law 1235 = .ok (.iload 5, 2) := by decide +kernel
theorem dL_law_1237 : decode cL_law 1237 = .ok (.iconst 1, 1) := by decide +kernel
theorem dL_law_1238 : decode cL_law 1238 = .ok (.iadd, 1) := by decide +kernel
theorem dL_law_1239 : decode cL_law 1239 = .ok (.iaload, 1) := by decide +kernel
theorem dL_law_1240 : decode cL_law 1240 = .ok (.aload_n 0, 1) := by decide +kernel
theorem dL_law_1241 : decode cL_law 1241 = .ok (.iload 5, 2) := by decide +kernel
theorem dL_law_1243 : decode cL_law 1243 = .ok (.iconst 2, 1) := by decide +kernel
theorem dL_law_1244 : decode cL_law 1244 = .ok (.iadd, 1) := by decide +kernel
theorem dL_law_1245 : decode cL_law 1245 = .ok (.iaload, 1) := by decide +kernel
theorem dL_law_1246 : decode cL_law 1246 = .ok (.aload_n 0, 1) := by decide +kernel
theorem dL_law_1247 : decode cL_law 1247 = .ok (.iload 5, 2) := by decide +kernel
theorem dL_law_1249 : decode cL_law 1249 = .ok (.iconst 3, 1) := by decide +kernel
theorem dL_law_1250 : decode cL_law 1250 = .ok (.iadd, 1) := by decide +kernel
theorem dL_law_1251 : decode cL_law 1251 = .ok (.iaload, 1) := by decide +kernel
theorem dL_law_1252 : decode cL_law 1252 = .ok (.aload_n 3, 1) := by decide +kernel
theorem dL_law_1253 : decode cL_law 1253 = .ok (.invokestatic 186, 3) := by decide +kernel
theorem dL_stick_0 : decode cL_stick 0 = .ok (.aload 4, 2) := by decide +kernel
theorem dL_stick_2 : decode cL_stick 2 = .ok (.iconst 0, 1) := by decide +kernel
theorem dL_stick_3 : decode cL_stick 3 = .ok (.aload_n 0, 1) := by decide +kernel
theorem dL_stick_4 : decode cL_stick 4 = .ok (.iload_n 1, 1) := by decide +kernel
theorem dL_stick_5 : decode cL_stick 5 = .ok (.iload_n 2, 1) := by decide +kernel
theorem dL_stick_6 : decode cL_stick 6 = .ok (.iload_n 3, 1) := by decide +kernel
theorem dL_stick_7 : decode cL_stick 7 = .ok (.invokevirtual 74, 3) := by decide +kernel
theorem dX6_stick_0 : decode cX6_stick 0 = .ok (.iload_n 1, 1) := by decide +kernel
theorem dX6_stick_1 : decode cX6_stick 1 = .ok (.iconst 1, 1) := by decide +kernel
theorem dX6_stick_2 : decode cX6_stick 2 = .ok (.sipush 900, 3) := by decide +kernel
theorem dX6_stick_5 : decode cX6_stick 5 = .ok (.invokestatic 44, 3) := by decide +kernel
theorem dX6_stick_8 : decode cX6_stick 8 = .ok (.ifCond .eq 11, 3) := by decide +kernel
theorem dX6_stick_19 : decode cX6_stick 19 = .ok (.new 56, 3) := by decide +kernel
theorem dX6_stick_22 : decode cX6_stick 22 = .ok (.dup, 1) := by decide +kernel
theorem dX6_stick_23 : decode cX6_stick 23 = .ok (.ldc 208, 2) := by decide +kernel
theorem dX6_stick_25 : decode cX6_stick 25 = .ok (.invokespecial 60, 3) := by decide +kernel
theorem dX6_stick_28 : decode cX6_stick 28 = .ok (.athrow, 1) := by decide +kernel
theorem dL_stick_15 : decode cL_stick 15 = .ok (.astore 5, 2) := by decide +kernel
theorem dL_stick_17 : decode cL_stick 17 = .ok (.iconst 1, 1) := by decide +kernel
theorem dL_stick_18 : decode cL_stick 18 = .ok (.ireturn, 1) := by decide +kernel
theorem dL_law_1256 : decode cL_law 1256 = .ok (.istore 6, 2) := by decide +kernel
theorem dL_law_1258 : decode cL_law 1258 = .ok (.aload_n 2, 1) := by decide +kernel
theorem dL_law_1259 : decode cL_law 1259 = .ok (.aload_n 0, 1) := by decide +kernel
theorem dL_law_1260 : decode cL_law 1260 = .ok (.iload 5, 2) := by decide +kernel
theorem dL_law_1262 : decode cL_law 1262 = .ok (.iconst 1, 1) := by decide +kernel
theorem dL_law_1263 : decode cL_law 1263 = .ok (.iadd, 1) := by decide +kernel
theorem dL_law_1264 : decode cL_law 1264 = .ok (.iaload, 1) := by decide +kernel
theorem dL_law_1265 : decode cL_law 1265 = .ok (.aload_n 0, 1) := by decide +kernel
theorem dL_law_1266 : decode cL_law 1266 = .ok (.iload 5, 2) := by decide +kernel
theorem dL_law_1268 : decode cL_law 1268 = .ok (.iconst 2, 1) := by decide +kernel
theorem dL_law_1269 : decode cL_law 1269 = .ok (.iadd, 1) := by decide +kernel
theorem dL_law_1270 : decode cL_law 1270 = .ok (.iaload, 1) := by decide +kernel
theorem dL_law_1271 : decode cL_law 1271 = .ok (.aload_n 0, 1) := by decide +kernel
theorem dL_law_1272 : decode cL_law 1272 = .ok (.iload 5, 2) := by decide +kernel
theorem dL_law_1274 : decode cL_law 1274 = .ok (.iconst 3, 1) := by decide +kernel
theorem dL_law_1275 : decode cL_law 1275 = .ok (.iadd, 1) := by decide +kernel
theorem dL_law_1276 : decode cL_law 1276 = .ok (.iaload, 1) := by decide +kernel
theorem dL_law_1277 : decode cL_law 1277 = .ok (.invokevirtual 188, 3) := by decide +kernel
theorem dX12_stick_0 : decode cX12_stick 0 = .ok (.iload_n 1, 1) := by decide +kernel
theorem dX12_stick_1 : decode cX12_stick 1 = .ok (.i2l, 1) := by decide +kernel
theorem dX12_stick_2 : decode cX12_stick 2 = .ok (.iconst 1, 1) := by decide +kernel
theorem dX12_stick_3 : decode cX12_stick 3 = .ok (.sipush 900, 3) := by decide +kernel
theorem dX12_stick_6 : decode cX12_stick 6 = .ok (.invokestatic 285, 3) := by decide +kernel
theorem dX12_stick_9 : decode cX12_stick 9 = .ok (.ifCond .eq 25, 3) := by decide +kernel
theorem dX12_stick_34 : decode cX12_stick 34 = .ok (.aload_n 0, 1) := by decide +kernel
theorem dX12_stick_35 : decode cX12_stick 35 = .ok (.iconst 1, 1) := by decide +kernel
theorem dX12_stick_36 : decode cX12_stick 36 = .ok (.invokevirtual 289, 3) := by decide +kernel
theorem dX12_stick_39 : decode cX12_stick 39 = .ok (.ireturn, 1) := by decide +kernel
theorem dL_law_1280 : decode cL_law 1280 = .ok (.istore 7, 2) := by decide +kernel
theorem dL_law_1282 : decode cL_law 1282 = .ok (.aload_n 2, 1) := by decide +kernel
theorem dL_law_1283 : decode cL_law 1283 = .ok (.invokevirtual 125, 3) := by decide +kernel
theorem dL_law_1286 : decode cL_law 1286 = .ok (.iload 6, 2) := by decide +kernel
theorem dL_law_1288 : decode cL_law 1288 = .ok (.if_icmp .eq 5, 3) := by decide +kernel
theorem dL_law_1293 : decode cL_law 1293 = .ok (.iload 6, 2) := by decide +kernel
theorem dL_law_1295 : decode cL_law 1295 = .ok (.ifCond .ne 15, 3) := by decide +kernel
theorem dL_law_1310 : decode cL_law 1310 = .ok (.goto 653, 3) := by decide +kernel
theorem dX6_stick_11 : decode cX6_stick 11 = .ok (.iload_n 2, 1) := by decide +kernel
theorem dX6_stick_12 : decode cX6_stick 12 = .ok (.iload_n 3, 1) := by decide +kernel
theorem dX6_stick_13 : decode cX6_stick 13 = .ok (.invokestatic 88, 3) := by decide +kernel
theorem dX6_isSection_0 : decode cX6_isSection 0 = .ok (.iload_n 0, 1) := by decide +kernel
theorem dX6_isSection_1 : decode cX6_isSection 1 = .ok (.bipush 6, 2) := by decide +kernel
theorem dX6_isSection_3 : decode cX6_isSection 3 = .ok (.bipush 40, 2) := by decide +kernel
theorem dX6_isSection_5 : decode cX6_isSection 5 = .ok (.invokestatic 44, 3) := by decide +kernel
theorem dX6_isSection_8 : decode cX6_isSection 8 = .ok (.ifCond .eq 16, 3) := by decide +kernel
theorem dX6_isSection_24 : decode cX6_isSection 24 = .ok (.iconst 0, 1) := by decide +kernel
theorem dX6_isSection_25 : decode cX6_isSection 25 = .ok (.ireturn, 1) := by decide +kernel
theorem dX6_stick_16 : decode cX6_stick 16 = .ok (.ifCond .ne 13, 3) := by decide +kernel
theorem dX12_stick_12 : decode cX12_stick 12 = .ok (.iload_n 2, 1) := by decide +kernel
theorem dX12_stick_13 : decode cX12_stick 13 = .ok (.i2l, 1) := by decide +kernel
theorem dX12_stick_14 : decode cX12_stick 14 = .ok (.bipush 6, 2) := by decide +kernel
theorem dX12_stick_16 : decode cX12_stick 16 = .ok (.bipush 40, 2) := by decide +kernel
theorem dX12_stick_18 : decode cX12_stick 18 = .ok (.invokestatic 285, 3) := by decide +kernel
theorem dX12_stick_21 : decode cX12_stick 21 = .ok (.ifCond .eq 13, 3) := by decide +kernel
theorem dX6_isSection_11 : decode cX6_isSection 11 = .ok (.iload_n 1, 1) := by decide +kernel
theorem dX6_isSection_12 : decode cX6_isSection 12 = .ok (.iconst 0, 1) := by decide +kernel
theorem dX6_isSection_13 : decode cX6_isSection 13 = .ok (.iconst 3, 1) := by decide +kernel
theorem dX6_isSection_14 : decode cX6_isSection 14 = .ok (.invokestatic 44, 3) := by decide +kernel
theorem dX6_isSection_17 : decode cX6_isSection 17 = .ok (.ifCond .eq 7, 3) := by decide +kernel
theorem dX12_stick_24 : decode cX12_stick 24 = .ok (.iload_n 3, 1) := by decide +kernel
theorem dX12_stick_25 : decode cX12_stick 25 = .ok (.i2l, 1) := by decide +kernel
theorem dX12_stick_26 : decode cX12_stick 26 = .ok (.iconst 0, 1) := by decide +kernel
theorem dX12_stick_27 : decode cX12_stick 27 = .ok (.iconst 3, 1) := by decide +kernel
theorem dX12_stick_28 : decode cX12_stick 28 = .ok (.invokestatic 285, 3) := by decide +kernel
theorem dX12_stick_31 : decode cX12_stick 31 = .ok (.ifCond .ne 9, 3) := by decide +kernel
theorem dX6_isSection_20 : decode cX6_isSection 20 = .ok (.iconst 1, 1) := by decide +kernel
theorem dX6_isSection_21 : decode cX6_isSection 21 = .ok (.goto 4, 3) := by decide +kernel
theorem dX6_stick_29 : decode cX6_stick 29 = .ok (.aload_n 0, 1) := by decide +kernel
theorem dX6_stick_30 : decode cX6_stick 30 = .ok (.getfield 33, 3) := by decide +kernel
theorem dX6_stick_33 : decode cX6_stick 33 = .ok (.getfield 210, 3) := by decide +kernel
theorem dX6_stick_36 : decode cX6_stick 36 = .ok (.iconst 5, 1) := by decide +kernel
theorem dX6_stick_37 : decode cX6_stick 37 = .ok (.if_icmp .lt 13, 3) := by decide +kernel
theorem dX6_stick_50 : decode cX6_stick 50 = .ok (.aload_n 0, 1) := by decide +kernel
theorem dX6_stick_51 : decode cX6_stick 51 = .ok (.getfield 33, 3) := by decide +kernel
theorem dX6_stick_54 : decode cX6_stick 54 = .ok (.iconst 0, 1) := by decide +kernel
theorem dX6_stick_55 : decode cX6_stick 55 = .ok (.putfield 98, 3) := by decide +kernel
theorem dX6_stick_58 : decode cX6_stick 58 = .ok (.aload_n 0, 1) := by decide +kernel
theorem dX6_stick_59 : decode cX6_stick 59 = .ok (.getfield 33, 3) := by decide +kernel
theorem dX6_stick_62 : decode cX6_stick 62 = .ok (.iload_n 1, 1) := by decide +kernel
theorem dX6_stick_63 : decode cX6_stick 63 = .ok (.iload_n 2, 1) := by decide +kernel
theorem dX6_stick_64 : decode cX6_stick 64 = .ok (.iload_n 3, 1) := by decide +kernel
theorem dX6_stick_65 : decode cX6_stick 65 = .ok (.invokevirtual 213, 3) := by decide +kernel
theorem dX0_add_0 : decode cX0_add 0 = .ok (.aload_n 0, 1) := by decide +kernel
theorem dX0_add_1 : decode cX0_add 1 = .ok (.getfield 34, 3) := by decide +kernel
theorem dX0_add_4 : decode cX0_add 4 = .ok (.istore 4, 2) := by decide +kernel
theorem dX0_add_6 : decode cX0_add 6 = .ok (.aload_n 0, 1) := by decide +kernel
theorem dX0_add_7 : decode cX0_add 7 = .ok (.getfield 15, 3) := by decide +kernel
theorem dX0_add_10 : decode cX0_add 10 = .ok (.iload 4, 2) := by decide +kernel
theorem dX0_add_12 : decode cX0_add 12 = .ok (.iload_n 1, 1) := by decide +kernel
theorem dX0_add_13 : decode cX0_add 13 = .ok (.iastore, 1) := by decide +kernel
theorem dX0_add_14 : decode cX0_add 14 = .ok (.aload_n 0, 1) := by decide +kernel
theorem dX0_add_15 : decode cX0_add 15 = .ok (.getfield 18, 3) := by decide +kernel
theorem dX0_add_18 : decode cX0_add 18 = .ok (.iload 4, 2) := by decide +kernel
theorem dX0_add_20 : decode cX0_add 20 = .ok (.iload_n 2, 1) := by decide +kernel
theorem dX0_add_21 : decode cX0_add 21 = .ok (.iastore, 1) := by decide +kernel
theorem dX0_add_22 : decode cX0_add 22 = .ok (.aload_n 0, 1) := by decide +kernel
theorem dX0_add_23 : decode cX0_add 23 = .ok (.getfield 21, 3) := by decide +kernel
theorem dX0_add_26 : decode cX0_add 26 = .ok (.iload 4, 2) := by decide +kernel
theorem dX0_add_28 : decode cX0_add 28 = .ok (.iload_n 3, 1) := by decide +kernel
theorem dX0_add_29 : decode cX0_add 29 = .ok (.iastore, 1) := by decide +kernel
theorem dX0_add_30 : decode cX0_add 30 = .ok (.aload_n 0, 1) := by decide +kernel
theorem dX0_add_31 : decode cX0_add 31 = .ok (.iload 4, 2) := by decide +kernel
theorem dX0_add_33 : decode cX0_add 33 = .ok (.iconst 1, 1) := by decide +kernel
theorem dX0_add_34 : decode cX0_add 34 = .ok (.iadd, 1) := by decide +kernel
theorem dX0_add_35 : decode cX0_add 35 = .ok (.putfield 34, 3) := by decide +kernel
theorem dX0_add_38 : decode cX0_add 38 = .ok (.iload 4, 2) := by decide +kernel
theorem dX0_add_40 : decode cX0_add 40 = .ok (.ireturn, 1) := by decide +kernel
theorem dX6_stick_68 : decode cX6_stick 68 = .ok (.ireturn, 1) := by decide +kernel
theorem dL_stick_10 : decode cL_stick 10 = .ok (.i2l, 1) := by decide +kernel
theorem dL_stick_11 : decode cL_stick 11 = .ok (.lastore, 1) := by decide +kernel
theorem dL_stick_12 : decode cL_stick 12 = .ok (.goto 11, 3) := by decide +kernel
theorem dL_stick_23 : decode cL_stick 23 = .ok (.iconst 0, 1) := by decide +kernel
theorem dL_stick_24 : decode cL_stick 24 = .ok (.ireturn, 1) := by decide +kernel
theorem dX12_stick_40 : decode cX12_stick 40 = .ok (.aload_n 0, 1) := by decide +kernel
theorem dX12_stick_41 : decode cX12_stick 41 = .ok (.getfield 22, 3) := by decide +kernel
theorem dX12_stick_44 : decode cX12_stick 44 = .ok (.invokevirtual 125, 3) := by decide +kernel
theorem dX12_stick_47 : decode cX12_stick 47 = .ok (.iconst 5, 1) := by decide +kernel
theorem dX12_stick_48 : decode cX12_stick 48 = .ok (.if_icmp .ne 9, 3) := by decide +kernel
theorem dX12_stick_57 : decode cX12_stick 57 = .ok (.aload_n 0, 1) := by decide +kernel
theorem dX12_stick_58 : decode cX12_stick 58 = .ok (.getfield 22, 3) := by decide +kernel
theorem dX12_stick_61 : decode cX12_stick 61 = .ok (.new 239, 3) := by decide +kernel
theorem dX12_stick_64 : decode cX12_stick 64 = .ok (.dup, 1) := by decide +kernel
theorem dX12_stick_65 : decode cX12_stick 65 = .ok (.iload_n 1, 1) := by decide +kernel
theorem dX12_stick_66 : decode cX12_stick 66 = .ok (.iload_n 2, 1) := by decide +kernel
theorem dX12_stick_67 : decode cX12_stick 67 = .ok (.iload_n 3, 1) := by decide +kernel
theorem dX12_stick_68 : decode cX12_stick 68 = .ok (.invokespecial 386, 3) := by decide +kernel
theorem dX10_init_0 : decode cX10_init 0 = .ok (.aload_n 0, 1) := by decide +kernel
theorem dX10_init_1 : decode cX10_init 1 = .ok (.invokespecial 1, 3) := by decide +kernel
theorem dX10_init_4 : decode cX10_init 4 = .ok (.aload_n 0, 1) := by decide +kernel
theorem dX10_init_5 : decode cX10_init 5 = .ok (.iload_n 1, 1) := by decide +kernel
theorem dX10_init_6 : decode cX10_init 6 = .ok (.putfield 7, 3) := by decide +kernel
theorem dX10_init_9 : decode cX10_init 9 = .ok (.aload_n 0, 1) := by decide +kernel
theorem dX10_init_10 : decode cX10_init 10 = .ok (.iload_n 2, 1) := by decide +kernel
theorem dX10_init_11 : decode cX10_init 11 = .ok (.putfield 13, 3) := by decide +kernel
theorem dX10_init_14 : decode cX10_init 14 = .ok (.aload_n 0, 1) := by decide +kernel
theorem dX10_init_15 : decode cX10_init 15 = .ok (.iload_n 3, 1) := by decide +kernel
theorem dX10_init_16 : decode cX10_init 16 = .ok (.putfield 16, 3) := by decide +kernel
theorem dX10_init_19 : decode cX10_init 19 = .ok (.return_, 1) := by decide +kernel
theorem dX12_stick_71 : decode cX12_stick 71 = .ok (.invokevirtual 295, 3) := by decide +kernel
theorem dX12_stick_74 : decode cX12_stick 74 = .ok (.pop, 1) := by decide +kernel
theorem dX12_stick_75 : decode cX12_stick 75 = .ok (.aload_n 0, 1) := by decide +kernel
theorem dX12_stick_76 : decode cX12_stick 76 = .ok (.iconst 0, 1) := by decide +kernel
theorem dX12_stick_77 : decode cX12_stick 77 = .ok (.putfield 84, 3) := by decide +kernel
theorem dX12_stick_80 : decode cX12_stick 80 = .ok (.aload_n 0, 1) := by decide +kernel
theorem dX12_stick_81 : decode cX12_stick 81 = .ok (.aload_n 0, 1) := by decide +kernel
theorem dX12_stick_82 : decode cX12_stick 82 = .ok (.getfield 22, 3) := by decide +kernel
theorem dX12_stick_85 : decode cX12_stick 85 = .ok (.invokevirtual 125, 3) := by decide +kernel
theorem dX12_stick_88 : decode cX12_stick 88 = .ok (.iconst 1, 1) := by decide +kernel
theorem dX12_stick_89 : decode cX12_stick 89 = .ok (.isub, 1) := by decide +kernel
theorem dX12_stick_90 : decode cX12_stick 90 = .ok (.invokevirtual 302, 3) := by decide +kernel
theorem dX12_stick_93 : decode cX12_stick 93 = .ok (.ireturn, 1) := by decide +kernel
theorem dL_law_1298 : decode cL_law 1298 = .ok (.aload_n 3, 1) := by decide +kernel
theorem dL_law_1299 : decode cL_law 1299 = .ok (.iconst 0, 1) := by decide +kernel
theorem dL_law_1300 : decode cL_law 1300 = .ok (.laload, 1) := by decide +kernel
theorem dL_law_1301 : decode cL_law 1301 = .ok (.iload 7, 2) := by decide +kernel
theorem dL_law_1303 : decode cL_law 1303 = .ok (.i2l, 1) := by decide +kernel
theorem dL_law_1304 : decode cL_law 1304 = .ok (.lcmp, 1) := by decide +kernel
theorem dL_law_1305 : decode cL_law 1305 = .ok (.ifCond .eq 5, 3) := by decide +kernel
theorem dL_law_1313 : decode cL_law 1313 = .ok (.aload_n 1, 1) := by decide +kernel
theorem dL_law_1314 : decode cL_law 1314 = .ok (.aload_n 0, 1) := by decide +kernel
theorem dL_law_1315 : decode cL_law 1315 = .ok (.iload 5, 2) := by decide +kernel
theorem dL_law_1317 : decode cL_law 1317 = .ok (.iconst 1, 1) := by decide +kernel
theorem dL_law_1318 : decode cL_law 1318 = .ok (.iadd, 1) := by decide +kernel
theorem dL_law_1319 : decode cL_law 1319 = .ok (.iaload, 1) := by decide +kernel
theorem dL_law_1320 : decode cL_law 1320 = .ok (.aload_n 3, 1) := by decide +kernel
theorem dL_law_1321 : decode cL_law 1321 = .ok (.invokestatic 189, 3) := by decide +kernel
theorem dL_piece_0 : decode cL_piece 0 = .ok (.aload_n 2, 1) := by decide +kernel
theorem dL_piece_1 : decode cL_piece 1 = .ok (.iconst 0, 1) := by decide +kernel
theorem dL_piece_2 : decode cL_piece 2 = .ok (.aload_n 0, 1) := by decide +kernel
theorem dL_piece_3 : decode cL_piece 3 = .ok (.iload_n 1, 1) := by decide +kernel
theorem dL_piece_4 : decode cL_piece 4 = .ok (.invokevirtual 77, 3) := by decide +kernel
theorem dX6_piece_0 : decode cX6_piece 0 = .ok (.aload_n 0, 1) := by decide +kernel
theorem dX6_piece_1 : decode cX6_piece 1 = .ok (.iload_n 1, 1) := by decide +kernel
theorem dX6_piece_2 : decode cX6_piece 2 = .ok (.invokevirtual 118, 3) := by decide +kernel
theorem dL_piece_12 : decode cL_piece 12 = .ok (.astore_n 3, 1) := by decide +kernel
theorem dL_piece_13 : decode cL_piece 13 = .ok (.iconst 1, 1) := by decide +kernel
theorem dL_piece_14 : decode cL_piece 14 = .ok (.ireturn, 1) := by decide +kernel
theorem dL_law_1324 : decode cL_law 1324 = .ok (.istore 6, 2) := by decide +kernel
theorem dL_law_1326 : decode cL_law 1326 = .ok (.aload_n 2, 1) := by decide +kernel
theorem dL_law_1327 : decode cL_law 1327 = .ok (.aload_n 0, 1) := by decide +kernel
theorem dL_law_1328 : decode cL_law 1328 = .ok (.iload 5, 2) := by decide +kernel
theorem dL_law_1330 : decode cL_law 1330 = .ok (.iconst 1, 1) := by decide +kernel
theorem dL_law_1331 : decode cL_law 1331 = .ok (.iadd, 1) := by decide +kernel
theorem dL_law_1332 : decode cL_law 1332 = .ok (.iaload, 1) := by decide +kernel
theorem dL_law_1333 : decode cL_law 1333 = .ok (.invokevirtual 191, 3) := by decide +kernel
theorem dX12_piece_0 : decode cX12_piece 0 = .ok (.aload_n 0, 1) := by decide +kernel
theorem dX12_piece_1 : decode cX12_piece 1 = .ok (.iload_n 1, 1) := by decide +kernel
theorem dX12_piece_2 : decode cX12_piece 2 = .ok (.invokevirtual 314, 3) := by decide +kernel
theorem dX12_piece_5 : decode cX12_piece 5 = .ok (.ifCond .eq 15, 3) := by decide +kernel
theorem dX12_piece_20 : decode cX12_piece 20 = .ok (.aload_n 0, 1) := by decide +kernel
theorem dX12_piece_21 : decode cX12_piece 21 = .ok (.iconst 1, 1) := by decide +kernel
theorem dX12_piece_22 : decode cX12_piece 22 = .ok (.invokevirtual 289, 3) := by decide +kernel
theorem dX12_piece_25 : decode cX12_piece 25 = .ok (.ireturn, 1) := by decide +kernel
theorem dL_law_1336 : decode cL_law 1336 = .ok (.istore 7, 2) := by decide +kernel
theorem dL_law_1338 : decode cL_law 1338 = .ok (.aload_n 2, 1) := by decide +kernel
theorem dL_law_1339 : decode cL_law 1339 = .ok (.invokevirtual 125, 3) := by decide +kernel
theorem dL_law_1342 : decode cL_law 1342 = .ok (.iload 6, 2) := by decide +kernel
theorem dL_law_1344 : decode cL_law 1344 = .ok (.if_icmp .eq 5, 3) := by decide +kernel
theorem dL_law_1349 : decode cL_law 1349 = .ok (.iload 6, 2) := by decide +kernel
theorem dL_law_1351 : decode cL_law 1351 = .ok (.ifCond .ne 15, 3) := by decide +kernel
theorem dL_law_1366 : decode cL_law 1366 = .ok (.goto 597, 3) := by decide +kernel
theorem dL_law_1369 : decode cL_law 1369 = .ok (.aload_n 1, 1) := by decide +kernel
theorem dL_law_1370 : decode cL_law 1370 = .ok (.aload_n 0, 1) := by decide +kernel
theorem dL_law_1371 : decode cL_law 1371 = .ok (.iload 5, 2) := by decide +kernel
theorem dL_law_1373 : decode cL_law 1373 = .ok (.iconst 1, 1) := by decide +kernel
theorem dL_law_1374 : decode cL_law 1374 = .ok (.iadd, 1) := by decide +kernel
theorem dL_law_1375 : decode cL_law 1375 = .ok (.iaload, 1) := by decide +kernel
theorem dL_law_1376 : decode cL_law 1376 = .ok (.aload_n 3, 1) := by decide +kernel
theorem dL_law_1377 : decode cL_law 1377 = .ok (.invokestatic 192, 3) := by decide +kernel
theorem dL_stickOf_0 : decode cL_stickOf 0 = .ok (.aload_n 2, 1) := by decide +kernel
theorem dL_stickOf_1 : decode cL_stickOf 1 = .ok (.iconst 0, 1) := by decide +kernel
theorem dL_stickOf_2 : decode cL_stickOf 2 = .ok (.aload_n 0, 1) := by decide +kernel
theorem dL_stickOf_3 : decode cL_stickOf 3 = .ok (.iload_n 1, 1) := by decide +kernel
theorem dL_stickOf_4 : decode cL_stickOf 4 = .ok (.invokevirtual 80, 3) := by decide +kernel
theorem dX6_stickOf_0 : decode cX6_stickOf 0 = .ok (.aload_n 0, 1) := by decide +kernel
theorem dX6_stickOf_1 : decode cX6_stickOf 1 = .ok (.iload_n 1, 1) := by decide +kernel
theorem dX6_stickOf_2 : decode cX6_stickOf 2 = .ok (.invokevirtual 118, 3) := by decide +kernel
theorem dL_stickOf_12 : decode cL_stickOf 12 = .ok (.astore_n 3, 1) := by decide +kernel
theorem dL_stickOf_13 : decode cL_stickOf 13 = .ok (.iconst 1, 1) := by decide +kernel
theorem dL_stickOf_14 : decode cL_stickOf 14 = .ok (.ireturn, 1) := by decide +kernel
theorem dL_law_1380 : decode cL_law 1380 = .ok (.istore 6, 2) := by decide +kernel
theorem dL_law_1382 : decode cL_law 1382 = .ok (.aload_n 2, 1) := by decide +kernel
theorem dL_law_1383 : decode cL_law 1383 = .ok (.aload_n 0, 1) := by decide +kernel
theorem dL_law_1384 : decode cL_law 1384 = .ok (.iload 5, 2) := by decide +kernel
theorem dL_law_1386 : decode cL_law 1386 = .ok (.iconst 1, 1) := by decide +kernel
theorem dL_law_1387 : decode cL_law 1387 = .ok (.iadd, 1) := by decide +kernel
theorem dL_law_1388 : decode cL_law 1388 = .ok (.iaload, 1) := by decide +kernel
theorem dL_law_1389 : decode cL_law 1389 = .ok (.invokevirtual 194, 3) := by decide +kernel
theorem dX12_stickOf_0 : decode cX12_stickOf 0 = .ok (.aload_n 0, 1) := by decide +kernel
theorem dX12_stickOf_1 : decode cX12_stickOf 1 = .ok (.iload_n 1, 1) := by decide +kernel
theorem dX12_stickOf_2 : decode cX12_stickOf 2 = .ok (.invokevirtual 314, 3) := by decide +kernel
theorem dX12_stickOf_5 : decode cX12_stickOf 5 = .ok (.ifCond .ne 9, 3) := by decide +kernel
theorem dX12_stickOf_8 : decode cX12_stickOf 8 = .ok (.aload_n 0, 1) := by decide +kernel
theorem dX12_stickOf_9 : decode cX12_stickOf 9 = .ok (.iconst 1, 1) := by decide +kernel
theorem dX12_stickOf_10 : decode cX12_stickOf 10 = .ok (.invokevirtual 289, 3) := by decide +kernel
theorem dX12_stickOf_13 : decode cX12_stickOf 13 = .ok (.ireturn, 1) := by decide +kernel
theorem dL_law_1392 : decode cL_law 1392 = .ok (.istore 7, 2) := by decide +kernel
theorem dL_law_1394 : decode cL_law 1394 = .ok (.aload_n 2, 1) := by decide +kernel
theorem dL_law_1395 : decode cL_law 1395 = .ok (.invokevirtual 125, 3) := by decide +kernel
theorem dL_law_1398 : decode cL_law 1398 = .ok (.iload 6, 2) := by decide +kernel
theorem dL_law_1400 : decode cL_law 1400 = .ok (.if_icmp .eq 5, 3) := by decide +kernel
theorem dL_law_1405 : decode cL_law 1405 = .ok (.iload 6, 2) := by decide +kernel
theorem dL_law_1407 : decode cL_law 1407 = .ok (.ifCond .ne 15, 3) := by decide +kernel
theorem dL_law_1422 : decode cL_law 1422 = .ok (.goto 541, 3) := by decide +kernel
theorem dL_law_1425 : decode cL_law 1425 = .ok (.aload_n 1, 1) := by decide +kernel
theorem dL_law_1426 : decode cL_law 1426 = .ok (.aload_n 3, 1) := by decide +kernel
theorem dL_law_1427 : decode cL_law 1427 = .ok (.invokestatic 195, 3) := by decide +kernel
theorem dL_wood_0 : decode cL_wood 0 = .ok (.aload_n 1, 1) := by decide +kernel
theorem dL_wood_1 : decode cL_wood 1 = .ok (.iconst 0, 1) := by decide +kernel
theorem dL_wood_2 : decode cL_wood 2 = .ok (.aload_n 0, 1) := by decide +kernel
theorem dL_wood_3 : decode cL_wood 3 = .ok (.invokevirtual 83, 3) := by decide +kernel
theorem dX6_wood_0 : decode cX6_wood 0 = .ok (.aload_n 0, 1) := by decide +kernel
theorem dX6_wood_1 : decode cX6_wood 1 = .ok (.invokevirtual 219, 3) := by decide +kernel
theorem dX6_checkCut_0 : decode cX6_checkCut 0 = .ok (.aload_n 0, 1) := by decide +kernel
theorem dX6_checkCut_1 : decode cX6_checkCut 1 = .ok (.getfield 33, 3) := by decide +kernel
theorem dX6_checkCut_4 : decode cX6_checkCut 4 = .ok (.aload_n 0, 1) := by decide +kernel
theorem dX6_checkCut_5 : decode cX6_checkCut 5 = .ok (.getfield 12, 3) := by decide +kernel
theorem dX6_checkCut_8 : decode cX6_checkCut 8 = .ok (.aload_n 0, 1) := by decide +kernel
theorem dX6_checkCut_9 : decode cX6_checkCut 9 = .ok (.getfield 26, 3) := by decide +kernel
theorem dX6_checkCut_12 : decode cX6_checkCut 12 = .ok (.invokevirtual 290, 3) := by decide +kernel
theorem dX0_find_0 : decode cX0_find 0 = .ok (.aload_n 0, 1) := by decide +kernel
theorem dX0_find_1 : decode cX0_find 1 = .ok (.getfield 49, 3) := by decide +kernel
theorem dX0_find_4 : decode cX0_find 4 = .ok (.ifCond .eq 4, 3) := by decide +kernel
theorem dX0_find_8 : decode cX0_find 8 = .ok (.iconst 1, 1) := by decide +kernel
theorem dX0_find_9 : decode cX0_find 9 = .ok (.aload_n 1, 1) := by decide +kernel
theorem dX0_find_10 : decode cX0_find 10 = .ok (.getfield 53, 3) := by decide +kernel
theorem dX0_find_13 : decode cX0_find 13 = .ok (.ishl, 1) := by decide +kernel
theorem dX0_find_14 : decode cX0_find 14 = .ok (.istore_n 3, 1) := by decide +kernel
theorem dX0_find_15 : decode cX0_find 15 = .ok (.aload_n 0, 1) := by decide +kernel
theorem dX0_find_16 : decode cX0_find 16 = .ok (.aload_n 1, 1) := by decide +kernel
theorem dX0_find_17 : decode cX0_find 17 = .ok (.aload_n 2, 1) := by decide +kernel
theorem dX0_find_18 : decode cX0_find 18 = .ok (.invokevirtual 56, 3) := by decide +kernel
theorem dX0_measure_0 : decode cX0_measure 0 = .ok (.ldc 74, 2) := by decide +kernel
theorem dX0_measure_2 : decode cX0_measure 2 = .ok (.istore_n 3, 1) := by decide +kernel
theorem dX0_measure_3 : decode cX0_measure 3 = .ok (.iconst 0, 1) := by decide +kernel
theorem dX0_measure_4 : decode cX0_measure 4 = .ok (.istore 4, 2) := by decide +kernel
theorem dX0_measure_6 : decode cX0_measure 6 = .ok (.iload 4, 2) := by decide +kernel
theorem dX0_measure_8 : decode cX0_measure 8 = .ok (.aload_n 1, 1) := by decide +kernel
theorem dX0_measure_9 : decode cX0_measure 9 = .ok (.getfield 53, 3) := by decide +kernel
theorem dX0_measure_12 : decode cX0_measure 12 = .ok (.if_icmp .ge 89, 3) := by decide +kernel
theorem dX0_measure_101 : decode cX0_measure 101 = .ok (.return_, 1) := by decide +kernel
theorem dX0_find_21 : decode cX0_find 21 = .ok (.iconst 0, 1) := by decide +kernel
theorem dX0_find_22 : decode cX0_find 22 = .ok (.istore 4, 2) := by decide +kernel
theorem dX0_find_24 : decode cX0_find 24 = .ok (.iload 4, 2) := by decide +kernel
theorem dX0_find_26 : decode cX0_find 26 = .ok (.iload_n 3, 1) := by decide +kernel
theorem dX0_find_27 : decode cX0_find 27 = .ok (.if_icmp .ge 28, 3) := by decide +kernel
theorem dX0_find_30 : decode cX0_find 30 = .ok (.aload_n 0, 1) := by decide +kernel
theorem dX0_find_31 : decode cX0_find 31 = .ok (.getfield 30, 3) := by decide +kernel
theorem dX0_find_34 : decode cX0_find 34 = .ok (.iload 4, 2) := by decide +kernel
theorem dX0_find_36 : decode cX0_find 36 = .ok (.iload 4, 2) := by decide +kernel
theorem dX0_find_38 : decode cX0_find 38 = .ok (.ifCond .ne 7, 3) := by decide +kernel
theorem dX0_find_41 : decode cX0_find 41 = .ok (.lconst 0, 1) := by decide +kernel
theorem dX0_find_42 : decode cX0_find 42 = .ok (.goto 6, 3) := by decide +kernel
theorem dX0_find_48 : decode cX0_find 48 = .ok (.lastore, 1) := by decide +kernel
theorem dX0_find_49 : decode cX0_find 49 = .ok (.iinc 4 1, 3) := by decide +kernel
theorem dX0_find_52 : decode cX0_find 52 = .ok (.goto (-28), 3) := by decide +kernel
theorem dX0_find_55 : decode cX0_find 55 = .ok (.iconst 0, 1) := by decide +kernel
theorem dX0_find_56 : decode cX0_find 56 = .ok (.istore 4, 2) := by decide +kernel
theorem dX0_find_58 : decode cX0_find 58 = .ok (.iload 4, 2) := by decide +kernel
theorem dX0_find_60 : decode cX0_find 60 = .ok (.aload_n 0, 1) := by decide +kernel
theorem dX0_find_61 : decode cX0_find 61 = .ok (.getfield 34, 3) := by decide +kernel
theorem dX0_find_64 : decode cX0_find 64 = .ok (.if_icmp .ge 23, 3) := by decide +kernel
theorem dX0_find_87 : decode cX0_find 87 = .ok (.aload_n 0, 1) := by decide +kernel
theorem dX0_find_88 : decode cX0_find 88 = .ok (.aload_n 0, 1) := by decide +kernel
theorem dX0_find_89 : decode cX0_find 89 = .ok (.getfield 30, 3) := by decide +kernel
theorem dX0_find_92 : decode cX0_find 92 = .ok (.iload_n 3, 1) := by decide +kernel
theorem dX0_find_93 : decode cX0_find 93 = .ok (.iconst 1, 1) := by decide +kernel
theorem dX0_find_94 : decode cX0_find 94 = .ok (.isub, 1) := by decide +kernel
theorem dX0_find_95 : decode cX0_find 95 = .ok (.laload, 1) := by decide +kernel
theorem dX0_find_96 : decode cX0_find 96 = .ok (.invokevirtual 70, 3) := by decide +kernel
theorem dX0_choose_0 : decode cX0_choose 0 = .ok (.aload_n 0, 1) := by decide +kernel
theorem dX0_choose_1 : decode cX0_choose 1 = .ok (.lload_n 1, 1) := by decide +kernel
theorem dX0_choose_2 : decode cX0_choose 2 = .ok (.ldc2_w 60, 3) := by decide +kernel
theorem dX0_choose_5 : decode cX0_choose 5 = .ok (.lcmp, 1) := by decide +kernel
theorem dX0_choose_6 : decode cX0_choose 6 = .ok (.ifCond .eq 7, 3) := by decide +kernel
theorem dX0_choose_9 : decode cX0_choose 9 = .ok (.iconst 1, 1) := by decide +kernel
theorem dX0_choose_10 : decode cX0_choose 10 = .ok (.goto 4, 3) := by decide +kernel
theorem dX0_choose_14 : decode cX0_choose 14 = .ok (.putfield 89, 3) := by decide +kernel
theorem dX0_choose_17 : decode cX0_choose 17 = .ok (.aload_n 0, 1) := by decide +kernel
theorem dX0_choose_18 : decode cX0_choose 18 = .ok (.getfield 89, 3) := by decide +kernel
theorem dX0_choose_21 : decode cX0_choose 21 = .ok (.ifCond .ne 4, 3) := by decide +kernel
theorem dX0_choose_25 : decode cX0_choose 25 = .ok (.aload_n 0, 1) := by decide +kernel
theorem dX0_choose_26 : decode cX0_choose 26 = .ok (.lload_n 1, 1) := by decide +kernel
theorem dX0_choose_27 : decode cX0_choose 27 = .ok (.ldc2_w 81, 3) := by decide +kernel
theorem dX0_choose_30 : decode cX0_choose 30 = .ok (.ldiv, 1) := by decide +kernel
theorem dX0_choose_31 : decode cX0_choose 31 = .ok (.l2i, 1) := by decide +kernel
theorem dX0_choose_32 : decode cX0_choose 32 = .ok (.putfield 92, 3) := by decide +kernel
theorem dX0_choose_35 : decode cX0_choose 35 = .ok (.lload_n 1, 1) := by decide +kernel
theorem dX0_choose_36 : decode cX0_choose 36 = .ok (.ldc2_w 81, 3) := by decide +kernel
theorem dX0_choose_39 : decode cX0_choose 39 = .ok (.lrem, 1) := by decide +kernel
theorem dX0_choose_40 : decode cX0_choose 40 = .ok (.l2i, 1) := by decide +kernel
theorem dX0_choose_41 : decode cX0_choose 41 = .ok (.istore_n 3, 1) := by decide +kernel
theorem dX0_choose_42 : decode cX0_choose 42 = .ok (.bipush 8, 2) := by decide +kernel
theorem dX0_choose_44 : decode cX0_choose 44 = .ok (.istore 4, 2) := by decide +kernel
theorem dX0_choose_46 : decode cX0_choose 46 = .ok (.iload 4, 2) := by decide +kernel
theorem dX0_choose_48 : decode cX0_choose 48 = .ok (.ifCond .lt 23, 3) := by decide +kernel
theorem dX0_choose_51 : decode cX0_choose 51 = .ok (.aload_n 0, 1) := by decide +kernel
theorem dX0_choose_52 : decode cX0_choose 52 = .ok (.getfield 9, 3) := by decide +kernel
theorem dX0_choose_55 : decode cX0_choose 55 = .ok (.iload 4, 2) := by decide +kernel
theorem dX0_choose_57 : decode cX0_choose 57 = .ok (.iload_n 3, 1) := by decide +kernel
theorem dX0_choose_58 : decode cX0_choose 58 = .ok (.iconst 5, 1) := by decide +kernel
theorem dX0_choose_59 : decode cX0_choose 59 = .ok (.irem, 1) := by decide +kernel
theorem dX0_choose_60 : decode cX0_choose 60 = .ok (.iastore, 1) := by decide +kernel
theorem dX0_choose_61 : decode cX0_choose 61 = .ok (.iload_n 3, 1) := by decide +kernel
theorem dX0_choose_62 : decode cX0_choose 62 = .ok (.iconst 5, 1) := by decide +kernel
theorem dX0_choose_63 : decode cX0_choose 63 = .ok (.idiv, 1) := by decide +kernel
theorem dX0_choose_64 : decode cX0_choose 64 = .ok (.istore_n 3, 1) := by decide +kernel
theorem dX0_choose_65 : decode cX0_choose 65 = .ok (.iinc 4 (-1), 3) := by decide +kernel
theorem dX0_choose_68 : decode cX0_choose 68 = .ok (.goto (-22), 3) := by decide +kernel
theorem dX0_choose_71 : decode cX0_choose 71 = .ok (.return_, 1) := by decide +kernel
theorem dX0_find_99 : decode cX0_find 99 = .ok (.aload_n 0, 1) := by decide +kernel
theorem dX0_find_100 : decode cX0_find 100 = .ok (.iconst 1, 1) := by decide +kernel
theorem dX0_find_101 : decode cX0_find 101 = .ok (.putfield 49, 3) := by decide +kernel
theorem dX0_find_104 : decode cX0_find 104 = .ok (.return_, 1) := by decide +kernel
theorem dX6_checkCut_15 : decode cX6_checkCut 15 = .ok (.aload_n 0, 1) := by decide +kernel
theorem dX6_checkCut_16 : decode cX6_checkCut 16 = .ok (.getfield 33, 3) := by decide +kernel
theorem dX6_checkCut_19 : decode cX6_checkCut 19 = .ok (.getfield 291, 3) := by decide +kernel
theorem dX6_checkCut_22 : decode cX6_checkCut 22 = .ok (.ifCond .ne 14, 3) := by decide +kernel
theorem dX6_checkCut_36 : decode cX6_checkCut 36 = .ok (.return_, 1) := by decide +kernel
theorem dX6_wood_4 : decode cX6_wood 4 = .ok (.aload_n 0, 1) := by decide +kernel
theorem dX6_wood_5 : decode cX6_wood 5 = .ok (.getfield 33, 3) := by decide +kernel
theorem dX6_wood_8 : decode cX6_wood 8 = .ok (.getfield 225, 3) := by decide +kernel
theorem dX6_wood_11 : decode cX6_wood 11 = .ok (.ireturn, 1) := by decide +kernel
theorem dL_wood_6 : decode cL_wood 6 = .ok (.i2l, 1) := by decide +kernel
theorem dL_wood_7 : decode cL_wood 7 = .ok (.lastore, 1) := by decide +kernel
theorem dL_wood_8 : decode cL_wood 8 = .ok (.goto 6, 3) := by decide +kernel
theorem dL_wood_14 : decode cL_wood 14 = .ok (.iconst 0, 1) := by decide +kernel
theorem dL_wood_15 : decode cL_wood 15 = .ok (.ireturn, 1) := by decide +kernel
theorem dL_law_1430 : decode cL_law 1430 = .ok (.istore 6, 2) := by decide +kernel
theorem dL_law_1432 : decode cL_law 1432 = .ok (.aload_n 2, 1) := by decide +kernel
theorem dL_law_1433 : decode cL_law 1433 = .ok (.invokevirtual 197, 3) := by decide +kernel
theorem dX12_wood_0 : decode cX12_wood 0 = .ok (.aload_n 0, 1) := by decide +kernel
theorem dX12_wood_1 : decode cX12_wood 1 = .ok (.invokevirtual 389, 3) := by decide +kernel
theorem dX12_areCut_0 : decode cX12_areCut 0 = .ok (.aload_n 0, 1) := by decide +kernel
theorem dX12_areCut_1 : decode cX12_areCut 1 = .ok (.invokevirtual 282, 3) := by decide +kernel
theorem dX12_saws_0 : decode cX12_saws 0 = .ok (.aload_n 0, 1) := by decide +kernel
theorem dX12_saws_1 : decode cX12_saws 1 = .ok (.getfield 84, 3) := by decide +kernel
theorem dX12_saws_4 : decode cX12_saws 4 = .ok (.ifCond .eq 4, 3) := by decide +kernel
theorem dX12_saws_8 : decode cX12_saws 8 = .ok (.aload_n 0, 1) := by decide +kernel
theorem dX12_saws_9 : decode cX12_saws 9 = .ok (.iconst 1, 1) := by decide +kernel
theorem dX12_saws_10 : decode cX12_saws 10 = .ok (.putfield 84, 3) := by decide +kernel
theorem dX12_saws_13 : decode cX12_saws 13 = .ok (.aload_n 0, 1) := by decide +kernel
theorem dX12_saws_14 : decode cX12_saws 14 = .ok (.iconst (-1), 1) := by decide +kernel
theorem dX12_saws_15 : decode cX12_saws 15 = .ok (.putfield 268, 3) := by decide +kernel
theorem dX12_saws_18 : decode cX12_saws 18 = .ok (.aload_n 0, 1) := by decide +kernel
theorem dX12_saws_19 : decode cX12_saws 19 = .ok (.invokevirtual 271, 3) := by decide +kernel
theorem dX12_sums_0 : decode cX12_sums 0 = .ok (.iconst 0, 1) := by decide +kernel
theorem dX12_sums_1 : decode cX12_sums 1 = .ok (.istore_n 1, 1) := by decide +kernel
theorem dX12_sums_2 : decode cX12_sums 2 = .ok (.iload_n 1, 1) := by decide +kernel
theorem dX12_sums_3 : decode cX12_sums 3 = .ok (.aload_n 0, 1) := by decide +kernel
theorem dX12_sums_4 : decode cX12_sums 4 = .ok (.getfield 16, 3) := by decide +kernel
theorem dX12_sums_7 : decode cX12_sums 7 = .ok (.invokevirtual 125, 3) := by decide +kernel
theorem dX12_sums_10 : decode cX12_sums 10 = .ok (.if_icmp .ge 22, 3) := by decide +kernel
theorem dX12_sums_32 : decode cX12_sums 32 = .ok (.iconst 1, 1) := by decide +kernel
theorem dX12_sums_33 : decode cX12_sums 33 = .ok (.istore_n 1, 1) := by decide +kernel
theorem dX12_sums_34 : decode cX12_sums 34 = .ok (.iload_n 1, 1) := by decide +kernel
theorem dX12_sums_35 : decode cX12_sums 35 = .ok (.iconst 1, 1) := by decide +kernel
theorem dX12_sums_36 : decode cX12_sums 36 = .ok (.aload_n 0, 1) := by decide +kernel
theorem dX12_sums_37 : decode cX12_sums 37 = .ok (.getfield 16, 3) := by decide +kernel
theorem dX12_sums_40 : decode cX12_sums 40 = .ok (.invokevirtual 125, 3) := by decide +kernel
theorem dX12_sums_43 : decode cX12_sums 43 = .ok (.ishl, 1) := by decide +kernel
theorem dX12_sums_44 : decode cX12_sums 44 = .ok (.if_icmp .ge 97, 3) := by decide +kernel
theorem dX12_sums_141 : decode cX12_sums 141 = .ok (.return_, 1) := by decide +kernel
theorem dX12_saws_22 : decode cX12_saws 22 = .ok (.iconst 0, 1) := by decide +kernel
theorem dX12_saws_23 : decode cX12_saws 23 = .ok (.istore_n 1, 1) := by decide +kernel
theorem dX12_saws_24 : decode cX12_saws 24 = .ok (.iload_n 1, 1) := by decide +kernel
theorem dX12_saws_25 : decode cX12_saws 25 = .ok (.iconst 1, 1) := by decide +kernel
theorem dX12_saws_26 : decode cX12_saws 26 = .ok (.aload_n 0, 1) := by decide +kernel
theorem dX12_saws_27 : decode cX12_saws 27 = .ok (.getfield 22, 3) := by decide +kernel
theorem dX12_saws_30 : decode cX12_saws 30 = .ok (.invokevirtual 125, 3) := by decide +kernel
theorem dX12_saws_33 : decode cX12_saws 33 = .ok (.ishl, 1) := by decide +kernel
theorem dX12_saws_34 : decode cX12_saws 34 = .ok (.if_icmp .ge 178, 3) := by decide +kernel
theorem dX12_saws_37 : decode cX12_saws 37 = .ok (.iconst 0, 1) := by decide +kernel
theorem dX12_saws_38 : decode cX12_saws 38 = .ok (.istore_n 2, 1) := by decide +kernel
theorem dX12_saws_39 : decode cX12_saws 39 = .ok (.iconst 0, 1) := by decide +kernel
theorem dX12_saws_40 : decode cX12_saws 40 = .ok (.istore_n 3, 1) := by decide +kernel
theorem dX12_saws_41 : decode cX12_saws 41 = .ok (.iload_n 3, 1) := by decide +kernel
theorem dX12_saws_42 : decode cX12_saws 42 = .ok (.aload_n 0, 1) := by decide +kernel
theorem dX12_saws_43 : decode cX12_saws 43 = .ok (.getfield 22, 3) := by decide +kernel
theorem dX12_saws_46 : decode cX12_saws 46 = .ok (.invokevirtual 125, 3) := by decide +kernel
theorem dX12_saws_49 : decode cX12_saws 49 = .ok (.if_icmp .ge 59, 3) := by decide +kernel
theorem dX12_saws_108 : decode cX12_saws 108 = .ok (.aload_n 0, 1) := by decide +kernel
theorem dX12_saws_109 : decode cX12_saws 109 = .ok (.getfield 268, 3) := by decide +kernel
theorem dX12_saws_112 : decode cX12_saws 112 = .ok (.iconst (-1), 1) := by decide +kernel
theorem dX12_saws_113 : decode cX12_saws 113 = .ok (.if_icmp .eq 11, 3) := by decide +kernel
theorem dX12_saws_124 : decode cX12_saws 124 = .ok (.aload_n 0, 1) := by decide +kernel
theorem dX12_saws_125 : decode cX12_saws 125 = .ok (.iload_n 1, 1) := by decide +kernel
theorem dX12_saws_126 : decode cX12_saws 126 = .ok (.invokevirtual 274, 3) := by decide +kernel
theorem dX12_areEnough_0 : decode cX12_areEnough 0 = .ok (.iconst 1, 1) := by decide +kernel
theorem dX12_areEnough_1 : decode cX12_areEnough 1 = .ok (.aload_n 0, 1) := by decide +kernel
theorem dX12_areEnough_2 : decode cX12_areEnough 2 = .ok (.getfield 16, 3) := by decide +kernel
theorem dX12_areEnough_5 : decode cX12_areEnough 5 = .ok (.invokevirtual 125, 3) := by decide +kernel
theorem dX12_areEnough_8 : decode cX12_areEnough 8 = .ok (.ishl, 1) := by decide +kernel
theorem dX12_areEnough_9 : decode cX12_areEnough 9 = .ok (.iconst 1, 1) := by decide +kernel
theorem dX12_areEnough_10 : decode cX12_areEnough 10 = .ok (.isub, 1) := by decide +kernel
theorem dX12_areEnough_11 : decode cX12_areEnough 11 = .ok (.istore_n 2, 1) := by decide +kernel
theorem dX12_areEnough_12 : decode cX12_areEnough 12 = .ok (.iconst 0, 1) := by decide +kernel
theorem dX12_areEnough_13 : decode cX12_areEnough 13 = .ok (.istore_n 3, 1) := by decide +kernel
theorem dX12_areEnough_14 : decode cX12_areEnough 14 = .ok (.iload_n 3, 1) := by decide +kernel
theorem dX12_areEnough_15 : decode cX12_areEnough 15 = .ok (.iload_n 2, 1) := by decide +kernel
theorem dX12_areEnough_16 : decode cX12_areEnough 16 = .ok (.if_icmp .gt 24, 3) := by decide +kernel
theorem dX12_areEnough_19 : decode cX12_areEnough 19 = .ok (.aload_n 0, 1) := by decide +kernel
theorem dX12_areEnough_20 : decode cX12_areEnough 20 = .ok (.getfield 39, 3) := by decide +kernel
theorem dX12_areEnough_23 : decode cX12_areEnough 23 = .ok (.iload_n 3, 1) := by decide +kernel
theorem dX12_areEnough_24 : decode cX12_areEnough 24 = .ok (.iload_n 3, 1) := by decide +kernel
theorem dX12_areEnough_25 : decode cX12_areEnough 25 = .ok (.ifCond .ne 7, 3) := by decide +kernel
theorem dX12_areEnough_28 : decode cX12_areEnough 28 = .ok (.iconst 1, 1) := by decide +kernel
theorem dX12_areEnough_29 : decode cX12_areEnough 29 = .ok (.goto 4, 3) := by decide +kernel
theorem dX12_areEnough_33 : decode cX12_areEnough 33 = .ok (.bastore, 1) := by decide +kernel
theorem dX12_areEnough_34 : decode cX12_areEnough 34 = .ok (.iinc 3 1, 3) := by decide +kernel
theorem dX12_areEnough_37 : decode cX12_areEnough 37 = .ok (.goto (-23), 3) := by decide +kernel
theorem dX12_areEnough_40 : decode cX12_areEnough 40 = .ok (.iconst 0, 1) := by decide +kernel
theorem dX12_areEnough_41 : decode cX12_areEnough 41 = .ok (.istore_n 3, 1) := by decide +kernel
theorem dX12_areEnough_42 : decode cX12_areEnough 42 = .ok (.iload_n 3, 1) := by decide +kernel
theorem dX12_areEnough_43 : decode cX12_areEnough 43 = .ok (.aload_n 0, 1) := by decide +kernel
theorem dX12_areEnough_44 : decode cX12_areEnough 44 = .ok (.getfield 22, 3) := by decide +kernel
theorem dX12_areEnough_47 : decode cX12_areEnough 47 = .ok (.invokevirtual 125, 3) := by decide +kernel
theorem dX12_areEnough_50 : decode cX12_areEnough 50 = .ok (.if_icmp .ge 76, 3) := by decide +kernel
theorem dX12_areEnough_126 : decode cX12_areEnough 126 = .ok (.aload_n 0, 1) := by decide +kernel
theorem dX12_areEnough_127 : decode cX12_areEnough 127 = .ok (.getfield 39, 3) := by decide +kernel
theorem dX12_areEnough_130 : decode cX12_areEnough 130 = .ok (.iload_n 2, 1) := by decide +kernel
theorem dX12_areEnough_131 : decode cX12_areEnough 131 = .ok (.baload, 1) := by decide +kernel
theorem dX12_areEnough_132 : decode cX12_areEnough 132 = .ok (.ireturn, 1) := by decide +kernel
theorem dX12_saws_129 : decode cX12_saws 129 = .ok (.ifCond .eq 77, 3) := by decide +kernel
theorem dX12_saws_132 : decode cX12_saws 132 = .ok (.aload_n 0, 1) := by decide +kernel
theorem dX12_saws_133 : decode cX12_saws 133 = .ok (.iload_n 1, 1) := by decide +kernel
theorem dX12_saws_134 : decode cX12_saws 134 = .ok (.iconst 0, 1) := by decide +kernel
theorem dX12_saws_135 : decode cX12_saws 135 = .ok (.invokevirtual 249, 3) := by decide +kernel
theorem dX12_cuts_0 : decode cX12_cuts 0 = .ok (.iload_n 2, 1) := by decide +kernel
theorem dX12_cuts_1 : decode cX12_cuts 1 = .ok (.aload_n 0, 1) := by decide +kernel
theorem dX12_cuts_2 : decode cX12_cuts 2 = .ok (.getfield 16, 3) := by decide +kernel
theorem dX12_cuts_5 : decode cX12_cuts 5 = .ok (.invokevirtual 125, 3) := by decide +kernel
theorem dX12_cuts_8 : decode cX12_cuts 8 = .ok (.if_icmp .ne 5, 3) := by decide +kernel
theorem dX12_cuts_11 : decode cX12_cuts 11 = .ok (.iconst 1, 1) := by decide +kernel
theorem dX12_cuts_12 : decode cX12_cuts 12 = .ok (.ireturn, 1) := by decide +kernel
theorem dX12_saws_138 : decode cX12_saws 138 = .ok (.ifCond .ne 6, 3) := by decide +kernel
theorem dX12_saws_144 : decode cX12_saws 144 = .ok (.aload_n 0, 1) := by decide +kernel
theorem dX12_saws_145 : decode cX12_saws 145 = .ok (.getfield 268, 3) := by decide +kernel
theorem dX12_saws_148 : decode cX12_saws 148 = .ok (.iconst (-1), 1) := by decide +kernel
theorem dX12_saws_149 : decode cX12_saws 149 = .ok (.if_icmp .eq 21, 3) := by decide +kernel
theorem dX12_saws_170 : decode cX12_saws 170 = .ok (.aload_n 0, 1) := by decide +kernel
theorem dX12_saws_171 : decode cX12_saws 171 = .ok (.iload_n 2, 1) := by decide +kernel
theorem dX12_saws_172 : decode cX12_saws 172 = .ok (.putfield 268, 3) := by decide +kernel
theorem dX12_saws_175 : decode cX12_saws 175 = .ok (.iconst 0, 1) := by decide +kernel
theorem dX12_saws_176 : decode cX12_saws 176 = .ok (.istore_n 3, 1) := by decide +kernel
theorem dX12_saws_177 : decode cX12_saws 177 = .ok (.iload_n 3, 1) := by decide +kernel
theorem dX12_saws_178 : decode cX12_saws 178 = .ok (.aload_n 0, 1) := by decide +kernel
theorem dX12_saws_179 : decode cX12_saws 179 = .ok (.getfield 16, 3) := by decide +kernel
theorem dX12_saws_182 : decode cX12_saws 182 = .ok (.invokevirtual 125, 3) := by decide +kernel
theorem dX12_saws_185 : decode cX12_saws 185 = .ok (.if_icmp .ge 21, 3) := by decide +kernel
theorem dX12_saws_206 : decode cX12_saws 206 = .ok (.iinc 1 1, 3) := by decide +kernel
theorem dX12_saws_209 : decode cX12_saws 209 = .ok (.goto (-185), 3) := by decide +kernel
theorem dX12_saws_212 : decode cX12_saws 212 = .ok (.return_, 1) := by decide +kernel
theorem dX12_areCut_4 : decode cX12_areCut 4 = .ok (.aload_n 0, 1) := by decide +kernel
theorem dX12_areCut_5 : decode cX12_areCut 5 = .ok (.getfield 268, 3) := by decide +kernel
theorem dX12_areCut_8 : decode cX12_areCut 8 = .ok (.iconst (-1), 1) := by decide +kernel
theorem dX12_areCut_9 : decode cX12_areCut 9 = .ok (.if_icmp .eq 7, 3) := by decide +kernel
theorem dX12_areCut_12 : decode cX12_areCut 12 = .ok (.iconst 1, 1) := by decide +kernel
theorem dX12_areCut_13 : decode cX12_areCut 13 = .ok (.goto 4, 3) := by decide +kernel
theorem dX12_areCut_17 : decode cX12_areCut 17 = .ok (.ireturn, 1) := by decide +kernel
theorem dX12_wood_4 : decode cX12_wood 4 = .ok (.ifCond .eq 14, 3) := by decide +kernel
theorem dX12_wood_7 : decode cX12_wood 7 = .ok (.aload_n 0, 1) := by decide +kernel
theorem dX12_wood_8 : decode cX12_wood 8 = .ok (.aload_n 0, 1) := by decide +kernel
theorem dX12_wood_9 : decode cX12_wood 9 = .ok (.getfield 268, 3) := by decide +kernel
theorem dX12_wood_12 : decode cX12_wood 12 = .ok (.invokevirtual 302, 3) := by decide +kernel
theorem dX12_wood_15 : decode cX12_wood 15 = .ok (.goto 8, 3) := by decide +kernel
theorem dX12_wood_23 : decode cX12_wood 23 = .ok (.ireturn, 1) := by decide +kernel
theorem dL_law_1436 : decode cL_law 1436 = .ok (.istore 7, 2) := by decide +kernel
theorem dL_law_1438 : decode cL_law 1438 = .ok (.aload_n 2, 1) := by decide +kernel
theorem dL_law_1439 : decode cL_law 1439 = .ok (.invokevirtual 125, 3) := by decide +kernel
theorem dL_law_1442 : decode cL_law 1442 = .ok (.iload 6, 2) := by decide +kernel
theorem dL_law_1444 : decode cL_law 1444 = .ok (.if_icmp .eq 5, 3) := by decide +kernel
theorem dL_law_1449 : decode cL_law 1449 = .ok (.iload 6, 2) := by decide +kernel
theorem dL_law_1451 : decode cL_law 1451 = .ok (.ifCond .ne 15, 3) := by decide +kernel
theorem dL_law_1454 : decode cL_law 1454 = .ok (.aload_n 3, 1) := by decide +kernel
theorem dL_law_1455 : decode cL_law 1455 = .ok (.iconst 0, 1) := by decide +kernel
theorem dL_law_1456 : decode cL_law 1456 = .ok (.laload, 1) := by decide +kernel
theorem dL_law_1457 : decode cL_law 1457 = .ok (.iload 7, 2) := by decide +kernel
theorem dL_law_1459 : decode cL_law 1459 = .ok (.i2l, 1) := by decide +kernel
theorem dL_law_1460 : decode cL_law 1460 = .ok (.lcmp, 1) := by decide +kernel
theorem dL_law_1461 : decode cL_law 1461 = .ok (.ifCond .eq 5, 3) := by decide +kernel
theorem dL_law_1466 : decode cL_law 1466 = .ok (.goto 497, 3) := by decide +kernel
theorem dL_law_1469 : decode cL_law 1469 = .ok (.aload_n 1, 1) := by decide +kernel
theorem dL_law_1470 : decode cL_law 1470 = .ok (.aload_n 0, 1) := by decide +kernel
theorem dL_law_1471 : decode cL_law 1471 = .ok (.iload 5, 2) := by decide +kernel
theorem dL_law_1473 : decode cL_law 1473 = .ok (.iconst 1, 1) := by decide +kernel
theorem dL_law_1474 : decode cL_law 1474 = .ok (.iadd, 1) := by decide +kernel
theorem dL_law_1475 : decode cL_law 1475 = .ok (.iaload, 1) := by decide +kernel
theorem dL_law_1476 : decode cL_law 1476 = .ok (.aload_n 3, 1) := by decide +kernel
theorem dL_law_1477 : decode cL_law 1477 = .ok (.invokestatic 198, 3) := by decide +kernel
theorem dL_waste_0 : decode cL_waste 0 = .ok (.aload_n 2, 1) := by decide +kernel
theorem dL_waste_1 : decode cL_waste 1 = .ok (.iconst 0, 1) := by decide +kernel
theorem dL_waste_2 : decode cL_waste 2 = .ok (.aload_n 0, 1) := by decide +kernel
theorem dL_waste_3 : decode cL_waste 3 = .ok (.iload_n 1, 1) := by decide +kernel
theorem dL_waste_4 : decode cL_waste 4 = .ok (.invokevirtual 86, 3) := by decide +kernel
theorem dX6_waste_0 : decode cX6_waste 0 = .ok (.iload_n 1, 1) := by decide +kernel
theorem dX6_waste_1 : decode cX6_waste 1 = .ok (.ifCond .lt 14, 3) := by decide +kernel
theorem dX6_waste_15 : decode cX6_waste 15 = .ok (.new 228, 3) := by decide +kernel
theorem dX6_waste_18 : decode cX6_waste 18 = .ok (.dup, 1) := by decide +kernel
theorem dX6_waste_19 : decode cX6_waste 19 = .ok (.ldc 230, 2) := by decide +kernel
theorem dX6_waste_21 : decode cX6_waste 21 = .ok (.invokespecial 232, 3) := by decide +kernel
theorem dX6_waste_24 : decode cX6_waste 24 = .ok (.athrow, 1) := by decide +kernel
theorem dL_waste_12 : decode cL_waste 12 = .ok (.astore_n 3, 1) := by decide +kernel
theorem dL_waste_13 : decode cL_waste 13 = .ok (.iconst 1, 1) := by decide +kernel
theorem dL_waste_14 : decode cL_waste 14 = .ok (.ireturn, 1) := by decide +kernel
theorem dL_law_1480 : decode cL_law 1480 = .ok (.istore 6, 2) := by decide +kernel
theorem dL_law_1482 : decode cL_law 1482 = .ok (.aload_n 2, 1) := by decide +kernel
theorem dL_law_1483 : decode cL_law 1483 = .ok (.aload_n 0, 1) := by decide +kernel
theorem dL_law_1484 : decode cL_law 1484 = .ok (.iload 5, 2) := by decide +kernel
theorem dL_law_1486 : decode cL_law 1486 = .ok (.iconst 1, 1) := by decide +kernel
theorem dL_law_1487 : decode cL_law 1487 = .ok (.iadd, 1) := by decide +kernel
theorem dL_law_1488 : decode cL_law 1488 = .ok (.iaload, 1) := by decide +kernel
theorem dL_law_1489 : decode cL_law 1489 = .ok (.invokevirtual 200, 3) := by decide +kernel
theorem dX12_waste_0 : decode cX12_waste 0 = .ok (.iload_n 1, 1) := by decide +kernel
theorem dX12_waste_1 : decode cX12_waste 1 = .ok (.i2l, 1) := by decide +kernel
theorem dX12_waste_2 : decode cX12_waste 2 = .ok (.iconst 0, 1) := by decide +kernel
theorem dX12_waste_3 : decode cX12_waste 3 = .ok (.aload_n 0, 1) := by decide +kernel
theorem dX12_waste_4 : decode cX12_waste 4 = .ok (.getfield 22, 3) := by decide +kernel
theorem dX12_waste_7 : decode cX12_waste 7 = .ok (.invokevirtual 125, 3) := by decide +kernel
theorem dX12_waste_10 : decode cX12_waste 10 = .ok (.iconst 1, 1) := by decide +kernel
theorem dX12_waste_11 : decode cX12_waste 11 = .ok (.isub, 1) := by decide +kernel
theorem dX12_waste_12 : decode cX12_waste 12 = .ok (.invokestatic 285, 3) := by decide +kernel
theorem dX12_waste_15 : decode cX12_waste 15 = .ok (.ifCond .ne 9, 3) := by decide +kernel
theorem dX12_waste_18 : decode cX12_waste 18 = .ok (.aload_n 0, 1) := by decide +kernel
theorem dX12_waste_19 : decode cX12_waste 19 = .ok (.iconst 1, 1) := by decide +kernel
theorem dX12_waste_20 : decode cX12_waste 20 = .ok (.invokevirtual 289, 3) := by decide +kernel
theorem dX12_waste_23 : decode cX12_waste 23 = .ok (.ireturn, 1) := by decide +kernel
theorem dL_law_1492 : decode cL_law 1492 = .ok (.istore 7, 2) := by decide +kernel
theorem dL_law_1494 : decode cL_law 1494 = .ok (.aload_n 2, 1) := by decide +kernel
theorem dL_law_1495 : decode cL_law 1495 = .ok (.invokevirtual 125, 3) := by decide +kernel
theorem dL_law_1498 : decode cL_law 1498 = .ok (.iload 6, 2) := by decide +kernel
theorem dL_law_1500 : decode cL_law 1500 = .ok (.if_icmp .eq 5, 3) := by decide +kernel
theorem dL_law_1505 : decode cL_law 1505 = .ok (.iload 6, 2) := by decide +kernel
theorem dL_law_1507 : decode cL_law 1507 = .ok (.ifCond .ne 15, 3) := by decide +kernel
theorem dL_law_1522 : decode cL_law 1522 = .ok (.goto 441, 3) := by decide +kernel
theorem dX6_waste_4 : decode cX6_waste 4 = .ok (.iload_n 1, 1) := by decide +kernel
theorem dX6_waste_5 : decode cX6_waste 5 = .ok (.aload_n 0, 1) := by decide +kernel
theorem dX6_waste_6 : decode cX6_waste 6 = .ok (.getfield 33, 3) := by decide +kernel
theorem dX6_waste_9 : decode cX6_waste 9 = .ok (.getfield 210, 3) := by decide +kernel
theorem dX6_waste_12 : decode cX6_waste 12 = .ok (.if_icmp .lt 13, 3) := by decide +kernel
theorem dL_law_1525 : decode cL_law 1525 = .ok (.aload_n 1, 1) := by decide +kernel
theorem dL_law_1526 : decode cL_law 1526 = .ok (.aload_n 0, 1) := by decide +kernel
theorem dL_law_1527 : decode cL_law 1527 = .ok (.iload 5, 2) := by decide +kernel
theorem dL_law_1529 : decode cL_law 1529 = .ok (.iconst 1, 1) := by decide +kernel
theorem dL_law_1530 : decode cL_law 1530 = .ok (.iadd, 1) := by decide +kernel
theorem dL_law_1531 : decode cL_law 1531 = .ok (.iaload, 1) := by decide +kernel
theorem dL_law_1532 : decode cL_law 1532 = .ok (.aload_n 3, 1) := by decide +kernel
theorem dL_law_1533 : decode cL_law 1533 = .ok (.invokestatic 201, 3) := by decide +kernel
theorem dL_setProps_0 : decode cL_setProps 0 = .ok (.aload_n 2, 1) := by decide +kernel
theorem dL_setProps_1 : decode cL_setProps 1 = .ok (.iconst 0, 1) := by decide +kernel
theorem dL_setProps_2 : decode cL_setProps 2 = .ok (.aload_n 0, 1) := by decide +kernel
theorem dL_setProps_3 : decode cL_setProps 3 = .ok (.iload_n 1, 1) := by decide +kernel
theorem dL_setProps_4 : decode cL_setProps 4 = .ok (.invokevirtual 89, 3) := by decide +kernel
theorem dX6_setProps_0 : decode cX6_setProps 0 = .ok (.iload_n 1, 1) := by decide +kernel
theorem dX6_setProps_1 : decode cX6_setProps 1 = .ok (.iconst 0, 1) := by decide +kernel
theorem dX6_setProps_2 : decode cX6_setProps 2 = .ok (.bipush 9, 2) := by decide +kernel
theorem dX6_setProps_4 : decode cX6_setProps 4 = .ok (.invokestatic 44, 3) := by decide +kernel
theorem dX6_setProps_7 : decode cX6_setProps 7 = .ok (.ifCond .ne 13, 3) := by decide +kernel
theorem dX6_setProps_10 : decode cX6_setProps 10 = .ok (.new 56, 3) := by decide +kernel
theorem dX6_setProps_13 : decode cX6_setProps 13 = .ok (.dup, 1) := by decide +kernel
theorem dX6_setProps_14 : decode cX6_setProps 14 = .ok (.ldc 236, 2) := by decide +kernel
theorem dX6_setProps_16 : decode cX6_setProps 16 = .ok (.invokespecial 60, 3) := by decide +kernel
theorem dX6_setProps_19 : decode cX6_setProps 19 = .ok (.athrow, 1) := by decide +kernel
theorem dL_setProps_12 : decode cL_setProps 12 = .ok (.astore_n 3, 1) := by decide +kernel
theorem dL_setProps_13 : decode cL_setProps 13 = .ok (.iconst 1, 1) := by decide +kernel
theorem dL_setProps_14 : decode cL_setProps 14 = .ok (.ireturn, 1) := by decide +kernel
theorem dL_law_1536 : decode cL_law 1536 = .ok (.istore 6, 2) := by decide +kernel
theorem dL_law_1538 : decode cL_law 1538 = .ok (.aload_n 2, 1) := by decide +kernel
theorem dL_law_1539 : decode cL_law 1539 = .ok (.aload_n 0, 1) := by decide +kernel
theorem dL_law_1540 : decode cL_law 1540 = .ok (.iload 5, 2) := by decide +kernel
theorem dL_law_1542 : decode cL_law 1542 = .ok (.iconst 1, 1) := by decide +kernel
theorem dL_law_1543 : decode cL_law 1543 = .ok (.iadd, 1) := by decide +kernel
theorem dL_law_1544 : decode cL_law 1544 = .ok (.iaload, 1) := by decide +kernel
theorem dL_law_1545 : decode cL_law 1545 = .ok (.invokevirtual 203, 3) := by decide +kernel
theorem dX12_setProps_0 : decode cX12_setProps 0 = .ok (.iload_n 1, 1) := by decide +kernel
theorem dX12_setProps_1 : decode cX12_setProps 1 = .ok (.i2l, 1) := by decide +kernel
theorem dX12_setProps_2 : decode cX12_setProps 2 = .ok (.iconst 0, 1) := by decide +kernel
theorem dX12_setProps_3 : decode cX12_setProps 3 = .ok (.bipush 9, 2) := by decide +kernel
theorem dX12_setProps_5 : decode cX12_setProps 5 = .ok (.invokestatic 285, 3) := by decide +kernel
theorem dX12_setProps_8 : decode cX12_setProps 8 = .ok (.ifCond .ne 9, 3) := by decide +kernel
theorem dX12_setProps_11 : decode cX12_setProps 11 = .ok (.aload_n 0, 1) := by decide +kernel
theorem dX12_setProps_12 : decode cX12_setProps 12 = .ok (.iconst 1, 1) := by decide +kernel
theorem dX12_setProps_13 : decode cX12_setProps 13 = .ok (.invokevirtual 289, 3) := by decide +kernel
theorem dX12_setProps_16 : decode cX12_setProps 16 = .ok (.ireturn, 1) := by decide +kernel
theorem dL_law_1548 : decode cL_law 1548 = .ok (.istore 7, 2) := by decide +kernel
theorem dL_law_1550 : decode cL_law 1550 = .ok (.aload_n 2, 1) := by decide +kernel
theorem dL_law_1551 : decode cL_law 1551 = .ok (.invokevirtual 125, 3) := by decide +kernel
theorem dL_law_1554 : decode cL_law 1554 = .ok (.iload 6, 2) := by decide +kernel
theorem dL_law_1556 : decode cL_law 1556 = .ok (.if_icmp .eq 5, 3) := by decide +kernel
theorem dL_law_1561 : decode cL_law 1561 = .ok (.iload 6, 2) := by decide +kernel
theorem dL_law_1563 : decode cL_law 1563 = .ok (.ifCond .ne 15, 3) := by decide +kernel
theorem dL_law_1578 : decode cL_law 1578 = .ok (.goto 385, 3) := by decide +kernel
theorem dX6_setProps_20 : decode cX6_setProps 20 = .ok (.aload_n 0, 1) := by decide +kernel
theorem dX6_setProps_21 : decode cX6_setProps 21 = .ok (.getfield 40, 3) := by decide +kernel
theorem dX6_setProps_24 : decode cX6_setProps 24 = .ok (.getfield 238, 3) := by decide +kernel
theorem dX6_setProps_27 : decode cX6_setProps 27 = .ok (.istore_n 2, 1) := by decide +kernel
theorem dX6_setProps_28 : decode cX6_setProps 28 = .ok (.aload_n 0, 1) := by decide +kernel
theorem dX6_setProps_29 : decode cX6_setProps 29 = .ok (.getfield 40, 3) := by decide +kernel
theorem dX6_setProps_32 : decode cX6_setProps 32 = .ok (.iload_n 1, 1) := by decide +kernel
theorem dX6_setProps_33 : decode cX6_setProps 33 = .ok (.putfield 238, 3) := by decide +kernel
theorem dX6_setProps_36 : decode cX6_setProps 36 = .ok (.aload_n 0, 1) := by decide +kernel
theorem dX6_setProps_37 : decode cX6_setProps 37 = .ok (.getfield 40, 3) := by decide +kernel
theorem dX6_setProps_40 : decode cX6_setProps 40 = .ok (.iconst 0, 1) := by decide +kernel
theorem dX6_setProps_41 : decode cX6_setProps 41 = .ok (.putfield 99, 3) := by decide +kernel
theorem dX6_setProps_44 : decode cX6_setProps 44 = .ok (.iload_n 2, 1) := by decide +kernel
theorem dX6_setProps_45 : decode cX6_setProps 45 = .ok (.ireturn, 1) := by decide +kernel
theorem dL_setProps_7 : decode cL_setProps 7 = .ok (.i2l, 1) := by decide +kernel
theorem dL_setProps_8 : decode cL_setProps 8 = .ok (.lastore, 1) := by decide +kernel
theorem dL_setProps_9 : decode cL_setProps 9 = .ok (.goto 6, 3) := by decide +kernel
theorem dL_setProps_15 : decode cL_setProps 15 = .ok (.iconst 0, 1) := by decide +kernel
theorem dL_setProps_16 : decode cL_setProps 16 = .ok (.ireturn, 1) := by decide +kernel
theorem dX12_setProps_17 : decode cX12_setProps 17 = .ok (.aload_n 0, 1) := by decide +kernel
theorem dX12_setProps_18 : decode cX12_setProps 18 = .ok (.getfield 70, 3) := by decide +kernel
theorem dX12_setProps_21 : decode cX12_setProps 21 = .ok (.istore_n 2, 1) := by decide +kernel
theorem dX12_setProps_22 : decode cX12_setProps 22 = .ok (.aload_n 0, 1) := by decide +kernel
theorem dX12_setProps_23 : decode cX12_setProps 23 = .ok (.iload_n 1, 1) := by decide +kernel
theorem dX12_setProps_24 : decode cX12_setProps 24 = .ok (.putfield 70, 3) := by decide +kernel
theorem dX12_setProps_27 : decode cX12_setProps 27 = .ok (.aload_n 0, 1) := by decide +kernel
theorem dX12_setProps_28 : decode cX12_setProps 28 = .ok (.iconst 0, 1) := by decide +kernel
theorem dX12_setProps_29 : decode cX12_setProps 29 = .ok (.putfield 81, 3) := by decide +kernel
theorem dX12_setProps_32 : decode cX12_setProps 32 = .ok (.aload_n 0, 1) := by decide +kernel
theorem dX12_setProps_33 : decode cX12_setProps 33 = .ok (.iload_n 2, 1) := by decide +kernel
theorem dX12_setProps_34 : decode cX12_setProps 34 = .ok (.invokevirtual 302, 3) := by decide +kernel
theorem dX12_setProps_37 : decode cX12_setProps 37 = .ok (.ireturn, 1) := by decide +kernel
theorem dL_law_1566 : decode cL_law 1566 = .ok (.aload_n 3, 1) := by decide +kernel
theorem dL_law_1567 : decode cL_law 1567 = .ok (.iconst 0, 1) := by decide +kernel
theorem dL_law_1568 : decode cL_law 1568 = .ok (.laload, 1) := by decide +kernel
theorem dL_law_1569 : decode cL_law 1569 = .ok (.iload 7, 2) := by decide +kernel
theorem dL_law_1571 : decode cL_law 1571 = .ok (.i2l, 1) := by decide +kernel
theorem dL_law_1572 : decode cL_law 1572 = .ok (.lcmp, 1) := by decide +kernel
theorem dL_law_1573 : decode cL_law 1573 = .ok (.ifCond .eq 5, 3) := by decide +kernel
theorem dL_law_1581 : decode cL_law 1581 = .ok (.aload_n 1, 1) := by decide +kernel
theorem dL_law_1582 : decode cL_law 1582 = .ok (.aload_n 0, 1) := by decide +kernel
theorem dL_law_1583 : decode cL_law 1583 = .ok (.iload 5, 2) := by decide +kernel
theorem dL_law_1585 : decode cL_law 1585 = .ok (.iconst 1, 1) := by decide +kernel
theorem dL_law_1586 : decode cL_law 1586 = .ok (.iadd, 1) := by decide +kernel
theorem dL_law_1587 : decode cL_law 1587 = .ok (.iaload, 1) := by decide +kernel
theorem dL_law_1588 : decode cL_law 1588 = .ok (.aload_n 3, 1) := by decide +kernel
theorem dL_law_1589 : decode cL_law 1589 = .ok (.invokestatic 204, 3) := by decide +kernel
theorem dL_raised_0 : decode cL_raised 0 = .ok (.aload_n 2, 1) := by decide +kernel
theorem dL_raised_1 : decode cL_raised 1 = .ok (.iconst 0, 1) := by decide +kernel
theorem dL_raised_2 : decode cL_raised 2 = .ok (.aload_n 0, 1) := by decide +kernel
theorem dL_raised_3 : decode cL_raised 3 = .ok (.iload_n 1, 1) := by decide +kernel
theorem dL_raised_4 : decode cL_raised 4 = .ok (.invokevirtual 92, 3) := by decide +kernel
theorem dX6_raised_0 : decode cX6_raised 0 = .ok (.aload_n 0, 1) := by decide +kernel
theorem dX6_raised_1 : decode cX6_raised 1 = .ok (.iload_n 1, 1) := by decide +kernel
theorem dX6_raised_2 : decode cX6_raised 2 = .ok (.invokevirtual 241, 3) := by decide +kernel
theorem dX6_checkPlaceInOrder_0 : decode cX6_checkPlaceInOrder 0 = .ok (.aload_n 0, 1) := by decide +kernel
theorem dX6_checkPlaceInOrder_1 : decode cX6_checkPlaceInOrder 1 = .ok (.getfield 40, 3) := by decide +kernel
theorem dX6_checkPlaceInOrder_4 : decode cX6_checkPlaceInOrder 4 = .ok (.aload_n 0, 1) := by decide +kernel
theorem dX6_checkPlaceInOrder_5 : decode cX6_checkPlaceInOrder 5 = .ok (.getfield 12, 3) := by decide +kernel
theorem dX6_checkPlaceInOrder_8 : decode cX6_checkPlaceInOrder 8 = .ok (.aload_n 0, 1) := by decide +kernel
theorem dX6_checkPlaceInOrder_9 : decode cX6_checkPlaceInOrder 9 = .ok (.getfield 26, 3) := by decide +kernel
theorem dX6_checkPlaceInOrder_12 : decode cX6_checkPlaceInOrder 12 = .ok (.invokevirtual 247, 3) := by decide +kernel
theorem dX4_find_0 : decode cX4_find 0 = .ok (.aload_n 0, 1) := by decide +kernel
theorem dX4_find_1 : decode cX4_find 1 = .ok (.getfield 37, 3) := by decide +kernel
theorem dX4_find_4 : decode cX4_find 4 = .ok (.ifCond .eq 4, 3) := by decide +kernel
theorem dX4_find_8 : decode cX4_find 8 = .ok (.aload_n 0, 1) := by decide +kernel
theorem dX4_find_9 : decode cX4_find 9 = .ok (.iconst 1, 1) := by decide +kernel
theorem dX4_find_10 : decode cX4_find 10 = .ok (.aload_n 1, 1) := by decide +kernel
theorem dX4_find_11 : decode cX4_find 11 = .ok (.getfield 41, 3) := by decide +kernel
theorem dX4_find_14 : decode cX4_find 14 = .ok (.ishl, 1) := by decide +kernel
theorem dX4_find_15 : decode cX4_find 15 = .ok (.iconst 1, 1) := by decide +kernel
theorem dX4_find_16 : decode cX4_find 16 = .ok (.isub, 1) := by decide +kernel
theorem dX4_find_17 : decode cX4_find 17 = .ok (.putfield 34, 3) := by decide +kernel
theorem dX4_find_20 : decode cX4_find 20 = .ok (.aload_n 0, 1) := by decide +kernel
theorem dX4_find_21 : decode cX4_find 21 = .ok (.aload_n 1, 1) := by decide +kernel
theorem dX4_find_22 : decode cX4_find 22 = .ok (.aload_n 2, 1) := by decide +kernel
theorem dX4_find_23 : decode cX4_find 23 = .ok (.invokevirtual 46, 3) := by decide +kernel
theorem dX4_gather_0 : decode cX4_gather 0 = .ok (.aload_n 0, 1) := by decide +kernel
theorem dX4_gather_1 : decode cX4_gather 1 = .ok (.iconst 0, 1) := by decide +kernel
theorem dX4_gather_2 : decode cX4_gather 2 = .ok (.putfield 60, 3) := by decide +kernel
theorem dX4_gather_5 : decode cX4_gather 5 = .ok (.iconst 0, 1) := by decide +kernel
theorem dX4_gather_6 : decode cX4_gather 6 = .ok (.istore_n 3, 1) := by decide +kernel
theorem dX4_gather_7 : decode cX4_gather 7 = .ok (.iload_n 3, 1) := by decide +kernel
theorem dX4_gather_8 : decode cX4_gather 8 = .ok (.aload_n 1, 1) := by decide +kernel
theorem dX4_gather_9 : decode cX4_gather 9 = .ok (.getfield 41, 3) := by decide +kernel
theorem dX4_gather_12 : decode cX4_gather 12 = .ok (.if_icmp .ge 135, 3) := by decide +kernel
theorem dX4_gather_147 : decode cX4_gather 147 = .ok (.return_, 1) := by decide +kernel
theorem dX4_find_26 : decode cX4_find 26 = .ok (.aload_n 0, 1) := by decide +kernel
theorem dX4_find_27 : decode cX4_find 27 = .ok (.aload_n 1, 1) := by decide +kernel
theorem dX4_find_28 : decode cX4_find 28 = .ok (.getfield 41, 3) := by decide +kernel
theorem dX4_find_31 : decode cX4_find 31 = .ok (.invokevirtual 50, 3) := by decide +kernel
theorem dX4_goForward_0 : decode cX4_goForward 0 = .ok (.aload_n 0, 1) := by decide +kernel
theorem dX4_goForward_1 : decode cX4_goForward 1 = .ok (.getfield 24, 3) := by decide +kernel
theorem dX4_goForward_4 : decode cX4_goForward 4 = .ok (.iconst 0, 1) := by decide +kernel
theorem dX4_goForward_5 : decode cX4_goForward 5 = .ok (.iconst 1, 1) := by decide +kernel
theorem dX4_goForward_6 : decode cX4_goForward 6 = .ok (.iastore, 1) := by decide +kernel
theorem dX4_goForward_7 : decode cX4_goForward 7 = .ok (.iconst 1, 1) := by decide +kernel
theorem dX4_goForward_8 : decode cX4_goForward 8 = .ok (.istore_n 2, 1) := by decide +kernel
theorem dX4_goForward_9 : decode cX4_goForward 9 = .ok (.iload_n 2, 1) := by decide +kernel
theorem dX4_goForward_10 : decode cX4_goForward 10 = .ok (.aload_n 0, 1) := by decide +kernel
theorem dX4_goForward_11 : decode cX4_goForward 11 = .ok (.getfield 34, 3) := by decide +kernel
theorem dX4_goForward_14 : decode cX4_goForward 14 = .ok (.if_icmp .gt 106, 3) := by decide +kernel
theorem dX4_goForward_120 : decode cX4_goForward 120 = .ok (.return_, 1) := by decide +kernel
theorem dX4_find_34 : decode cX4_find 34 = .ok (.aload_n 0, 1) := by decide +kernel
theorem dX4_find_35 : decode cX4_find 35 = .ok (.aload_n 1, 1) := by decide +kernel
theorem dX4_find_36 : decode cX4_find 36 = .ok (.getfield 41, 3) := by decide +kernel
theorem dX4_find_39 : decode cX4_find 39 = .ok (.invokevirtual 54, 3) := by decide +kernel
theorem dX4_goBackward_0 : decode cX4_goBackward 0 = .ok (.iconst 0, 1) := by decide +kernel
theorem dX4_goBackward_1 : decode cX4_goBackward 1 = .ok (.istore_n 2, 1) := by decide +kernel
theorem dX4_goBackward_2 : decode cX4_goBackward 2 = .ok (.iload_n 2, 1) := by decide +kernel
theorem dX4_goBackward_3 : decode cX4_goBackward 3 = .ok (.aload_n 0, 1) := by decide +kernel
theorem dX4_goBackward_4 : decode cX4_goBackward 4 = .ok (.getfield 34, 3) := by decide +kernel
theorem dX4_goBackward_7 : decode cX4_goBackward 7 = .ok (.if_icmp .gt 28, 3) := by decide +kernel
theorem dX4_goBackward_10 : decode cX4_goBackward 10 = .ok (.aload_n 0, 1) := by decide +kernel
theorem dX4_goBackward_11 : decode cX4_goBackward 11 = .ok (.getfield 27, 3) := by decide +kernel
theorem dX4_goBackward_14 : decode cX4_goBackward 14 = .ok (.iload_n 2, 1) := by decide +kernel
theorem dX4_goBackward_15 : decode cX4_goBackward 15 = .ok (.iload_n 2, 1) := by decide +kernel
theorem dX4_goBackward_16 : decode cX4_goBackward 16 = .ok (.aload_n 0, 1) := by decide +kernel
theorem dX4_goBackward_17 : decode cX4_goBackward 17 = .ok (.getfield 34, 3) := by decide +kernel
theorem dX4_goBackward_20 : decode cX4_goBackward 20 = .ok (.if_icmp .ne 7, 3) := by decide +kernel
theorem dX4_goBackward_23 : decode cX4_goBackward 23 = .ok (.iconst 1, 1) := by decide +kernel
theorem dX4_goBackward_24 : decode cX4_goBackward 24 = .ok (.goto 4, 3) := by decide +kernel
theorem dX4_goBackward_28 : decode cX4_goBackward 28 = .ok (.bastore, 1) := by decide +kernel
theorem dX4_goBackward_29 : decode cX4_goBackward 29 = .ok (.iinc 2 1, 3) := by decide +kernel
theorem dX4_goBackward_32 : decode cX4_goBackward 32 = .ok (.goto (-30), 3) := by decide +kernel
theorem dX4_goBackward_35 : decode cX4_goBackward 35 = .ok (.aload_n 0, 1) := by decide +kernel
theorem dX4_goBackward_36 : decode cX4_goBackward 36 = .ok (.getfield 34, 3) := by decide +kernel
theorem dX4_goBackward_39 : decode cX4_goBackward 39 = .ok (.istore_n 2, 1) := by decide +kernel
theorem dX4_goBackward_40 : decode cX4_goBackward 40 = .ok (.iload_n 2, 1) := by decide +kernel
theorem dX4_goBackward_41 : decode cX4_goBackward 41 = .ok (.ifCond .le 90, 3) := by decide +kernel
theorem dX4_goBackward_131 : decode cX4_goBackward 131 = .ok (.return_, 1) := by decide +kernel
theorem dX4_find_42 : decode cX4_find 42 = .ok (.aload_n 0, 1) := by decide +kernel
theorem dX4_find_43 : decode cX4_find 43 = .ok (.aload_n 1, 1) := by decide +kernel
theorem dX4_find_44 : decode cX4_find 44 = .ok (.getfield 41, 3) := by decide +kernel
theorem dX4_find_47 : decode cX4_find 47 = .ok (.invokevirtual 57, 3) := by decide +kernel
theorem dX4_findOrder_0 : decode cX4_findOrder 0 = .ok (.iconst 0, 1) := by decide +kernel
theorem dX4_findOrder_1 : decode cX4_findOrder 1 = .ok (.istore_n 2, 1) := by decide +kernel
theorem dX4_findOrder_2 : decode cX4_findOrder 2 = .ok (.iconst 0, 1) := by decide +kernel
theorem dX4_findOrder_3 : decode cX4_findOrder 3 = .ok (.istore_n 3, 1) := by decide +kernel
theorem dX4_findOrder_4 : decode cX4_findOrder 4 = .ok (.iload_n 3, 1) := by decide +kernel
theorem dX4_findOrder_5 : decode cX4_findOrder 5 = .ok (.iload_n 1, 1) := by decide +kernel
theorem dX4_findOrder_6 : decode cX4_findOrder 6 = .ok (.if_icmp .ge 38, 3) := by decide +kernel
theorem dX4_findOrder_44 : decode cX4_findOrder 44 = .ok (.return_, 1) := by decide +kernel
theorem dX4_find_50 : decode cX4_find 50 = .ok (.aload_n 0, 1) := by decide +kernel
theorem dX4_find_51 : decode cX4_find 51 = .ok (.iconst 1, 1) := by decide +kernel
theorem dX4_find_52 : decode cX4_find 52 = .ok (.putfield 37, 3) := by decide +kernel
theorem dX4_find_55 : decode cX4_find 55 = .ok (.return_, 1) := by decide +kernel
theorem dX6_checkPlaceInOrder_15 : decode cX6_checkPlaceInOrder 15 = .ok (.aload_n 0, 1) := by decide +kernel
theorem dX6_checkPlaceInOrder_16 : decode cX6_checkPlaceInOrder 16 = .ok (.getfield 40, 3) := by decide +kernel
theorem dX6_checkPlaceInOrder_19 : decode cX6_checkPlaceInOrder 19 = .ok (.invokevirtual 250, 3) := by decide +kernel
theorem dX4_orderCount_0 : decode cX4_orderCount 0 = .ok (.aload_n 0, 1) := by decide +kernel
theorem dX4_orderCount_1 : decode cX4_orderCount 1 = .ok (.getfield 24, 3) := by decide +kernel
theorem dX4_orderCount_4 : decode cX4_orderCount 4 = .ok (.aload_n 0, 1) := by decide +kernel
theorem dX4_orderCount_5 : decode cX4_orderCount 5 = .ok (.getfield 34, 3) := by decide +kernel
theorem dX4_orderCount_8 : decode cX4_orderCount 8 = .ok (.iaload, 1) := by decide +kernel
theorem dX4_orderCount_9 : decode cX4_orderCount 9 = .ok (.ireturn, 1) := by decide +kernel
theorem dX6_checkPlaceInOrder_22 : decode cX6_checkPlaceInOrder 22 = .ok (.ifCond .ne 14, 3) := by decide +kernel
theorem dX6_checkPlaceInOrder_36 : decode cX6_checkPlaceInOrder 36 = .ok (.iload_n 1, 1) := by decide +kernel
theorem dX6_checkPlaceInOrder_37 : decode cX6_checkPlaceInOrder 37 = .ok (.ifCond .lt 14, 3) := by decide +kernel
theorem dX6_checkPlaceInOrder_51 : decode cX6_checkPlaceInOrder 51 = .ok (.new 228, 3) := by decide +kernel
theorem dX6_checkPlaceInOrder_54 : decode cX6_checkPlaceInOrder 54 = .ok (.dup, 1) := by decide +kernel
theorem dX6_checkPlaceInOrder_55 : decode cX6_checkPlaceInOrder 55 = .ok (.ldc_w 298, 3) := by decide +kernel
theorem dX6_checkPlaceInOrder_58 : decode cX6_checkPlaceInOrder 58 = .ok (.invokespecial 232, 3) := by decide +kernel
theorem dX6_checkPlaceInOrder_61 : decode cX6_checkPlaceInOrder 61 = .ok (.athrow, 1) := by decide +kernel
theorem dL_raised_15 : decode cL_raised 15 = .ok (.astore_n 3, 1) := by decide +kernel
theorem dL_raised_16 : decode cL_raised 16 = .ok (.iconst 2, 1) := by decide +kernel
theorem dL_raised_17 : decode cL_raised 17 = .ok (.ireturn, 1) := by decide +kernel
theorem dL_law_1592 : decode cL_law 1592 = .ok (.istore 6, 2) := by decide +kernel
theorem dL_law_1594 : decode cL_law 1594 = .ok (.aload_n 2, 1) := by decide +kernel
theorem dL_law_1595 : decode cL_law 1595 = .ok (.aload_n 0, 1) := by decide +kernel
theorem dL_law_1596 : decode cL_law 1596 = .ok (.iload 5, 2) := by decide +kernel
theorem dL_law_1598 : decode cL_law 1598 = .ok (.iconst 1, 1) := by decide +kernel
theorem dL_law_1599 : decode cL_law 1599 = .ok (.iadd, 1) := by decide +kernel
theorem dL_law_1600 : decode cL_law 1600 = .ok (.iaload, 1) := by decide +kernel
theorem dL_law_1601 : decode cL_law 1601 = .ok (.invokevirtual 206, 3) := by decide +kernel
theorem dX12_raised_0 : decode cX12_raised 0 = .ok (.aload_n 0, 1) := by decide +kernel
theorem dX12_raised_1 : decode cX12_raised 1 = .ok (.invokevirtual 395, 3) := by decide +kernel
theorem dX12_hasOrder_0 : decode cX12_hasOrder 0 = .ok (.aload_n 0, 1) := by decide +kernel
theorem dX12_hasOrder_1 : decode cX12_hasOrder 1 = .ok (.invokevirtual 392, 3) := by decide +kernel
theorem dX12_raises_0 : decode cX12_raises 0 = .ok (.aload_n 0, 1) := by decide +kernel
theorem dX12_raises_1 : decode cX12_raises 1 = .ok (.getfield 81, 3) := by decide +kernel
theorem dX12_raises_4 : decode cX12_raises 4 = .ok (.ifCond .eq 4, 3) := by decide +kernel
theorem dX12_raises_8 : decode cX12_raises 8 = .ok (.aload_n 0, 1) := by decide +kernel
theorem dX12_raises_9 : decode cX12_raises 9 = .ok (.iconst 1, 1) := by decide +kernel
theorem dX12_raises_10 : decode cX12_raises 10 = .ok (.putfield 81, 3) := by decide +kernel
theorem dX12_raises_13 : decode cX12_raises 13 = .ok (.iconst 1, 1) := by decide +kernel
theorem dX12_raises_14 : decode cX12_raises 14 = .ok (.aload_n 0, 1) := by decide +kernel
theorem dX12_raises_15 : decode cX12_raises 15 = .ok (.getfield 16, 3) := by decide +kernel
theorem dX12_raises_18 : decode cX12_raises 18 = .ok (.invokevirtual 125, 3) := by decide +kernel
theorem dX12_raises_21 : decode cX12_raises 21 = .ok (.ishl, 1) := by decide +kernel
theorem dX12_raises_22 : decode cX12_raises 22 = .ok (.iconst 1, 1) := by decide +kernel
theorem dX12_raises_23 : decode cX12_raises 23 = .ok (.isub, 1) := by decide +kernel
theorem dX12_raises_24 : decode cX12_raises 24 = .ok (.istore_n 1, 1) := by decide +kernel
theorem dX12_raises_25 : decode cX12_raises 25 = .ok (.aload_n 0, 1) := by decide +kernel
theorem dX12_raises_26 : decode cX12_raises 26 = .ok (.getfield 42, 3) := by decide +kernel
theorem dX12_raises_29 : decode cX12_raises 29 = .ok (.iload_n 1, 1) := by decide +kernel
theorem dX12_raises_30 : decode cX12_raises 30 = .ok (.iconst 1, 1) := by decide +kernel
theorem dX12_raises_31 : decode cX12_raises 31 = .ok (.iastore, 1) := by decide +kernel
theorem dX12_raises_32 : decode cX12_raises 32 = .ok (.iload_n 1, 1) := by decide +kernel
theorem dX12_raises_33 : decode cX12_raises 33 = .ok (.iconst 1, 1) := by decide +kernel
theorem dX12_raises_34 : decode cX12_raises 34 = .ok (.isub, 1) := by decide +kernel
theorem dX12_raises_35 : decode cX12_raises 35 = .ok (.istore_n 2, 1) := by decide +kernel
theorem dX12_raises_36 : decode cX12_raises 36 = .ok (.iload_n 2, 1) := by decide +kernel
theorem dX12_raises_37 : decode cX12_raises 37 = .ok (.ifCond .lt 67, 3) := by decide +kernel
theorem dX12_raises_104 : decode cX12_raises 104 = .ok (.iconst 0, 1) := by decide +kernel
theorem dX12_raises_105 : decode cX12_raises 105 = .ok (.istore_n 2, 1) := by decide +kernel
theorem dX12_raises_106 : decode cX12_raises 106 = .ok (.iconst 0, 1) := by decide +kernel
theorem dX12_raises_107 : decode cX12_raises 107 = .ok (.istore_n 3, 1) := by decide +kernel
theorem dX12_raises_108 : decode cX12_raises 108 = .ok (.iload_n 3, 1) := by decide +kernel
theorem dX12_raises_109 : decode cX12_raises 109 = .ok (.aload_n 0, 1) := by decide +kernel
theorem dX12_raises_110 : decode cX12_raises 110 = .ok (.getfield 16, 3) := by decide +kernel
theorem dX12_raises_113 : decode cX12_raises 113 = .ok (.invokevirtual 125, 3) := by decide +kernel
theorem dX12_raises_116 : decode cX12_raises 116 = .ok (.if_icmp .ge 66, 3) := by decide +kernel
theorem dX12_raises_182 : decode cX12_raises 182 = .ok (.return_, 1) := by decide +kernel
theorem dX12_hasOrder_4 : decode cX12_hasOrder 4 = .ok (.aload_n 0, 1) := by decide +kernel
theorem dX12_hasOrder_5 : decode cX12_hasOrder 5 = .ok (.getfield 42, 3) := by decide +kernel
theorem dX12_hasOrder_8 : decode cX12_hasOrder 8 = .ok (.iconst 0, 1) := by decide +kernel
theorem dX12_hasOrder_9 : decode cX12_hasOrder 9 = .ok (.iaload, 1) := by decide +kernel
theorem dX12_hasOrder_10 : decode cX12_hasOrder 10 = .ok (.ifCond .le 7, 3) := by decide +kernel
theorem dX12_hasOrder_13 : decode cX12_hasOrder 13 = .ok (.iconst 1, 1) := by decide +kernel
theorem dX12_hasOrder_14 : decode cX12_hasOrder 14 = .ok (.goto 4, 3) := by decide +kernel
theorem dX12_hasOrder_18 : decode cX12_hasOrder 18 = .ok (.ireturn, 1) := by decide +kernel
theorem dX12_raised_4 : decode cX12_raised 4 = .ok (.ifCond .ne 9, 3) := by decide +kernel
theorem dX12_raised_13 : decode cX12_raised 13 = .ok (.iload_n 1, 1) := by decide +kernel
theorem dX12_raised_14 : decode cX12_raised 14 = .ok (.i2l, 1) := by decide +kernel
theorem dX12_raised_15 : decode cX12_raised 15 = .ok (.iconst 0, 1) := by decide +kernel
theorem dX12_raised_16 : decode cX12_raised 16 = .ok (.aload_n 0, 1) := by decide +kernel
theorem dX12_raised_17 : decode cX12_raised 17 = .ok (.getfield 16, 3) := by decide +kernel
theorem dX12_raised_20 : decode cX12_raised 20 = .ok (.invokevirtual 125, 3) := by decide +kernel
theorem dX12_raised_23 : decode cX12_raised 23 = .ok (.iconst 1, 1) := by decide +kernel
theorem dX12_raised_24 : decode cX12_raised 24 = .ok (.isub, 1) := by decide +kernel
theorem dX12_raised_25 : decode cX12_raised 25 = .ok (.invokestatic 285, 3) := by decide +kernel
theorem dX12_raised_28 : decode cX12_raised 28 = .ok (.ifCond .eq 16, 3) := by decide +kernel
theorem dX12_raised_44 : decode cX12_raised 44 = .ok (.aload_n 0, 1) := by decide +kernel
theorem dX12_raised_45 : decode cX12_raised 45 = .ok (.iconst 2, 1) := by decide +kernel
theorem dX12_raised_46 : decode cX12_raised 46 = .ok (.invokevirtual 289, 3) := by decide +kernel
theorem dX12_raised_49 : decode cX12_raised 49 = .ok (.ireturn, 1) := by decide +kernel
theorem dL_law_1604 : decode cL_law 1604 = .ok (.istore 7, 2) := by decide +kernel
theorem dL_law_1606 : decode cL_law 1606 = .ok (.aload_n 2, 1) := by decide +kernel
theorem dL_law_1607 : decode cL_law 1607 = .ok (.invokevirtual 125, 3) := by decide +kernel
theorem dL_law_1610 : decode cL_law 1610 = .ok (.iload 6, 2) := by decide +kernel
theorem dL_law_1612 : decode cL_law 1612 = .ok (.if_icmp .eq 5, 3) := by decide +kernel
theorem dL_law_1617 : decode cL_law 1617 = .ok (.iload 6, 2) := by decide +kernel
theorem dL_law_1619 : decode cL_law 1619 = .ok (.ifCond .ne 15, 3) := by decide +kernel
theorem dL_law_1634 : decode cL_law 1634 = .ok (.goto 329, 3) := by decide +kernel
theorem dX6_checkPlaceInOrder_40 : decode cX6_checkPlaceInOrder 40 = .ok (.iload_n 1, 1) := by decide +kernel
theorem dX6_checkPlaceInOrder_41 : decode cX6_checkPlaceInOrder 41 = .ok (.aload_n 0, 1) := by decide +kernel
theorem dX6_checkPlaceInOrder_42 : decode cX6_checkPlaceInOrder 42 = .ok (.getfield 12, 3) := by decide +kernel
theorem dX6_checkPlaceInOrder_45 : decode cX6_checkPlaceInOrder 45 = .ok (.getfield 93, 3) := by decide +kernel
theorem dX6_checkPlaceInOrder_48 : decode cX6_checkPlaceInOrder 48 = .ok (.if_icmp .lt 14, 3) := by decide +kernel
theorem dL_law_1637 : decode cL_law 1637 = .ok (.aload_n 1, 1) := by decide +kernel
theorem dL_law_1638 : decode cL_law 1638 = .ok (.invokevirtual 207, 3) := by decide +kernel
theorem dX6_canRaise_0 : decode cX6_canRaise 0 = .ok (.aload_n 0, 1) := by decide +kernel
theorem dX6_canRaise_1 : decode cX6_canRaise 1 = .ok (.getfield 40, 3) := by decide +kernel
theorem dX6_canRaise_4 : decode cX6_canRaise 4 = .ok (.aload_n 0, 1) := by decide +kernel
theorem dX6_canRaise_5 : decode cX6_canRaise 5 = .ok (.getfield 12, 3) := by decide +kernel
theorem dX6_canRaise_8 : decode cX6_canRaise 8 = .ok (.aload_n 0, 1) := by decide +kernel
theorem dX6_canRaise_9 : decode cX6_canRaise 9 = .ok (.getfield 26, 3) := by decide +kernel
theorem dX6_canRaise_12 : decode cX6_canRaise 12 = .ok (.invokevirtual 247, 3) := by decide +kernel
theorem dX6_canRaise_15 : decode cX6_canRaise 15 = .ok (.aload_n 0, 1) := by decide +kernel
theorem dX6_canRaise_16 : decode cX6_canRaise 16 = .ok (.getfield 40, 3) := by decide +kernel
theorem dX6_canRaise_19 : decode cX6_canRaise 19 = .ok (.invokevirtual 250, 3) := by decide +kernel
theorem dX6_canRaise_22 : decode cX6_canRaise 22 = .ok (.ifCond .le 7, 3) := by decide +kernel
theorem dX6_canRaise_25 : decode cX6_canRaise 25 = .ok (.iconst 1, 1) := by decide +kernel
theorem dX6_canRaise_26 : decode cX6_canRaise 26 = .ok (.goto 4, 3) := by decide +kernel
theorem dX6_canRaise_30 : decode cX6_canRaise 30 = .ok (.ireturn, 1) := by decide +kernel
theorem dL_law_1641 : decode cL_law 1641 = .ok (.aload_n 2, 1) := by decide +kernel
theorem dL_law_1642 : decode cL_law 1642 = .ok (.invokevirtual 211, 3) := by decide +kernel
theorem dX12_canRaise_0 : decode cX12_canRaise 0 = .ok (.aload_n 0, 1) := by decide +kernel
theorem dX12_canRaise_1 : decode cX12_canRaise 1 = .ok (.aload_n 0, 1) := by decide +kernel
theorem dX12_canRaise_2 : decode cX12_canRaise 2 = .ok (.invokevirtual 395, 3) := by decide +kernel
theorem dX12_canRaise_5 : decode cX12_canRaise 5 = .ok (.invokevirtual 343, 3) := by decide +kernel
theorem dX12_canRaise_8 : decode cX12_canRaise 8 = .ok (.ireturn, 1) := by decide +kernel
theorem dL_law_1645 : decode cL_law 1645 = .ok (.if_icmp .eq 318, 3) := by decide +kernel
theorem dL_law_1650 : decode cL_law 1650 = .ok (.aload_n 1, 1) := by decide +kernel
theorem dL_law_1651 : decode cL_law 1651 = .ok (.invokevirtual 212, 3) := by decide +kernel
theorem dX6_canTakeAway_0 : decode cX6_canTakeAway 0 = .ok (.aload_n 0, 1) := by decide +kernel
theorem dX6_canTakeAway_1 : decode cX6_canTakeAway 1 = .ok (.getfield 40, 3) := by decide +kernel
theorem dX6_canTakeAway_4 : decode cX6_canTakeAway 4 = .ok (.aload_n 0, 1) := by decide +kernel
theorem dX6_canTakeAway_5 : decode cX6_canTakeAway 5 = .ok (.getfield 12, 3) := by decide +kernel
theorem dX6_canTakeAway_8 : decode cX6_canTakeAway 8 = .ok (.aload_n 0, 1) := by decide +kernel
theorem dX6_canTakeAway_9 : decode cX6_canTakeAway 9 = .ok (.getfield 26, 3) := by decide +kernel
theorem dX6_canTakeAway_12 : decode cX6_canTakeAway 12 = .ok (.invokevirtual 247, 3) := by decide +kernel
theorem dX6_canTakeAway_15 : decode cX6_canTakeAway 15 = .ok (.aload_n 0, 1) := by decide +kernel
theorem dX6_canTakeAway_16 : decode cX6_canTakeAway 16 = .ok (.getfield 40, 3) := by decide +kernel
theorem dX6_canTakeAway_19 : decode cX6_canTakeAway 19 = .ok (.getfield 254, 3) := by decide +kernel
theorem dX6_canTakeAway_22 : decode cX6_canTakeAway 22 = .ok (.iconst 0, 1) := by decide +kernel
theorem dX6_canTakeAway_23 : decode cX6_canTakeAway 23 = .ok (.baload, 1) := by decide +kernel
theorem dX6_canTakeAway_24 : decode cX6_canTakeAway 24 = .ok (.ireturn, 1) := by decide +kernel
theorem dL_law_1654 : decode cL_law 1654 = .ok (.aload_n 2, 1) := by decide +kernel
theorem dL_law_1655 : decode cL_law 1655 = .ok (.invokevirtual 215, 3) := by decide +kernel
theorem dX12_canTakeAway_0 : decode cX12_canTakeAway 0 = .ok (.aload_n 0, 1) := by decide +kernel
theorem dX12_canTakeAway_1 : decode cX12_canTakeAway 1 = .ok (.aload_n 0, 1) := by decide +kernel
theorem dX12_canTakeAway_2 : decode cX12_canTakeAway 2 = .ok (.iconst 1, 1) := by decide +kernel
theorem dX12_canTakeAway_3 : decode cX12_canTakeAway 3 = .ok (.aload_n 0, 1) := by decide +kernel
theorem dX12_canTakeAway_4 : decode cX12_canTakeAway 4 = .ok (.getfield 16, 3) := by decide +kernel
theorem dX12_canTakeAway_7 : decode cX12_canTakeAway 7 = .ok (.invokevirtual 125, 3) := by decide +kernel
theorem dX12_canTakeAway_10 : decode cX12_canTakeAway 10 = .ok (.ishl, 1) := by decide +kernel
theorem dX12_canTakeAway_11 : decode cX12_canTakeAway 11 = .ok (.iconst 1, 1) := by decide +kernel
theorem dX12_canTakeAway_12 : decode cX12_canTakeAway 12 = .ok (.isub, 1) := by decide +kernel
theorem dX12_canTakeAway_13 : decode cX12_canTakeAway 13 = .ok (.invokevirtual 398, 3) := by decide +kernel
theorem dX12_isTakenAway_0 : decode cX12_isTakenAway 0 = .ok (.iconst 0, 1) := by decide +kernel
theorem dX12_isTakenAway_1 : decode cX12_isTakenAway 1 = .ok (.istore_n 2, 1) := by decide +kernel
theorem dX12_isTakenAway_2 : decode cX12_isTakenAway 2 = .ok (.iload_n 2, 1) := by decide +kernel
theorem dX12_isTakenAway_3 : decode cX12_isTakenAway 3 = .ok (.iconst 1, 1) := by decide +kernel
theorem dX12_isTakenAway_4 : decode cX12_isTakenAway 4 = .ok (.aload_n 0, 1) := by decide +kernel
theorem dX12_isTakenAway_5 : decode cX12_isTakenAway 5 = .ok (.getfield 16, 3) := by decide +kernel
theorem dX12_isTakenAway_8 : decode cX12_isTakenAway 8 = .ok (.invokevirtual 125, 3) := by decide +kernel
theorem dX12_isTakenAway_11 : decode cX12_isTakenAway 11 = .ok (.ishl, 1) := by decide +kernel
theorem dX12_isTakenAway_12 : decode cX12_isTakenAway 12 = .ok (.if_icmp .ge 16, 3) := by decide +kernel
theorem dX12_isTakenAway_15 : decode cX12_isTakenAway 15 = .ok (.aload_n 0, 1) := by decide +kernel
theorem dX12_isTakenAway_16 : decode cX12_isTakenAway 16 = .ok (.getfield 35, 3) := by decide +kernel
theorem dX12_isTakenAway_19 : decode cX12_isTakenAway 19 = .ok (.iload_n 2, 1) := by decide +kernel
theorem dX12_isTakenAway_20 : decode cX12_isTakenAway 20 = .ok (.iconst 0, 1) := by decide +kernel
theorem dX12_isTakenAway_21 : decode cX12_isTakenAway 21 = .ok (.bastore, 1) := by decide +kernel
theorem dX12_isTakenAway_22 : decode cX12_isTakenAway 22 = .ok (.iinc 2 1, 3) := by decide +kernel
theorem dX12_isTakenAway_25 : decode cX12_isTakenAway 25 = .ok (.goto (-23), 3) := by decide +kernel
theorem dX12_isTakenAway_28 : decode cX12_isTakenAway 28 = .ok (.aload_n 0, 1) := by decide +kernel
theorem dX12_isTakenAway_29 : decode cX12_isTakenAway 29 = .ok (.getfield 35, 3) := by decide +kernel
theorem dX12_isTakenAway_32 : decode cX12_isTakenAway 32 = .ok (.iload_n 1, 1) := by decide +kernel
theorem dX12_isTakenAway_33 : decode cX12_isTakenAway 33 = .ok (.iconst 1, 1) := by decide +kernel
theorem dX12_isTakenAway_34 : decode cX12_isTakenAway 34 = .ok (.bastore, 1) := by decide +kernel
theorem dX12_isTakenAway_35 : decode cX12_isTakenAway 35 = .ok (.iload_n 1, 1) := by decide +kernel
theorem dX12_isTakenAway_36 : decode cX12_isTakenAway 36 = .ok (.istore_n 2, 1) := by decide +kernel
theorem dX12_isTakenAway_37 : decode cX12_isTakenAway 37 = .ok (.iload_n 2, 1) := by decide +kernel
theorem dX12_isTakenAway_38 : decode cX12_isTakenAway 38 = .ok (.ifCond .le 105, 3) := by decide +kernel
theorem dX12_isTakenAway_143 : decode cX12_isTakenAway 143 = .ok (.aload_n 0, 1) := by decide +kernel
theorem dX12_isTakenAway_144 : decode cX12_isTakenAway 144 = .ok (.getfield 35, 3) := by decide +kernel
theorem dX12_isTakenAway_147 : decode cX12_isTakenAway 147 = .ok (.iconst 0, 1) := by decide +kernel
theorem dX12_isTakenAway_148 : decode cX12_isTakenAway 148 = .ok (.baload, 1) := by decide +kernel
theorem dX12_isTakenAway_149 : decode cX12_isTakenAway 149 = .ok (.ireturn, 1) := by decide +kernel
theorem dX12_canTakeAway_16 : decode cX12_canTakeAway 16 = .ok (.invokevirtual 343, 3) := by decide +kernel
theorem dX12_canTakeAway_19 : decode cX12_canTakeAway 19 = .ok (.ireturn, 1) := by decide +kernel
theorem dL_law_1658 : decode cL_law 1658 = .ok (.if_icmp .eq 305, 3) := by decide +kernel
theorem dL_law_1663 : decode cL_law 1663 = .ok (.aload_n 1, 1) := by decide +kernel
theorem dL_law_1664 : decode cL_law 1664 = .ok (.invokevirtual 216, 3) := by decide +kernel
theorem dX6_orders_0 : decode cX6_orders 0 = .ok (.aload_n 0, 1) := by decide +kernel
theorem dX6_orders_1 : decode cX6_orders 1 = .ok (.getfield 40, 3) := by decide +kernel
theorem dX6_orders_4 : decode cX6_orders 4 = .ok (.aload_n 0, 1) := by decide +kernel
theorem dX6_orders_5 : decode cX6_orders 5 = .ok (.getfield 12, 3) := by decide +kernel
theorem dX6_orders_8 : decode cX6_orders 8 = .ok (.aload_n 0, 1) := by decide +kernel
theorem dX6_orders_9 : decode cX6_orders 9 = .ok (.getfield 26, 3) := by decide +kernel
theorem dX6_orders_12 : decode cX6_orders 12 = .ok (.invokevirtual 247, 3) := by decide +kernel
theorem dX6_orders_15 : decode cX6_orders 15 = .ok (.aload_n 0, 1) := by decide +kernel
theorem dX6_orders_16 : decode cX6_orders 16 = .ok (.getfield 40, 3) := by decide +kernel
theorem dX6_orders_19 : decode cX6_orders 19 = .ok (.invokevirtual 250, 3) := by decide +kernel
theorem dX6_orders_22 : decode cX6_orders 22 = .ok (.ireturn, 1) := by decide +kernel
theorem dL_law_1667 : decode cL_law 1667 = .ok (.aload_n 2, 1) := by decide +kernel
theorem dL_law_1668 : decode cL_law 1668 = .ok (.invokevirtual 219, 3) := by decide +kernel
theorem dX12_orders_0 : decode cX12_orders 0 = .ok (.aload_n 0, 1) := by decide +kernel
theorem dX12_orders_1 : decode cX12_orders 1 = .ok (.invokevirtual 392, 3) := by decide +kernel
theorem dX12_orders_4 : decode cX12_orders 4 = .ok (.aload_n 0, 1) := by decide +kernel
theorem dX12_orders_5 : decode cX12_orders 5 = .ok (.aload_n 0, 1) := by decide +kernel
theorem dX12_orders_6 : decode cX12_orders 6 = .ok (.getfield 42, 3) := by decide +kernel
theorem dX12_orders_9 : decode cX12_orders 9 = .ok (.iconst 0, 1) := by decide +kernel
theorem dX12_orders_10 : decode cX12_orders 10 = .ok (.iaload, 1) := by decide +kernel
theorem dX12_orders_11 : decode cX12_orders 11 = .ok (.invokevirtual 302, 3) := by decide +kernel
theorem dX12_orders_14 : decode cX12_orders 14 = .ok (.ireturn, 1) := by decide +kernel
theorem dL_law_1671 : decode cL_law 1671 = .ok (.if_icmp .eq 292, 3) := by decide +kernel
theorem dL_law_1676 : decode cL_law 1676 = .ok (.aload_n 1, 1) := by decide +kernel
theorem dL_law_1677 : decode cL_law 1677 = .ok (.aload_n 0, 1) := by decide +kernel
theorem dL_law_1678 : decode cL_law 1678 = .ok (.iload 5, 2) := by decide +kernel
theorem dL_law_1680 : decode cL_law 1680 = .ok (.iconst 1, 1) := by decide +kernel
theorem dL_law_1681 : decode cL_law 1681 = .ok (.iadd, 1) := by decide +kernel
theorem dL_law_1682 : decode cL_law 1682 = .ok (.iaload, 1) := by decide +kernel
theorem dL_law_1683 : decode cL_law 1683 = .ok (.aload_n 3, 1) := by decide +kernel
theorem dL_law_1684 : decode cL_law 1684 = .ok (.invokestatic 220, 3) := by decide +kernel
theorem dL_props_0 : decode cL_props 0 = .ok (.aload_n 2, 1) := by decide +kernel
theorem dL_props_1 : decode cL_props 1 = .ok (.iconst 0, 1) := by decide +kernel
theorem dL_props_2 : decode cL_props 2 = .ok (.aload_n 0, 1) := by decide +kernel
theorem dL_props_3 : decode cL_props 3 = .ok (.iload_n 1, 1) := by decide +kernel
theorem dL_props_4 : decode cL_props 4 = .ok (.invokevirtual 95, 3) := by decide +kernel
theorem dX6_props_0 : decode cX6_props 0 = .ok (.aload_n 0, 1) := by decide +kernel
theorem dX6_props_1 : decode cX6_props 1 = .ok (.iload_n 1, 1) := by decide +kernel
theorem dX6_props_2 : decode cX6_props 2 = .ok (.invokevirtual 241, 3) := by decide +kernel
theorem dL_props_15 : decode cL_props 15 = .ok (.astore_n 3, 1) := by decide +kernel
theorem dL_props_16 : decode cL_props 16 = .ok (.iconst 2, 1) := by decide +kernel
theorem dL_props_17 : decode cL_props 17 = .ok (.ireturn, 1) := by decide +kernel
theorem dL_law_1687 : decode cL_law 1687 = .ok (.istore 6, 2) := by decide +kernel
theorem dL_law_1689 : decode cL_law 1689 = .ok (.aload_n 2, 1) := by decide +kernel
theorem dL_law_1690 : decode cL_law 1690 = .ok (.aload_n 0, 1) := by decide +kernel
theorem dL_law_1691 : decode cL_law 1691 = .ok (.iload 5, 2) := by decide +kernel
theorem dL_law_1693 : decode cL_law 1693 = .ok (.iconst 1, 1) := by decide +kernel
theorem dL_law_1694 : decode cL_law 1694 = .ok (.iadd, 1) := by decide +kernel
theorem dL_law_1695 : decode cL_law 1695 = .ok (.iaload, 1) := by decide +kernel
theorem dL_law_1696 : decode cL_law 1696 = .ok (.invokevirtual 222, 3) := by decide +kernel
theorem dX12_props_0 : decode cX12_props 0 = .ok (.aload_n 0, 1) := by decide +kernel
theorem dX12_props_1 : decode cX12_props 1 = .ok (.invokevirtual 395, 3) := by decide +kernel
theorem dX12_props_4 : decode cX12_props 4 = .ok (.ifCond .ne 9, 3) := by decide +kernel
theorem dX12_props_13 : decode cX12_props 13 = .ok (.iload_n 1, 1) := by decide +kernel
theorem dX12_props_14 : decode cX12_props 14 = .ok (.i2l, 1) := by decide +kernel
theorem dX12_props_15 : decode cX12_props 15 = .ok (.iconst 0, 1) := by decide +kernel
theorem dX12_props_16 : decode cX12_props 16 = .ok (.aload_n 0, 1) := by decide +kernel
theorem dX12_props_17 : decode cX12_props 17 = .ok (.getfield 16, 3) := by decide +kernel
theorem dX12_props_20 : decode cX12_props 20 = .ok (.invokevirtual 125, 3) := by decide +kernel
theorem dX12_props_23 : decode cX12_props 23 = .ok (.iconst 1, 1) := by decide +kernel
theorem dX12_props_24 : decode cX12_props 24 = .ok (.isub, 1) := by decide +kernel
theorem dX12_props_25 : decode cX12_props 25 = .ok (.invokestatic 285, 3) := by decide +kernel
theorem dX12_props_28 : decode cX12_props 28 = .ok (.ifCond .ne 9, 3) := by decide +kernel
theorem dX12_props_31 : decode cX12_props 31 = .ok (.aload_n 0, 1) := by decide +kernel
theorem dX12_props_32 : decode cX12_props 32 = .ok (.iconst 2, 1) := by decide +kernel
theorem dX12_props_33 : decode cX12_props 33 = .ok (.invokevirtual 289, 3) := by decide +kernel
theorem dX12_props_36 : decode cX12_props 36 = .ok (.ireturn, 1) := by decide +kernel
theorem dL_law_1699 : decode cL_law 1699 = .ok (.istore 7, 2) := by decide +kernel
theorem dL_law_1701 : decode cL_law 1701 = .ok (.aload_n 2, 1) := by decide +kernel
theorem dL_law_1702 : decode cL_law 1702 = .ok (.invokevirtual 125, 3) := by decide +kernel
theorem dL_law_1705 : decode cL_law 1705 = .ok (.iload 6, 2) := by decide +kernel
theorem dL_law_1707 : decode cL_law 1707 = .ok (.if_icmp .eq 5, 3) := by decide +kernel
theorem dL_law_1712 : decode cL_law 1712 = .ok (.iload 6, 2) := by decide +kernel
theorem dL_law_1714 : decode cL_law 1714 = .ok (.ifCond .ne 15, 3) := by decide +kernel
theorem dL_law_1729 : decode cL_law 1729 = .ok (.goto 234, 3) := by decide +kernel
theorem dL_law_1732 : decode cL_law 1732 = .ok (.aload_n 1, 1) := by decide +kernel
theorem dL_law_1733 : decode cL_law 1733 = .ok (.aload_n 3, 1) := by decide +kernel
theorem dL_law_1734 : decode cL_law 1734 = .ok (.invokestatic 223, 3) := by decide +kernel
theorem dL_stuck_0 : decode cL_stuck 0 = .ok (.aload_n 1, 1) := by decide +kernel
theorem dL_stuck_1 : decode cL_stuck 1 = .ok (.iconst 0, 1) := by decide +kernel
theorem dL_stuck_2 : decode cL_stuck 2 = .ok (.aload_n 0, 1) := by decide +kernel
theorem dL_stuck_3 : decode cL_stuck 3 = .ok (.invokevirtual 98, 3) := by decide +kernel
theorem dX6_stuck_0 : decode cX6_stuck 0 = .ok (.aload_n 0, 1) := by decide +kernel
theorem dX6_stuck_1 : decode cX6_stuck 1 = .ok (.getfield 40, 3) := by decide +kernel
theorem dX6_stuck_4 : decode cX6_stuck 4 = .ok (.aload_n 0, 1) := by decide +kernel
theorem dX6_stuck_5 : decode cX6_stuck 5 = .ok (.getfield 12, 3) := by decide +kernel
theorem dX6_stuck_8 : decode cX6_stuck 8 = .ok (.aload_n 0, 1) := by decide +kernel
theorem dX6_stuck_9 : decode cX6_stuck 9 = .ok (.getfield 26, 3) := by decide +kernel
theorem dX6_stuck_12 : decode cX6_stuck 12 = .ok (.invokevirtual 247, 3) := by decide +kernel
theorem dX6_stuck_15 : decode cX6_stuck 15 = .ok (.aload_n 0, 1) := by decide +kernel
theorem dX6_stuck_16 : decode cX6_stuck 16 = .ok (.getfield 40, 3) := by decide +kernel
theorem dX6_stuck_19 : decode cX6_stuck 19 = .ok (.invokevirtual 261, 3) := by decide +kernel
theorem dX4_lowestStuck_0 : decode cX4_lowestStuck 0 = .ok (.iconst 0, 1) := by decide +kernel
theorem dX4_lowestStuck_1 : decode cX4_lowestStuck 1 = .ok (.istore_n 1, 1) := by decide +kernel
theorem dX4_lowestStuck_2 : decode cX4_lowestStuck 2 = .ok (.iload_n 1, 1) := by decide +kernel
theorem dX4_lowestStuck_3 : decode cX4_lowestStuck 3 = .ok (.bipush 9, 2) := by decide +kernel
theorem dX4_lowestStuck_5 : decode cX4_lowestStuck 5 = .ok (.if_icmp .ge 38, 3) := by decide +kernel
theorem dX4_lowestStuck_8 : decode cX4_lowestStuck 8 = .ok (.iconst 1, 1) := by decide +kernel
theorem dX4_lowestStuck_9 : decode cX4_lowestStuck 9 = .ok (.iload_n 1, 1) := by decide +kernel
theorem dX4_lowestStuck_10 : decode cX4_lowestStuck 10 = .ok (.ishl, 1) := by decide +kernel
theorem dX4_lowestStuck_11 : decode cX4_lowestStuck 11 = .ok (.istore_n 2, 1) := by decide +kernel
theorem dX4_lowestStuck_12 : decode cX4_lowestStuck 12 = .ok (.aload_n 0, 1) := by decide +kernel
theorem dX4_lowestStuck_13 : decode cX4_lowestStuck 13 = .ok (.getfield 34, 3) := by decide +kernel
theorem dX4_lowestStuck_16 : decode cX4_lowestStuck 16 = .ok (.iload_n 2, 1) := by decide +kernel
theorem dX4_lowestStuck_17 : decode cX4_lowestStuck 17 = .ok (.iand, 1) := by decide +kernel
theorem dX4_lowestStuck_18 : decode cX4_lowestStuck 18 = .ok (.ifCond .eq 19, 3) := by decide +kernel
theorem dX4_lowestStuck_37 : decode cX4_lowestStuck 37 = .ok (.iinc 1 1, 3) := by decide +kernel
theorem dX4_lowestStuck_40 : decode cX4_lowestStuck 40 = .ok (.goto (-38), 3) := by decide +kernel
theorem dX4_lowestStuck_43 : decode cX4_lowestStuck 43 = .ok (.iconst (-1), 1) := by decide +kernel
theorem dX4_lowestStuck_44 : decode cX4_lowestStuck 44 = .ok (.ireturn, 1) := by decide +kernel
theorem dX6_stuck_22 : decode cX6_stuck 22 = .ok (.istore_n 1, 1) := by decide +kernel
theorem dX6_stuck_23 : decode cX6_stuck 23 = .ok (.iload_n 1, 1) := by decide +kernel
theorem dX6_stuck_24 : decode cX6_stuck 24 = .ok (.ifCond .ge 14, 3) := by decide +kernel
theorem dX6_stuck_27 : decode cX6_stuck 27 = .ok (.new 142, 3) := by decide +kernel
theorem dX6_stuck_30 : decode cX6_stuck 30 = .ok (.dup, 1) := by decide +kernel
theorem dX6_stuck_31 : decode cX6_stuck 31 = .ok (.ldc_w 264, 3) := by decide +kernel
theorem dX6_stuck_34 : decode cX6_stuck 34 = .ok (.invokespecial 146, 3) := by decide +kernel
theorem dX6_stuck_37 : decode cX6_stuck 37 = .ok (.athrow, 1) := by decide +kernel
theorem dL_stuck_11 : decode cL_stuck 11 = .ok (.astore_n 2, 1) := by decide +kernel
theorem dL_stuck_12 : decode cL_stuck 12 = .ok (.iconst 1, 1) := by decide +kernel
theorem dL_stuck_13 : decode cL_stuck 13 = .ok (.ireturn, 1) := by decide +kernel
theorem dL_law_1737 : decode cL_law 1737 = .ok (.istore 6, 2) := by decide +kernel
theorem dL_law_1739 : decode cL_law 1739 = .ok (.aload_n 2, 1) := by decide +kernel
theorem dL_law_1740 : decode cL_law 1740 = .ok (.invokevirtual 225, 3) := by decide +kernel
theorem dX12_stuck_0 : decode cX12_stuck 0 = .ok (.iconst 1, 1) := by decide +kernel
theorem dX12_stuck_1 : decode cX12_stuck 1 = .ok (.aload_n 0, 1) := by decide +kernel
theorem dX12_stuck_2 : decode cX12_stuck 2 = .ok (.getfield 16, 3) := by decide +kernel
theorem dX12_stuck_5 : decode cX12_stuck 5 = .ok (.invokevirtual 125, 3) := by decide +kernel
theorem dX12_stuck_8 : decode cX12_stuck 8 = .ok (.ishl, 1) := by decide +kernel
theorem dX12_stuck_9 : decode cX12_stuck 9 = .ok (.iconst 1, 1) := by decide +kernel
theorem dX12_stuck_10 : decode cX12_stuck 10 = .ok (.isub, 1) := by decide +kernel
theorem dX12_stuck_11 : decode cX12_stuck 11 = .ok (.istore_n 1, 1) := by decide +kernel
theorem dX12_stuck_12 : decode cX12_stuck 12 = .ok (.iconst 0, 1) := by decide +kernel
theorem dX12_stuck_13 : decode cX12_stuck 13 = .ok (.istore_n 2, 1) := by decide +kernel
theorem dX12_stuck_14 : decode cX12_stuck 14 = .ok (.iload_n 2, 1) := by decide +kernel
theorem dX12_stuck_15 : decode cX12_stuck 15 = .ok (.aload_n 0, 1) := by decide +kernel
theorem dX12_stuck_16 : decode cX12_stuck 16 = .ok (.getfield 16, 3) := by decide +kernel
theorem dX12_stuck_19 : decode cX12_stuck 19 = .ok (.invokevirtual 125, 3) := by decide +kernel
theorem dX12_stuck_22 : decode cX12_stuck 22 = .ok (.if_icmp .ge 30, 3) := by decide +kernel
theorem dX12_stuck_52 : decode cX12_stuck 52 = .ok (.aload_n 0, 1) := by decide +kernel
theorem dX12_stuck_53 : decode cX12_stuck 53 = .ok (.iconst 1, 1) := by decide +kernel
theorem dX12_stuck_54 : decode cX12_stuck 54 = .ok (.invokevirtual 289, 3) := by decide +kernel
theorem dX12_stuck_57 : decode cX12_stuck 57 = .ok (.ireturn, 1) := by decide +kernel
theorem dL_law_1743 : decode cL_law 1743 = .ok (.istore 7, 2) := by decide +kernel
theorem dL_law_1745 : decode cL_law 1745 = .ok (.aload_n 2, 1) := by decide +kernel
theorem dL_law_1746 : decode cL_law 1746 = .ok (.invokevirtual 125, 3) := by decide +kernel
theorem dL_law_1749 : decode cL_law 1749 = .ok (.iload 6, 2) := by decide +kernel
theorem dL_law_1751 : decode cL_law 1751 = .ok (.if_icmp .eq 5, 3) := by decide +kernel
theorem dL_law_1756 : decode cL_law 1756 = .ok (.iload 6, 2) := by decide +kernel
theorem dL_law_1758 : decode cL_law 1758 = .ok (.ifCond .ne 15, 3) := by decide +kernel
theorem dL_law_1773 : decode cL_law 1773 = .ok (.goto 190, 3) := by decide +kernel
theorem dL_law_1776 : decode cL_law 1776 = .ok (.aload_n 1, 1) := by decide +kernel
theorem dL_law_1777 : decode cL_law 1777 = .ok (.aload_n 3, 1) := by decide +kernel
theorem dL_law_1778 : decode cL_law 1778 = .ok (.invokestatic 226, 3) := by decide +kernel
theorem dL_allForce_0 : decode cL_allForce 0 = .ok (.aload_n 1, 1) := by decide +kernel
theorem dL_allForce_1 : decode cL_allForce 1 = .ok (.iconst 0, 1) := by decide +kernel
theorem dL_allForce_2 : decode cL_allForce 2 = .ok (.aload_n 0, 1) := by decide +kernel
theorem dL_allForce_3 : decode cL_allForce 3 = .ok (.invokevirtual 101, 3) := by decide +kernel
theorem dX6_allForce_0 : decode cX6_allForce 0 = .ok (.aload_n 0, 1) := by decide +kernel
theorem dX6_allForce_1 : decode cX6_allForce 1 = .ok (.invokevirtual 121, 3) := by decide +kernel
theorem dX6_allForce_4 : decode cX6_allForce 4 = .ok (.lconst 0, 1) := by decide +kernel
theorem dX6_allForce_5 : decode cX6_allForce 5 = .ok (.lstore_n 1, 1) := by decide +kernel
theorem dX6_allForce_6 : decode cX6_allForce 6 = .ok (.iconst 0, 1) := by decide +kernel
theorem dX6_allForce_7 : decode cX6_allForce 7 = .ok (.istore_n 3, 1) := by decide +kernel
theorem dX6_allForce_8 : decode cX6_allForce 8 = .ok (.iload_n 3, 1) := by decide +kernel
theorem dX6_allForce_9 : decode cX6_allForce 9 = .ok (.aload_n 0, 1) := by decide +kernel
theorem dX6_allForce_10 : decode cX6_allForce 10 = .ok (.getfield 12, 3) := by decide +kernel
theorem dX6_allForce_13 : decode cX6_allForce 13 = .ok (.getfield 93, 3) := by decide +kernel
theorem dX6_allForce_16 : decode cX6_allForce 16 = .ok (.if_icmp .ge 24, 3) := by decide +kernel
theorem dX6_allForce_40 : decode cX6_allForce 40 = .ok (.lload_n 1, 1) := by decide +kernel
theorem dX6_allForce_41 : decode cX6_allForce 41 = .ok (.lreturn, 1) := by decide +kernel
theorem dL_allForce_6 : decode cL_allForce 6 = .ok (.lastore, 1) := by decide +kernel
theorem dL_allForce_7 : decode cL_allForce 7 = .ok (.goto 6, 3) := by decide +kernel
theorem dL_allForce_13 : decode cL_allForce 13 = .ok (.iconst 0, 1) := by decide +kernel
theorem dL_allForce_14 : decode cL_allForce 14 = .ok (.ireturn, 1) := by decide +kernel
theorem dL_law_1781 : decode cL_law 1781 = .ok (.istore 6, 2) := by decide +kernel
theorem dL_law_1783 : decode cL_law 1783 = .ok (.aload_n 2, 1) := by decide +kernel
theorem dL_law_1784 : decode cL_law 1784 = .ok (.invokevirtual 228, 3) := by decide +kernel
theorem dX12_allForce_0 : decode cX12_allForce 0 = .ok (.aload_n 0, 1) := by decide +kernel
theorem dX12_allForce_1 : decode cX12_allForce 1 = .ok (.invokevirtual 320, 3) := by decide +kernel
theorem dX12_allForce_4 : decode cX12_allForce 4 = .ok (.ifCond .ne 9, 3) := by decide +kernel
theorem dX12_allForce_13 : decode cX12_allForce 13 = .ok (.lconst 0, 1) := by decide +kernel
theorem dX12_allForce_14 : decode cX12_allForce 14 = .ok (.lstore_n 1, 1) := by decide +kernel
theorem dX12_allForce_15 : decode cX12_allForce 15 = .ok (.iconst 0, 1) := by decide +kernel
theorem dX12_allForce_16 : decode cX12_allForce 16 = .ok (.istore_n 3, 1) := by decide +kernel
theorem dX12_allForce_17 : decode cX12_allForce 17 = .ok (.iload_n 3, 1) := by decide +kernel
theorem dX12_allForce_18 : decode cX12_allForce 18 = .ok (.aload_n 0, 1) := by decide +kernel
theorem dX12_allForce_19 : decode cX12_allForce 19 = .ok (.getfield 16, 3) := by decide +kernel
theorem dX12_allForce_22 : decode cX12_allForce 22 = .ok (.invokevirtual 125, 3) := by decide +kernel
theorem dX12_allForce_25 : decode cX12_allForce 25 = .ok (.if_icmp .ge 20, 3) := by decide +kernel
theorem dX12_allForce_45 : decode cX12_allForce 45 = .ok (.aload_n 0, 1) := by decide +kernel
theorem dX12_allForce_46 : decode cX12_allForce 46 = .ok (.lload_n 1, 1) := by decide +kernel
theorem dX12_allForce_47 : decode cX12_allForce 47 = .ok (.invokevirtual 326, 3) := by decide +kernel
theorem dX12_tellLong_0 : decode cX12_tellLong 0 = .ok (.aload_n 0, 1) := by decide +kernel
theorem dX12_tellLong_1 : decode cX12_tellLong 1 = .ok (.iconst 0, 1) := by decide +kernel
theorem dX12_tellLong_2 : decode cX12_tellLong 2 = .ok (.putfield 74, 3) := by decide +kernel
theorem dX12_tellLong_5 : decode cX12_tellLong 5 = .ok (.lload_n 1, 1) := by decide +kernel
theorem dX12_tellLong_6 : decode cX12_tellLong 6 = .ok (.lreturn, 1) := by decide +kernel
theorem dX12_allForce_50 : decode cX12_allForce 50 = .ok (.lreturn, 1) := by decide +kernel
theorem dL_law_1787 : decode cL_law 1787 = .ok (.lstore 7, 2) := by decide +kernel
theorem dL_law_1789 : decode cL_law 1789 = .ok (.aload_n 2, 1) := by decide +kernel
theorem dL_law_1790 : decode cL_law 1790 = .ok (.invokevirtual 125, 3) := by decide +kernel
theorem dL_law_1793 : decode cL_law 1793 = .ok (.iload 6, 2) := by decide +kernel
theorem dL_law_1795 : decode cL_law 1795 = .ok (.if_icmp .eq 5, 3) := by decide +kernel
theorem dL_law_1800 : decode cL_law 1800 = .ok (.iload 6, 2) := by decide +kernel
theorem dL_law_1802 : decode cL_law 1802 = .ok (.ifCond .ne 14, 3) := by decide +kernel
theorem dL_law_1805 : decode cL_law 1805 = .ok (.aload_n 3, 1) := by decide +kernel
theorem dL_law_1806 : decode cL_law 1806 = .ok (.iconst 0, 1) := by decide +kernel
theorem dL_law_1807 : decode cL_law 1807 = .ok (.laload, 1) := by decide +kernel
theorem dL_law_1808 : decode cL_law 1808 = .ok (.lload 7, 2) := by decide +kernel
theorem dL_law_1810 : decode cL_law 1810 = .ok (.lcmp, 1) := by decide +kernel
theorem dL_law_1811 : decode cL_law 1811 = .ok (.ifCond .eq 5, 3) := by decide +kernel
theorem dL_law_1816 : decode cL_law 1816 = .ok (.goto 147, 3) := by decide +kernel
theorem dL_law_1819 : decode cL_law 1819 = .ok (.aload_n 1, 1) := by decide +kernel
theorem dL_law_1820 : decode cL_law 1820 = .ok (.aload 4, 2) := by decide +kernel
theorem dL_law_1822 : decode cL_law 1822 = .ok (.invokestatic 229, 3) := by decide +kernel
theorem dL_rightShare_0 : decode cL_rightShare 0 = .ok (.aload_n 1, 1) := by decide +kernel
theorem dL_rightShare_1 : decode cL_rightShare 1 = .ok (.iconst 0, 1) := by decide +kernel
theorem dL_rightShare_2 : decode cL_rightShare 2 = .ok (.aload_n 0, 1) := by decide +kernel
theorem dL_rightShare_3 : decode cL_rightShare 3 = .ok (.invokevirtual 105, 3) := by decide +kernel
theorem dX6_rightShare_0 : decode cX6_rightShare 0 = .ok (.aload_n 0, 1) := by decide +kernel
theorem dX6_rightShare_1 : decode cX6_rightShare 1 = .ok (.getfield 26, 3) := by decide +kernel
theorem dX6_rightShare_4 : decode cX6_rightShare 4 = .ok (.getfield 170, 3) := by decide +kernel
theorem dX6_rightShare_7 : decode cX6_rightShare 7 = .ok (.ifCond .ne 13, 3) := by decide +kernel
theorem dX6_rightShare_10 : decode cX6_rightShare 10 = .ok (.new 266, 3) := by decide +kernel
theorem dX6_rightShare_13 : decode cX6_rightShare 13 = .ok (.dup, 1) := by decide +kernel
theorem dX6_rightShare_14 : decode cX6_rightShare 14 = .ok (.ldc 206, 2) := by decide +kernel
theorem dX6_rightShare_16 : decode cX6_rightShare 16 = .ok (.invokespecial 268, 3) := by decide +kernel
theorem dX6_rightShare_19 : decode cX6_rightShare 19 = .ok (.athrow, 1) := by decide +kernel
theorem dL_rightShare_11 : decode cL_rightShare 11 = .ok (.astore_n 2, 1) := by decide +kernel
theorem dL_rightShare_12 : decode cL_rightShare 12 = .ok (.iconst 1, 1) := by decide +kernel
theorem dL_rightShare_13 : decode cL_rightShare 13 = .ok (.ireturn, 1) := by decide +kernel
theorem dL_law_1825 : decode cL_law 1825 = .ok (.istore 6, 2) := by decide +kernel
theorem dL_law_1827 : decode cL_law 1827 = .ok (.aload_n 2, 1) := by decide +kernel
theorem dL_law_1828 : decode cL_law 1828 = .ok (.invokevirtual 232, 3) := by decide +kernel
theorem dX12_rightShare_0 : decode cX12_rightShare 0 = .ok (.iconst 0, 1) := by decide +kernel
theorem dX12_rightShare_1 : decode cX12_rightShare 1 = .ok (.istore_n 1, 1) := by decide +kernel
theorem dX12_rightShare_2 : decode cX12_rightShare 2 = .ok (.iconst 0, 1) := by decide +kernel
theorem dX12_rightShare_3 : decode cX12_rightShare 3 = .ok (.istore_n 2, 1) := by decide +kernel
theorem dX12_rightShare_4 : decode cX12_rightShare 4 = .ok (.iload_n 2, 1) := by decide +kernel
theorem dX12_rightShare_5 : decode cX12_rightShare 5 = .ok (.aload_n 0, 1) := by decide +kernel
theorem dX12_rightShare_6 : decode cX12_rightShare 6 = .ok (.getfield 19, 3) := by decide +kernel
theorem dX12_rightShare_9 : decode cX12_rightShare 9 = .ok (.invokevirtual 125, 3) := by decide +kernel
theorem dX12_rightShare_12 : decode cX12_rightShare 12 = .ok (.if_icmp .ge 35, 3) := by decide +kernel
theorem dX12_rightShare_47 : decode cX12_rightShare 47 = .ok (.aload_n 0, 1) := by decide +kernel
theorem dX12_rightShare_48 : decode cX12_rightShare 48 = .ok (.aload_n 0, 1) := by decide +kernel
theorem dX12_rightShare_49 : decode cX12_rightShare 49 = .ok (.getfield 19, 3) := by decide +kernel
theorem dX12_rightShare_52 : decode cX12_rightShare 52 = .ok (.invokevirtual 401, 3) := by decide +kernel
theorem dJx4a65c_isEmpty_aae02_0 : decode cJx4a65c_isEmpty_aae02 0 = .ok (.aload_n 0, 1) := by decide +kernel
theorem dJx4a65c_isEmpty_aae02_1 : decode cJx4a65c_isEmpty_aae02 1 = .ok (.getfield 48, 3) := by decide +kernel
theorem dJx4a65c_isEmpty_aae02_4 : decode cJx4a65c_isEmpty_aae02 4 = .ok (.ifCond .ne 7, 3) := by decide +kernel
theorem dJx4a65c_isEmpty_aae02_7 : decode cJx4a65c_isEmpty_aae02 7 = .ok (.iconst 1, 1) := by decide +kernel
theorem dJx4a65c_isEmpty_aae02_8 : decode cJx4a65c_isEmpty_aae02 8 = .ok (.goto 4, 3) := by decide +kernel
theorem dJx4a65c_isEmpty_aae02_12 : decode cJx4a65c_isEmpty_aae02 12 = .ok (.ireturn, 1) := by decide +kernel
theorem dX12_rightShare_55 : decode cX12_rightShare 55 = .ok (.ifCond .eq 7, 3) := by decide +kernel
theorem dX12_rightShare_58 : decode cX12_rightShare 58 = .ok (.iconst 1, 1) := by decide +kernel
theorem dX12_rightShare_59 : decode cX12_rightShare 59 = .ok (.goto 4, 3) := by decide +kernel
theorem dX12_rightShare_63 : decode cX12_rightShare 63 = .ok (.putfield 74, 3) := by decide +kernel
theorem dX12_rightShare_66 : decode cX12_rightShare 66 = .ok (.aload_n 0, 1) := by decide +kernel
theorem dX12_rightShare_67 : decode cX12_rightShare 67 = .ok (.getfield 74, 3) := by decide +kernel
theorem dX12_rightShare_70 : decode cX12_rightShare 70 = .ok (.ifCond .le 7, 3) := by decide +kernel
theorem dX12_rightShare_73 : decode cX12_rightShare 73 = .ok (.fconst 0, 1) := by decide +kernel
theorem dX12_rightShare_74 : decode cX12_rightShare 74 = .ok (.goto 14, 3) := by decide +kernel
theorem dX12_rightShare_88 : decode cX12_rightShare 88 = .ok (.freturn, 1) := by decide +kernel
theorem dL_law_1831 : decode cL_law 1831 = .ok (.fstore 7, 2) := by decide +kernel
theorem dL_law_1833 : decode cL_law 1833 = .ok (.aload_n 2, 1) := by decide +kernel
theorem dL_law_1834 : decode cL_law 1834 = .ok (.invokevirtual 125, 3) := by decide +kernel
theorem dL_law_1837 : decode cL_law 1837 = .ok (.iload 6, 2) := by decide +kernel
theorem dL_law_1839 : decode cL_law 1839 = .ok (.if_icmp .eq 5, 3) := by decide +kernel
theorem dL_law_1844 : decode cL_law 1844 = .ok (.iload 6, 2) := by decide +kernel
theorem dL_law_1846 : decode cL_law 1846 = .ok (.ifCond .ne 36, 3) := by decide +kernel
theorem dL_law_1882 : decode cL_law 1882 = .ok (.goto 81, 3) := by decide +kernel
theorem dL_law_1885 : decode cL_law 1885 = .ok (.aload_n 1, 1) := by decide +kernel
theorem dL_law_1886 : decode cL_law 1886 = .ok (.aload 4, 2) := by decide +kernel
theorem dL_law_1888 : decode cL_law 1888 = .ok (.invokestatic 233, 3) := by decide +kernel
theorem dL_meanPull_0 : decode cL_meanPull 0 = .ok (.aload_n 1, 1) := by decide +kernel
theorem dL_meanPull_1 : decode cL_meanPull 1 = .ok (.iconst 0, 1) := by decide +kernel
theorem dL_meanPull_2 : decode cL_meanPull 2 = .ok (.aload_n 0, 1) := by decide +kernel
theorem dL_meanPull_3 : decode cL_meanPull 3 = .ok (.invokevirtual 111, 3) := by decide +kernel
theorem dX6_meanPull_0 : decode cX6_meanPull 0 = .ok (.aload_n 0, 1) := by decide +kernel
theorem dX6_meanPull_1 : decode cX6_meanPull 1 = .ok (.invokevirtual 121, 3) := by decide +kernel
theorem dX6_meanPull_4 : decode cX6_meanPull 4 = .ok (.aload_n 0, 1) := by decide +kernel
theorem dX6_meanPull_5 : decode cX6_meanPull 5 = .ok (.getfield 12, 3) := by decide +kernel
theorem dX6_meanPull_8 : decode cX6_meanPull 8 = .ok (.getfield 93, 3) := by decide +kernel
theorem dX6_meanPull_11 : decode cX6_meanPull 11 = .ok (.ifCond .ne 13, 3) := by decide +kernel
theorem dX6_meanPull_14 : decode cX6_meanPull 14 = .ok (.new 266, 3) := by decide +kernel
theorem dX6_meanPull_17 : decode cX6_meanPull 17 = .ok (.dup, 1) := by decide +kernel
theorem dX6_meanPull_18 : decode cX6_meanPull 18 = .ok (.ldc 144, 2) := by decide +kernel
theorem dX6_meanPull_20 : decode cX6_meanPull 20 = .ok (.invokespecial 268, 3) := by decide +kernel
theorem dX6_meanPull_23 : decode cX6_meanPull 23 = .ok (.athrow, 1) := by decide +kernel
theorem dL_meanPull_13 : decode cL_meanPull 13 = .ok (.astore_n 2, 1) := by decide +kernel
theorem dL_meanPull_14 : decode cL_meanPull 14 = .ok (.iconst 2, 1) := by decide +kernel
theorem dL_meanPull_15 : decode cL_meanPull 15 = .ok (.ireturn, 1) := by decide +kernel
theorem dL_law_1891 : decode cL_law 1891 = .ok (.istore 6, 2) := by decide +kernel
theorem dL_law_1893 : decode cL_law 1893 = .ok (.aload_n 2, 1) := by decide +kernel
theorem dL_law_1894 : decode cL_law 1894 = .ok (.invokevirtual 235, 3) := by decide +kernel
theorem dX12_meanPull_0 : decode cX12_meanPull 0 = .ok (.aload_n 0, 1) := by decide +kernel
theorem dX12_meanPull_1 : decode cX12_meanPull 1 = .ok (.aload_n 0, 1) := by decide +kernel
theorem dX12_meanPull_2 : decode cX12_meanPull 2 = .ok (.invokevirtual 320, 3) := by decide +kernel
theorem dX12_meanPull_5 : decode cX12_meanPull 5 = .ok (.ifCond .ne 7, 3) := by decide +kernel
theorem dX12_meanPull_12 : decode cX12_meanPull 12 = .ok (.aload_n 0, 1) := by decide +kernel
theorem dX12_meanPull_13 : decode cX12_meanPull 13 = .ok (.getfield 16, 3) := by decide +kernel
theorem dX12_meanPull_16 : decode cX12_meanPull 16 = .ok (.invokevirtual 401, 3) := by decide +kernel
theorem dX12_meanPull_19 : decode cX12_meanPull 19 = .ok (.ifCond .eq 7, 3) := by decide +kernel
theorem dX12_meanPull_22 : decode cX12_meanPull 22 = .ok (.iconst 2, 1) := by decide +kernel
theorem dX12_meanPull_23 : decode cX12_meanPull 23 = .ok (.goto 4, 3) := by decide +kernel
theorem dX12_meanPull_27 : decode cX12_meanPull 27 = .ok (.putfield 74, 3) := by decide +kernel
theorem dX12_meanPull_30 : decode cX12_meanPull 30 = .ok (.aload_n 0, 1) := by decide +kernel
theorem dX12_meanPull_31 : decode cX12_meanPull 31 = .ok (.getfield 74, 3) := by decide +kernel
theorem dX12_meanPull_34 : decode cX12_meanPull 34 = .ok (.ifCond .le 5, 3) := by decide +kernel
theorem dX12_meanPull_37 : decode cX12_meanPull 37 = .ok (.dconst 0, 1) := by decide +kernel
theorem dX12_meanPull_38 : decode cX12_meanPull 38 = .ok (.dreturn, 1) := by decide +kernel
theorem dL_law_1897 : decode cL_law 1897 = .ok (.dstore 7, 2) := by decide +kernel
theorem dL_law_1899 : decode cL_law 1899 = .ok (.aload_n 2, 1) := by decide +kernel
theorem dL_law_1900 : decode cL_law 1900 = .ok (.invokevirtual 125, 3) := by decide +kernel
theorem dL_law_1903 : decode cL_law 1903 = .ok (.iload 6, 2) := by decide +kernel
theorem dL_law_1905 : decode cL_law 1905 = .ok (.if_icmp .eq 5, 3) := by decide +kernel
theorem dL_law_1910 : decode cL_law 1910 = .ok (.iload 6, 2) := by decide +kernel
theorem dL_law_1912 : decode cL_law 1912 = .ok (.ifCond .ne 35, 3) := by decide +kernel
theorem dL_law_1947 : decode cL_law 1947 = .ok (.goto 16, 3) := by decide +kernel
theorem dL_law_1950 : decode cL_law 1950 = .ok (.aload_n 1, 1) := by decide +kernel
theorem dL_law_1951 : decode cL_law 1951 = .ok (.invokevirtual 236, 3) := by decide +kernel
theorem dX6_isSound_0 : decode cX6_isSound 0 = .ok (.aload_n 0, 1) := by decide +kernel
theorem dX6_isSound_1 : decode cX6_isSound 1 = .ok (.getfield 19, 3) := by decide +kernel
theorem dX6_isSound_4 : decode cX6_isSound 4 = .ok (.aload_n 0, 1) := by decide +kernel
theorem dX6_isSound_5 : decode cX6_isSound 5 = .ok (.getfield 12, 3) := by decide +kernel
theorem dX6_isSound_8 : decode cX6_isSound 8 = .ok (.invokevirtual 110, 3) := by decide +kernel
theorem dX6_isSound_11 : decode cX6_isSound 11 = .ok (.aload_n 0, 1) := by decide +kernel
theorem dX6_isSound_12 : decode cX6_isSound 12 = .ok (.getfield 19, 3) := by decide +kernel
theorem dX6_isSound_15 : decode cX6_isSound 15 = .ok (.getfield 114, 3) := by decide +kernel
theorem dX6_isSound_18 : decode cX6_isSound 18 = .ok (.bipush 46, 2) := by decide +kernel
theorem dX6_isSound_20 : decode cX6_isSound 20 = .ok (.if_icmp .ne 34, 3) := by decide +kernel
theorem dX6_isSound_23 : decode cX6_isSound 23 = .ok (.iconst 0, 1) := by decide +kernel
theorem dX6_isSound_24 : decode cX6_isSound 24 = .ok (.istore_n 1, 1) := by decide +kernel
theorem dX6_isSound_25 : decode cX6_isSound 25 = .ok (.iload_n 1, 1) := by decide +kernel
theorem dX6_isSound_26 : decode cX6_isSound 26 = .ok (.bipush 30, 2) := by decide +kernel
theorem dX6_isSound_28 : decode cX6_isSound 28 = .ok (.if_icmp .gt 26, 3) := by decide +kernel
theorem dX6_isSound_31 : decode cX6_isSound 31 = .ok (.aload_n 0, 1) := by decide +kernel
theorem dX6_isSound_32 : decode cX6_isSound 32 = .ok (.getfield 19, 3) := by decide +kernel
theorem dX6_isSound_35 : decode cX6_isSound 35 = .ok (.aload_n 0, 1) := by decide +kernel
theorem dX6_isSound_36 : decode cX6_isSound 36 = .ok (.getfield 12, 3) := by decide +kernel
theorem dX6_isSound_39 : decode cX6_isSound 39 = .ok (.iload_n 1, 1) := by decide +kernel
theorem dX6_isSound_40 : decode cX6_isSound 40 = .ok (.invokevirtual 138, 3) := by decide +kernel
theorem dX6_isSound_43 : decode cX6_isSound 43 = .ok (.ifCond .ne 5, 3) := by decide +kernel
theorem dX6_isSound_48 : decode cX6_isSound 48 = .ok (.iinc 1 1, 3) := by decide +kernel
theorem dX6_isSound_51 : decode cX6_isSound 51 = .ok (.goto (-26), 3) := by decide +kernel
theorem dX6_isSound_54 : decode cX6_isSound 54 = .ok (.aload_n 0, 1) := by decide +kernel
theorem dX6_isSound_55 : decode cX6_isSound 55 = .ok (.invokevirtual 273, 3) := by decide +kernel
theorem dX6_isSound_58 : decode cX6_isSound 58 = .ok (.aload_n 0, 1) := by decide +kernel
theorem dX6_isSound_59 : decode cX6_isSound 59 = .ok (.invokevirtual 277, 3) := by decide +kernel
theorem dX4_find_7 : decode cX4_find 7 = .ok (.return_, 1) := by decide +kernel
theorem dX6_isSound_62 : decode cX6_isSound 62 = .ok (.if_icmp .ne 7, 3) := by decide +kernel
theorem dX6_isSound_65 : decode cX6_isSound 65 = .ok (.iconst 1, 1) := by decide +kernel
theorem dX6_isSound_66 : decode cX6_isSound 66 = .ok (.goto 4, 3) := by decide +kernel
theorem dX6_isSound_70 : decode cX6_isSound 70 = .ok (.ireturn, 1) := by decide +kernel
theorem dL_law_1954 : decode cL_law 1954 = .ok (.aload_n 2, 1) := by decide +kernel
theorem dL_law_1955 : decode cL_law 1955 = .ok (.invokevirtual 239, 3) := by decide +kernel
theorem dX12_isSound_0 : decode cX12_isSound 0 = .ok (.aload_n 0, 1) := by decide +kernel
theorem dX12_isSound_1 : decode cX12_isSound 1 = .ok (.iconst 1, 1) := by decide +kernel
theorem dX12_isSound_2 : decode cX12_isSound 2 = .ok (.invokevirtual 343, 3) := by decide +kernel
theorem dX12_isSound_5 : decode cX12_isSound 5 = .ok (.ireturn, 1) := by decide +kernel
theorem dL_law_1958 : decode cL_law 1958 = .ok (.if_icmp .eq 5, 3) := by decide +kernel
theorem dL_law_1963 : decode cL_law 1963 = .ok (.iinc 5 6, 3) := by decide +kernel
theorem dL_law_1966 : decode cL_law 1966 = .ok (.goto (-1938), 3) := by decide +kernel
theorem dL_law_28 : decode cL_law 28 = .ok (.iload 5, 2) := by decide +kernel
theorem dL_law_30 : decode cL_law 30 = .ok (.aload_n 0, 1) := by decide +kernel
theorem dL_law_31 : decode cL_law 31 = .ok (.arraylength, 1) := by decide +kernel
theorem dL_law_32 : decode cL_law 32 = .ok (.bipush 6, 2) := by decide +kernel
theorem dL_law_34 : decode cL_law 34 = .ok (.isub, 1) := by decide +kernel
theorem dL_law_35 : decode cL_law 35 = .ok (.if_icmp .gt 1934, 3) := by decide +kernel
theorem dL_law_1969 : decode cL_law 1969 = .ok (.iconst 1, 1) := by decide +kernel
theorem dL_law_1970 : decode cL_law 1970 = .ok (.ireturn, 1) := by decide +kernel
theorem dL_law_0 : decode cL_law 0 = .ok (.new 8, 3) := by decide +kernel
theorem dL_law_3 : decode cL_law 3 = .ok (.dup, 1) := by decide +kernel
theorem dL_law_4 : decode cL_law 4 = .ok (.invokespecial 115, 3) := by decide +kernel
theorem dL_law_7 : decode cL_law 7 = .ok (.astore_n 1, 1) := by decide +kernel
theorem dL_law_8 : decode cL_law 8 = .ok (.new 116, 3) := by decide +kernel
theorem dL_law_11 : decode cL_law 11 = .ok (.dup, 1) := by decide +kernel
theorem dL_law_12 : decode cL_law 12 = .ok (.invokespecial 118, 3) := by decide +kernel
theorem dL_law_15 : decode cL_law 15 = .ok (.astore_n 2, 1) := by decide +kernel
theorem dL_law_16 : decode cL_law 16 = .ok (.iconst 1, 1) := by decide +kernel
theorem dL_law_17 : decode cL_law 17 = .ok (.newarray .long, 2) := by decide +kernel
theorem dL_law_19 : decode cL_law 19 = .ok (.astore_n 3, 1) := by decide +kernel
theorem dL_law_20 : decode cL_law 20 = .ok (.iconst 1, 1) := by decide +kernel
theorem dL_law_21 : decode cL_law 21 = .ok (.newarray .double, 2) := by decide +kernel
theorem dL_law_23 : decode cL_law 23 = .ok (.astore 4, 2) := by decide +kernel
theorem dL_law_25 : decode cL_law 25 = .ok (.iconst 0, 1) := by decide +kernel
theorem dL_law_26 : decode cL_law 26 = .ok (.istore 5, 2) := by decide +kernel
theorem dL_law_38 : decode cL_law 38 = .ok (.aload_n 0, 1) := by decide +kernel
theorem dL_law_39 : decode cL_law 39 = .ok (.iload 5, 2) := by decide +kernel
theorem dL_law_41 : decode cL_law 41 = .ok (.iaload, 1) := by decide +kernel
theorem dL_law_42 : decode cL_law 42 = .ok (.bipush 63, 2) := by decide +kernel
theorem dL_law_44 : decode cL_law 44 = .ok (.iand, 1) := by decide +kernel
theorem dL_law_45 : decode cL_law 45 = .ok (.tableswitch 1918 0 32 #[147, 229, 321, 401, 414, 469, 524, 607, 670, 714, 820, 883, 939, 952, 1020, 1088, 1144, 1188, 1268, 1324, 1380, 1424, 1480, 1536, 1592, 1605, 1618, 1631, 1687, 1731, 1774, 1840, 1905], 147) := by decide +kernel
