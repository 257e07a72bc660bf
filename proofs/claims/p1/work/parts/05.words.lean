theorem dX6_init_0 : decode cX6_init 0 = .ok (.aload_n 0, 1) := by decide +kernel
theorem dX6_init_1 : decode cX6_init 1 = .ok (.invokespecial 3, 3) := by decide +kernel
theorem dX6_init_4 : decode cX6_init 4 = .ok (.aload_n 0, 1) := by decide +kernel
theorem dX6_init_5 : decode cX6_init 5 = .ok (.new 9, 3) := by decide +kernel
theorem dX6_init_8 : decode cX6_init 8 = .ok (.dup, 1) := by decide +kernel
theorem dX6_init_9 : decode cX6_init 9 = .ok (.invokespecial 11, 3) := by decide +kernel
theorem dX2_init_0 : decode cX2_init 0 = .ok (.aload_n 0, 1) := by decide +kernel
theorem dX2_init_1 : decode cX2_init 1 = .ok (.invokespecial 3, 3) := by decide +kernel
theorem dX2_init_4 : decode cX2_init 4 = .ok (.aload_n 0, 1) := by decide +kernel
theorem dX2_init_5 : decode cX2_init 5 = .ok (.bipush 16, 2) := by decide +kernel
theorem dX2_init_7 : decode cX2_init 7 = .ok (.newarray .int, 2) := by decide +kernel
theorem dX2_init_9 : decode cX2_init 9 = .ok (.putfield 9, 3) := by decide +kernel
theorem dX2_init_12 : decode cX2_init 12 = .ok (.aload_n 0, 1) := by decide +kernel
theorem dX2_init_13 : decode cX2_init 13 = .ok (.bipush 16, 2) := by decide +kernel
theorem dX2_init_15 : decode cX2_init 15 = .ok (.newarray .int, 2) := by decide +kernel
theorem dX2_init_17 : decode cX2_init 17 = .ok (.putfield 15, 3) := by decide +kernel
theorem dX2_init_20 : decode cX2_init 20 = .ok (.aload_n 0, 1) := by decide +kernel
theorem dX2_init_21 : decode cX2_init 21 = .ok (.bipush 8, 2) := by decide +kernel
theorem dX2_init_23 : decode cX2_init 23 = .ok (.newarray .int, 2) := by decide +kernel
theorem dX2_init_25 : decode cX2_init 25 = .ok (.putfield 18, 3) := by decide +kernel
theorem dX2_init_28 : decode cX2_init 28 = .ok (.aload_n 0, 1) := by decide +kernel
theorem dX2_init_29 : decode cX2_init 29 = .ok (.bipush 8, 2) := by decide +kernel
theorem dX2_init_31 : decode cX2_init 31 = .ok (.newarray .char, 2) := by decide +kernel
theorem dX2_init_33 : decode cX2_init 33 = .ok (.putfield 21, 3) := by decide +kernel
theorem dX2_init_36 : decode cX2_init 36 = .ok (.aload_n 0, 1) := by decide +kernel
theorem dX2_init_37 : decode cX2_init 37 = .ok (.bipush 9, 2) := by decide +kernel
theorem dX2_init_39 : decode cX2_init 39 = .ok (.newarray .int, 2) := by decide +kernel
theorem dX2_init_41 : decode cX2_init 41 = .ok (.putfield 25, 3) := by decide +kernel
theorem dX2_init_44 : decode cX2_init 44 = .ok (.aload_n 0, 1) := by decide +kernel
theorem dX2_init_45 : decode cX2_init 45 = .ok (.bipush 9, 2) := by decide +kernel
theorem dX2_init_47 : decode cX2_init 47 = .ok (.newarray .int, 2) := by decide +kernel
theorem dX2_init_49 : decode cX2_init 49 = .ok (.putfield 28, 3) := by decide +kernel
theorem dX2_init_52 : decode cX2_init 52 = .ok (.aload_n 0, 1) := by decide +kernel
theorem dX2_init_53 : decode cX2_init 53 = .ok (.bipush 9, 2) := by decide +kernel
theorem dX2_init_55 : decode cX2_init 55 = .ok (.newarray .int, 2) := by decide +kernel
theorem dX2_init_57 : decode cX2_init 57 = .ok (.putfield 31, 3) := by decide +kernel
theorem dX2_init_60 : decode cX2_init 60 = .ok (.aload_n 0, 1) := by decide +kernel
theorem dX2_init_61 : decode cX2_init 61 = .ok (.bipush 9, 2) := by decide +kernel
theorem dX2_init_63 : decode cX2_init 63 = .ok (.newarray .int, 2) := by decide +kernel
theorem dX2_init_65 : decode cX2_init 65 = .ok (.putfield 34, 3) := by decide +kernel
theorem dX2_init_68 : decode cX2_init 68 = .ok (.aload_n 0, 1) := by decide +kernel
theorem dX2_init_69 : decode cX2_init 69 = .ok (.bipush 9, 2) := by decide +kernel
theorem dX2_init_71 : decode cX2_init 71 = .ok (.newarray .int, 2) := by decide +kernel
theorem dX2_init_73 : decode cX2_init 73 = .ok (.putfield 37, 3) := by decide +kernel
theorem dX2_init_76 : decode cX2_init 76 = .ok (.aload_n 0, 1) := by decide +kernel
theorem dX2_init_77 : decode cX2_init 77 = .ok (.bipush 9, 2) := by decide +kernel
theorem dX2_init_79 : decode cX2_init 79 = .ok (.newarray .int, 2) := by decide +kernel
theorem dX2_init_81 : decode cX2_init 81 = .ok (.putfield 40, 3) := by decide +kernel
theorem dX2_init_84 : decode cX2_init 84 = .ok (.return_, 1) := by decide +kernel
theorem dX6_init_12 : decode cX6_init 12 = .ok (.putfield 12, 3) := by decide +kernel
theorem dX6_init_15 : decode cX6_init 15 = .ok (.aload_n 0, 1) := by decide +kernel
theorem dX6_init_16 : decode cX6_init 16 = .ok (.new 16, 3) := by decide +kernel
theorem dX6_init_19 : decode cX6_init 19 = .ok (.dup, 1) := by decide +kernel
theorem dX6_init_20 : decode cX6_init 20 = .ok (.invokespecial 18, 3) := by decide +kernel
theorem dX1_init_0 : decode cX1_init 0 = .ok (.aload_n 0, 1) := by decide +kernel
theorem dX1_init_1 : decode cX1_init 1 = .ok (.invokespecial 3, 3) := by decide +kernel
theorem dX1_init_4 : decode cX1_init 4 = .ok (.aload_n 0, 1) := by decide +kernel
theorem dX1_init_5 : decode cX1_init 5 = .ok (.bipush 25, 2) := by decide +kernel
theorem dX1_init_7 : decode cX1_init 7 = .ok (.newarray .long, 2) := by decide +kernel
theorem dX1_init_9 : decode cX1_init 9 = .ok (.putfield 11, 3) := by decide +kernel
theorem dX1_init_12 : decode cX1_init 12 = .ok (.aload_n 0, 1) := by decide +kernel
theorem dX1_init_13 : decode cX1_init 13 = .ok (.bipush 25, 2) := by decide +kernel
theorem dX1_init_15 : decode cX1_init 15 = .ok (.newarray .long, 2) := by decide +kernel
theorem dX1_init_17 : decode cX1_init 17 = .ok (.putfield 15, 3) := by decide +kernel
theorem dX1_init_20 : decode cX1_init 20 = .ok (.aload_n 0, 1) := by decide +kernel
theorem dX1_init_21 : decode cX1_init 21 = .ok (.bipush 9, 2) := by decide +kernel
theorem dX1_init_23 : decode cX1_init 23 = .ok (.newarray .long, 2) := by decide +kernel
theorem dX1_init_25 : decode cX1_init 25 = .ok (.putfield 18, 3) := by decide +kernel
theorem dX1_init_28 : decode cX1_init 28 = .ok (.aload_n 0, 1) := by decide +kernel
theorem dX1_init_29 : decode cX1_init 29 = .ok (.bipush 81, 2) := by decide +kernel
theorem dX1_init_31 : decode cX1_init 31 = .ok (.newarray .int, 2) := by decide +kernel
theorem dX1_init_33 : decode cX1_init 33 = .ok (.putfield 21, 3) := by decide +kernel
theorem dX1_init_36 : decode cX1_init 36 = .ok (.aload_n 0, 1) := by decide +kernel
theorem dX1_init_37 : decode cX1_init 37 = .ok (.bipush 9, 2) := by decide +kernel
theorem dX1_init_39 : decode cX1_init 39 = .ok (.newarray .int, 2) := by decide +kernel
theorem dX1_init_41 : decode cX1_init 41 = .ok (.putfield 25, 3) := by decide +kernel
theorem dX1_init_44 : decode cX1_init 44 = .ok (.aload_n 0, 1) := by decide +kernel
theorem dX1_init_45 : decode cX1_init 45 = .ok (.bipush 9, 2) := by decide +kernel
theorem dX1_init_47 : decode cX1_init 47 = .ok (.newarray .int, 2) := by decide +kernel
theorem dX1_init_49 : decode cX1_init 49 = .ok (.putfield 28, 3) := by decide +kernel
theorem dX1_init_52 : decode cX1_init 52 = .ok (.aload_n 0, 1) := by decide +kernel
theorem dX1_init_53 : decode cX1_init 53 = .ok (.sipush 512, 3) := by decide +kernel
theorem dX1_init_56 : decode cX1_init 56 = .ok (.newarray .long, 2) := by decide +kernel
theorem dX1_init_58 : decode cX1_init 58 = .ok (.putfield 31, 3) := by decide +kernel
theorem dX1_init_61 : decode cX1_init 61 = .ok (.aload_n 0, 1) := by decide +kernel
theorem dX1_init_62 : decode cX1_init 62 = .ok (.sipush 512, 3) := by decide +kernel
theorem dX1_init_65 : decode cX1_init 65 = .ok (.newarray .long, 2) := by decide +kernel
theorem dX1_init_67 : decode cX1_init 67 = .ok (.putfield 34, 3) := by decide +kernel
theorem dX1_init_70 : decode cX1_init 70 = .ok (.aload_n 0, 1) := by decide +kernel
theorem dX1_init_71 : decode cX1_init 71 = .ok (.sipush 512, 3) := by decide +kernel
theorem dX1_init_74 : decode cX1_init 74 = .ok (.newarray .long, 2) := by decide +kernel
theorem dX1_init_76 : decode cX1_init 76 = .ok (.putfield 37, 3) := by decide +kernel
theorem dX1_init_79 : decode cX1_init 79 = .ok (.aload_n 0, 1) := by decide +kernel
theorem dX1_init_80 : decode cX1_init 80 = .ok (.new 40, 3) := by decide +kernel
theorem dX1_init_83 : decode cX1_init 83 = .ok (.dup, 1) := by decide +kernel
theorem dX1_init_84 : decode cX1_init 84 = .ok (.invokespecial 42, 3) := by decide +kernel
theorem dX5_init_0 : decode cX5_init 0 = .ok (.aload_n 0, 1) := by decide +kernel
theorem dX5_init_1 : decode cX5_init 1 = .ok (.invokespecial 1, 3) := by decide +kernel
theorem dX5_init_4 : decode cX5_init 4 = .ok (.aload_n 0, 1) := by decide +kernel
theorem dX5_init_5 : decode cX5_init 5 = .ok (.bipush 8, 2) := by decide +kernel
theorem dX5_init_7 : decode cX5_init 7 = .ok (.newarray .long, 2) := by decide +kernel
theorem dX5_init_9 : decode cX5_init 9 = .ok (.putfield 9, 3) := by decide +kernel
theorem dX5_init_12 : decode cX5_init 12 = .ok (.return_, 1) := by decide +kernel
theorem dX1_init_87 : decode cX1_init 87 = .ok (.putfield 43, 3) := by decide +kernel
theorem dX1_init_90 : decode cX1_init 90 = .ok (.aload_n 0, 1) := by decide +kernel
theorem dX1_init_91 : decode cX1_init 91 = .ok (.new 40, 3) := by decide +kernel
theorem dX1_init_94 : decode cX1_init 94 = .ok (.dup, 1) := by decide +kernel
theorem dX1_init_95 : decode cX1_init 95 = .ok (.invokespecial 42, 3) := by decide +kernel
theorem dX1_init_98 : decode cX1_init 98 = .ok (.putfield 47, 3) := by decide +kernel
theorem dX1_init_101 : decode cX1_init 101 = .ok (.aload_n 0, 1) := by decide +kernel
theorem dX1_init_102 : decode cX1_init 102 = .ok (.new 40, 3) := by decide +kernel
theorem dX1_init_105 : decode cX1_init 105 = .ok (.dup, 1) := by decide +kernel
theorem dX1_init_106 : decode cX1_init 106 = .ok (.invokespecial 42, 3) := by decide +kernel
theorem dX1_init_109 : decode cX1_init 109 = .ok (.putfield 50, 3) := by decide +kernel
theorem dX1_init_112 : decode cX1_init 112 = .ok (.aload_n 0, 1) := by decide +kernel
theorem dX1_init_113 : decode cX1_init 113 = .ok (.new 40, 3) := by decide +kernel
theorem dX1_init_116 : decode cX1_init 116 = .ok (.dup, 1) := by decide +kernel
theorem dX1_init_117 : decode cX1_init 117 = .ok (.invokespecial 42, 3) := by decide +kernel
theorem dX1_init_120 : decode cX1_init 120 = .ok (.putfield 53, 3) := by decide +kernel
theorem dX1_init_123 : decode cX1_init 123 = .ok (.aload_n 0, 1) := by decide +kernel
theorem dX1_init_124 : decode cX1_init 124 = .ok (.new 40, 3) := by decide +kernel
theorem dX1_init_127 : decode cX1_init 127 = .ok (.dup, 1) := by decide +kernel
theorem dX1_init_128 : decode cX1_init 128 = .ok (.invokespecial 42, 3) := by decide +kernel
theorem dX1_init_131 : decode cX1_init 131 = .ok (.putfield 56, 3) := by decide +kernel
theorem dX1_init_134 : decode cX1_init 134 = .ok (.return_, 1) := by decide +kernel
theorem dX6_init_23 : decode cX6_init 23 = .ok (.putfield 19, 3) := by decide +kernel
theorem dX6_init_26 : decode cX6_init 26 = .ok (.aload_n 0, 1) := by decide +kernel
theorem dX6_init_27 : decode cX6_init 27 = .ok (.new 23, 3) := by decide +kernel
theorem dX6_init_30 : decode cX6_init 30 = .ok (.dup, 1) := by decide +kernel
theorem dX6_init_31 : decode cX6_init 31 = .ok (.invokespecial 25, 3) := by decide +kernel
theorem dX3_init_0 : decode cX3_init 0 = .ok (.aload_n 0, 1) := by decide +kernel
theorem dX3_init_1 : decode cX3_init 1 = .ok (.invokespecial 3, 3) := by decide +kernel
theorem dX3_init_4 : decode cX3_init 4 = .ok (.aload_n 0, 1) := by decide +kernel
theorem dX3_init_5 : decode cX3_init 5 = .ok (.bipush 12, 2) := by decide +kernel
theorem dX3_init_7 : decode cX3_init 7 = .ok (.newarray .int, 2) := by decide +kernel
theorem dX3_init_9 : decode cX3_init 9 = .ok (.putfield 9, 3) := by decide +kernel
theorem dX3_init_12 : decode cX3_init 12 = .ok (.aload_n 0, 1) := by decide +kernel
theorem dX3_init_13 : decode cX3_init 13 = .ok (.bipush 12, 2) := by decide +kernel
theorem dX3_init_15 : decode cX3_init 15 = .ok (.newarray .int, 2) := by decide +kernel
theorem dX3_init_17 : decode cX3_init 17 = .ok (.putfield 15, 3) := by decide +kernel
theorem dX3_init_20 : decode cX3_init 20 = .ok (.aload_n 0, 1) := by decide +kernel
theorem dX3_init_21 : decode cX3_init 21 = .ok (.bipush 12, 2) := by decide +kernel
theorem dX3_init_23 : decode cX3_init 23 = .ok (.newarray .int, 2) := by decide +kernel
theorem dX3_init_25 : decode cX3_init 25 = .ok (.putfield 18, 3) := by decide +kernel
theorem dX3_init_28 : decode cX3_init 28 = .ok (.aload_n 0, 1) := by decide +kernel
theorem dX3_init_29 : decode cX3_init 29 = .ok (.bipush 12, 2) := by decide +kernel
theorem dX3_init_31 : decode cX3_init 31 = .ok (.newarray .int, 2) := by decide +kernel
theorem dX3_init_33 : decode cX3_init 33 = .ok (.putfield 21, 3) := by decide +kernel
theorem dX3_init_36 : decode cX3_init 36 = .ok (.aload_n 0, 1) := by decide +kernel
theorem dX3_init_37 : decode cX3_init 37 = .ok (.bipush 12, 2) := by decide +kernel
theorem dX3_init_39 : decode cX3_init 39 = .ok (.newarray .int, 2) := by decide +kernel
theorem dX3_init_41 : decode cX3_init 41 = .ok (.putfield 24, 3) := by decide +kernel
theorem dX3_init_44 : decode cX3_init 44 = .ok (.return_, 1) := by decide +kernel
theorem dX6_init_34 : decode cX6_init 34 = .ok (.putfield 26, 3) := by decide +kernel
theorem dX6_init_37 : decode cX6_init 37 = .ok (.aload_n 0, 1) := by decide +kernel
theorem dX6_init_38 : decode cX6_init 38 = .ok (.new 30, 3) := by decide +kernel
theorem dX6_init_41 : decode cX6_init 41 = .ok (.dup, 1) := by decide +kernel
theorem dX6_init_42 : decode cX6_init 42 = .ok (.invokespecial 32, 3) := by decide +kernel
theorem dX0_init_0 : decode cX0_init 0 = .ok (.aload_n 0, 1) := by decide +kernel
theorem dX0_init_1 : decode cX0_init 1 = .ok (.invokespecial 3, 3) := by decide +kernel
theorem dX0_init_4 : decode cX0_init 4 = .ok (.aload_n 0, 1) := by decide +kernel
theorem dX0_init_5 : decode cX0_init 5 = .ok (.bipush 9, 2) := by decide +kernel
theorem dX0_init_7 : decode cX0_init 7 = .ok (.newarray .int, 2) := by decide +kernel
theorem dX0_init_9 : decode cX0_init 9 = .ok (.putfield 9, 3) := by decide +kernel
theorem dX0_init_12 : decode cX0_init 12 = .ok (.aload_n 0, 1) := by decide +kernel
theorem dX0_init_13 : decode cX0_init 13 = .ok (.iconst 5, 1) := by decide +kernel
theorem dX0_init_14 : decode cX0_init 14 = .ok (.newarray .int, 2) := by decide +kernel
theorem dX0_init_16 : decode cX0_init 16 = .ok (.putfield 15, 3) := by decide +kernel
theorem dX0_init_19 : decode cX0_init 19 = .ok (.aload_n 0, 1) := by decide +kernel
theorem dX0_init_20 : decode cX0_init 20 = .ok (.iconst 5, 1) := by decide +kernel
theorem dX0_init_21 : decode cX0_init 21 = .ok (.newarray .int, 2) := by decide +kernel
theorem dX0_init_23 : decode cX0_init 23 = .ok (.putfield 18, 3) := by decide +kernel
theorem dX0_init_26 : decode cX0_init 26 = .ok (.aload_n 0, 1) := by decide +kernel
theorem dX0_init_27 : decode cX0_init 27 = .ok (.iconst 5, 1) := by decide +kernel
theorem dX0_init_28 : decode cX0_init 28 = .ok (.newarray .int, 2) := by decide +kernel
theorem dX0_init_30 : decode cX0_init 30 = .ok (.putfield 21, 3) := by decide +kernel
theorem dX0_init_33 : decode cX0_init 33 = .ok (.aload_n 0, 1) := by decide +kernel
theorem dX0_init_34 : decode cX0_init 34 = .ok (.sipush 512, 3) := by decide +kernel
theorem dX0_init_37 : decode cX0_init 37 = .ok (.newarray .int, 2) := by decide +kernel
theorem dX0_init_39 : decode cX0_init 39 = .ok (.putfield 24, 3) := by decide +kernel
theorem dX0_init_42 : decode cX0_init 42 = .ok (.aload_n 0, 1) := by decide +kernel
theorem dX0_init_43 : decode cX0_init 43 = .ok (.sipush 512, 3) := by decide +kernel
theorem dX0_init_46 : decode cX0_init 46 = .ok (.newarray .int, 2) := by decide +kernel
theorem dX0_init_48 : decode cX0_init 48 = .ok (.putfield 27, 3) := by decide +kernel
theorem dX0_init_51 : decode cX0_init 51 = .ok (.aload_n 0, 1) := by decide +kernel
theorem dX0_init_52 : decode cX0_init 52 = .ok (.sipush 512, 3) := by decide +kernel
theorem dX0_init_55 : decode cX0_init 55 = .ok (.newarray .long, 2) := by decide +kernel
theorem dX0_init_57 : decode cX0_init 57 = .ok (.putfield 30, 3) := by decide +kernel
theorem dX0_init_60 : decode cX0_init 60 = .ok (.return_, 1) := by decide +kernel
theorem dX6_init_45 : decode cX6_init 45 = .ok (.putfield 33, 3) := by decide +kernel
theorem dX6_init_48 : decode cX6_init 48 = .ok (.aload_n 0, 1) := by decide +kernel
theorem dX6_init_49 : decode cX6_init 49 = .ok (.new 37, 3) := by decide +kernel
theorem dX6_init_52 : decode cX6_init 52 = .ok (.dup, 1) := by decide +kernel
theorem dX6_init_53 : decode cX6_init 53 = .ok (.invokespecial 39, 3) := by decide +kernel
theorem dX4_init_0 : decode cX4_init 0 = .ok (.aload_n 0, 1) := by decide +kernel
theorem dX4_init_1 : decode cX4_init 1 = .ok (.invokespecial 3, 3) := by decide +kernel
theorem dX4_init_4 : decode cX4_init 4 = .ok (.aload_n 0, 1) := by decide +kernel
theorem dX4_init_5 : decode cX4_init 5 = .ok (.iconst 2, 1) := by decide +kernel
theorem dX4_init_6 : decode cX4_init 6 = .ok (.putfield 9, 3) := by decide +kernel
theorem dX4_init_9 : decode cX4_init 9 = .ok (.aload_n 0, 1) := by decide +kernel
theorem dX4_init_10 : decode cX4_init 10 = .ok (.bipush 45, 2) := by decide +kernel
theorem dX4_init_12 : decode cX4_init 12 = .ok (.newarray .int, 2) := by decide +kernel
theorem dX4_init_14 : decode cX4_init 14 = .ok (.putfield 17, 3) := by decide +kernel
theorem dX4_init_17 : decode cX4_init 17 = .ok (.aload_n 0, 1) := by decide +kernel
theorem dX4_init_18 : decode cX4_init 18 = .ok (.bipush 9, 2) := by decide +kernel
theorem dX4_init_20 : decode cX4_init 20 = .ok (.newarray .int, 2) := by decide +kernel
theorem dX4_init_22 : decode cX4_init 22 = .ok (.putfield 21, 3) := by decide +kernel
theorem dX4_init_25 : decode cX4_init 25 = .ok (.aload_n 0, 1) := by decide +kernel
theorem dX4_init_26 : decode cX4_init 26 = .ok (.sipush 512, 3) := by decide +kernel
theorem dX4_init_29 : decode cX4_init 29 = .ok (.newarray .int, 2) := by decide +kernel
theorem dX4_init_31 : decode cX4_init 31 = .ok (.putfield 24, 3) := by decide +kernel
theorem dX4_init_34 : decode cX4_init 34 = .ok (.aload_n 0, 1) := by decide +kernel
theorem dX4_init_35 : decode cX4_init 35 = .ok (.sipush 512, 3) := by decide +kernel
theorem dX4_init_38 : decode cX4_init 38 = .ok (.newarray .boolean, 2) := by decide +kernel
theorem dX4_init_40 : decode cX4_init 40 = .ok (.putfield 27, 3) := by decide +kernel
theorem dX4_init_43 : decode cX4_init 43 = .ok (.aload_n 0, 1) := by decide +kernel
theorem dX4_init_44 : decode cX4_init 44 = .ok (.bipush 9, 2) := by decide +kernel
theorem dX4_init_46 : decode cX4_init 46 = .ok (.newarray .int, 2) := by decide +kernel
theorem dX4_init_48 : decode cX4_init 48 = .ok (.putfield 31, 3) := by decide +kernel
theorem dX4_init_51 : decode cX4_init 51 = .ok (.return_, 1) := by decide +kernel
theorem dX6_init_56 : decode cX6_init 56 = .ok (.putfield 40, 3) := by decide +kernel
theorem dX6_init_59 : decode cX6_init 59 = .ok (.return_, 1) := by decide +kernel
theorem dX12_init_0 : decode cX12_init 0 = .ok (.aload_n 0, 1) := by decide +kernel
theorem dX12_init_1 : decode cX12_init 1 = .ok (.invokespecial 1, 3) := by decide +kernel
theorem dX12_init_4 : decode cX12_init 4 = .ok (.aload_n 0, 1) := by decide +kernel
theorem dX12_init_5 : decode cX12_init 5 = .ok (.new 7, 3) := by decide +kernel
theorem dX12_init_8 : decode cX12_init 8 = .ok (.dup, 1) := by decide +kernel
theorem dX12_init_9 : decode cX12_init 9 = .ok (.invokespecial 9, 3) := by decide +kernel
theorem dJx4a65c_init_da8c8_0 : decode cJx4a65c_init_da8c8 0 = .ok (.aload_n 0, 1) := by decide +kernel
theorem dJx4a65c_init_da8c8_1 : decode cJx4a65c_init_da8c8 1 = .ok (.invokespecial 1, 3) := by decide +kernel
theorem dJxc12de_init_da8c8_0 : decode cJxc12de_init_da8c8 0 = .ok (.aload_n 0, 1) := by decide +kernel
theorem dJxc12de_init_da8c8_1 : decode cJxc12de_init_da8c8 1 = .ok (.invokespecial 1, 3) := by decide +kernel
theorem dJxa1e45_init_da8c8_0 : decode cJxa1e45_init_da8c8 0 = .ok (.aload_n 0, 1) := by decide +kernel
theorem dJxa1e45_init_da8c8_1 : decode cJxa1e45_init_da8c8 1 = .ok (.invokespecial 1, 3) := by decide +kernel
theorem dJxa1e45_init_da8c8_4 : decode cJxa1e45_init_da8c8 4 = .ok (.return_, 1) := by decide +kernel
theorem dJxc12de_init_da8c8_4 : decode cJxc12de_init_da8c8 4 = .ok (.aload_n 0, 1) := by decide +kernel
theorem dJxc12de_init_da8c8_5 : decode cJxc12de_init_da8c8 5 = .ok (.iconst 0, 1) := by decide +kernel
theorem dJxc12de_init_da8c8_6 : decode cJxc12de_init_da8c8 6 = .ok (.putfield 7, 3) := by decide +kernel
theorem dJxc12de_init_da8c8_9 : decode cJxc12de_init_da8c8 9 = .ok (.return_, 1) := by decide +kernel
theorem dJx4a65c_init_da8c8_4 : decode cJx4a65c_init_da8c8 4 = .ok (.aload_n 0, 1) := by decide +kernel
theorem dJx4a65c_init_da8c8_5 : decode cJx4a65c_init_da8c8 5 = .ok (.getstatic 39, 3) := by decide +kernel
theorem dJx4a65c_init_da8c8_8 : decode cJx4a65c_init_da8c8 8 = .ok (.putfield 9, 3) := by decide +kernel
theorem dJx4a65c_init_da8c8_11 : decode cJx4a65c_init_da8c8 11 = .ok (.return_, 1) := by decide +kernel
theorem dX12_init_12 : decode cX12_init 12 = .ok (.putfield 10, 3) := by decide +kernel
theorem dX12_init_15 : decode cX12_init 15 = .ok (.aload_n 0, 1) := by decide +kernel
theorem dX12_init_16 : decode cX12_init 16 = .ok (.new 7, 3) := by decide +kernel
theorem dX12_init_19 : decode cX12_init 19 = .ok (.dup, 1) := by decide +kernel
theorem dX12_init_20 : decode cX12_init 20 = .ok (.invokespecial 9, 3) := by decide +kernel
theorem dX12_init_23 : decode cX12_init 23 = .ok (.putfield 16, 3) := by decide +kernel
theorem dX12_init_26 : decode cX12_init 26 = .ok (.aload_n 0, 1) := by decide +kernel
theorem dX12_init_27 : decode cX12_init 27 = .ok (.new 7, 3) := by decide +kernel
theorem dX12_init_30 : decode cX12_init 30 = .ok (.dup, 1) := by decide +kernel
theorem dX12_init_31 : decode cX12_init 31 = .ok (.invokespecial 9, 3) := by decide +kernel
theorem dX12_init_34 : decode cX12_init 34 = .ok (.putfield 19, 3) := by decide +kernel
theorem dX12_init_37 : decode cX12_init 37 = .ok (.aload_n 0, 1) := by decide +kernel
theorem dX12_init_38 : decode cX12_init 38 = .ok (.new 7, 3) := by decide +kernel
theorem dX12_init_41 : decode cX12_init 41 = .ok (.dup, 1) := by decide +kernel
theorem dX12_init_42 : decode cX12_init 42 = .ok (.invokespecial 9, 3) := by decide +kernel
theorem dX12_init_45 : decode cX12_init 45 = .ok (.putfield 22, 3) := by decide +kernel
theorem dX12_init_48 : decode cX12_init 48 = .ok (.aload_n 0, 1) := by decide +kernel
theorem dX12_init_49 : decode cX12_init 49 = .ok (.sipush 512, 3) := by decide +kernel
theorem dX12_init_52 : decode cX12_init 52 = .ok (.newarray .long, 2) := by decide +kernel
theorem dX12_init_54 : decode cX12_init 54 = .ok (.putfield 25, 3) := by decide +kernel
theorem dX12_init_57 : decode cX12_init 57 = .ok (.aload_n 0, 1) := by decide +kernel
theorem dX12_init_58 : decode cX12_init 58 = .ok (.bipush 9, 2) := by decide +kernel
theorem dX12_init_60 : decode cX12_init 60 = .ok (.newarray .long, 2) := by decide +kernel
theorem dX12_init_62 : decode cX12_init 62 = .ok (.putfield 29, 3) := by decide +kernel
theorem dX12_init_65 : decode cX12_init 65 = .ok (.aload_n 0, 1) := by decide +kernel
theorem dX12_init_66 : decode cX12_init 66 = .ok (.bipush 9, 2) := by decide +kernel
theorem dX12_init_68 : decode cX12_init 68 = .ok (.newarray .long, 2) := by decide +kernel
theorem dX12_init_70 : decode cX12_init 70 = .ok (.putfield 32, 3) := by decide +kernel
theorem dX12_init_73 : decode cX12_init 73 = .ok (.aload_n 0, 1) := by decide +kernel
theorem dX12_init_74 : decode cX12_init 74 = .ok (.sipush 512, 3) := by decide +kernel
theorem dX12_init_77 : decode cX12_init 77 = .ok (.newarray .boolean, 2) := by decide +kernel
theorem dX12_init_79 : decode cX12_init 79 = .ok (.putfield 35, 3) := by decide +kernel
theorem dX12_init_82 : decode cX12_init 82 = .ok (.aload_n 0, 1) := by decide +kernel
theorem dX12_init_83 : decode cX12_init 83 = .ok (.sipush 512, 3) := by decide +kernel
theorem dX12_init_86 : decode cX12_init 86 = .ok (.newarray .boolean, 2) := by decide +kernel
theorem dX12_init_88 : decode cX12_init 88 = .ok (.putfield 39, 3) := by decide +kernel
theorem dX12_init_91 : decode cX12_init 91 = .ok (.aload_n 0, 1) := by decide +kernel
theorem dX12_init_92 : decode cX12_init 92 = .ok (.sipush 512, 3) := by decide +kernel
theorem dX12_init_95 : decode cX12_init 95 = .ok (.newarray .int, 2) := by decide +kernel
theorem dX12_init_97 : decode cX12_init 97 = .ok (.putfield 42, 3) := by decide +kernel
theorem dX12_init_100 : decode cX12_init 100 = .ok (.aload_n 0, 1) := by decide +kernel
theorem dX12_init_101 : decode cX12_init 101 = .ok (.bipush 9, 2) := by decide +kernel
theorem dX12_init_103 : decode cX12_init 103 = .ok (.newarray .int, 2) := by decide +kernel
theorem dX12_init_105 : decode cX12_init 105 = .ok (.putfield 46, 3) := by decide +kernel
theorem dX12_init_108 : decode cX12_init 108 = .ok (.aload_n 0, 1) := by decide +kernel
theorem dX12_init_109 : decode cX12_init 109 = .ok (.bipush 9, 2) := by decide +kernel
theorem dX12_init_111 : decode cX12_init 111 = .ok (.newarray .int, 2) := by decide +kernel
theorem dX12_init_113 : decode cX12_init 113 = .ok (.putfield 49, 3) := by decide +kernel
theorem dX12_init_116 : decode cX12_init 116 = .ok (.aload_n 0, 1) := by decide +kernel
theorem dX12_init_117 : decode cX12_init 117 = .ok (.bipush 9, 2) := by decide +kernel
theorem dX12_init_119 : decode cX12_init 119 = .ok (.newarray .int, 2) := by decide +kernel
theorem dX12_init_121 : decode cX12_init 121 = .ok (.putfield 52, 3) := by decide +kernel
theorem dX12_init_124 : decode cX12_init 124 = .ok (.aload_n 0, 1) := by decide +kernel
theorem dX12_init_125 : decode cX12_init 125 = .ok (.iconst 5, 1) := by decide +kernel
theorem dX12_init_126 : decode cX12_init 126 = .ok (.newarray .int, 2) := by decide +kernel
theorem dX12_init_128 : decode cX12_init 128 = .ok (.putfield 55, 3) := by decide +kernel
theorem dX12_init_131 : decode cX12_init 131 = .ok (.aload_n 0, 1) := by decide +kernel
theorem dX12_init_132 : decode cX12_init 132 = .ok (.bipush 9, 2) := by decide +kernel
theorem dX12_init_134 : decode cX12_init 134 = .ok (.newarray .int, 2) := by decide +kernel
theorem dX12_init_136 : decode cX12_init 136 = .ok (.putfield 58, 3) := by decide +kernel
theorem dX12_init_139 : decode cX12_init 139 = .ok (.aload_n 0, 1) := by decide +kernel
theorem dX12_init_140 : decode cX12_init 140 = .ok (.sipush 512, 3) := by decide +kernel
theorem dX12_init_143 : decode cX12_init 143 = .ok (.newarray .int, 2) := by decide +kernel
theorem dX12_init_145 : decode cX12_init 145 = .ok (.putfield 61, 3) := by decide +kernel
theorem dX12_init_148 : decode cX12_init 148 = .ok (.aload_n 0, 1) := by decide +kernel
theorem dX12_init_149 : decode cX12_init 149 = .ok (.sipush 512, 3) := by decide +kernel
theorem dX12_init_152 : decode cX12_init 152 = .ok (.newarray .int, 2) := by decide +kernel
theorem dX12_init_154 : decode cX12_init 154 = .ok (.putfield 64, 3) := by decide +kernel
theorem dX12_init_157 : decode cX12_init 157 = .ok (.aload_n 0, 1) := by decide +kernel
theorem dX12_init_158 : decode cX12_init 158 = .ok (.sipush 512, 3) := by decide +kernel
theorem dX12_init_161 : decode cX12_init 161 = .ok (.newarray .int, 2) := by decide +kernel
theorem dX12_init_163 : decode cX12_init 163 = .ok (.putfield 67, 3) := by decide +kernel
theorem dX12_init_166 : decode cX12_init 166 = .ok (.aload_n 0, 1) := by decide +kernel
theorem dX12_init_167 : decode cX12_init 167 = .ok (.iconst 2, 1) := by decide +kernel
theorem dX12_init_168 : decode cX12_init 168 = .ok (.putfield 70, 3) := by decide +kernel
theorem dX12_init_171 : decode cX12_init 171 = .ok (.return_, 1) := by decide +kernel
theorem gw117 : Cond.methodLink RX6 3 objectInit ∈ GW := gw_of (i := 117) (by decide +kernel) rfl
theorem gw118 : Cond.instanceMethod objectInit ∈ GW := gw_of (i := 118) (by decide +kernel) rfl
theorem gw119 : Cond.code objectInit ⟨#[0xb1]⟩ 1 none ∈ GW := gw_of (i := 119) (by decide +kernel) rfl
theorem gw120 : Cond.classLink RX6 9 RX2 ∈ GW := gw_of (i := 120) (by decide +kernel) rfl
theorem gw121 : Cond.instantiable RX2 12 ∈ GW := gw_of (i := 121) (by decide +kernel) rfl
theorem gw76 : Cond.initialized RX2 ∈ GW := gw_of (i := 76) (by decide +kernel) rfl
theorem gw125 : Cond.methodLink RX2 3 objectInit ∈ GW := gw_of (i := 125) (by decide +kernel) rfl
theorem gw178 : Cond.arrayClass .int ∈ GW := gw_of (i := 178) (by decide +kernel) rfl
theorem gw134 : Cond.fieldLink RX2 9 "Tenonyard$Frame" "places" "[I" ∈ GW := gw_of (i := 134) (by decide +kernel) rfl
theorem gw136 : Cond.fieldLink RX2 15 "Tenonyard$Frame" "loads" "[I" ∈ GW := gw_of (i := 136) (by decide +kernel) rfl
theorem gw138 : Cond.fieldLink RX2 18 "Tenonyard$Frame" "loadCounts" "[I" ∈ GW := gw_of (i := 138) (by decide +kernel) rfl
theorem gw179 : Cond.arrayClass .char ∈ GW := gw_of (i := 179) (by decide +kernel) rfl
theorem gw139 : Cond.fieldLink RX2 21 "Tenonyard$Frame" "kinds" "[C" ∈ GW := gw_of (i := 139) (by decide +kernel) rfl
theorem gw140 : Cond.fieldLink RX2 25 "Tenonyard$Frame" "firstNodes" "[I" ∈ GW := gw_of (i := 140) (by decide +kernel) rfl
theorem gw141 : Cond.fieldLink RX2 28 "Tenonyard$Frame" "secondNodes" "[I" ∈ GW := gw_of (i := 141) (by decide +kernel) rfl
theorem gw142 : Cond.fieldLink RX2 31 "Tenonyard$Frame" "breadths" "[I" ∈ GW := gw_of (i := 142) (by decide +kernel) rfl
theorem gw145 : Cond.fieldLink RX2 34 "Tenonyard$Frame" "grades" "[I" ∈ GW := gw_of (i := 145) (by decide +kernel) rfl
theorem gw147 : Cond.fieldLink RX2 37 "Tenonyard$Frame" "cutMoistures" "[I" ∈ GW := gw_of (i := 147) (by decide +kernel) rfl
theorem gw150 : Cond.fieldLink RX2 40 "Tenonyard$Frame" "driedMoistures" "[I" ∈ GW := gw_of (i := 150) (by decide +kernel) rfl
theorem gw123 : Cond.instanceMethod yX2_init ∈ GW := gw_of (i := 123) (by decide +kernel) rfl
theorem gw124 : Cond.code yX2_init cX2_init 1 none ∈ GW := gw_of (i := 124) (by decide +kernel) rfl
theorem gw122 : Cond.methodLinkNest RX6 11 yX2_init "Tenonyard" ∈ NW := nw_of (i := 122) (by decide +kernel) rfl
theorem gw363 : Cond.fieldLink RX6 12 "Tenonyard" "frame" "LTenonyard$Frame;" ∈ GW := gw_of (i := 363) (by decide +kernel) rfl
theorem gw180 : Cond.classLink RX6 16 RX1 ∈ GW := gw_of (i := 180) (by decide +kernel) rfl
theorem gw181 : Cond.instantiable RX1 17 ∈ GW := gw_of (i := 181) (by decide +kernel) rfl
theorem gw77 : Cond.initialized RX1 ∈ GW := gw_of (i := 77) (by decide +kernel) rfl
theorem gw185 : Cond.methodLink RX1 3 objectInit ∈ GW := gw_of (i := 185) (by decide +kernel) rfl
theorem gw196 : Cond.arrayClass .long ∈ GW := gw_of (i := 196) (by decide +kernel) rfl
theorem gw202 : Cond.fieldLink RX1 11 "Tenonyard$Forces" "wholes" "[J" ∈ GW := gw_of (i := 202) (by decide +kernel) rfl
theorem gw203 : Cond.fieldLink RX1 15 "Tenonyard$Forces" "rests" "[J" ∈ GW := gw_of (i := 203) (by decide +kernel) rfl
theorem gw204 : Cond.fieldLink RX1 18 "Tenonyard$Forces" "amounts" "[J" ∈ GW := gw_of (i := 204) (by decide +kernel) rfl
theorem gw206 : Cond.fieldLink RX1 21 "Tenonyard$Forces" "ways" "[I" ∈ GW := gw_of (i := 206) (by decide +kernel) rfl
theorem gw207 : Cond.fieldLink RX1 25 "Tenonyard$Forces" "highAsked" "[I" ∈ GW := gw_of (i := 207) (by decide +kernel) rfl
theorem gw208 : Cond.fieldLink RX1 28 "Tenonyard$Forces" "lowAsked" "[I" ∈ GW := gw_of (i := 208) (by decide +kernel) rfl
theorem gw209 : Cond.fieldLink RX1 31 "Tenonyard$Forces" "plain" "[J" ∈ GW := gw_of (i := 209) (by decide +kernel) rfl
theorem gw210 : Cond.fieldLink RX1 34 "Tenonyard$Forces" "high" "[J" ∈ GW := gw_of (i := 210) (by decide +kernel) rfl
theorem gw211 : Cond.fieldLink RX1 37 "Tenonyard$Forces" "low" "[J" ∈ GW := gw_of (i := 211) (by decide +kernel) rfl
theorem gw186 : Cond.classLink RX1 40 RX5 ∈ GW := gw_of (i := 186) (by decide +kernel) rfl
theorem gw187 : Cond.instantiable RX5 1 ∈ GW := gw_of (i := 187) (by decide +kernel) rfl
theorem gw78 : Cond.initialized RX5 ∈ GW := gw_of (i := 78) (by decide +kernel) rfl
theorem gw191 : Cond.methodLink RX5 1 objectInit ∈ GW := gw_of (i := 191) (by decide +kernel) rfl
theorem gw192 : Cond.fieldLink RX5 9 "Tenonyard$Wide" "parts" "[J" ∈ GW := gw_of (i := 192) (by decide +kernel) rfl
theorem gw189 : Cond.instanceMethod yX5_init ∈ GW := gw_of (i := 189) (by decide +kernel) rfl
theorem gw190 : Cond.code yX5_init cX5_init 1 none ∈ GW := gw_of (i := 190) (by decide +kernel) rfl
theorem gw188 : Cond.methodLinkNest RX1 42 yX5_init "Tenonyard" ∈ NW := nw_of (i := 188) (by decide +kernel) rfl
theorem gw212 : Cond.fieldLink RX1 43 "Tenonyard$Forces" "factor" "LTenonyard$Wide;" ∈ GW := gw_of (i := 212) (by decide +kernel) rfl
theorem gw213 : Cond.fieldLink RX1 47 "Tenonyard$Forces" "wideDivisor" "LTenonyard$Wide;" ∈ GW := gw_of (i := 213) (by decide +kernel) rfl
theorem gw214 : Cond.fieldLink RX1 50 "Tenonyard$Forces" "product" "LTenonyard$Wide;" ∈ GW := gw_of (i := 214) (by decide +kernel) rfl
theorem gw215 : Cond.fieldLink RX1 53 "Tenonyard$Forces" "square" "LTenonyard$Wide;" ∈ GW := gw_of (i := 215) (by decide +kernel) rfl
theorem gw216 : Cond.fieldLink RX1 56 "Tenonyard$Forces" "greatestSquare" "LTenonyard$Wide;" ∈ GW := gw_of (i := 216) (by decide +kernel) rfl
theorem gw183 : Cond.instanceMethod yX1_init ∈ GW := gw_of (i := 183) (by decide +kernel) rfl
theorem gw184 : Cond.code yX1_init cX1_init 1 none ∈ GW := gw_of (i := 184) (by decide +kernel) rfl
theorem gw182 : Cond.methodLinkNest RX6 18 yX1_init "Tenonyard" ∈ NW := nw_of (i := 182) (by decide +kernel) rfl
theorem gw364 : Cond.fieldLink RX6 19 "Tenonyard" "forces" "LTenonyard$Forces;" ∈ GW := gw_of (i := 364) (by decide +kernel) rfl
theorem gw252 : Cond.classLink RX6 23 RX3 ∈ GW := gw_of (i := 252) (by decide +kernel) rfl
theorem gw253 : Cond.instantiable RX3 6 ∈ GW := gw_of (i := 253) (by decide +kernel) rfl
theorem gw79 : Cond.initialized RX3 ∈ GW := gw_of (i := 79) (by decide +kernel) rfl
theorem gw257 : Cond.methodLink RX3 3 objectInit ∈ GW := gw_of (i := 257) (by decide +kernel) rfl
theorem gw261 : Cond.fieldLink RX3 9 "Tenonyard$Joinery" "goingIn" "[I" ∈ GW := gw_of (i := 261) (by decide +kernel) rfl
theorem gw262 : Cond.fieldLink RX3 15 "Tenonyard$Joinery" "receiving" "[I" ∈ GW := gw_of (i := 262) (by decide +kernel) rfl
theorem gw263 : Cond.fieldLink RX3 18 "Tenonyard$Joinery" "ways" "[I" ∈ GW := gw_of (i := 263) (by decide +kernel) rfl
theorem gw264 : Cond.fieldLink RX3 21 "Tenonyard$Joinery" "thicknesses" "[I" ∈ GW := gw_of (i := 264) (by decide +kernel) rfl
theorem gw265 : Cond.fieldLink RX3 24 "Tenonyard$Joinery" "marks" "[I" ∈ GW := gw_of (i := 265) (by decide +kernel) rfl
theorem gw255 : Cond.instanceMethod yX3_init ∈ GW := gw_of (i := 255) (by decide +kernel) rfl
theorem gw256 : Cond.code yX3_init cX3_init 1 none ∈ GW := gw_of (i := 256) (by decide +kernel) rfl
theorem gw254 : Cond.methodLinkNest RX6 25 yX3_init "Tenonyard" ∈ NW := nw_of (i := 254) (by decide +kernel) rfl
theorem gw365 : Cond.fieldLink RX6 26 "Tenonyard" "joinery" "LTenonyard$Joinery;" ∈ GW := gw_of (i := 365) (by decide +kernel) rfl
theorem gw279 : Cond.classLink RX6 30 RX0 ∈ GW := gw_of (i := 279) (by decide +kernel) rfl
theorem gw280 : Cond.instantiable RX0 11 ∈ GW := gw_of (i := 280) (by decide +kernel) rfl
theorem gw80 : Cond.initialized RX0 ∈ GW := gw_of (i := 80) (by decide +kernel) rfl
theorem gw284 : Cond.methodLink RX0 3 objectInit ∈ GW := gw_of (i := 284) (by decide +kernel) rfl
theorem gw293 : Cond.fieldLink RX0 9 "Tenonyard$Cutting" "chosen" "[I" ∈ GW := gw_of (i := 293) (by decide +kernel) rfl
theorem gw295 : Cond.fieldLink RX0 15 "Tenonyard$Cutting" "lengths" "[I" ∈ GW := gw_of (i := 295) (by decide +kernel) rfl
theorem gw296 : Cond.fieldLink RX0 18 "Tenonyard$Cutting" "breadths" "[I" ∈ GW := gw_of (i := 296) (by decide +kernel) rfl
theorem gw297 : Cond.fieldLink RX0 21 "Tenonyard$Cutting" "grades" "[I" ∈ GW := gw_of (i := 297) (by decide +kernel) rfl
theorem gw298 : Cond.fieldLink RX0 24 "Tenonyard$Cutting" "spans" "[I" ∈ GW := gw_of (i := 298) (by decide +kernel) rfl
theorem gw299 : Cond.fieldLink RX0 27 "Tenonyard$Cutting" "weights" "[I" ∈ GW := gw_of (i := 299) (by decide +kernel) rfl
theorem gw300 : Cond.fieldLink RX0 30 "Tenonyard$Cutting" "costs" "[J" ∈ GW := gw_of (i := 300) (by decide +kernel) rfl
theorem gw282 : Cond.instanceMethod yX0_init ∈ GW := gw_of (i := 282) (by decide +kernel) rfl
theorem gw283 : Cond.code yX0_init cX0_init 1 none ∈ GW := gw_of (i := 283) (by decide +kernel) rfl
theorem gw281 : Cond.methodLinkNest RX6 32 yX0_init "Tenonyard" ∈ NW := nw_of (i := 281) (by decide +kernel) rfl
theorem gw366 : Cond.fieldLink RX6 33 "Tenonyard" "cutting" "LTenonyard$Cutting;" ∈ GW := gw_of (i := 366) (by decide +kernel) rfl
theorem gw324 : Cond.classLink RX6 37 RX4 ∈ GW := gw_of (i := 324) (by decide +kernel) rfl
theorem gw325 : Cond.instantiable RX4 9 ∈ GW := gw_of (i := 325) (by decide +kernel) rfl
theorem gw81 : Cond.initialized RX4 ∈ GW := gw_of (i := 81) (by decide +kernel) rfl
theorem gw329 : Cond.methodLink RX4 3 objectInit ∈ GW := gw_of (i := 329) (by decide +kernel) rfl
theorem gw330 : Cond.fieldLink RX4 9 "Tenonyard$Raising" "limit" "I" ∈ GW := gw_of (i := 330) (by decide +kernel) rfl
theorem gw336 : Cond.fieldLink RX4 17 "Tenonyard$Raising" "asking" "[I" ∈ GW := gw_of (i := 336) (by decide +kernel) rfl
theorem gw337 : Cond.fieldLink RX4 21 "Tenonyard$Raising" "joined" "[I" ∈ GW := gw_of (i := 337) (by decide +kernel) rfl
theorem gw338 : Cond.fieldLink RX4 24 "Tenonyard$Raising" "orderCounts" "[I" ∈ GW := gw_of (i := 338) (by decide +kernel) rfl
theorem gw362 : Cond.arrayClass .boolean ∈ GW := gw_of (i := 362) (by decide +kernel) rfl
theorem gw339 : Cond.fieldLink RX4 27 "Tenonyard$Raising" "leadsToAll" "[Z" ∈ GW := gw_of (i := 339) (by decide +kernel) rfl
theorem gw341 : Cond.fieldLink RX4 31 "Tenonyard$Raising" "order" "[I" ∈ GW := gw_of (i := 341) (by decide +kernel) rfl
theorem gw327 : Cond.instanceMethod yX4_init ∈ GW := gw_of (i := 327) (by decide +kernel) rfl
theorem gw328 : Cond.code yX4_init cX4_init 1 none ∈ GW := gw_of (i := 328) (by decide +kernel) rfl
theorem gw326 : Cond.methodLinkNest RX6 39 yX4_init "Tenonyard" ∈ NW := nw_of (i := 326) (by decide +kernel) rfl
theorem gw367 : Cond.fieldLink RX6 40 "Tenonyard" "raising" "LTenonyard$Raising;" ∈ GW := gw_of (i := 367) (by decide +kernel) rfl
theorem gw1192 : Cond.methodLink RX12 1 objectInit ∈ GW := gw_of (i := 1192) (by decide +kernel) rfl
theorem gw1193 : Cond.classLink RX12 7 RJx4a65c ∈ GW := gw_of (i := 1193) (by decide +kernel) rfl
theorem gw1194 : Cond.instantiable RJx4a65c 3 ∈ GW := gw_of (i := 1194) (by decide +kernel) rfl
theorem gw85 : Cond.initialized RJx4a65c ∈ GW := gw_of (i := 85) (by decide +kernel) rfl
theorem gw1204 : Cond.methodLink RJxa1e45 1 objectInit ∈ GW := gw_of (i := 1204) (by decide +kernel) rfl
theorem gw1202 : Cond.instanceMethod yJxa1e45_init_da8c8 ∈ GW := gw_of (i := 1202) (by decide +kernel) rfl
theorem gw83 : Cond.initialized RJxa1e45 ∈ GW := gw_of (i := 83) (by decide +kernel) rfl
theorem gw1203 : Cond.code yJxa1e45_init_da8c8 cJxa1e45_init_da8c8 1 none ∈ GW := gw_of (i := 1203) (by decide +kernel) rfl
theorem gw1201 : Cond.methodLink RJxc12de 1 yJxa1e45_init_da8c8 ∈ GW := gw_of (i := 1201) (by decide +kernel) rfl
theorem gw1209 : Cond.fieldLink RJxc12de 7 "java/util/AbstractList" "modCount" "I" ∈ GW := gw_of (i := 1209) (by decide +kernel) rfl
theorem gw1199 : Cond.instanceMethod yJxc12de_init_da8c8 ∈ GW := gw_of (i := 1199) (by decide +kernel) rfl
theorem gw84 : Cond.initialized RJxc12de ∈ GW := gw_of (i := 84) (by decide +kernel) rfl
theorem gw1200 : Cond.code yJxc12de_init_da8c8 cJxc12de_init_da8c8 1 none ∈ GW := gw_of (i := 1200) (by decide +kernel) rfl
theorem gw1198 : Cond.methodLink RJx4a65c 1 yJxc12de_init_da8c8 ∈ GW := gw_of (i := 1198) (by decide +kernel) rfl
theorem gw1205 : Cond.fieldLink RJx4a65c 39 "java/util/ArrayList" "DEFAULTCAPACITY_EMPTY_ELEMENTDATA" "[Ljava/lang/Object;" ∈ GW := gw_of (i := 1205) (by decide +kernel) rfl
theorem gw1207 : Cond.fieldLink RJx4a65c 9 "java/util/ArrayList" "elementData" "[Ljava/lang/Object;" ∈ GW := gw_of (i := 1207) (by decide +kernel) rfl
theorem gw1196 : Cond.instanceMethod yJx4a65c_init_da8c8 ∈ GW := gw_of (i := 1196) (by decide +kernel) rfl
theorem gw1197 : Cond.code yJx4a65c_init_da8c8 cJx4a65c_init_da8c8 1 none ∈ GW := gw_of (i := 1197) (by decide +kernel) rfl
theorem gw1195 : Cond.methodLink RX12 9 yJx4a65c_init_da8c8 ∈ GW := gw_of (i := 1195) (by decide +kernel) rfl
theorem gw1219 : Cond.fieldLink RX12 10 "TenonyardModel" "nodes" "Ljava/util/ArrayList;" ∈ GW := gw_of (i := 1219) (by decide +kernel) rfl
theorem gw1220 : Cond.fieldLink RX12 16 "TenonyardModel" "members" "Ljava/util/ArrayList;" ∈ GW := gw_of (i := 1220) (by decide +kernel) rfl
theorem gw1221 : Cond.fieldLink RX12 19 "TenonyardModel" "joints" "Ljava/util/ArrayList;" ∈ GW := gw_of (i := 1221) (by decide +kernel) rfl
theorem gw1222 : Cond.fieldLink RX12 22 "TenonyardModel" "sticks" "Ljava/util/ArrayList;" ∈ GW := gw_of (i := 1222) (by decide +kernel) rfl
theorem gw1223 : Cond.fieldLink RX12 25 "TenonyardModel" "minors" "[J" ∈ GW := gw_of (i := 1223) (by decide +kernel) rfl
theorem gw1224 : Cond.fieldLink RX12 29 "TenonyardModel" "pulls" "[J" ∈ GW := gw_of (i := 1224) (by decide +kernel) rfl
theorem gw1225 : Cond.fieldLink RX12 32 "TenonyardModel" "forces" "[J" ∈ GW := gw_of (i := 1225) (by decide +kernel) rfl
theorem gw1226 : Cond.fieldLink RX12 35 "TenonyardModel" "isEnd" "[Z" ∈ GW := gw_of (i := 1226) (by decide +kernel) rfl
theorem gw1227 : Cond.fieldLink RX12 39 "TenonyardModel" "canCut" "[Z" ∈ GW := gw_of (i := 1227) (by decide +kernel) rfl
theorem gw1228 : Cond.fieldLink RX12 42 "TenonyardModel" "ways" "[I" ∈ GW := gw_of (i := 1228) (by decide +kernel) rfl
theorem gw1229 : Cond.fieldLink RX12 46 "TenonyardModel" "order" "[I" ∈ GW := gw_of (i := 1229) (by decide +kernel) rfl
theorem gw1230 : Cond.fieldLink RX12 49 "TenonyardModel" "best" "[I" ∈ GW := gw_of (i := 1230) (by decide +kernel) rfl
theorem gw1231 : Cond.fieldLink RX12 52 "TenonyardModel" "tried" "[I" ∈ GW := gw_of (i := 1231) (by decide +kernel) rfl
theorem gw1232 : Cond.fieldLink RX12 55 "TenonyardModel" "left" "[I" ∈ GW := gw_of (i := 1232) (by decide +kernel) rfl
theorem gw1233 : Cond.fieldLink RX12 58 "TenonyardModel" "needs" "[I" ∈ GW := gw_of (i := 1233) (by decide +kernel) rfl
theorem gw1234 : Cond.fieldLink RX12 61 "TenonyardModel" "lengths" "[I" ∈ GW := gw_of (i := 1234) (by decide +kernel) rfl
theorem gw1235 : Cond.fieldLink RX12 64 "TenonyardModel" "breadths" "[I" ∈ GW := gw_of (i := 1235) (by decide +kernel) rfl
theorem gw1236 : Cond.fieldLink RX12 67 "TenonyardModel" "grades" "[I" ∈ GW := gw_of (i := 1236) (by decide +kernel) rfl
theorem gw1239 : Cond.fieldLink RX12 70 "TenonyardModel" "props" "I" ∈ GW := gw_of (i := 1239) (by decide +kernel) rfl
theorem inX6 : ∀ w ∈ u_ws RX6 TX6 5, w ∈ GW := fun w hw => List.mem_filter.mpr ((show ∀ w ∈ u_ws RX6 TX6 5, w ∈ lw_tbl ∧ goodWord w = true by decide +kernel) w hw)
theorem inX0 : ∀ w ∈ u_ws RX0 TX0 11, w ∈ GW := fun w hw => List.mem_filter.mpr ((show ∀ w ∈ u_ws RX0 TX0 11, w ∈ lw_tbl ∧ goodWord w = true by decide +kernel) w hw)
theorem inX1 : ∀ w ∈ u_ws RX1 TX1 17, w ∈ GW := fun w hw => List.mem_filter.mpr ((show ∀ w ∈ u_ws RX1 TX1 17, w ∈ lw_tbl ∧ goodWord w = true by decide +kernel) w hw)
theorem inX2 : ∀ w ∈ u_ws RX2 TX2 12, w ∈ GW := fun w hw => List.mem_filter.mpr ((show ∀ w ∈ u_ws RX2 TX2 12, w ∈ lw_tbl ∧ goodWord w = true by decide +kernel) w hw)
theorem inX3 : ∀ w ∈ u_ws RX3 TX3 6, w ∈ GW := fun w hw => List.mem_filter.mpr ((show ∀ w ∈ u_ws RX3 TX3 6, w ∈ lw_tbl ∧ goodWord w = true by decide +kernel) w hw)
theorem inX4 : ∀ w ∈ u_ws RX4 TX4 9, w ∈ GW := fun w hw => List.mem_filter.mpr ((show ∀ w ∈ u_ws RX4 TX4 9, w ∈ lw_tbl ∧ goodWord w = true by decide +kernel) w hw)
theorem inX5 : ∀ w ∈ u_ws RX5 TX5 1, w ∈ GW := fun w hw => List.mem_filter.mpr ((show ∀ w ∈ u_ws RX5 TX5 1, w ∈ lw_tbl ∧ goodWord w = true by decide +kernel) w hw)
theorem inX12 : ∀ w ∈ u_ws RX12 TX12 27, w ∈ GW := fun w hw => List.mem_filter.mpr ((show ∀ w ∈ u_ws RX12 TX12 27, w ∈ lw_tbl ∧ goodWord w = true by decide +kernel) w hw)
theorem inJx4a65c : ∀ w ∈ u_ws RJx4a65c TJx4a65c 3, w ∈ GW := fun w hw => List.mem_filter.mpr ((show ∀ w ∈ u_ws RJx4a65c TJx4a65c 3, w ∈ lw_tbl ∧ goodWord w = true by decide +kernel) w hw)
theorem pd_X2_init : yX2_init.cls = RX2 ∧ yX2_init.cls ≠ "java/lang/invoke/MethodHandle" ∧ yX2_init.cls ≠ "java/lang/invoke/VarHandle" ∧ (parseMethodDescriptor yX2_init.desc).map (fun d => d.parameters.length) = some 0 := ⟨rfl, by decide +kernel, by decide +kernel, by decide +kernel⟩
theorem pd_X5_init : yX5_init.cls = RX5 ∧ yX5_init.cls ≠ "java/lang/invoke/MethodHandle" ∧ yX5_init.cls ≠ "java/lang/invoke/VarHandle" ∧ (parseMethodDescriptor yX5_init.desc).map (fun d => d.parameters.length) = some 0 := ⟨rfl, by decide +kernel, by decide +kernel, by decide +kernel⟩
theorem pd_X1_init : yX1_init.cls = RX1 ∧ yX1_init.cls ≠ "java/lang/invoke/MethodHandle" ∧ yX1_init.cls ≠ "java/lang/invoke/VarHandle" ∧ (parseMethodDescriptor yX1_init.desc).map (fun d => d.parameters.length) = some 0 := ⟨rfl, by decide +kernel, by decide +kernel, by decide +kernel⟩
theorem pd_X3_init : yX3_init.cls = RX3 ∧ yX3_init.cls ≠ "java/lang/invoke/MethodHandle" ∧ yX3_init.cls ≠ "java/lang/invoke/VarHandle" ∧ (parseMethodDescriptor yX3_init.desc).map (fun d => d.parameters.length) = some 0 := ⟨rfl, by decide +kernel, by decide +kernel, by decide +kernel⟩
theorem pd_X0_init : yX0_init.cls = RX0 ∧ yX0_init.cls ≠ "java/lang/invoke/MethodHandle" ∧ yX0_init.cls ≠ "java/lang/invoke/VarHandle" ∧ (parseMethodDescriptor yX0_init.desc).map (fun d => d.parameters.length) = some 0 := ⟨rfl, by decide +kernel, by decide +kernel, by decide +kernel⟩
theorem pd_X4_init : yX4_init.cls = RX4 ∧ yX4_init.cls ≠ "java/lang/invoke/MethodHandle" ∧ yX4_init.cls ≠ "java/lang/invoke/VarHandle" ∧ (parseMethodDescriptor yX4_init.desc).map (fun d => d.parameters.length) = some 0 := ⟨rfl, by decide +kernel, by decide +kernel, by decide +kernel⟩
theorem pd_Jxa1e45_init_da8c8 : yJxa1e45_init_da8c8.cls = RJxa1e45 ∧ yJxa1e45_init_da8c8.cls ≠ "java/lang/invoke/MethodHandle" ∧ yJxa1e45_init_da8c8.cls ≠ "java/lang/invoke/VarHandle" ∧ (parseMethodDescriptor yJxa1e45_init_da8c8.desc).map (fun d => d.parameters.length) = some 0 := ⟨rfl, by decide +kernel, by decide +kernel, by decide +kernel⟩
theorem pd_Jxc12de_init_da8c8 : yJxc12de_init_da8c8.cls = RJxc12de ∧ yJxc12de_init_da8c8.cls ≠ "java/lang/invoke/MethodHandle" ∧ yJxc12de_init_da8c8.cls ≠ "java/lang/invoke/VarHandle" ∧ (parseMethodDescriptor yJxc12de_init_da8c8.desc).map (fun d => d.parameters.length) = some 0 := ⟨rfl, by decide +kernel, by decide +kernel, by decide +kernel⟩
theorem pd_Jx4a65c_init_da8c8 : yJx4a65c_init_da8c8.cls = RJx4a65c ∧ yJx4a65c_init_da8c8.cls ≠ "java/lang/invoke/MethodHandle" ∧ yJx4a65c_init_da8c8.cls ≠ "java/lang/invoke/VarHandle" ∧ (parseMethodDescriptor yJx4a65c_init_da8c8.desc).map (fun d => d.parameters.length) = some 0 := ⟨rfl, by decide +kernel, by decide +kernel, by decide +kernel⟩
