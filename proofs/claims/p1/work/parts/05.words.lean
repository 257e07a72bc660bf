theorem dX6_init_0 : decode cX6_init 0 = .ok (.aload_n 0, 1) := by decide +kernel
theorem dX6_init_1 : decode cX6_init 1 = .ok (.invokespecial 3, 3) := by decide +kernel
theorem dX6_init_4 : decode cX6_init 4 = .ok (.aload_n 0, 1) := by decide +kernel
theorem dX6_init_5 : decode cX6_init 5 = .ok (.new 9, 3) := by decide +kernel
theorem dX6_init_8 : decode cX6_init 8 = .ok (.dup, 1) := by decide +kernel
theorem dX6_init_9 : decode cX6_init 9 = .ok (.invokespecial 11, 3) := by decide +kernel
theorem dX2_init_0 : decode cX2_init 0 = .ok (.aload_n 0, 1) := by decide +kernel
theorem dX2_init_1 : decode cX2_init 1 = .ok (.invokespecial 3, 3) := by decide +kernel
theorem dX2_init_4 : decode cX2_init 4 = .ok (.aload_n 0, 1) := by decide +kernel
theorem dX2_init_5 : decode cX2_init 5 = .ok (.bipush 16, 2) := by decide +kernel
theorem dX2_init_7 : decode cX2_init 7 = .ok (.newarray .int, 2) := by decide +kernel
theorem dX2_init_9 : decode cX2_init 9 = .ok (.putfield 9, 3) := by decide +kernel
theorem dX2_init_12 : decode cX2_init 12 = .ok (.aload_n 0, 1) := by decide +kernel
theorem dX2_init_13 : decode cX2_init 13 = .ok (.bipush 16, 2) := by decide +kernel
theorem dX2_init_15 : decode cX2_init 15 = .ok (.newarray .int, 2) := by decide +kernel
theorem dX2_init_17 : decode cX2_init 17 = .ok (.putfield 15, 3) := by decide +kernel
theorem dX2_init_20 : decode cX2_init 20 = .ok (.aload_n 0, 1) := by decide +kernel
theorem dX2_init_21 : decode cX2_init 21 = .ok (.bipush 8, 2) := by decide +kernel
theorem dX2_init_23 : decode cX2_init 23 = .ok (.newarray .int, 2) := by decide +kernel
theorem dX2_init_25 : decode cX2_init 25 = .ok (.putfield 18, 3) := by decide +kernel
theorem dX2_init_28 : decode cX2_init 28 = .ok (.aload_n 0, 1) := by decide +kernel
theorem dX2_init_29 : decode cX2_init 29 = .ok (.bipush 8, 2) := by decide +kernel
theorem dX2_init_31 : decode cX2_init 31 = .ok (.newarray .char, 2) := by decide +kernel
theorem dX2_init_33 : decode cX2_init 33 = .ok (.putfield 21, 3) := by decide +kernel
theorem dX2_init_36 : decode cX2_init 36 = .ok (.aload_n 0, 1) := by decide +kernel
theorem dX2_init_37 : decode cX2_init 37 = .ok (.bipush 9, 2) := by decide +kernel
theorem dX2_init_39 : decode cX2_init 39 = .ok (.newarray .int, 2) := by decide +kernel
theorem dX2_init_41 : decode cX2_init 41 = .ok (.putfield 25, 3) := by decide +kernel
theorem dX2_init_44 : decode cX2_init 44 = .ok (.aload_n 0, 1) := by decide +kernel
theorem dX2_init_45 : decode cX2_init 45 = .ok (.bipush 9, 2) := by decide +kernel
theorem dX2_init_47 : decode cX2_init 47 = .ok (.newarray .int, 2) := by decide +kernel
theorem dX2_init_49 : decode cX2_init 49 = .ok (.putfield 28, 3) := by decide +kernel
theorem dX2_init_52 : decode cX2_init 52 = .ok (.aload_n 0, 1) := by decide +kernel
theorem dX2_init_53 : decode cX2_init 53 = .ok (.bipush 9, 2) := by decide +kernel
theorem dX2_init_55 : decode cX2_init 55 = .ok (.newarray .int, 2) := by decide +kernel
theorem dX2_init_57 : decode cX2_init 57 = .ok (.putfield 31, 3) := by decide +kernel
theorem dX2_init_60 : decode cX2_init 60 = .ok (.aload_n 0, 1) := by decide +kernel
theorem dX2_init_61 : decode cX2_init 61 = .ok (.bipush 9, 2) := by decide +kernel
theorem dX2_init_63 : decode cX2_init 63 = .ok (.newarray .int, 2) := by decide +kernel
theorem dX2_init_65 : decode cX2_init 65 = .ok (.putfield 34, 3) := by decide +kernel
theorem dX2_init_68 : decode cX2_init 68 = .ok (.aload_n 0, 1) := by decide +kernel
theorem dX2_init_69 : decode cX2_init 69 = .ok (.bipush 9, 2) := by decide +kernel
theorem dX2_init_71 : decode cX2_init 71 = .ok (.newarray .int, 2) := by decide +kernel
theorem dX2_init_73 : decode cX2_init 73 = .ok (.putfield 37, 3) := by decide +kernel
theorem dX2_init_76 : decode cX2_init 76 = .ok (.aload_n 0, 1) := by decide +kernel
theorem dX2_init_77 : decode cX2_init 77 = .ok (.bipush 9, 2) := by decide +kernel
theorem dX2_init_79 : decode cX2_init 79 = .ok (.newarray .int, 2) := by decide +kernel
theorem dX2_init_81 : decode cX2_init 81 = .ok (.putfield 40, 3) := by decide +kernel
theorem dX2_init_84 : decode cX2_init 84 = .ok (.return_, 1) := by decide +kernel
theorem dX6_init_12 : decode cX6_init 12 = .ok (.putfield 12, 3) := by decide +kernel
theorem dX6_init_15 : decode cX6_init 15 = .ok (.aload_n 0, 1) := by decide +kernel
theorem dX6_init_16 : decode cX6_init 16 = .ok (.new 16, 3) := by decide +kernel
theorem dX6_init_19 : decode cX6_init 19 = .ok (.dup, 1) := by decide +kernel
theorem dX6_init_20 : decode cX6_init 20 = .ok (.invokespecial 18, 3) := by decide +kernel
theorem dX1_init_0 : decode cX1_init 0 = .ok (.aload_n 0, 1) := by decide +kernel
theorem dX1_init_1 : decode cX1_init 1 = .ok (.invokespecial 3, 3) := by decide +kernel
theorem dX1_init_4 : decode cX1_init 4 = .ok (.aload_n 0, 1) := by decide +kernel
theorem dX1_init_5 : decode cX1_init 5 = .ok (.bipush 25, 2) := by decide +kernel
theorem dX1_init_7 : decode cX1_init 7 = .ok (.newarray .long, 2) := by decide +kernel
theorem dX1_init_9 : decode cX1_init 9 = .ok (.putfield 11, 3) := by decide +kernel
theorem dX1_init_12 : decode cX1_init 12 = .ok (.aload_n 0, 1) := by decide +kernel
theorem dX1_init_13 : decode cX1_init 13 = .ok (.bipush 25, 2) := by decide +kernel
theorem dX1_init_15 : decode cX1_init 15 = .ok (.newarray .long, 2) := by decide +kernel
theorem dX1_init_17 : decode cX1_init 17 = .ok (.putfield 15, 3) := by decide +kernel
theorem dX1_init_20 : decode cX1_init 20 = .ok (.aload_n 0, 1) := by decide +kernel
theorem dX1_init_21 : decode cX1_init 21 = .ok (.bipush 9, 2) := by decide +kernel
theorem dX1_init_23 : decode cX1_init 23 = .ok (.newarray .long, 2) := by decide +kernel
theorem dX1_init_25 : decode cX1_init 25 = .ok (.putfield 18, 3) := by decide +kernel
theorem dX1_init_28 : decode cX1_init 28 = .ok (.aload_n 0, 1) := by decide +kernel
theorem dX1_init_29 : decode cX1_init 29 = .ok (.bipush 81, 2) := by decide +kernel
theorem dX1_init_31 : decode cX1_init 31 = .ok (.newarray .int, 2) := by decide +kernel
theorem dX1_init_33 : decode cX1_init 33 = .ok (.putfield 21, 3) := by decide +kernel
theorem dX1_init_36 : decode cX1_init 36 = .ok (.aload_n 0, 1) := by decide +kernel
theorem dX1_init_37 : decode cX1_init 37 = .ok (.bipush 9, 2) := by decide +kernel
theorem dX1_init_39 : decode cX1_init 39 = .ok (.newarray .int, 2) := by decide +kernel
theorem dX1_init_41 : decode cX1_init 41 = .ok (.putfield 25, 3) := by decide +kernel
theorem dX1_init_44 : decode cX1_init 44 = .ok (.aload_n 0, 1) := by decide +kernel
theorem dX1_init_45 : decode cX1_init 45 = .ok (.bipush 9, 2) := by decide +kernel
theorem dX1_init_47 : decode cX1_init 47 = .ok (.newarray .int, 2) := by decide +kernel
theorem dX1_init_49 : decode cX1_init 49 = .ok (.putfield 28, 3) := by decide +kernel
theorem dX1_init_52 : decode cX1_init 52 = .ok (.aload_n 0, 1) := by decide +kernel
theorem dX1_init_53 : decode cX1_init 53 = .ok (.sipush 512, 3) := by decide +kernel
theorem dX1_init_56 : decode cX1_init 56 = .ok (.newarray .long, 2) := by decide +kernel
theorem dX1_init_58 : decode cX1_init 58 = .ok (.putfield 31, 3) := by decide +kernel
theorem dX1_init_61 : decode cX1_init 61 = .ok (.aload_n 0, 1) := by decide +kernel
theorem dX1_init_62 : decode cX1_init 62 = .ok (.sipush 512, 3) := by decide +kernel
theorem dX1_init_65 : decode cX1_init 65 = .ok (.newarray .long, 2) := by decide +kernel
theorem dX1_init_67 : decode cX1_init 67 = .ok (.putfield 34, 3) := by decide +kernel
theorem dX1_init_70 : decode cX1_init 70 = .ok (.aload_n 0, 1) := by decide +kernel
theorem dX1_init_71 : decode cX1_init 71 = .ok (.sipush 512, 3) := by decide +kernel
theorem dX1_init_74 : decode cX1_init 74 = .ok (.newarray .long, 2) := by decide +kernel
theorem dX1_init_76 : decode cX1_init 76 = .ok (.putfield 37, 3) := by decide +kernel
theorem dX1_init_79 : decode cX1_init 79 = .ok (.aload_n 0, 1) := by decide +kernel
theorem dX1_init_80 : decode cX1_init 80 = .ok (.new 40, 3) := by decide +kernel
theorem dX1_init_83 : decode cX1_init 83 = .ok (.dup, 1) := by decide +kernel
theorem dX1_init_84 : decode cX1_init 84 = .ok (.invokespecial 42, 3) := by decide +kernel
theorem dX5_init_0 : decode cX5_init 0 = .ok (.aload_n 0, 1) := by decide +kernel
theorem dX5_init_1 : decode cX5_init 1 = .ok (.invokespecial 1, 3) := by decide +kernel
theorem dX5_init_4 : decode cX5_init 4 = .ok (.aload_n 0, 1) := by decide +kernel
theorem dX5_init_5 : decode cX5_init 5 = .ok (.bipush 8, 2) := by decide +kernel
theorem dX5_init_7 : decode cX5_init 7 = .ok (.newarray .long, 2) := by decide +kernel
theorem dX5_init_9 : decode cX5_init 9 = .ok (.putfield 9, 3) := by decide +kernel
theorem dX5_init_12 : decode cX5_init 12 = .ok (.return_, 1) := by decide +kernel
theorem dX1_init_87 : decode cX1_init 87 = .ok (.putfield 43, 3) := by decide +kernel
theorem dX1_init_90 : decode cX1_init 90 = .ok (.aload_n 0, 1) := by decide +kernel
theorem dX1_init_91 : decode cX1_init 91 = .ok (.new 40, 3) := by decide +kernel
theorem dX1_init_94 : decode cX1_init 94 = .ok (.dup, 1) := by decide +kernel
theorem dX1_init_95 : decode cX1_init 95 = .ok (.invokespecial 42, 3) := by decide +kernel
theorem dX1_init_98 : decode cX1_init 98 = .ok (.putfield 47, 3) := by decide +kernel
theorem dX1_init_101 : decode cX1_init 101 = .ok (.aload_n 0, 1) := by decide +kernel
theorem dX1_init_102 : decode cX1_init 102 = .ok (.new 40, 3) := by decide +kernel
theorem dX1_init_105 : decode cX1_init 105 = .ok (.dup, 1) := by decide +kernel
theorem dX1_init_106 : decode cX1_init 106 = .ok (.invokespecial 42, 3) := by decide +kernel
theorem dX1_init_109 : decode cX1_init 109 = .ok (.putfield 50, 3) := by decide +kernel
theorem dX1_init_112 : decode cX1_init 112 = .ok (.aload_n 0, 1) := by decide +kernel
theorem dX1_init_113 : decode cX1_init 113 = .ok (.new 40, 3) := by decide +kernel
theorem dX1_init_116 : decode cX1_init 116 = .ok (.dup, 1) := by decide +kernel
theorem dX1_init_117 : decode cX1_init 117 = .ok (.invokespecial 42, 3) := by decide +kernel
theorem dX1_init_120 : decode cX1_init 120 = .ok (.putfield 53, 3) := by decide +kernel
theorem dX1_init_123 : decode cX1_init 123 = .ok (.aload_n 0, 1) := by decide +kernel
theorem dX1_init_124 : decode cX1_init 124 = .ok (.new 40, 3) := by decide +kernel
theorem dX1_init_127 : decode cX1_init 127 = .ok (.dup, 1) := by decide +kernel
theorem dX1_init_128 : decode cX1_init 128 = .ok (.invokespecial 42, 3) := by decide +kernel
theorem dX1_init_131 : decode cX1_init 131 = .ok (.putfield 56, 3) := by decide +kernel
theorem dX1_init_134 : decode cX1_init 134 = .ok (.return_, 1) := by decide +kernel
theorem dX6_init_23 : decode cX6_init 23 = .ok (.putfield 19, 3) := by decide +kernel
theorem dX6_init_26 : decode cX6_init 26 = .ok (.aload_n 0, 1) := by decide +kernel
theorem dX6_init_27 : decode cX6_init 27 = .ok (.new 23, 3) := by decide +kernel
theorem dX6_init_30 : decode cX6_init 30 = .ok (.dup, 1) := by decide +kernel
theorem dX6_init_31 : decode cX6_init 31 = .ok (.invokespecial 25, 3) := by decide +kernel
theorem dX3_init_0 : decode cX3_init 0 = .ok (.aload_n 0, 1) := by decide +kernel
theorem dX3_init_1 : decode cX3_init 1 = .ok (.invokespecial 3, 3) := by decide +kernel
theorem dX3_init_4 : decode cX3_init 4 = .ok (.aload_n 0, 1) := by decide +kernel
theorem dX3_init_5 : decode cX3_init 5 = .ok (.bipush 12, 2) := by decide +kernel
theorem dX3_init_7 : decode cX3_init 7 = .ok (.newarray .int, 2) := by decide +kernel
theorem dX3_init_9 : decode cX3_init 9 = .ok (.putfield 9, 3) := by decide +kernel
theorem dX3_init_12 : decode cX3_init 12 = .ok (.aload_n 0, 1) := by decide +kernel
theorem dX3_init_13 : decode cX3_init 13 = .ok (.bipush 12, 2) := by decide +kernel
theorem dX3_init_15 : decode cX3_init 15 = .ok (.newarray .int, 2) := by decide +kernel
theorem dX3_init_17 : decode cX3_init 17 = .ok (.putfield 15, 3) := by decide +kernel
theorem dX3_init_20 : decode cX3_init 20 = .ok (.aload_n 0, 1) := by decide +kernel
theorem dX3_init_21 : decode cX3_init 21 = .ok (.bipush 12, 2) := by decide +kernel
theorem dX3_init_23 : decode cX3_init 23 = .ok (.newarray .int, 2) := by decide +kernel
theorem dX3_init_25 : decode cX3_init 25 = .ok (.putfield 18, 3) := by decide +kernel
theorem dX3_init_28 : decode cX3_init 28 = .ok (.aload_n 0, 1) := by decide +kernel
theorem dX3_init_29 : decode cX3_init 29 = .ok (.bipush 12, 2) := by decide +kernel
theorem dX3_init_31 : decode cX3_init 31 = .ok (.newarray .int, 2) := by decide +kernel
theorem dX3_init_33 : decode cX3_init 33 = .ok (.putfield 21, 3) := by decide +kernel
theorem dX3_init_36 : decode cX3_init 36 = .ok (.aload_n 0, 1) := by decide +kernel
theorem dX3_init_37 : decode cX3_init 37 = .ok (.bipush 12, 2) := by decide +kernel
theorem dX3_init_39 : decode cX3_init 39 = .ok (.newarray .int, 2) := by decide +kernel
theorem dX3_init_41 : decode cX3_init 41 = .ok (.putfield 24, 3) := by decide +kernel
theorem dX3_init_44 : decode cX3_init 44 = .ok (.return_, 1) := by decide +kernel
theorem dX6_init_34 : decode cX6_init 34 = .ok (.putfield 26, 3) := by decide +kernel
theorem dX6_init_37 : decode cX6_init 37 = .ok (.aload_n 0, 1) := by decide +kernel
theorem dX6_init_38 : decode cX6_init 38 = .ok (.new 30, 3) := by decide +kernel
theorem dX6_init_41 : decode cX6_init 41 = .ok (.dup, 1) := by decide +kernel
theorem dX6_init_42 : decode cX6_init 42 = .ok (.invokespecial 32, 3) := by decide +kernel
theorem dX0_init_0 : decode cX0_init 0 = .ok (.aload_n 0, 1) := by decide +kernel
theorem dX0_init_1 : decode cX0_init 1 = .ok (.invokespecial 3, 3) := by decide +kernel
theorem dX0_init_4 : decode cX0_init 4 = .ok (.aload_n 0, 1) := by decide +kernel
theorem dX0_init_5 : decode cX0_init 5 = .ok (.bipush 9, 2) := by decide +kernel
theorem dX0_init_7 : decode cX0_init 7 = .ok (.newarray .int, 2) := by decide +kernel
theorem dX0_init_9 : decode cX0_init 9 = .ok (.putfield 9, 3) := by decide +kernel
theorem dX0_init_12 : decode cX0_init 12 = .ok (.aload_n 0, 1) := by decide +kernel
theorem dX0_init_13 : decode cX0_init 13 = .ok (.iconst 5, 1) := by decide +kernel
theorem dX0_init_14 : decode cX0_init 14 = .ok (.newarray .int, 2) := by decide +kernel
theorem dX0_init_16 : decode cX0_init 16 = .ok (.putfield 15, 3) := by decide +kernel
theorem dX0_init_19 : decode cX0_init 19 = .ok (.aload_n 0, 1) := by decide +kernel
theorem dX0_init_20 : decode cX0_init 20 = .ok (.iconst 5, 1) := by decide +kernel
theorem dX0_init_21 : decode cX0_init 21 = .ok (.newarray .int, 2) := by decide +kernel
theorem dX0_init_23 : decode cX0_init 23 = .ok (.putfield 18, 3) := by decide +kernel
theorem dX0_init_26 : decode cX0_init 26 = .ok (.aload_n 0, 1) := by decide +kernel
theorem dX0_init_27 : decode cX0_init 27 = .ok (.iconst 5, 1) := by decide +kernel
theorem dX0_init_28 : decode cX0_init 28 = .ok (.newarray .int, 2) := by decide +kernel
theorem dX0_init_30 : decode cX0_init 30 = .ok (.putfield 21, 3) := by decide +kernel
theorem dX0_init_33 : decode cX0_init 33 = .ok (.aload_n 0, 1) := by decide +kernel
theorem dX0_init_34 : decode cX0_init 34 = .ok (.sipush 512, 3) := by decide +kernel
theorem dX0_init_37 : decode cX0_init 37 = .ok (.newarray .int, 2) := by decide +kernel
theorem dX0_init_39 : decode cX0_init 39 = .ok (.putfield 24, 3) := by decide +kernel
theorem dX0_init_42 : decode cX0_init 42 = .ok (.aload_n 0, 1) := by decide +kernel
theorem dX0_init_43 : decode cX0_init 43 = .ok (.sipush 512, 3) := by decide +kernel
theorem dX0_init_46 : decode cX0_init 46 = .ok (.newarray .int, 2) := by decide +kernel
theorem dX0_init_48 : decode cX0_init 48 = .ok (.putfield 27, 3) := by decide +kernel
theorem dX0_init_51 : decode cX0_init 51 = .ok (.aload_n 0, 1) := by decide +kernel
theorem dX0_init_52 : decode cX0_init 52 = .ok (.sipush 512, 3) := by decide +kernel
theorem dX0_init_55 : decode cX0_init 55 = .ok (.newarray .long, 2) := by decide +kernel
theorem dX0_init_57 : decode cX0_init 57 = .ok (.putfield 30, 3) := by decide +kernel
theorem dX0_init_60 : decode cX0_init 60 = .ok (.return_, 1) := by decide +kernel
theorem dX6_init_45 : decode cX6_init 45 = .ok (.putfield 33, 3) := by decide +kernel
theorem dX6_init_48 : decode cX6_init 48 = .ok (.aload_n 0, 1) := by decide +kernel
theorem dX6_init_49 : decode cX6_init 49 = .ok (.new 37, 3) := by decide +kernel
theorem dX6_init_52 : decode cX6_init 52 = .ok (.dup, 1) := by decide +kernel
theorem dX6_init_53 : decode cX6_init 53 = .ok (.invokespecial 39, 3) := by decide +kernel
theorem dX4_init_0 : decode cX4_init 0 = .ok (.aload_n 0, 1) := by decide +kernel
theorem dX4_init_1 : decode cX4_init 1 = .ok (.invokespecial 3, 3) := by decide +kernel
theorem dX4_init_4 : decode cX4_init 4 = .ok (.aload_n 0, 1) := by decide +kernel
theorem dX4_init_5 : decode cX4_init 5 = .ok (.iconst 2, 1) := by decide +kernel
theorem dX4_init_6 : decode cX4_init 6 = .ok (.putfield 9, 3) := by decide +kernel
theorem dX4_init_9 : decode cX4_init 9 = .ok (.aload_n 0, 1) := by decide +kernel
theorem dX4_init_10 : decode cX4_init 10 = .ok (.bipush 45, 2) := by decide +kernel
theorem dX4_init_12 : decode cX4_init 12 = .ok (.newarray .int, 2) := by decide +kernel
theorem dX4_init_14 : decode cX4_init 14 = .ok (.putfield 17, 3) := by decide +kernel
theorem dX4_init_17 : decode cX4_init 17 = .ok (.aload_n 0, 1) := by decide +kernel
theorem dX4_init_18 : decode cX4_init 18 = .ok (.bipush 9, 2) := by decide +kernel
theorem dX4_init_20 : decode cX4_init 20 = .ok (.newarray .int, 2) := by decide +kernel
theorem dX4_init_22 : decode cX4_init 22 = .ok (.putfield 21, 3) := by decide +kernel
theorem dX4_init_25 : decode cX4_init 25 = .ok (.aload_n 0, 1) := by decide +kernel
theorem dX4_init_26 : decode cX4_init 26 = .ok (.sipush 512, 3) := by decide +kernel
theorem dX4_init_29 : decode cX4_init 29 = .ok (.newarray .int, 2) := by decide +kernel
theorem dX4_init_31 : decode cX4_init 31 = .ok (.putfield 24, 3) := by decide +kernel
theorem dX4_init_34 : decode cX4_init 34 = .ok (.aload_n 0, 1) := by decide +kernel
theorem dX4_init_35 : decode cX4_init 35 = .ok (.sipush 512, 3) := by decide +kernel
theorem dX4_init_38 : decode cX4_init 38 = .ok (.newarray .boolean, 2) := by decide +kernel
theorem dX4_init_40 : decode cX4_init 40 = .ok (.putfield 27, 3) := by decide +kernel
theorem dX4_init_43 : decode cX4_init 43 = .ok (.aload_n 0, 1) := by decide +kernel
theorem dX4_init_44 : decode cX4_init 44 = .ok (.bipush 9, 2) := by decide +kernel
theorem dX4_init_46 : decode cX4_init 46 = .ok (.newarray .int, 2) := by decide +kernel
theorem dX4_init_48 : decode cX4_init 48 = .ok (.putfield 31, 3) := by decide +kernel
theorem dX4_init_51 : decode cX4_init 51 = .ok (.return_, 1) := by decide +kernel
theorem dX6_init_56 : decode cX6_init 56 = .ok (.putfield 40, 3) := by decide +kernel
theorem dX6_init_59 : decode cX6_init 59 = .ok (.return_, 1) := by decide +kernel
theorem dX12_init_0 : decode cX12_init 0 = .ok (.aload_n 0, 1) := by decide +kernel
theorem dX12_init_1 : decode cX12_init 1 = .ok (.invokespecial 1, 3) := by decide +kernel
theorem dX12_init_4 : decode cX12_init 4 = .ok (.aload_n 0, 1) := by decide +kernel
theorem dX12_init_5 : decode cX12_init 5 = .ok (.new 7, 3) := by decide +kernel
theorem dX12_init_8 : decode cX12_init 8 = .ok (.dup, 1) := by decide +kernel
theorem dX12_init_9 : decode cX12_init 9 = .ok (.invokespecial 9, 3) := by decide +kernel
theorem dJx4a65c_init_da8c8_0 : decode cJx4a65c_init_da8c8 0 = .ok (.aload_n 0, 1) := by decide +kernel
theorem dJx4a65c_init_da8c8_1 : decode cJx4a65c_init_da8c8 1 = .ok (.invokespecial 1, 3) := by decide +kernel
theorem dJxc12de_init_da8c8_0 : decode cJxc12de_init_da8c8 0 = .ok (.aload_n 0, 1) := by decide +kernel
theorem dJxc12de_init_da8c8_1 : decode cJxc12de_init_da8c8 1 = .ok (.invokespecial 1, 3) := by decide +kernel
theorem dJxa1e45_init_da8c8_0 : decode cJxa1e45_init_da8c8 0 = .ok (.aload_n 0, 1) := by decide +kernel
theorem dJxa1e45_init_da8c8_1 : decode cJxa1e45_init_da8c8 1 = .ok (.invokespecial 1, 3) := by decide +kernel
theorem dJxa1e45_init_da8c8_4 : decode cJxa1e45_init_da8c8 4 = .ok (.return_, 1) := by decide +kernel
theorem dJxc12de_init_da8c8_4 : decode cJxc12de_init_da8c8 4 = .ok (.aload_n 0, 1) := by decide +kernel
theorem dJxc12de_init_da8c8_5 : decode cJxc12de_init_da8c8 5 = .ok (.iconst 0, 1) := by decide +kernel
theorem dJxc12de_init_da8c8_6 : decode cJxc12de_init_da8c8 6 = .ok (.putfield 7, 3) := by decide +kernel
theorem dJxc12de_init_da8c8_9 : decode cJxc12de_init_da8c8 9 = .ok (.return_, 1) := by decide +kernel
theorem dJx4a65c_init_da8c8_4 : decode cJx4a65c_init_da8c8 4 = .ok (.aload_n 0, 1) := by decide +kernel
theorem dJx4a65c_init_da8c8_5 : decode cJx4a65c_init_da8c8 5 = .ok (.getstatic 39, 3) := by decide +kernel
theorem dJx4a65c_init_da8c8_8 : decode cJx4a65c_init_da8c8 8 = .ok (.putfield 9, 3) := by decide +kernel
theorem dJx4a65c_init_da8c8_11 : decode cJx4a65c_init_da8c8 11 = .ok (.return_, 1) := by decide +kernel
theorem dX12_init_12 : decode cX12_init 12 = .ok (.putfield 10, 3) := by decide +kernel
theorem dX12_init_15 : decode cX12_init 15 = .ok (.aload_n 0, 1) := by decide +kernel
theorem dX12_init_16 : decode cX12_init 16 = .ok (.new 7, 3) := by decide +kernel
theorem dX12_init_19 : decode cX12_init 19 = .ok (.dup, 1) := by decide +kernel
theorem dX12_init_20 : decode cX12_init 20 = .ok (.invokespecial 9, 3) := by decide +kernel
theorem dX12_init_23 : decode cX12_init 23 = .ok (.putfield 16, 3) := by decide +kernel
theorem dX12_init_26 : decode cX12_init 26 = .ok (.aload_n 0, 1) := by decide +kernel
theorem dX12_init_27 : decode cX12_init 27 = .ok (.new 7, 3) := by decide +kernel
theorem dX12_init_30 : decode cX12_init 30 = .ok (.dup, 1) := by decide +kernel
theorem dX12_init_31 : decode cX12_init 31 = .ok (.invokespecial 9, 3) := by decide +kernel
theorem dX12_init_34 : decode cX12_init 34 = .ok (.putfield 19, 3) := by decide +kernel
theorem dX12_init_37 : decode cX12_init 37 = .ok (.aload_n 0, 1) := by decide +kernel
theorem dX12_init_38 : decode cX12_init 38 = .ok (.new 7, 3) := by decide +kernel
theorem dX12_init_41 : decode cX12_init 41 = .ok (.dup, 1) := by decide +kernel
theorem dX12_init_42 : decode cX12_init 42 = .ok (.invokespecial 9, 3) := by decide +kernel
theorem dX12_init_45 : decode cX12_init 45 = .ok (.putfield 22, 3) := by decide +kernel
theorem dX12_init_48 : decode cX12_init 48 = .ok (.aload_n 0, 1) := by decide +kernel
theorem dX12_init_49 : decode cX12_init 49 = .ok (.sipush 512, 3) := by decide +kernel
theorem dX12_init_52 : decode cX12_init 52 = .ok (.newarray .long, 2) := by decide +kernel
theorem dX12_init_54 : decode cX12_init 54 = .ok (.putfield 25, 3) := by decide +kernel
theorem dX12_init_57 : decode cX12_init 57 = .ok (.aload_n 0, 1) := by decide +kernel
theorem dX12_init_58 : decode cX12_init 58 = .ok (.bipush 9, 2) := by decide +kernel
theorem dX12_init_60 : decode cX12_init 60 = .ok (.newarray .long, 2) := by decide +kernel
theorem dX12_init_62 : decode cX12_init 62 = .ok (.putfield 29, 3) := by decide +kernel
theorem dX12_init_65 : decode cX12_init 65 = .ok (.aload_n 0, 1) := by decide +kernel
theorem dX12_init_66 : decode cX12_init 66 = .ok (.bipush 9, 2) := by decide +kernel
theorem dX12_init_68 : decode cX12_init 68 = .ok (.newarray .long, 2) := by decide +kernel
theorem dX12_init_70 : decode cX12_init 70 = .ok (.putfield 32, 3) := by decide +kernel
theorem dX12_init_73 : decode cX12_init 73 = .ok (.aload_n 0, 1) := by decide +kernel
theorem dX12_init_74 : decode cX12_init 74 = .ok (.sipush 512, 3) := by decide +kernel
theorem dX12_init_77 : decode cX12_init 77 = .ok (.newarray .boolean, 2) := by decide +kernel
theorem dX12_init_79 : decode cX12_init 79 = .ok (.putfield 35, 3) := by decide +kernel
theorem dX12_init_82 : decode cX12_init 82 = .ok (.aload_n 0, 1) := by decide +kernel
theorem dX12_init_83 : decode cX12_init 83 = .ok (.sipush 512, 3) := by decide +kernel
theorem dX12_init_86 : decode cX12_init 86 = .ok (.newarray .boolean, 2) := by decide +kernel
theorem dX12_init_88 : decode cX12_init 88 = .ok (.putfield 39, 3) := by decide +kernel
theorem dX12_init_91 : decode cX12_init 91 = .ok (.aload_n 0, 1) := by decide +kernel
theorem dX12_init_92 : decode cX12_init 92 = .ok (.sipush 512, 3) := by decide +kernel
theorem dX12_init_95 : decode cX12_init 95 = .ok (.newarray .int, 2) := by decide +kernel
theorem dX12_init_97 : decode cX12_init 97 = .ok (.putfield 42, 3) := by decide +kernel
theorem dX12_init_100 : decode cX12_init 100 = .ok (.aload_n 0, 1) := by decide +kernel
theorem dX12_init_101 : decode cX12_init 101 = .ok (.bipush 9, 2) := by decide +kernel
theorem dX12_init_103 : decode cX12_init 103 = .ok (.newarray .int, 2) := by decide +kernel
theorem dX12_init_105 : decode cX12_init 105 = .ok (.putfield 46, 3) := by decide +kernel
theorem dX12_init_108 : decode cX12_init 108 = .ok (.aload_n 0, 1) := by decide +kernel
theorem dX12_init_109 : decode cX12_init 109 = .ok (.bipush 9, 2) := by decide +kernel
theorem dX12_init_111 : decode cX12_init 111 = .ok (.newarray .int, 2) := by decide +kernel
theorem dX12_init_113 : decode cX12_init 113 = .ok (.putfield 49, 3) := by decide +kernel
theorem dX12_init_116 : decode cX12_init 116 = .ok (.aload_n 0, 1) := by decide +kernel
theorem dX12_init_117 : decode cX12_init 117 = .ok (.bipush 9, 2) := by decide +kernel
theorem dX12_init_119 : decode cX12_init 119 = .ok (.newarray .int, 2) := by decide +kernel
theorem dX12_init_121 : decode cX12_init 121 = .ok (.putfield 52, 3) := by decide +kernel
theorem dX12_init_124 : decode cX12_init 124 = .ok (.aload_n 0, 1) := by decide +kernel
theorem dX12_init_125 : decode cX12_init 125 = .ok (.iconst 5, 1) := by decide +kernel
theorem dX12_init_126 : decode cX12_init 126 = .ok (.newarray .int, 2) := by decide +kernel
theorem dX12_init_128 : decode cX12_init 128 = .ok (.putfield 55, 3) := by decide +kernel
theorem dX12_init_131 : decode cX12_init 131 = .ok (.aload_n 0, 1) := by decide +kernel
theorem dX12_init_132 : decode cX12_init 132 = .ok (.bipush 9, 2) := by decide +kernel
theorem dX12_init_134 : decode cX12_init 134 = .ok (.newarray .int, 2) := by decide +kernel
theorem dX12_init_136 : decode cX12_init 136 = .ok (.putfield 58, 3) := by decide +kernel
theorem dX12_init_139 : decode cX12_init 139 = .ok (.aload_n 0, 1) := by decide +kernel
theorem dX12_init_140 : decode cX12_init 140 = .ok (.sipush 512, 3) := by decide +kernel
theorem dX12_init_143 : decode cX12_init 143 = .ok (.newarray .int, 2) := by decide +kernel
theorem dX12_init_145 : decode cX12_init 145 = .ok (.putfield 61, 3) := by decide +kernel
theorem dX12_init_148 : decode cX12_init 148 = .ok (.aload_n 0, 1) := by decide +kernel
theorem dX12_init_149 : decode cX12_init 149 = .ok (.sipush 512, 3) := by decide +kernel
theorem dX12_init_152 : decode cX12_init 152 = .ok (.newarray .int, 2) := by decide +kernel
theorem dX12_init_154 : decode cX12_init 154 = .ok (.putfield 64, 3) := by decide +kernel
theorem dX12_init_157 : decode cX12_init 157 = .ok (.aload_n 0, 1) := by decide +kernel
theorem dX12_init_158 : decode cX12_init 158 = .ok (.sipush 512, 3) := by decide +kernel
theorem dX12_init_161 : decode cX12_init 161 = .ok (.newarray .int, 2) := by decide +kernel
theorem dX12_init_163 : decode cX12_init 163 = .ok (.putfield 67, 3) := by decide +kernel
theorem dX12_init_166 : decode cX12_init 166 = .ok (.aload_n 0, 1) := by decide +kernel
theorem dX12_init_167 : decode cX12_init 167 = .ok (.iconst 2, 1) := by decide +kernel
theorem dX12_init_168 : decode cX12_init 168 = .ok (.putfield 70, 3) := by decide +kernel
theorem dX12_init_171 : decode cX12_init 171 = .ok (.return_, 1) := by decide +kernel
theorem dL_law_192 : decode cL_law 192 = .ok (.aload_n 1, 1) := by decide +kernel
theorem dL_law_193 : decode cL_law 193 = .ok (.aload_n 0, 1) := by decide +kernel
theorem dL_law_194 : decode cL_law 194 = .ok (.iload 5, 2) := by decide +kernel
theorem dL_law_196 : decode cL_law 196 = .ok (.iconst 1, 1) := by decide +kernel
theorem dL_law_197 : decode cL_law 197 = .ok (.iadd, 1) := by decide +kernel
theorem dL_law_198 : decode cL_law 198 = .ok (.iaload, 1) := by decide +kernel
theorem dL_law_199 : decode cL_law 199 = .ok (.aload_n 0, 1) := by decide +kernel
theorem dL_law_200 : decode cL_law 200 = .ok (.iload 5, 2) := by decide +kernel
theorem dL_law_202 : decode cL_law 202 = .ok (.iconst 2, 1) := by decide +kernel
theorem dL_law_203 : decode cL_law 203 = .ok (.iadd, 1) := by decide +kernel
theorem dL_law_204 : decode cL_law 204 = .ok (.iaload, 1) := by decide +kernel
theorem dL_law_205 : decode cL_law 205 = .ok (.aload_n 0, 1) := by decide +kernel
theorem dL_law_206 : decode cL_law 206 = .ok (.iload 5, 2) := by decide +kernel
theorem dL_law_208 : decode cL_law 208 = .ok (.iconst 3, 1) := by decide +kernel
theorem dL_law_209 : decode cL_law 209 = .ok (.iadd, 1) := by decide +kernel
theorem dL_law_210 : decode cL_law 210 = .ok (.iaload, 1) := by decide +kernel
theorem dL_law_211 : decode cL_law 211 = .ok (.i2c, 1) := by decide +kernel
theorem dL_law_212 : decode cL_law 212 = .ok (.aload_n 3, 1) := by decide +kernel
theorem dL_law_213 : decode cL_law 213 = .ok (.invokestatic 119, 3) := by decide +kernel
theorem dL_node_0 : decode cL_node 0 = .ok (.aload 4, 2) := by decide +kernel
theorem dL_node_2 : decode cL_node 2 = .ok (.iconst 0, 1) := by decide +kernel
theorem dL_node_3 : decode cL_node 3 = .ok (.aload_n 0, 1) := by decide +kernel
theorem dL_node_4 : decode cL_node 4 = .ok (.iload_n 1, 1) := by decide +kernel
theorem dL_node_5 : decode cL_node 5 = .ok (.iload_n 2, 1) := by decide +kernel
theorem dL_node_6 : decode cL_node 6 = .ok (.iload_n 3, 1) := by decide +kernel
theorem dL_node_7 : decode cL_node 7 = .ok (.invokevirtual 7, 3) := by decide +kernel
theorem dX6_node_0 : decode cX6_node 0 = .ok (.iload_n 1, 1) := by decide +kernel
theorem dX6_node_1 : decode cX6_node 1 = .ok (.iconst 0, 1) := by decide +kernel
theorem dX6_node_2 : decode cX6_node 2 = .ok (.bipush 30, 2) := by decide +kernel
theorem dX6_node_4 : decode cX6_node 4 = .ok (.invokestatic 44, 3) := by decide +kernel
theorem dX6_isWithin_0 : decode cX6_isWithin 0 = .ok (.iload_n 0, 1) := by decide +kernel
theorem dX6_isWithin_1 : decode cX6_isWithin 1 = .ok (.iload_n 1, 1) := by decide +kernel
theorem dX6_isWithin_2 : decode cX6_isWithin 2 = .ok (.if_icmp .lt 12, 3) := by decide +kernel
theorem dX6_isWithin_14 : decode cX6_isWithin 14 = .ok (.iconst 0, 1) := by decide +kernel
theorem dX6_isWithin_15 : decode cX6_isWithin 15 = .ok (.ireturn, 1) := by decide +kernel
theorem dX6_node_7 : decode cX6_node 7 = .ok (.ifCond .eq 22, 3) := by decide +kernel
theorem dX6_node_29 : decode cX6_node 29 = .ok (.new 56, 3) := by decide +kernel
theorem dX6_node_32 : decode cX6_node 32 = .ok (.dup, 1) := by decide +kernel
theorem dX6_node_33 : decode cX6_node 33 = .ok (.ldc 58, 2) := by decide +kernel
theorem dX6_node_35 : decode cX6_node 35 = .ok (.invokespecial 60, 3) := by decide +kernel
theorem dX6_node_38 : decode cX6_node 38 = .ok (.athrow, 1) := by decide +kernel
theorem dL_node_15 : decode cL_node 15 = .ok (.astore 5, 2) := by decide +kernel
theorem dL_node_17 : decode cL_node 17 = .ok (.iconst 1, 1) := by decide +kernel
theorem dL_node_18 : decode cL_node 18 = .ok (.ireturn, 1) := by decide +kernel
theorem dL_law_216 : decode cL_law 216 = .ok (.istore 6, 2) := by decide +kernel
theorem dL_law_218 : decode cL_law 218 = .ok (.aload_n 2, 1) := by decide +kernel
theorem dL_law_219 : decode cL_law 219 = .ok (.aload_n 0, 1) := by decide +kernel
theorem dL_law_220 : decode cL_law 220 = .ok (.iload 5, 2) := by decide +kernel
theorem dL_law_222 : decode cL_law 222 = .ok (.iconst 1, 1) := by decide +kernel
theorem dL_law_223 : decode cL_law 223 = .ok (.iadd, 1) := by decide +kernel
theorem dL_law_224 : decode cL_law 224 = .ok (.iaload, 1) := by decide +kernel
theorem dL_law_225 : decode cL_law 225 = .ok (.aload_n 0, 1) := by decide +kernel
theorem dL_law_226 : decode cL_law 226 = .ok (.iload 5, 2) := by decide +kernel
theorem dL_law_228 : decode cL_law 228 = .ok (.iconst 2, 1) := by decide +kernel
theorem dL_law_229 : decode cL_law 229 = .ok (.iadd, 1) := by decide +kernel
theorem dL_law_230 : decode cL_law 230 = .ok (.iaload, 1) := by decide +kernel
theorem dL_law_231 : decode cL_law 231 = .ok (.aload_n 0, 1) := by decide +kernel
theorem dL_law_232 : decode cL_law 232 = .ok (.iload 5, 2) := by decide +kernel
theorem dL_law_234 : decode cL_law 234 = .ok (.iconst 3, 1) := by decide +kernel
theorem dL_law_235 : decode cL_law 235 = .ok (.iadd, 1) := by decide +kernel
theorem dL_law_236 : decode cL_law 236 = .ok (.iaload, 1) := by decide +kernel
theorem dL_law_237 : decode cL_law 237 = .ok (.i2c, 1) := by decide +kernel
theorem dL_law_238 : decode cL_law 238 = .ok (.invokevirtual 124, 3) := by decide +kernel
theorem dX12_node_0 : decode cX12_node 0 = .ok (.iload_n 1, 1) := by decide +kernel
theorem dX12_node_1 : decode cX12_node 1 = .ok (.i2l, 1) := by decide +kernel
theorem dX12_node_2 : decode cX12_node 2 = .ok (.iconst 0, 1) := by decide +kernel
theorem dX12_node_3 : decode cX12_node 3 = .ok (.bipush 30, 2) := by decide +kernel
theorem dX12_node_5 : decode cX12_node 5 = .ok (.invokestatic 285, 3) := by decide +kernel
theorem dX12_in_0 : decode cX12_in 0 = .ok (.lload_n 0, 1) := by decide +kernel
theorem dX12_in_1 : decode cX12_in 1 = .ok (.iload_n 2, 1) := by decide +kernel
theorem dX12_in_2 : decode cX12_in 2 = .ok (.i2l, 1) := by decide +kernel
theorem dX12_in_3 : decode cX12_in 3 = .ok (.lcmp, 1) := by decide +kernel
theorem dX12_in_4 : decode cX12_in 4 = .ok (.ifCond .lt 14, 3) := by decide +kernel
theorem dX12_in_18 : decode cX12_in 18 = .ok (.iconst 0, 1) := by decide +kernel
theorem dX12_in_19 : decode cX12_in 19 = .ok (.ireturn, 1) := by decide +kernel
theorem dX12_node_8 : decode cX12_node 8 = .ok (.ifCond .eq 32, 3) := by decide +kernel
theorem dX12_node_40 : decode cX12_node 40 = .ok (.aload_n 0, 1) := by decide +kernel
theorem dX12_node_41 : decode cX12_node 41 = .ok (.iconst 1, 1) := by decide +kernel
theorem dX12_node_42 : decode cX12_node 42 = .ok (.invokevirtual 289, 3) := by decide +kernel
theorem dX12_fails_0 : decode cX12_fails 0 = .ok (.aload_n 0, 1) := by decide +kernel
theorem dX12_fails_1 : decode cX12_fails 1 = .ok (.iload_n 1, 1) := by decide +kernel
theorem dX12_fails_2 : decode cX12_fails 2 = .ok (.putfield 74, 3) := by decide +kernel
theorem dX12_fails_5 : decode cX12_fails 5 = .ok (.iconst 0, 1) := by decide +kernel
theorem dX12_fails_6 : decode cX12_fails 6 = .ok (.ireturn, 1) := by decide +kernel
theorem dX12_node_45 : decode cX12_node 45 = .ok (.ireturn, 1) := by decide +kernel
theorem dL_law_241 : decode cL_law 241 = .ok (.istore 7, 2) := by decide +kernel
theorem dL_law_243 : decode cL_law 243 = .ok (.aload_n 2, 1) := by decide +kernel
theorem dL_law_244 : decode cL_law 244 = .ok (.invokevirtual 125, 3) := by decide +kernel
theorem dX12_thrown_0 : decode cX12_thrown 0 = .ok (.aload_n 0, 1) := by decide +kernel
theorem dX12_thrown_1 : decode cX12_thrown 1 = .ok (.getfield 74, 3) := by decide +kernel
theorem dX12_thrown_4 : decode cX12_thrown 4 = .ok (.ireturn, 1) := by decide +kernel
theorem dL_law_247 : decode cL_law 247 = .ok (.iload 6, 2) := by decide +kernel
theorem dL_law_249 : decode cL_law 249 = .ok (.if_icmp .eq 5, 3) := by decide +kernel
theorem dL_law_254 : decode cL_law 254 = .ok (.iload 6, 2) := by decide +kernel
theorem dL_law_256 : decode cL_law 256 = .ok (.ifCond .ne 15, 3) := by decide +kernel
theorem dL_law_271 : decode cL_law 271 = .ok (.goto 1692, 3) := by decide +kernel
theorem dX6_isWithin_5 : decode cX6_isWithin 5 = .ok (.iload_n 0, 1) := by decide +kernel
theorem dX6_isWithin_6 : decode cX6_isWithin 6 = .ok (.iload_n 2, 1) := by decide +kernel
theorem dX6_isWithin_7 : decode cX6_isWithin 7 = .ok (.if_icmp .gt 7, 3) := by decide +kernel
theorem dX12_in_7 : decode cX12_in 7 = .ok (.lload_n 0, 1) := by decide +kernel
theorem dX12_in_8 : decode cX12_in 8 = .ok (.iload_n 3, 1) := by decide +kernel
theorem dX12_in_9 : decode cX12_in 9 = .ok (.i2l, 1) := by decide +kernel
theorem dX12_in_10 : decode cX12_in 10 = .ok (.lcmp, 1) := by decide +kernel
theorem dX12_in_11 : decode cX12_in 11 = .ok (.ifCond .gt 7, 3) := by decide +kernel
theorem dX6_isWithin_10 : decode cX6_isWithin 10 = .ok (.iconst 1, 1) := by decide +kernel
theorem dX6_isWithin_11 : decode cX6_isWithin 11 = .ok (.goto 4, 3) := by decide +kernel
theorem dX6_node_10 : decode cX6_node 10 = .ok (.iload_n 2, 1) := by decide +kernel
theorem dX6_node_11 : decode cX6_node 11 = .ok (.iconst 0, 1) := by decide +kernel
theorem dX6_node_12 : decode cX6_node 12 = .ok (.bipush 30, 2) := by decide +kernel
theorem dX6_node_14 : decode cX6_node 14 = .ok (.invokestatic 44, 3) := by decide +kernel
theorem dX6_node_17 : decode cX6_node 17 = .ok (.ifCond .eq 12, 3) := by decide +kernel
theorem dX12_in_14 : decode cX12_in 14 = .ok (.iconst 1, 1) := by decide +kernel
theorem dX12_in_15 : decode cX12_in 15 = .ok (.goto 4, 3) := by decide +kernel
theorem dX12_node_11 : decode cX12_node 11 = .ok (.iload_n 2, 1) := by decide +kernel
theorem dX12_node_12 : decode cX12_node 12 = .ok (.i2l, 1) := by decide +kernel
theorem dX12_node_13 : decode cX12_node 13 = .ok (.iconst 0, 1) := by decide +kernel
theorem dX12_node_14 : decode cX12_node 14 = .ok (.bipush 30, 2) := by decide +kernel
theorem dX12_node_16 : decode cX12_node 16 = .ok (.invokestatic 285, 3) := by decide +kernel
theorem dX12_node_19 : decode cX12_node 19 = .ok (.ifCond .eq 21, 3) := by decide +kernel
theorem dX6_node_20 : decode cX6_node 20 = .ok (.ldc 48, 2) := by decide +kernel
theorem dX6_node_22 : decode cX6_node 22 = .ok (.iload_n 3, 1) := by decide +kernel
theorem dX6_node_23 : decode cX6_node 23 = .ok (.invokevirtual 50, 3) := by decide +kernel
theorem dJ0_indexOf_0f7a4_0 : decode cJ0_indexOf_0f7a4 0 = .ok (.aload_n 0, 1) := by decide +kernel
theorem dJ0_indexOf_0f7a4_1 : decode cJ0_indexOf_0f7a4 1 = .ok (.iload_n 1, 1) := by decide +kernel
theorem dJ0_indexOf_0f7a4_2 : decode cJ0_indexOf_0f7a4 2 = .ok (.iconst 0, 1) := by decide +kernel
theorem dJ0_indexOf_0f7a4_3 : decode cJ0_indexOf_0f7a4 3 = .ok (.invokevirtual 633, 3) := by decide +kernel
theorem dJ0_indexOf_7cf53_0 : decode cJ0_indexOf_7cf53 0 = .ok (.aload_n 0, 1) := by decide +kernel
theorem dJ0_indexOf_7cf53_1 : decode cJ0_indexOf_7cf53 1 = .ok (.invokevirtual 492, 3) := by decide +kernel
theorem dJ0_isLatin1_aae02_0 : decode cJ0_isLatin1_aae02 0 = .ok (.getstatic 38, 3) := by decide +kernel
theorem dJ0_isLatin1_aae02_3 : decode cJ0_isLatin1_aae02 3 = .ok (.ifCond .eq 14, 3) := by decide +kernel
theorem dJ0_isLatin1_aae02_6 : decode cJ0_isLatin1_aae02 6 = .ok (.aload_n 0, 1) := by decide +kernel
theorem dJ0_isLatin1_aae02_7 : decode cJ0_isLatin1_aae02 7 = .ok (.getfield 15, 3) := by decide +kernel
theorem dJ0_isLatin1_aae02_10 : decode cJ0_isLatin1_aae02 10 = .ok (.ifCond .ne 7, 3) := by decide +kernel
theorem dJ0_isLatin1_aae02_13 : decode cJ0_isLatin1_aae02 13 = .ok (.iconst 1, 1) := by decide +kernel
theorem dJ0_isLatin1_aae02_14 : decode cJ0_isLatin1_aae02 14 = .ok (.goto 4, 3) := by decide +kernel
theorem dJ0_isLatin1_aae02_18 : decode cJ0_isLatin1_aae02 18 = .ok (.ireturn, 1) := by decide +kernel
theorem dJ0_indexOf_7cf53_4 : decode cJ0_indexOf_7cf53 4 = .ok (.ifCond .eq 19, 3) := by decide +kernel
theorem dJ0_indexOf_7cf53_7 : decode cJ0_indexOf_7cf53 7 = .ok (.aload_n 0, 1) := by decide +kernel
theorem dJ0_indexOf_7cf53_8 : decode cJ0_indexOf_7cf53 8 = .ok (.getfield 9, 3) := by decide +kernel
theorem dJ0_indexOf_7cf53_11 : decode cJ0_indexOf_7cf53 11 = .ok (.iload_n 1, 1) := by decide +kernel
theorem dJ0_indexOf_7cf53_12 : decode cJ0_indexOf_7cf53 12 = .ok (.iload_n 2, 1) := by decide +kernel
theorem dJ0_indexOf_7cf53_13 : decode cJ0_indexOf_7cf53 13 = .ok (.aload_n 0, 1) := by decide +kernel
theorem dJ0_indexOf_7cf53_14 : decode cJ0_indexOf_7cf53 14 = .ok (.invokevirtual 505, 3) := by decide +kernel
theorem dJ0_length_8abf5_0 : decode cJ0_length_8abf5 0 = .ok (.aload_n 0, 1) := by decide +kernel
theorem dJ0_length_8abf5_1 : decode cJ0_length_8abf5 1 = .ok (.getfield 9, 3) := by decide +kernel
theorem dJ0_length_8abf5_4 : decode cJ0_length_8abf5 4 = .ok (.arraylength, 1) := by decide +kernel
theorem dJ0_length_8abf5_5 : decode cJ0_length_8abf5 5 = .ok (.aload_n 0, 1) := by decide +kernel
theorem dJ0_length_8abf5_6 : decode cJ0_length_8abf5 6 = .ok (.invokevirtual 335, 3) := by decide +kernel
theorem dJ0_coder_7d493_0 : decode cJ0_coder_7d493 0 = .ok (.getstatic 38, 3) := by decide +kernel
theorem dJ0_coder_7d493_3 : decode cJ0_coder_7d493 3 = .ok (.ifCond .eq 10, 3) := by decide +kernel
theorem dJ0_coder_7d493_6 : decode cJ0_coder_7d493 6 = .ok (.aload_n 0, 1) := by decide +kernel
theorem dJ0_coder_7d493_7 : decode cJ0_coder_7d493 7 = .ok (.getfield 15, 3) := by decide +kernel
theorem dJ0_coder_7d493_10 : decode cJ0_coder_7d493 10 = .ok (.goto 4, 3) := by decide +kernel
theorem dJ0_coder_7d493_14 : decode cJ0_coder_7d493 14 = .ok (.ireturn, 1) := by decide +kernel
theorem dJ0_length_8abf5_9 : decode cJ0_length_8abf5 9 = .ok (.ishr, 1) := by decide +kernel
theorem dJ0_length_8abf5_10 : decode cJ0_length_8abf5 10 = .ok (.ireturn, 1) := by decide +kernel
theorem dJ0_indexOf_7cf53_17 : decode cJ0_indexOf_7cf53 17 = .ok (.invokestatic 637, 3) := by decide +kernel
theorem dJ1_indexOf_4cfef_0 : decode cJ1_indexOf_4cfef 0 = .ok (.iload_n 1, 1) := by decide +kernel
theorem dJ1_indexOf_4cfef_1 : decode cJ1_indexOf_4cfef 1 = .ok (.invokestatic 88, 3) := by decide +kernel
theorem dJ1_canEncode_9a6ad_0 : decode cJ1_canEncode_9a6ad 0 = .ok (.iload_n 0, 1) := by decide +kernel
theorem dJ1_canEncode_9a6ad_1 : decode cJ1_canEncode_9a6ad 1 = .ok (.ifCond .lt 14, 3) := by decide +kernel
theorem dJ1_canEncode_9a6ad_4 : decode cJ1_canEncode_9a6ad 4 = .ok (.iload_n 0, 1) := by decide +kernel
theorem dJ1_canEncode_9a6ad_5 : decode cJ1_canEncode_9a6ad 5 = .ok (.sipush 255, 3) := by decide +kernel
theorem dJ1_canEncode_9a6ad_8 : decode cJ1_canEncode_9a6ad 8 = .ok (.if_icmp .gt 7, 3) := by decide +kernel
theorem dJ1_canEncode_9a6ad_15 : decode cJ1_canEncode_9a6ad 15 = .ok (.iconst 0, 1) := by decide +kernel
theorem dJ1_canEncode_9a6ad_16 : decode cJ1_canEncode_9a6ad 16 = .ok (.ireturn, 1) := by decide +kernel
theorem dJ1_indexOf_4cfef_4 : decode cJ1_indexOf_4cfef 4 = .ok (.ifCond .ne 5, 3) := by decide +kernel
theorem dJ1_indexOf_4cfef_7 : decode cJ1_indexOf_4cfef 7 = .ok (.iconst (-1), 1) := by decide +kernel
theorem dJ1_indexOf_4cfef_8 : decode cJ1_indexOf_4cfef 8 = .ok (.ireturn, 1) := by decide +kernel
theorem dJ0_indexOf_7cf53_20 : decode cJ0_indexOf_7cf53 20 = .ok (.goto 16, 3) := by decide +kernel
theorem dJ0_indexOf_7cf53_36 : decode cJ0_indexOf_7cf53 36 = .ok (.ireturn, 1) := by decide +kernel
theorem dJ0_indexOf_0f7a4_6 : decode cJ0_indexOf_0f7a4 6 = .ok (.ireturn, 1) := by decide +kernel
theorem dX6_node_26 : decode cX6_node 26 = .ok (.ifCond .ge 13, 3) := by decide +kernel
theorem dX12_node_22 : decode cX12_node 22 = .ok (.iload_n 3, 1) := by decide +kernel
theorem dX12_node_23 : decode cX12_node 23 = .ok (.bipush 45, 2) := by decide +kernel
theorem dX12_node_25 : decode cX12_node 25 = .ok (.if_icmp .eq 21, 3) := by decide +kernel
theorem dX12_node_28 : decode cX12_node 28 = .ok (.iload_n 3, 1) := by decide +kernel
theorem dX12_node_29 : decode cX12_node 29 = .ok (.bipush 112, 2) := by decide +kernel
theorem dX12_node_31 : decode cX12_node 31 = .ok (.if_icmp .eq 15, 3) := by decide +kernel
theorem dX12_node_34 : decode cX12_node 34 = .ok (.iload_n 3, 1) := by decide +kernel
theorem dX12_node_35 : decode cX12_node 35 = .ok (.bipush 114, 2) := by decide +kernel
theorem dX12_node_37 : decode cX12_node 37 = .ok (.if_icmp .eq 9, 3) := by decide +kernel
theorem dJ1_canEncode_9a6ad_11 : decode cJ1_canEncode_9a6ad 11 = .ok (.iconst 1, 1) := by decide +kernel
theorem dJ1_canEncode_9a6ad_12 : decode cJ1_canEncode_9a6ad 12 = .ok (.goto 4, 3) := by decide +kernel
theorem dJ1_indexOf_4cfef_9 : decode cJ1_indexOf_4cfef 9 = .ok (.iload_n 2, 1) := by decide +kernel
theorem dJ1_indexOf_4cfef_10 : decode cJ1_indexOf_4cfef 10 = .ok (.iconst 0, 1) := by decide +kernel
theorem dJ1_indexOf_4cfef_11 : decode cJ1_indexOf_4cfef 11 = .ok (.invokestatic 92, 3) := by decide +kernel
theorem dJ1_indexOf_4cfef_14 : decode cJ1_indexOf_4cfef 14 = .ok (.istore_n 2, 1) := by decide +kernel
theorem dJ1_indexOf_4cfef_15 : decode cJ1_indexOf_4cfef 15 = .ok (.iload_n 3, 1) := by decide +kernel
theorem dJ1_indexOf_4cfef_16 : decode cJ1_indexOf_4cfef 16 = .ok (.aload_n 0, 1) := by decide +kernel
theorem dJ1_indexOf_4cfef_17 : decode cJ1_indexOf_4cfef 17 = .ok (.arraylength, 1) := by decide +kernel
theorem dJ1_indexOf_4cfef_18 : decode cJ1_indexOf_4cfef 18 = .ok (.invokestatic 38, 3) := by decide +kernel
theorem dJ1_indexOf_4cfef_21 : decode cJ1_indexOf_4cfef 21 = .ok (.istore_n 3, 1) := by decide +kernel
theorem dJ1_indexOf_4cfef_22 : decode cJ1_indexOf_4cfef 22 = .ok (.iload_n 2, 1) := by decide +kernel
theorem dJ1_indexOf_4cfef_23 : decode cJ1_indexOf_4cfef 23 = .ok (.iload_n 3, 1) := by decide +kernel
theorem dJ1_indexOf_4cfef_24 : decode cJ1_indexOf_4cfef 24 = .ok (.if_icmp .lt 5, 3) := by decide +kernel
theorem dJ1_indexOf_4cfef_29 : decode cJ1_indexOf_4cfef 29 = .ok (.aload_n 0, 1) := by decide +kernel
theorem dJ1_indexOf_4cfef_30 : decode cJ1_indexOf_4cfef 30 = .ok (.iload_n 1, 1) := by decide +kernel
theorem dJ1_indexOf_4cfef_31 : decode cJ1_indexOf_4cfef 31 = .ok (.iload_n 2, 1) := by decide +kernel
theorem dJ1_indexOf_4cfef_32 : decode cJ1_indexOf_4cfef 32 = .ok (.iload_n 3, 1) := by decide +kernel
theorem dJ1_indexOf_4cfef_33 : decode cJ1_indexOf_4cfef 33 = .ok (.invokestatic 95, 3) := by decide +kernel
theorem dJ1_indexOfChar_4cfef_0 : decode cJ1_indexOfChar_4cfef 0 = .ok (.iload_n 1, 1) := by decide +kernel
theorem dJ1_indexOfChar_4cfef_1 : decode cJ1_indexOfChar_4cfef 1 = .ok (.i2b, 1) := by decide +kernel
theorem dJ1_indexOfChar_4cfef_2 : decode cJ1_indexOfChar_4cfef 2 = .ok (.istore 4, 2) := by decide +kernel
theorem dJ1_indexOfChar_4cfef_4 : decode cJ1_indexOfChar_4cfef 4 = .ok (.iload_n 2, 1) := by decide +kernel
theorem dJ1_indexOfChar_4cfef_5 : decode cJ1_indexOfChar_4cfef 5 = .ok (.istore 5, 2) := by decide +kernel
theorem dJ1_indexOfChar_4cfef_7 : decode cJ1_indexOfChar_4cfef 7 = .ok (.iload 5, 2) := by decide +kernel
theorem dJ1_indexOfChar_4cfef_9 : decode cJ1_indexOfChar_4cfef 9 = .ok (.iload_n 3, 1) := by decide +kernel
theorem dJ1_indexOfChar_4cfef_10 : decode cJ1_indexOfChar_4cfef 10 = .ok (.if_icmp .ge 21, 3) := by decide +kernel
theorem dJ1_indexOfChar_4cfef_13 : decode cJ1_indexOfChar_4cfef 13 = .ok (.aload_n 0, 1) := by decide +kernel
theorem dJ1_indexOfChar_4cfef_14 : decode cJ1_indexOfChar_4cfef 14 = .ok (.iload 5, 2) := by decide +kernel
theorem dJ1_indexOfChar_4cfef_16 : decode cJ1_indexOfChar_4cfef 16 = .ok (.baload, 1) := by decide +kernel
theorem dJ1_indexOfChar_4cfef_17 : decode cJ1_indexOfChar_4cfef 17 = .ok (.iload 4, 2) := by decide +kernel
theorem dJ1_indexOfChar_4cfef_19 : decode cJ1_indexOfChar_4cfef 19 = .ok (.if_icmp .ne 6, 3) := by decide +kernel
theorem dJ1_indexOfChar_4cfef_25 : decode cJ1_indexOfChar_4cfef 25 = .ok (.iinc 5 1, 3) := by decide +kernel
theorem dJ1_indexOfChar_4cfef_28 : decode cJ1_indexOfChar_4cfef 28 = .ok (.goto (-21), 3) := by decide +kernel
theorem dJ1_indexOfChar_4cfef_31 : decode cJ1_indexOfChar_4cfef 31 = .ok (.iconst (-1), 1) := by decide +kernel
theorem dJ1_indexOfChar_4cfef_32 : decode cJ1_indexOfChar_4cfef 32 = .ok (.ireturn, 1) := by decide +kernel
theorem dJ1_indexOf_4cfef_36 : decode cJ1_indexOf_4cfef 36 = .ok (.ireturn, 1) := by decide +kernel
theorem dJ1_indexOfChar_4cfef_22 : decode cJ1_indexOfChar_4cfef 22 = .ok (.iload 5, 2) := by decide +kernel
theorem dJ1_indexOfChar_4cfef_24 : decode cJ1_indexOfChar_4cfef 24 = .ok (.ireturn, 1) := by decide +kernel
theorem dX6_node_39 : decode cX6_node 39 = .ok (.aload_n 0, 1) := by decide +kernel
theorem dX6_node_40 : decode cX6_node 40 = .ok (.getfield 12, 3) := by decide +kernel
theorem dX6_node_43 : decode cX6_node 43 = .ok (.getfield 63, 3) := by decide +kernel
theorem dX6_node_46 : decode cX6_node 46 = .ok (.bipush 8, 2) := by decide +kernel
theorem dX6_node_48 : decode cX6_node 48 = .ok (.if_icmp .lt 13, 3) := by decide +kernel
theorem dX6_node_61 : decode cX6_node 61 = .ok (.aload_n 0, 1) := by decide +kernel
theorem dX6_node_62 : decode cX6_node 62 = .ok (.getfield 19, 3) := by decide +kernel
theorem dX6_node_65 : decode cX6_node 65 = .ok (.iconst 0, 1) := by decide +kernel
theorem dX6_node_66 : decode cX6_node 66 = .ok (.putfield 72, 3) := by decide +kernel
theorem dX6_node_69 : decode cX6_node 69 = .ok (.aload_n 0, 1) := by decide +kernel
theorem dX6_node_70 : decode cX6_node 70 = .ok (.getfield 12, 3) := by decide +kernel
theorem dX6_node_73 : decode cX6_node 73 = .ok (.iload_n 1, 1) := by decide +kernel
theorem dX6_node_74 : decode cX6_node 74 = .ok (.iload_n 2, 1) := by decide +kernel
theorem dX6_node_75 : decode cX6_node 75 = .ok (.iload_n 3, 1) := by decide +kernel
theorem dX6_node_76 : decode cX6_node 76 = .ok (.invokevirtual 76, 3) := by decide +kernel
theorem dX2_addNode_0 : decode cX2_addNode 0 = .ok (.aload_n 0, 1) := by decide +kernel
theorem dX2_addNode_1 : decode cX2_addNode 1 = .ok (.getfield 43, 3) := by decide +kernel
theorem dX2_addNode_4 : decode cX2_addNode 4 = .ok (.istore 4, 2) := by decide +kernel
theorem dX2_addNode_6 : decode cX2_addNode 6 = .ok (.aload_n 0, 1) := by decide +kernel
theorem dX2_addNode_7 : decode cX2_addNode 7 = .ok (.getfield 9, 3) := by decide +kernel
theorem dX2_addNode_10 : decode cX2_addNode 10 = .ok (.iconst 2, 1) := by decide +kernel
theorem dX2_addNode_11 : decode cX2_addNode 11 = .ok (.iload 4, 2) := by decide +kernel
theorem dX2_addNode_13 : decode cX2_addNode 13 = .ok (.imul, 1) := by decide +kernel
theorem dX2_addNode_14 : decode cX2_addNode 14 = .ok (.iconst 0, 1) := by decide +kernel
theorem dX2_addNode_15 : decode cX2_addNode 15 = .ok (.iadd, 1) := by decide +kernel
theorem dX2_addNode_16 : decode cX2_addNode 16 = .ok (.iload_n 1, 1) := by decide +kernel
theorem dX2_addNode_17 : decode cX2_addNode 17 = .ok (.iastore, 1) := by decide +kernel
theorem dX2_addNode_18 : decode cX2_addNode 18 = .ok (.aload_n 0, 1) := by decide +kernel
theorem dX2_addNode_19 : decode cX2_addNode 19 = .ok (.getfield 9, 3) := by decide +kernel
theorem dX2_addNode_22 : decode cX2_addNode 22 = .ok (.iconst 2, 1) := by decide +kernel
theorem dX2_addNode_23 : decode cX2_addNode 23 = .ok (.iload 4, 2) := by decide +kernel
theorem dX2_addNode_25 : decode cX2_addNode 25 = .ok (.imul, 1) := by decide +kernel
theorem dX2_addNode_26 : decode cX2_addNode 26 = .ok (.iconst 1, 1) := by decide +kernel
theorem dX2_addNode_27 : decode cX2_addNode 27 = .ok (.iadd, 1) := by decide +kernel
theorem dX2_addNode_28 : decode cX2_addNode 28 = .ok (.iload_n 2, 1) := by decide +kernel
theorem dX2_addNode_29 : decode cX2_addNode 29 = .ok (.iastore, 1) := by decide +kernel
theorem dX2_addNode_30 : decode cX2_addNode 30 = .ok (.aload_n 0, 1) := by decide +kernel
theorem dX2_addNode_31 : decode cX2_addNode 31 = .ok (.getfield 21, 3) := by decide +kernel
theorem dX2_addNode_34 : decode cX2_addNode 34 = .ok (.iload 4, 2) := by decide +kernel
theorem dX2_addNode_36 : decode cX2_addNode 36 = .ok (.iload_n 3, 1) := by decide +kernel
theorem dX2_addNode_37 : decode cX2_addNode 37 = .ok (.castore, 1) := by decide +kernel
theorem dX2_addNode_38 : decode cX2_addNode 38 = .ok (.aload_n 0, 1) := by decide +kernel
theorem dX2_addNode_39 : decode cX2_addNode 39 = .ok (.iload 4, 2) := by decide +kernel
theorem dX2_addNode_41 : decode cX2_addNode 41 = .ok (.iconst 1, 1) := by decide +kernel
theorem dX2_addNode_42 : decode cX2_addNode 42 = .ok (.iadd, 1) := by decide +kernel
theorem dX2_addNode_43 : decode cX2_addNode 43 = .ok (.putfield 43, 3) := by decide +kernel
theorem dX2_addNode_46 : decode cX2_addNode 46 = .ok (.iload 4, 2) := by decide +kernel
theorem dX2_addNode_48 : decode cX2_addNode 48 = .ok (.ireturn, 1) := by decide +kernel
theorem dX6_node_79 : decode cX6_node 79 = .ok (.ireturn, 1) := by decide +kernel
theorem dL_node_10 : decode cL_node 10 = .ok (.i2l, 1) := by decide +kernel
theorem dL_node_11 : decode cL_node 11 = .ok (.lastore, 1) := by decide +kernel
theorem dL_node_12 : decode cL_node 12 = .ok (.goto 11, 3) := by decide +kernel
theorem dL_node_23 : decode cL_node 23 = .ok (.iconst 0, 1) := by decide +kernel
theorem dL_node_24 : decode cL_node 24 = .ok (.ireturn, 1) := by decide +kernel
theorem dX12_node_46 : decode cX12_node 46 = .ok (.aload_n 0, 1) := by decide +kernel
theorem dX12_node_47 : decode cX12_node 47 = .ok (.getfield 10, 3) := by decide +kernel
theorem dX12_node_50 : decode cX12_node 50 = .ok (.invokevirtual 125, 3) := by decide +kernel
theorem dJx4a65c_size_8abf5_0 : decode cJx4a65c_size_8abf5 0 = .ok (.aload_n 0, 1) := by decide +kernel
theorem dJx4a65c_size_8abf5_1 : decode cJx4a65c_size_8abf5 1 = .ok (.getfield 48, 3) := by decide +kernel
theorem dJx4a65c_size_8abf5_4 : decode cJx4a65c_size_8abf5 4 = .ok (.ireturn, 1) := by decide +kernel
theorem dX12_node_53 : decode cX12_node 53 = .ok (.bipush 8, 2) := by decide +kernel
theorem dX12_node_55 : decode cX12_node 55 = .ok (.if_icmp .ne 9, 3) := by decide +kernel
theorem dX12_node_64 : decode cX12_node 64 = .ok (.aload_n 0, 1) := by decide +kernel
theorem dX12_node_65 : decode cX12_node 65 = .ok (.getfield 10, 3) := by decide +kernel
theorem dX12_node_68 : decode cX12_node 68 = .ok (.new 99, 3) := by decide +kernel
theorem dX12_node_71 : decode cX12_node 71 = .ok (.dup, 1) := by decide +kernel
theorem dX12_node_72 : decode cX12_node 72 = .ok (.iload_n 1, 1) := by decide +kernel
theorem dX12_node_73 : decode cX12_node 73 = .ok (.iload_n 2, 1) := by decide +kernel
theorem dX12_node_74 : decode cX12_node 74 = .ok (.iload_n 3, 1) := by decide +kernel
theorem dX12_node_75 : decode cX12_node 75 = .ok (.invokespecial 292, 3) := by decide +kernel
theorem dX9_init_0 : decode cX9_init 0 = .ok (.aload_n 0, 1) := by decide +kernel
theorem dX9_init_1 : decode cX9_init 1 = .ok (.invokespecial 1, 3) := by decide +kernel
theorem dX9_init_4 : decode cX9_init 4 = .ok (.aload_n 0, 1) := by decide +kernel
theorem dX9_init_5 : decode cX9_init 5 = .ok (.iload_n 1, 1) := by decide +kernel
theorem dX9_init_6 : decode cX9_init 6 = .ok (.putfield 7, 3) := by decide +kernel
theorem dX9_init_9 : decode cX9_init 9 = .ok (.aload_n 0, 1) := by decide +kernel
theorem dX9_init_10 : decode cX9_init 10 = .ok (.iload_n 2, 1) := by decide +kernel
theorem dX9_init_11 : decode cX9_init 11 = .ok (.putfield 13, 3) := by decide +kernel
theorem dX9_init_14 : decode cX9_init 14 = .ok (.aload_n 0, 1) := by decide +kernel
theorem dX9_init_15 : decode cX9_init 15 = .ok (.iload_n 3, 1) := by decide +kernel
theorem dX9_init_16 : decode cX9_init 16 = .ok (.putfield 16, 3) := by decide +kernel
theorem dX9_init_19 : decode cX9_init 19 = .ok (.return_, 1) := by decide +kernel
theorem dX12_node_78 : decode cX12_node 78 = .ok (.invokevirtual 295, 3) := by decide +kernel
theorem dJx4a65c_add_9ea2d_0 : decode cJx4a65c_add_9ea2d 0 = .ok (.aload_n 0, 1) := by decide +kernel
theorem dJx4a65c_add_9ea2d_1 : decode cJx4a65c_add_9ea2d 1 = .ok (.dup, 1) := by decide +kernel
theorem dJx4a65c_add_9ea2d_2 : decode cJx4a65c_add_9ea2d 2 = .ok (.getfield 63, 3) := by decide +kernel
theorem dJx4a65c_add_9ea2d_5 : decode cJx4a65c_add_9ea2d 5 = .ok (.iconst 1, 1) := by decide +kernel
theorem dJx4a65c_add_9ea2d_6 : decode cJx4a65c_add_9ea2d 6 = .ok (.iadd, 1) := by decide +kernel
theorem dJx4a65c_add_9ea2d_7 : decode cJx4a65c_add_9ea2d 7 = .ok (.putfield 63, 3) := by decide +kernel
theorem dJx4a65c_add_9ea2d_10 : decode cJx4a65c_add_9ea2d 10 = .ok (.aload_n 0, 1) := by decide +kernel
theorem dJx4a65c_add_9ea2d_11 : decode cJx4a65c_add_9ea2d 11 = .ok (.aload_n 1, 1) := by decide +kernel
theorem dJx4a65c_add_9ea2d_12 : decode cJx4a65c_add_9ea2d 12 = .ok (.aload_n 0, 1) := by decide +kernel
theorem dJx4a65c_add_9ea2d_13 : decode cJx4a65c_add_9ea2d 13 = .ok (.getfield 9, 3) := by decide +kernel
theorem dJx4a65c_add_9ea2d_16 : decode cJx4a65c_add_9ea2d 16 = .ok (.aload_n 0, 1) := by decide +kernel
theorem dJx4a65c_add_9ea2d_17 : decode cJx4a65c_add_9ea2d 17 = .ok (.getfield 48, 3) := by decide +kernel
theorem dJx4a65c_add_9ea2d_20 : decode cJx4a65c_add_9ea2d 20 = .ok (.invokevirtual 131, 3) := by decide +kernel
theorem dJx4a65c_add_72be8_0 : decode cJx4a65c_add_72be8 0 = .ok (.iload_n 3, 1) := by decide +kernel
theorem dJx4a65c_add_72be8_1 : decode cJx4a65c_add_72be8 1 = .ok (.aload_n 2, 1) := by decide +kernel
theorem dJx4a65c_add_72be8_2 : decode cJx4a65c_add_72be8 2 = .ok (.arraylength, 1) := by decide +kernel
theorem dJx4a65c_add_72be8_3 : decode cJx4a65c_add_72be8 3 = .ok (.if_icmp .ne 8, 3) := by decide +kernel
theorem dJx4a65c_add_72be8_6 : decode cJx4a65c_add_72be8 6 = .ok (.aload_n 0, 1) := by decide +kernel
theorem dJx4a65c_add_72be8_7 : decode cJx4a65c_add_72be8 7 = .ok (.invokevirtual 129, 3) := by decide +kernel
theorem dJx4a65c_grow_d5877_0 : decode cJx4a65c_grow_d5877 0 = .ok (.aload_n 0, 1) := by decide +kernel
theorem dJx4a65c_grow_d5877_1 : decode cJx4a65c_grow_d5877 1 = .ok (.aload_n 0, 1) := by decide +kernel
theorem dJx4a65c_grow_d5877_2 : decode cJx4a65c_grow_d5877 2 = .ok (.getfield 48, 3) := by decide +kernel
theorem dJx4a65c_grow_d5877_5 : decode cJx4a65c_grow_d5877 5 = .ok (.iconst 1, 1) := by decide +kernel
theorem dJx4a65c_grow_d5877_6 : decode cJx4a65c_grow_d5877 6 = .ok (.iadd, 1) := by decide +kernel
theorem dJx4a65c_grow_d5877_7 : decode cJx4a65c_grow_d5877 7 = .ok (.invokevirtual 69, 3) := by decide +kernel
theorem dJx4a65c_grow_92f84_0 : decode cJx4a65c_grow_92f84 0 = .ok (.aload_n 0, 1) := by decide +kernel
theorem dJx4a65c_grow_92f84_1 : decode cJx4a65c_grow_92f84 1 = .ok (.getfield 9, 3) := by decide +kernel
theorem dJx4a65c_grow_92f84_4 : decode cJx4a65c_grow_92f84 4 = .ok (.arraylength, 1) := by decide +kernel
theorem dJx4a65c_grow_92f84_5 : decode cJx4a65c_grow_92f84 5 = .ok (.istore_n 2, 1) := by decide +kernel
theorem dJx4a65c_grow_92f84_6 : decode cJx4a65c_grow_92f84 6 = .ok (.iload_n 2, 1) := by decide +kernel
theorem dJx4a65c_grow_92f84_7 : decode cJx4a65c_grow_92f84 7 = .ok (.ifCond .gt 13, 3) := by decide +kernel
theorem dJx4a65c_grow_92f84_10 : decode cJx4a65c_grow_92f84 10 = .ok (.aload_n 0, 1) := by decide +kernel
theorem dJx4a65c_grow_92f84_11 : decode cJx4a65c_grow_92f84 11 = .ok (.getfield 9, 3) := by decide +kernel
theorem dJx4a65c_grow_92f84_14 : decode cJx4a65c_grow_92f84 14 = .ok (.getstatic 39, 3) := by decide +kernel
theorem dJx4a65c_grow_92f84_17 : decode cJx4a65c_grow_92f84 17 = .ok (.if_acmp .eq 28, 3) := by decide +kernel
theorem dJx4a65c_grow_92f84_45 : decode cJx4a65c_grow_92f84 45 = .ok (.aload_n 0, 1) := by decide +kernel
theorem dJx4a65c_grow_92f84_46 : decode cJx4a65c_grow_92f84 46 = .ok (.bipush 10, 2) := by decide +kernel
theorem dJx4a65c_grow_92f84_48 : decode cJx4a65c_grow_92f84 48 = .ok (.iload_n 1, 1) := by decide +kernel
theorem dJx4a65c_grow_92f84_49 : decode cJx4a65c_grow_92f84 49 = .ok (.invokestatic 79, 3) := by decide +kernel
theorem dJx4a65c_grow_92f84_52 : decode cJx4a65c_grow_92f84 52 = .ok (.anewarray 7, 3) := by decide +kernel
theorem dJx4a65c_grow_92f84_55 : decode cJx4a65c_grow_92f84 55 = .ok (.dup_x1, 1) := by decide +kernel
theorem dJx4a65c_grow_92f84_56 : decode cJx4a65c_grow_92f84 56 = .ok (.putfield 9, 3) := by decide +kernel
theorem dJx4a65c_grow_92f84_59 : decode cJx4a65c_grow_92f84 59 = .ok (.areturn, 1) := by decide +kernel
theorem dJx4a65c_grow_d5877_10 : decode cJx4a65c_grow_d5877 10 = .ok (.areturn, 1) := by decide +kernel
theorem dJx4a65c_add_72be8_10 : decode cJx4a65c_add_72be8 10 = .ok (.astore_n 2, 1) := by decide +kernel
theorem dJx4a65c_add_72be8_11 : decode cJx4a65c_add_72be8 11 = .ok (.aload_n 2, 1) := by decide +kernel
theorem dJx4a65c_add_72be8_12 : decode cJx4a65c_add_72be8 12 = .ok (.iload_n 3, 1) := by decide +kernel
theorem dJx4a65c_add_72be8_13 : decode cJx4a65c_add_72be8 13 = .ok (.aload_n 1, 1) := by decide +kernel
theorem dJx4a65c_add_72be8_14 : decode cJx4a65c_add_72be8 14 = .ok (.aastore, 1) := by decide +kernel
theorem dJx4a65c_add_72be8_15 : decode cJx4a65c_add_72be8 15 = .ok (.aload_n 0, 1) := by decide +kernel
theorem dJx4a65c_add_72be8_16 : decode cJx4a65c_add_72be8 16 = .ok (.iload_n 3, 1) := by decide +kernel
theorem dJx4a65c_add_72be8_17 : decode cJx4a65c_add_72be8 17 = .ok (.iconst 1, 1) := by decide +kernel
theorem dJx4a65c_add_72be8_18 : decode cJx4a65c_add_72be8 18 = .ok (.iadd, 1) := by decide +kernel
theorem dJx4a65c_add_72be8_19 : decode cJx4a65c_add_72be8 19 = .ok (.putfield 48, 3) := by decide +kernel
theorem dJx4a65c_add_72be8_22 : decode cJx4a65c_add_72be8 22 = .ok (.return_, 1) := by decide +kernel
theorem dJx4a65c_add_9ea2d_23 : decode cJx4a65c_add_9ea2d 23 = .ok (.iconst 1, 1) := by decide +kernel
theorem dJx4a65c_add_9ea2d_24 : decode cJx4a65c_add_9ea2d 24 = .ok (.ireturn, 1) := by decide +kernel
theorem dX12_node_81 : decode cX12_node 81 = .ok (.pop, 1) := by decide +kernel
theorem dX12_node_82 : decode cX12_node 82 = .ok (.aload_n 0, 1) := by decide +kernel
theorem dX12_node_83 : decode cX12_node 83 = .ok (.invokevirtual 299, 3) := by decide +kernel
theorem dX12_changes_0 : decode cX12_changes 0 = .ok (.aload_n 0, 1) := by decide +kernel
theorem dX12_changes_1 : decode cX12_changes 1 = .ok (.iconst 0, 1) := by decide +kernel
theorem dX12_changes_2 : decode cX12_changes 2 = .ok (.putfield 77, 3) := by decide +kernel
theorem dX12_changes_5 : decode cX12_changes 5 = .ok (.aload_n 0, 1) := by decide +kernel
theorem dX12_changes_6 : decode cX12_changes 6 = .ok (.iconst 0, 1) := by decide +kernel
theorem dX12_changes_7 : decode cX12_changes 7 = .ok (.putfield 81, 3) := by decide +kernel
theorem dX12_changes_10 : decode cX12_changes 10 = .ok (.aload_n 0, 1) := by decide +kernel
theorem dX12_changes_11 : decode cX12_changes 11 = .ok (.iconst 0, 1) := by decide +kernel
theorem dX12_changes_12 : decode cX12_changes 12 = .ok (.putfield 84, 3) := by decide +kernel
theorem dX12_changes_15 : decode cX12_changes 15 = .ok (.return_, 1) := by decide +kernel
theorem dX12_node_86 : decode cX12_node 86 = .ok (.aload_n 0, 1) := by decide +kernel
theorem dX12_node_87 : decode cX12_node 87 = .ok (.aload_n 0, 1) := by decide +kernel
theorem dX12_node_88 : decode cX12_node 88 = .ok (.getfield 10, 3) := by decide +kernel
theorem dX12_node_91 : decode cX12_node 91 = .ok (.invokevirtual 125, 3) := by decide +kernel
theorem dX12_node_94 : decode cX12_node 94 = .ok (.iconst 1, 1) := by decide +kernel
theorem dX12_node_95 : decode cX12_node 95 = .ok (.isub, 1) := by decide +kernel
theorem dX12_node_96 : decode cX12_node 96 = .ok (.invokevirtual 302, 3) := by decide +kernel
theorem dX12_tell_0 : decode cX12_tell 0 = .ok (.aload_n 0, 1) := by decide +kernel
theorem dX12_tell_1 : decode cX12_tell 1 = .ok (.iconst 0, 1) := by decide +kernel
theorem dX12_tell_2 : decode cX12_tell 2 = .ok (.putfield 74, 3) := by decide +kernel
theorem dX12_tell_5 : decode cX12_tell 5 = .ok (.iload_n 1, 1) := by decide +kernel
theorem dX12_tell_6 : decode cX12_tell 6 = .ok (.ireturn, 1) := by decide +kernel
theorem dX12_node_99 : decode cX12_node 99 = .ok (.ireturn, 1) := by decide +kernel
theorem dL_law_259 : decode cL_law 259 = .ok (.aload_n 3, 1) := by decide +kernel
theorem dL_law_260 : decode cL_law 260 = .ok (.iconst 0, 1) := by decide +kernel
theorem dL_law_261 : decode cL_law 261 = .ok (.laload, 1) := by decide +kernel
theorem dL_law_262 : decode cL_law 262 = .ok (.iload 7, 2) := by decide +kernel
theorem dL_law_264 : decode cL_law 264 = .ok (.i2l, 1) := by decide +kernel
theorem dL_law_265 : decode cL_law 265 = .ok (.lcmp, 1) := by decide +kernel
theorem dL_law_266 : decode cL_law 266 = .ok (.ifCond .eq 5, 3) := by decide +kernel
theorem dL_law_274 : decode cL_law 274 = .ok (.aload_n 1, 1) := by decide +kernel
theorem dL_law_275 : decode cL_law 275 = .ok (.aload_n 0, 1) := by decide +kernel
theorem dL_law_276 : decode cL_law 276 = .ok (.iload 5, 2) := by decide +kernel
theorem dL_law_278 : decode cL_law 278 = .ok (.iconst 1, 1) := by decide +kernel
theorem dL_law_279 : decode cL_law 279 = .ok (.iadd, 1) := by decide +kernel
theorem dL_law_280 : decode cL_law 280 = .ok (.iaload, 1) := by decide +kernel
theorem dL_law_281 : decode cL_law 281 = .ok (.aload_n 0, 1) := by decide +kernel
theorem dL_law_282 : decode cL_law 282 = .ok (.iload 5, 2) := by decide +kernel
theorem dL_law_284 : decode cL_law 284 = .ok (.iconst 2, 1) := by decide +kernel
theorem dL_law_285 : decode cL_law 285 = .ok (.iadd, 1) := by decide +kernel
theorem dL_law_286 : decode cL_law 286 = .ok (.iaload, 1) := by decide +kernel
theorem dL_law_287 : decode cL_law 287 = .ok (.aload_n 0, 1) := by decide +kernel
theorem dL_law_288 : decode cL_law 288 = .ok (.iload 5, 2) := by decide +kernel
theorem dL_law_290 : decode cL_law 290 = .ok (.iconst 3, 1) := by decide +kernel
theorem dL_law_291 : decode cL_law 291 = .ok (.iadd, 1) := by decide +kernel
theorem dL_law_292 : decode cL_law 292 = .ok (.iaload, 1) := by decide +kernel
theorem dL_law_293 : decode cL_law 293 = .ok (.aload_n 0, 1) := by decide +kernel
theorem dL_law_294 : decode cL_law 294 = .ok (.iload 5, 2) := by decide +kernel
theorem dL_law_296 : decode cL_law 296 = .ok (.iconst 4, 1) := by decide +kernel
theorem dL_law_297 : decode cL_law 297 = .ok (.iadd, 1) := by decide +kernel
theorem dL_law_298 : decode cL_law 298 = .ok (.iaload, 1) := by decide +kernel
theorem dL_law_299 : decode cL_law 299 = .ok (.aload_n 3, 1) := by decide +kernel
theorem dL_law_300 : decode cL_law 300 = .ok (.invokestatic 128, 3) := by decide +kernel
theorem dL_member_0 : decode cL_member 0 = .ok (.aload 5, 2) := by decide +kernel
theorem dL_member_2 : decode cL_member 2 = .ok (.iconst 0, 1) := by decide +kernel
theorem dL_member_3 : decode cL_member 3 = .ok (.aload_n 0, 1) := by decide +kernel
theorem dL_member_4 : decode cL_member 4 = .ok (.iload_n 1, 1) := by decide +kernel
theorem dL_member_5 : decode cL_member 5 = .ok (.iload_n 2, 1) := by decide +kernel
theorem dL_member_6 : decode cL_member 6 = .ok (.iload_n 3, 1) := by decide +kernel
theorem dL_member_7 : decode cL_member 7 = .ok (.iload 4, 2) := by decide +kernel
theorem dL_member_9 : decode cL_member 9 = .ok (.invokevirtual 17, 3) := by decide +kernel
theorem dX6_member_0 : decode cX6_member 0 = .ok (.aload_n 0, 1) := by decide +kernel
theorem dX6_member_1 : decode cX6_member 1 = .ok (.iload_n 1, 1) := by decide +kernel
theorem dX6_member_2 : decode cX6_member 2 = .ok (.invokevirtual 80, 3) := by decide +kernel
theorem dX6_checkNode_0 : decode cX6_checkNode 0 = .ok (.iload_n 1, 1) := by decide +kernel
theorem dX6_checkNode_1 : decode cX6_checkNode 1 = .ok (.ifCond .lt 14, 3) := by decide +kernel
theorem dX6_checkNode_15 : decode cX6_checkNode 15 = .ok (.new 228, 3) := by decide +kernel
theorem dX6_checkNode_18 : decode cX6_checkNode 18 = .ok (.dup, 1) := by decide +kernel
theorem dX6_checkNode_19 : decode cX6_checkNode 19 = .ok (.ldc_w 280, 3) := by decide +kernel
theorem dX6_checkNode_22 : decode cX6_checkNode 22 = .ok (.invokespecial 232, 3) := by decide +kernel
theorem dX6_checkNode_25 : decode cX6_checkNode 25 = .ok (.athrow, 1) := by decide +kernel
theorem dL_member_17 : decode cL_member 17 = .ok (.astore 6, 2) := by decide +kernel
theorem dL_member_19 : decode cL_member 19 = .ok (.iconst 1, 1) := by decide +kernel
theorem dL_member_20 : decode cL_member 20 = .ok (.ireturn, 1) := by decide +kernel
theorem dL_law_303 : decode cL_law 303 = .ok (.istore 6, 2) := by decide +kernel
theorem dL_law_305 : decode cL_law 305 = .ok (.aload_n 2, 1) := by decide +kernel
theorem dL_law_306 : decode cL_law 306 = .ok (.aload_n 0, 1) := by decide +kernel
theorem dL_law_307 : decode cL_law 307 = .ok (.iload 5, 2) := by decide +kernel
theorem dL_law_309 : decode cL_law 309 = .ok (.iconst 1, 1) := by decide +kernel
theorem dL_law_310 : decode cL_law 310 = .ok (.iadd, 1) := by decide +kernel
theorem dL_law_311 : decode cL_law 311 = .ok (.iaload, 1) := by decide +kernel
theorem dL_law_312 : decode cL_law 312 = .ok (.aload_n 0, 1) := by decide +kernel
theorem dL_law_313 : decode cL_law 313 = .ok (.iload 5, 2) := by decide +kernel
theorem dL_law_315 : decode cL_law 315 = .ok (.iconst 2, 1) := by decide +kernel
theorem dL_law_316 : decode cL_law 316 = .ok (.iadd, 1) := by decide +kernel
theorem dL_law_317 : decode cL_law 317 = .ok (.iaload, 1) := by decide +kernel
theorem dL_law_318 : decode cL_law 318 = .ok (.aload_n 0, 1) := by decide +kernel
theorem dL_law_319 : decode cL_law 319 = .ok (.iload 5, 2) := by decide +kernel
theorem dL_law_321 : decode cL_law 321 = .ok (.iconst 3, 1) := by decide +kernel
theorem dL_law_322 : decode cL_law 322 = .ok (.iadd, 1) := by decide +kernel
theorem dL_law_323 : decode cL_law 323 = .ok (.iaload, 1) := by decide +kernel
theorem dL_law_324 : decode cL_law 324 = .ok (.aload_n 0, 1) := by decide +kernel
theorem dL_law_325 : decode cL_law 325 = .ok (.iload 5, 2) := by decide +kernel
theorem dL_law_327 : decode cL_law 327 = .ok (.iconst 4, 1) := by decide +kernel
theorem dL_law_328 : decode cL_law 328 = .ok (.iadd, 1) := by decide +kernel
theorem dL_law_329 : decode cL_law 329 = .ok (.iaload, 1) := by decide +kernel
theorem dL_law_330 : decode cL_law 330 = .ok (.invokevirtual 131, 3) := by decide +kernel
theorem dX12_member_0 : decode cX12_member 0 = .ok (.aload_n 0, 1) := by decide +kernel
theorem dX12_member_1 : decode cX12_member 1 = .ok (.iload_n 1, 1) := by decide +kernel
theorem dX12_member_2 : decode cX12_member 2 = .ok (.invokevirtual 305, 3) := by decide +kernel
theorem dX12_isNode_0 : decode cX12_isNode 0 = .ok (.iload_n 1, 1) := by decide +kernel
theorem dX12_isNode_1 : decode cX12_isNode 1 = .ok (.i2l, 1) := by decide +kernel
theorem dX12_isNode_2 : decode cX12_isNode 2 = .ok (.iconst 0, 1) := by decide +kernel
theorem dX12_isNode_3 : decode cX12_isNode 3 = .ok (.aload_n 0, 1) := by decide +kernel
theorem dX12_isNode_4 : decode cX12_isNode 4 = .ok (.getfield 10, 3) := by decide +kernel
theorem dX12_isNode_7 : decode cX12_isNode 7 = .ok (.invokevirtual 125, 3) := by decide +kernel
theorem dX12_isNode_10 : decode cX12_isNode 10 = .ok (.iconst 1, 1) := by decide +kernel
theorem dX12_isNode_11 : decode cX12_isNode 11 = .ok (.isub, 1) := by decide +kernel
theorem dX12_isNode_12 : decode cX12_isNode 12 = .ok (.invokestatic 285, 3) := by decide +kernel
theorem dX12_isNode_15 : decode cX12_isNode 15 = .ok (.ireturn, 1) := by decide +kernel
theorem dX12_member_5 : decode cX12_member 5 = .ok (.ifCond .eq 11, 3) := by decide +kernel
theorem dX12_member_16 : decode cX12_member 16 = .ok (.aload_n 0, 1) := by decide +kernel
theorem dX12_member_17 : decode cX12_member 17 = .ok (.iconst 1, 1) := by decide +kernel
theorem dX12_member_18 : decode cX12_member 18 = .ok (.invokevirtual 289, 3) := by decide +kernel
theorem dX12_member_21 : decode cX12_member 21 = .ok (.ireturn, 1) := by decide +kernel
theorem dL_law_333 : decode cL_law 333 = .ok (.istore 7, 2) := by decide +kernel
theorem dL_law_335 : decode cL_law 335 = .ok (.aload_n 2, 1) := by decide +kernel
theorem dL_law_336 : decode cL_law 336 = .ok (.invokevirtual 125, 3) := by decide +kernel
theorem dL_law_339 : decode cL_law 339 = .ok (.iload 6, 2) := by decide +kernel
theorem dL_law_341 : decode cL_law 341 = .ok (.if_icmp .eq 5, 3) := by decide +kernel
theorem dL_law_346 : decode cL_law 346 = .ok (.iload 6, 2) := by decide +kernel
theorem dL_law_348 : decode cL_law 348 = .ok (.ifCond .ne 15, 3) := by decide +kernel
theorem dL_law_363 : decode cL_law 363 = .ok (.goto 1600, 3) := by decide +kernel
theorem dX6_checkNode_4 : decode cX6_checkNode 4 = .ok (.iload_n 1, 1) := by decide +kernel
theorem dX6_checkNode_5 : decode cX6_checkNode 5 = .ok (.aload_n 0, 1) := by decide +kernel
theorem dX6_checkNode_6 : decode cX6_checkNode 6 = .ok (.getfield 12, 3) := by decide +kernel
theorem dX6_checkNode_9 : decode cX6_checkNode 9 = .ok (.getfield 63, 3) := by decide +kernel
theorem dX6_checkNode_12 : decode cX6_checkNode 12 = .ok (.if_icmp .lt 14, 3) := by decide +kernel
theorem dL_law_366 : decode cL_law 366 = .ok (.aload_n 1, 1) := by decide +kernel
theorem dL_law_367 : decode cL_law 367 = .ok (.aload_n 0, 1) := by decide +kernel
theorem dL_law_368 : decode cL_law 368 = .ok (.iload 5, 2) := by decide +kernel
theorem dL_law_370 : decode cL_law 370 = .ok (.iconst 1, 1) := by decide +kernel
theorem dL_law_371 : decode cL_law 371 = .ok (.iadd, 1) := by decide +kernel
theorem dL_law_372 : decode cL_law 372 = .ok (.iaload, 1) := by decide +kernel
theorem dL_law_373 : decode cL_law 373 = .ok (.aload_n 0, 1) := by decide +kernel
theorem dL_law_374 : decode cL_law 374 = .ok (.iload 5, 2) := by decide +kernel
theorem dL_law_376 : decode cL_law 376 = .ok (.iconst 2, 1) := by decide +kernel
theorem dL_law_377 : decode cL_law 377 = .ok (.iadd, 1) := by decide +kernel
theorem dL_law_378 : decode cL_law 378 = .ok (.iaload, 1) := by decide +kernel
theorem dL_law_379 : decode cL_law 379 = .ok (.aload_n 0, 1) := by decide +kernel
theorem dL_law_380 : decode cL_law 380 = .ok (.iload 5, 2) := by decide +kernel
theorem dL_law_382 : decode cL_law 382 = .ok (.iconst 3, 1) := by decide +kernel
theorem dL_law_383 : decode cL_law 383 = .ok (.iadd, 1) := by decide +kernel
theorem dL_law_384 : decode cL_law 384 = .ok (.iaload, 1) := by decide +kernel
theorem dL_law_385 : decode cL_law 385 = .ok (.aload_n 3, 1) := by decide +kernel
theorem dL_law_386 : decode cL_law 386 = .ok (.invokestatic 132, 3) := by decide +kernel
theorem dL_load_0 : decode cL_load 0 = .ok (.aload 4, 2) := by decide +kernel
theorem dL_load_2 : decode cL_load 2 = .ok (.iconst 0, 1) := by decide +kernel
theorem dL_load_3 : decode cL_load 3 = .ok (.aload_n 0, 1) := by decide +kernel
theorem dL_load_4 : decode cL_load 4 = .ok (.iload_n 1, 1) := by decide +kernel
theorem dL_load_5 : decode cL_load 5 = .ok (.iload_n 2, 1) := by decide +kernel
theorem dL_load_6 : decode cL_load 6 = .ok (.iload_n 3, 1) := by decide +kernel
theorem dL_load_7 : decode cL_load 7 = .ok (.invokevirtual 23, 3) := by decide +kernel
theorem dX6_load_0 : decode cX6_load 0 = .ok (.aload_n 0, 1) := by decide +kernel
theorem dX6_load_1 : decode cX6_load 1 = .ok (.iload_n 1, 1) := by decide +kernel
theorem dX6_load_2 : decode cX6_load 2 = .ok (.invokevirtual 80, 3) := by decide +kernel
theorem dL_load_15 : decode cL_load 15 = .ok (.astore 5, 2) := by decide +kernel
theorem dL_load_17 : decode cL_load 17 = .ok (.iconst 1, 1) := by decide +kernel
theorem dL_load_18 : decode cL_load 18 = .ok (.ireturn, 1) := by decide +kernel
theorem dL_law_389 : decode cL_law 389 = .ok (.istore 6, 2) := by decide +kernel
theorem dL_law_391 : decode cL_law 391 = .ok (.aload_n 2, 1) := by decide +kernel
theorem dL_law_392 : decode cL_law 392 = .ok (.aload_n 0, 1) := by decide +kernel
theorem dL_law_393 : decode cL_law 393 = .ok (.iload 5, 2) := by decide +kernel
theorem dL_law_395 : decode cL_law 395 = .ok (.iconst 1, 1) := by decide +kernel
theorem dL_law_396 : decode cL_law 396 = .ok (.iadd, 1) := by decide +kernel
theorem dL_law_397 : decode cL_law 397 = .ok (.iaload, 1) := by decide +kernel
theorem dL_law_398 : decode cL_law 398 = .ok (.aload_n 0, 1) := by decide +kernel
theorem dL_law_399 : decode cL_law 399 = .ok (.iload 5, 2) := by decide +kernel
theorem dL_law_401 : decode cL_law 401 = .ok (.iconst 2, 1) := by decide +kernel
theorem dL_law_402 : decode cL_law 402 = .ok (.iadd, 1) := by decide +kernel
theorem dL_law_403 : decode cL_law 403 = .ok (.iaload, 1) := by decide +kernel
theorem dL_law_404 : decode cL_law 404 = .ok (.aload_n 0, 1) := by decide +kernel
theorem dL_law_405 : decode cL_law 405 = .ok (.iload 5, 2) := by decide +kernel
theorem dL_law_407 : decode cL_law 407 = .ok (.iconst 3, 1) := by decide +kernel
theorem dL_law_408 : decode cL_law 408 = .ok (.iadd, 1) := by decide +kernel
theorem dL_law_409 : decode cL_law 409 = .ok (.iaload, 1) := by decide +kernel
theorem dL_law_410 : decode cL_law 410 = .ok (.invokevirtual 135, 3) := by decide +kernel
theorem dX12_load_0 : decode cX12_load 0 = .ok (.aload_n 0, 1) := by decide +kernel
theorem dX12_load_1 : decode cX12_load 1 = .ok (.iload_n 1, 1) := by decide +kernel
theorem dX12_load_2 : decode cX12_load 2 = .ok (.invokevirtual 305, 3) := by decide +kernel
theorem dX12_load_5 : decode cX12_load 5 = .ok (.ifCond .ne 9, 3) := by decide +kernel
theorem dX12_load_8 : decode cX12_load 8 = .ok (.aload_n 0, 1) := by decide +kernel
theorem dX12_load_9 : decode cX12_load 9 = .ok (.iconst 1, 1) := by decide +kernel
theorem dX12_load_10 : decode cX12_load 10 = .ok (.invokevirtual 289, 3) := by decide +kernel
theorem dX12_load_13 : decode cX12_load 13 = .ok (.ireturn, 1) := by decide +kernel
theorem dL_law_413 : decode cL_law 413 = .ok (.istore 7, 2) := by decide +kernel
theorem dL_law_415 : decode cL_law 415 = .ok (.aload_n 2, 1) := by decide +kernel
theorem dL_law_416 : decode cL_law 416 = .ok (.invokevirtual 125, 3) := by decide +kernel
theorem dL_law_419 : decode cL_law 419 = .ok (.iload 6, 2) := by decide +kernel
theorem dL_law_421 : decode cL_law 421 = .ok (.if_icmp .eq 5, 3) := by decide +kernel
theorem dL_law_426 : decode cL_law 426 = .ok (.iload 6, 2) := by decide +kernel
theorem dL_law_428 : decode cL_law 428 = .ok (.ifCond .ne 15, 3) := by decide +kernel
theorem dL_law_443 : decode cL_law 443 = .ok (.goto 1520, 3) := by decide +kernel
theorem dL_law_446 : decode cL_law 446 = .ok (.aload_n 1, 1) := by decide +kernel
theorem dL_law_447 : decode cL_law 447 = .ok (.invokevirtual 136, 3) := by decide +kernel
theorem dX6_state_0 : decode cX6_state 0 = .ok (.aload_n 0, 1) := by decide +kernel
theorem dX6_state_1 : decode cX6_state 1 = .ok (.getfield 19, 3) := by decide +kernel
theorem dX6_state_4 : decode cX6_state 4 = .ok (.aload_n 0, 1) := by decide +kernel
theorem dX6_state_5 : decode cX6_state 5 = .ok (.getfield 12, 3) := by decide +kernel
theorem dX6_state_8 : decode cX6_state 8 = .ok (.invokevirtual 110, 3) := by decide +kernel
theorem dX1_find_0 : decode cX1_find 0 = .ok (.aload_n 0, 1) := by decide +kernel
theorem dX1_find_1 : decode cX1_find 1 = .ok (.getfield 59, 3) := by decide +kernel
theorem dX1_find_4 : decode cX1_find 4 = .ok (.ifCond .eq 4, 3) := by decide +kernel
theorem dX1_find_8 : decode cX1_find 8 = .ok (.aload_n 0, 1) := by decide +kernel
theorem dX1_find_9 : decode cX1_find 9 = .ok (.aload_n 0, 1) := by decide +kernel
theorem dX1_find_10 : decode cX1_find 10 = .ok (.aload_n 1, 1) := by decide +kernel
theorem dX1_find_11 : decode cX1_find 11 = .ok (.invokevirtual 63, 3) := by decide +kernel
theorem dX1_findPulls_0 : decode cX1_findPulls 0 = .ok (.iconst 0, 1) := by decide +kernel
theorem dX1_findPulls_1 : decode cX1_findPulls 1 = .ok (.istore_n 2, 1) := by decide +kernel
theorem dX1_findPulls_2 : decode cX1_findPulls 2 = .ok (.iconst 0, 1) := by decide +kernel
theorem dX1_findPulls_3 : decode cX1_findPulls 3 = .ok (.istore_n 3, 1) := by decide +kernel
theorem dX1_findPulls_4 : decode cX1_findPulls 4 = .ok (.iload_n 3, 1) := by decide +kernel
theorem dX1_findPulls_5 : decode cX1_findPulls 5 = .ok (.aload_n 1, 1) := by decide +kernel
theorem dX1_findPulls_6 : decode cX1_findPulls 6 = .ok (.getfield 78, 3) := by decide +kernel
theorem dX1_findPulls_9 : decode cX1_findPulls 9 = .ok (.if_icmp .ge 43, 3) := by decide +kernel
theorem dX1_findPulls_52 : decode cX1_findPulls 52 = .ok (.aload_n 1, 1) := by decide +kernel
theorem dX1_findPulls_53 : decode cX1_findPulls 53 = .ok (.getfield 88, 3) := by decide +kernel
theorem dX1_findPulls_56 : decode cX1_findPulls 56 = .ok (.iload_n 2, 1) := by decide +kernel
theorem dX1_findPulls_57 : decode cX1_findPulls 57 = .ok (.if_icmp .eq 19, 3) := by decide +kernel
theorem dX1_findPulls_76 : decode cX1_findPulls 76 = .ok (.aload_n 0, 1) := by decide +kernel
theorem dX1_findPulls_77 : decode cX1_findPulls 77 = .ok (.aload_n 1, 1) := by decide +kernel
theorem dX1_findPulls_78 : decode cX1_findPulls 78 = .ok (.invokevirtual 91, 3) := by decide +kernel
theorem dX1_fillRows_0 : decode cX1_fillRows 0 = .ok (.iconst 0, 1) := by decide +kernel
theorem dX1_fillRows_1 : decode cX1_fillRows 1 = .ok (.istore_n 2, 1) := by decide +kernel
theorem dX1_fillRows_2 : decode cX1_fillRows 2 = .ok (.iconst 0, 1) := by decide +kernel
theorem dX1_fillRows_3 : decode cX1_fillRows 3 = .ok (.istore_n 3, 1) := by decide +kernel
theorem dX1_fillRows_4 : decode cX1_fillRows 4 = .ok (.iload_n 3, 1) := by decide +kernel
theorem dX1_fillRows_5 : decode cX1_fillRows 5 = .ok (.iconst 2, 1) := by decide +kernel
theorem dX1_fillRows_6 : decode cX1_fillRows 6 = .ok (.aload_n 1, 1) := by decide +kernel
theorem dX1_fillRows_7 : decode cX1_fillRows 7 = .ok (.getfield 78, 3) := by decide +kernel
theorem dX1_fillRows_10 : decode cX1_fillRows 10 = .ok (.imul, 1) := by decide +kernel
theorem dX1_fillRows_11 : decode cX1_fillRows 11 = .ok (.if_icmp .ge 115, 3) := by decide +kernel
theorem dX1_fillRows_126 : decode cX1_fillRows 126 = .ok (.return_, 1) := by decide +kernel
theorem dX1_findPulls_81 : decode cX1_findPulls 81 = .ok (.aload_n 0, 1) := by decide +kernel
theorem dX1_findPulls_82 : decode cX1_findPulls 82 = .ok (.iload_n 2, 1) := by decide +kernel
theorem dX1_findPulls_83 : decode cX1_findPulls 83 = .ok (.invokevirtual 94, 3) := by decide +kernel
theorem dX1_findDeterminants_0 : decode cX1_findDeterminants 0 = .ok (.iconst 0, 1) := by decide +kernel
theorem dX1_findDeterminants_1 : decode cX1_findDeterminants 1 = .ok (.istore_n 2, 1) := by decide +kernel
theorem dX1_findDeterminants_2 : decode cX1_findDeterminants 2 = .ok (.iload_n 2, 1) := by decide +kernel
theorem dX1_findDeterminants_3 : decode cX1_findDeterminants 3 = .ok (.iconst 1, 1) := by decide +kernel
theorem dX1_findDeterminants_4 : decode cX1_findDeterminants 4 = .ok (.iload_n 1, 1) := by decide +kernel
theorem dX1_findDeterminants_5 : decode cX1_findDeterminants 5 = .ok (.ishl, 1) := by decide +kernel
theorem dX1_findDeterminants_6 : decode cX1_findDeterminants 6 = .ok (.if_icmp .ge 107, 3) := by decide +kernel
theorem dX1_findDeterminants_9 : decode cX1_findDeterminants 9 = .ok (.iload_n 2, 1) := by decide +kernel
theorem dX1_findDeterminants_10 : decode cX1_findDeterminants 10 = .ok (.invokestatic 119, 3) := by decide +kernel
theorem dJ6_bitCount_0f7a4_0 : decode cJ6_bitCount_0f7a4 0 = .ok (.iload_n 0, 1) := by decide +kernel
theorem dJ6_bitCount_0f7a4_1 : decode cJ6_bitCount_0f7a4 1 = .ok (.iload_n 0, 1) := by decide +kernel
theorem dJ6_bitCount_0f7a4_2 : decode cJ6_bitCount_0f7a4 2 = .ok (.iconst 1, 1) := by decide +kernel
theorem dJ6_bitCount_0f7a4_3 : decode cJ6_bitCount_0f7a4 3 = .ok (.iushr, 1) := by decide +kernel
theorem dJ6_bitCount_0f7a4_4 : decode cJ6_bitCount_0f7a4 4 = .ok (.ldc_w 265, 3) := by decide +kernel
theorem dJ6_bitCount_0f7a4_7 : decode cJ6_bitCount_0f7a4 7 = .ok (.iand, 1) := by decide +kernel
theorem dJ6_bitCount_0f7a4_8 : decode cJ6_bitCount_0f7a4 8 = .ok (.isub, 1) := by decide +kernel
theorem dJ6_bitCount_0f7a4_9 : decode cJ6_bitCount_0f7a4 9 = .ok (.istore_n 0, 1) := by decide +kernel
theorem dJ6_bitCount_0f7a4_10 : decode cJ6_bitCount_0f7a4 10 = .ok (.iload_n 0, 1) := by decide +kernel
theorem dJ6_bitCount_0f7a4_11 : decode cJ6_bitCount_0f7a4 11 = .ok (.ldc_w 266, 3) := by decide +kernel
theorem dJ6_bitCount_0f7a4_14 : decode cJ6_bitCount_0f7a4 14 = .ok (.iand, 1) := by decide +kernel
theorem dJ6_bitCount_0f7a4_15 : decode cJ6_bitCount_0f7a4 15 = .ok (.iload_n 0, 1) := by decide +kernel
theorem dJ6_bitCount_0f7a4_16 : decode cJ6_bitCount_0f7a4 16 = .ok (.iconst 2, 1) := by decide +kernel
theorem dJ6_bitCount_0f7a4_17 : decode cJ6_bitCount_0f7a4 17 = .ok (.iushr, 1) := by decide +kernel
theorem dJ6_bitCount_0f7a4_18 : decode cJ6_bitCount_0f7a4 18 = .ok (.ldc_w 266, 3) := by decide +kernel
theorem dJ6_bitCount_0f7a4_21 : decode cJ6_bitCount_0f7a4 21 = .ok (.iand, 1) := by decide +kernel
theorem dJ6_bitCount_0f7a4_22 : decode cJ6_bitCount_0f7a4 22 = .ok (.iadd, 1) := by decide +kernel
theorem dJ6_bitCount_0f7a4_23 : decode cJ6_bitCount_0f7a4 23 = .ok (.istore_n 0, 1) := by decide +kernel
theorem dJ6_bitCount_0f7a4_24 : decode cJ6_bitCount_0f7a4 24 = .ok (.iload_n 0, 1) := by decide +kernel
theorem dJ6_bitCount_0f7a4_25 : decode cJ6_bitCount_0f7a4 25 = .ok (.iload_n 0, 1) := by decide +kernel
theorem dJ6_bitCount_0f7a4_26 : decode cJ6_bitCount_0f7a4 26 = .ok (.iconst 4, 1) := by decide +kernel
theorem dJ6_bitCount_0f7a4_27 : decode cJ6_bitCount_0f7a4 27 = .ok (.iushr, 1) := by decide +kernel
theorem dJ6_bitCount_0f7a4_28 : decode cJ6_bitCount_0f7a4 28 = .ok (.iadd, 1) := by decide +kernel
theorem dJ6_bitCount_0f7a4_29 : decode cJ6_bitCount_0f7a4 29 = .ok (.ldc_w 267, 3) := by decide +kernel
theorem dJ6_bitCount_0f7a4_32 : decode cJ6_bitCount_0f7a4 32 = .ok (.iand, 1) := by decide +kernel
theorem dJ6_bitCount_0f7a4_33 : decode cJ6_bitCount_0f7a4 33 = .ok (.istore_n 0, 1) := by decide +kernel
theorem dJ6_bitCount_0f7a4_34 : decode cJ6_bitCount_0f7a4 34 = .ok (.iload_n 0, 1) := by decide +kernel
theorem dJ6_bitCount_0f7a4_35 : decode cJ6_bitCount_0f7a4 35 = .ok (.iload_n 0, 1) := by decide +kernel
theorem dJ6_bitCount_0f7a4_36 : decode cJ6_bitCount_0f7a4 36 = .ok (.bipush 8, 2) := by decide +kernel
theorem dJ6_bitCount_0f7a4_38 : decode cJ6_bitCount_0f7a4 38 = .ok (.iushr, 1) := by decide +kernel
theorem dJ6_bitCount_0f7a4_39 : decode cJ6_bitCount_0f7a4 39 = .ok (.iadd, 1) := by decide +kernel
theorem dJ6_bitCount_0f7a4_40 : decode cJ6_bitCount_0f7a4 40 = .ok (.istore_n 0, 1) := by decide +kernel
theorem dJ6_bitCount_0f7a4_41 : decode cJ6_bitCount_0f7a4 41 = .ok (.iload_n 0, 1) := by decide +kernel
theorem dJ6_bitCount_0f7a4_42 : decode cJ6_bitCount_0f7a4 42 = .ok (.iload_n 0, 1) := by decide +kernel
theorem dJ6_bitCount_0f7a4_43 : decode cJ6_bitCount_0f7a4 43 = .ok (.bipush 16, 2) := by decide +kernel
theorem dJ6_bitCount_0f7a4_45 : decode cJ6_bitCount_0f7a4 45 = .ok (.iushr, 1) := by decide +kernel
theorem dJ6_bitCount_0f7a4_46 : decode cJ6_bitCount_0f7a4 46 = .ok (.iadd, 1) := by decide +kernel
theorem dJ6_bitCount_0f7a4_47 : decode cJ6_bitCount_0f7a4 47 = .ok (.istore_n 0, 1) := by decide +kernel
theorem dJ6_bitCount_0f7a4_48 : decode cJ6_bitCount_0f7a4 48 = .ok (.iload_n 0, 1) := by decide +kernel
theorem dJ6_bitCount_0f7a4_49 : decode cJ6_bitCount_0f7a4 49 = .ok (.bipush 63, 2) := by decide +kernel
theorem dJ6_bitCount_0f7a4_51 : decode cJ6_bitCount_0f7a4 51 = .ok (.iand, 1) := by decide +kernel
theorem dJ6_bitCount_0f7a4_52 : decode cJ6_bitCount_0f7a4 52 = .ok (.ireturn, 1) := by decide +kernel
theorem dX1_findDeterminants_13 : decode cX1_findDeterminants 13 = .ok (.istore_n 3, 1) := by decide +kernel
theorem dX1_findDeterminants_14 : decode cX1_findDeterminants 14 = .ok (.aload_n 0, 1) := by decide +kernel
theorem dX1_findDeterminants_15 : decode cX1_findDeterminants 15 = .ok (.getfield 31, 3) := by decide +kernel
theorem dX1_findDeterminants_18 : decode cX1_findDeterminants 18 = .ok (.iload_n 2, 1) := by decide +kernel
theorem dX1_findDeterminants_19 : decode cX1_findDeterminants 19 = .ok (.iload_n 2, 1) := by decide +kernel
theorem dX1_findDeterminants_20 : decode cX1_findDeterminants 20 = .ok (.ifCond .ne 7, 3) := by decide +kernel
theorem dX1_findDeterminants_23 : decode cX1_findDeterminants 23 = .ok (.lconst 1, 1) := by decide +kernel
theorem dX1_findDeterminants_24 : decode cX1_findDeterminants 24 = .ok (.goto 15, 3) := by decide +kernel
theorem dX1_findDeterminants_39 : decode cX1_findDeterminants 39 = .ok (.lastore, 1) := by decide +kernel
theorem dX1_findDeterminants_40 : decode cX1_findDeterminants 40 = .ok (.iload_n 3, 1) := by decide +kernel
theorem dX1_findDeterminants_41 : decode cX1_findDeterminants 41 = .ok (.iload_n 1, 1) := by decide +kernel
theorem dX1_findDeterminants_42 : decode cX1_findDeterminants 42 = .ok (.if_icmp .ge 65, 3) := by decide +kernel
theorem dX1_findDeterminants_107 : decode cX1_findDeterminants 107 = .ok (.iinc 2 1, 3) := by decide +kernel
theorem dX1_findDeterminants_110 : decode cX1_findDeterminants 110 = .ok (.goto (-108), 3) := by decide +kernel
theorem dX1_findDeterminants_113 : decode cX1_findDeterminants 113 = .ok (.return_, 1) := by decide +kernel
theorem dX1_findPulls_86 : decode cX1_findPulls 86 = .ok (.aload_n 0, 1) := by decide +kernel
theorem dX1_findPulls_87 : decode cX1_findPulls 87 = .ok (.getfield 31, 3) := by decide +kernel
theorem dX1_findPulls_90 : decode cX1_findPulls 90 = .ok (.iconst 1, 1) := by decide +kernel
theorem dX1_findPulls_91 : decode cX1_findPulls 91 = .ok (.iload_n 2, 1) := by decide +kernel
theorem dX1_findPulls_92 : decode cX1_findPulls 92 = .ok (.ishl, 1) := by decide +kernel
theorem dX1_findPulls_93 : decode cX1_findPulls 93 = .ok (.iconst 1, 1) := by decide +kernel
theorem dX1_findPulls_94 : decode cX1_findPulls 94 = .ok (.isub, 1) := by decide +kernel
theorem dX1_findPulls_95 : decode cX1_findPulls 95 = .ok (.laload, 1) := by decide +kernel
theorem dX1_findPulls_96 : decode cX1_findPulls 96 = .ok (.lstore_n 3, 1) := by decide +kernel
theorem dX1_findPulls_97 : decode cX1_findPulls 97 = .ok (.lload_n 3, 1) := by decide +kernel
theorem dX1_findPulls_98 : decode cX1_findPulls 98 = .ok (.lconst 0, 1) := by decide +kernel
theorem dX1_findPulls_99 : decode cX1_findPulls 99 = .ok (.lcmp, 1) := by decide +kernel
theorem dX1_findPulls_100 : decode cX1_findPulls 100 = .ok (.ifCond .ne 6, 3) := by decide +kernel
theorem dX1_findPulls_106 : decode cX1_findPulls 106 = .ok (.aload_n 0, 1) := by decide +kernel
theorem dX1_findPulls_107 : decode cX1_findPulls 107 = .ok (.lload_n 3, 1) := by decide +kernel
theorem dX1_findPulls_108 : decode cX1_findPulls 108 = .ok (.invokestatic 98, 3) := by decide +kernel
theorem dX1_findPulls_111 : decode cX1_findPulls 111 = .ok (.putfield 104, 3) := by decide +kernel
theorem dX1_findPulls_114 : decode cX1_findPulls 114 = .ok (.iconst 0, 1) := by decide +kernel
theorem dX1_findPulls_115 : decode cX1_findPulls 115 = .ok (.istore 5, 2) := by decide +kernel
theorem dX1_findPulls_117 : decode cX1_findPulls 117 = .ok (.iload 5, 2) := by decide +kernel
theorem dX1_findPulls_119 : decode cX1_findPulls 119 = .ok (.iload_n 2, 1) := by decide +kernel
theorem dX1_findPulls_120 : decode cX1_findPulls 120 = .ok (.if_icmp .ge 59, 3) := by decide +kernel
theorem dX1_findPulls_179 : decode cX1_findPulls 179 = .ok (.bipush 46, 2) := by decide +kernel
theorem dX1_findPulls_181 : decode cX1_findPulls 181 = .ok (.ireturn, 1) := by decide +kernel
theorem dX1_find_14 : decode cX1_find 14 = .ok (.putfield 67, 3) := by decide +kernel
theorem dX1_find_17 : decode cX1_find 17 = .ok (.aload_n 0, 1) := by decide +kernel
theorem dX1_find_18 : decode cX1_find 18 = .ok (.getfield 67, 3) := by decide +kernel
theorem dX1_find_21 : decode cX1_find 21 = .ok (.bipush 46, 2) := by decide +kernel
theorem dX1_find_23 : decode cX1_find 23 = .ok (.if_icmp .ne 13, 3) := by decide +kernel
theorem dX1_find_26 : decode cX1_find 26 = .ok (.aload_n 0, 1) := by decide +kernel
theorem dX1_find_27 : decode cX1_find 27 = .ok (.aload_n 1, 1) := by decide +kernel
theorem dX1_find_28 : decode cX1_find 28 = .ok (.invokevirtual 71, 3) := by decide +kernel
theorem dX1_findBearings_0 : decode cX1_findBearings 0 = .ok (.iconst 0, 1) := by decide +kernel
theorem dX1_findBearings_1 : decode cX1_findBearings 1 = .ok (.istore_n 2, 1) := by decide +kernel
theorem dX1_findBearings_2 : decode cX1_findBearings 2 = .ok (.iload_n 2, 1) := by decide +kernel
theorem dX1_findBearings_3 : decode cX1_findBearings 3 = .ok (.iconst 2, 1) := by decide +kernel
theorem dX1_findBearings_4 : decode cX1_findBearings 4 = .ok (.aload_n 1, 1) := by decide +kernel
theorem dX1_findBearings_5 : decode cX1_findBearings 5 = .ok (.getfield 78, 3) := by decide +kernel
theorem dX1_findBearings_8 : decode cX1_findBearings 8 = .ok (.imul, 1) := by decide +kernel
theorem dX1_findBearings_9 : decode cX1_findBearings 9 = .ok (.if_icmp .ge 135, 3) := by decide +kernel
theorem dX1_findBearings_144 : decode cX1_findBearings 144 = .ok (.return_, 1) := by decide +kernel
theorem dX1_find_31 : decode cX1_find 31 = .ok (.aload_n 0, 1) := by decide +kernel
theorem dX1_find_32 : decode cX1_find 32 = .ok (.aload_n 1, 1) := by decide +kernel
theorem dX1_find_33 : decode cX1_find 33 = .ok (.invokevirtual 75, 3) := by decide +kernel
theorem dX1_findAmounts_0 : decode cX1_findAmounts 0 = .ok (.aload_n 0, 1) := by decide +kernel
theorem dX1_findAmounts_1 : decode cX1_findAmounts 1 = .ok (.getfield 47, 3) := by decide +kernel
theorem dX1_findAmounts_4 : decode cX1_findAmounts 4 = .ok (.aload_n 0, 1) := by decide +kernel
theorem dX1_findAmounts_5 : decode cX1_findAmounts 5 = .ok (.getfield 104, 3) := by decide +kernel
theorem dX1_findAmounts_8 : decode cX1_findAmounts 8 = .ok (.invokevirtual 141, 3) := by decide +kernel
theorem dX5_set_0 : decode cX5_set 0 = .ok (.iconst 2, 1) := by decide +kernel
theorem dX5_set_1 : decode cX5_set 1 = .ok (.istore_n 3, 1) := by decide +kernel
theorem dX5_set_2 : decode cX5_set 2 = .ok (.iload_n 3, 1) := by decide +kernel
theorem dX5_set_3 : decode cX5_set 3 = .ok (.bipush 8, 2) := by decide +kernel
theorem dX5_set_5 : decode cX5_set 5 = .ok (.if_icmp .ge 16, 3) := by decide +kernel
theorem dX5_set_8 : decode cX5_set 8 = .ok (.aload_n 0, 1) := by decide +kernel
theorem dX5_set_9 : decode cX5_set 9 = .ok (.getfield 9, 3) := by decide +kernel
theorem dX5_set_12 : decode cX5_set 12 = .ok (.iload_n 3, 1) := by decide +kernel
theorem dX5_set_13 : decode cX5_set 13 = .ok (.lconst 0, 1) := by decide +kernel
theorem dX5_set_14 : decode cX5_set 14 = .ok (.lastore, 1) := by decide +kernel
theorem dX5_set_15 : decode cX5_set 15 = .ok (.iinc 3 1, 3) := by decide +kernel
theorem dX5_set_18 : decode cX5_set 18 = .ok (.goto (-16), 3) := by decide +kernel
theorem dX5_set_21 : decode cX5_set 21 = .ok (.aload_n 0, 1) := by decide +kernel
theorem dX5_set_22 : decode cX5_set 22 = .ok (.getfield 9, 3) := by decide +kernel
theorem dX5_set_25 : decode cX5_set 25 = .ok (.iconst 0, 1) := by decide +kernel
theorem dX5_set_26 : decode cX5_set 26 = .ok (.lload_n 1, 1) := by decide +kernel
theorem dX5_set_27 : decode cX5_set 27 = .ok (.ldc2_w 13, 3) := by decide +kernel
theorem dX5_set_30 : decode cX5_set 30 = .ok (.land, 1) := by decide +kernel
theorem dX5_set_31 : decode cX5_set 31 = .ok (.lastore, 1) := by decide +kernel
theorem dX5_set_32 : decode cX5_set 32 = .ok (.aload_n 0, 1) := by decide +kernel
theorem dX5_set_33 : decode cX5_set 33 = .ok (.getfield 9, 3) := by decide +kernel
theorem dX5_set_36 : decode cX5_set 36 = .ok (.iconst 1, 1) := by decide +kernel
theorem dX5_set_37 : decode cX5_set 37 = .ok (.lload_n 1, 1) := by decide +kernel
theorem dX5_set_38 : decode cX5_set 38 = .ok (.bipush 32, 2) := by decide +kernel
theorem dX5_set_40 : decode cX5_set 40 = .ok (.lushr, 1) := by decide +kernel
theorem dX5_set_41 : decode cX5_set 41 = .ok (.lastore, 1) := by decide +kernel
theorem dX5_set_42 : decode cX5_set 42 = .ok (.return_, 1) := by decide +kernel
theorem dX1_findAmounts_11 : decode cX1_findAmounts 11 = .ok (.iconst 0, 1) := by decide +kernel
theorem dX1_findAmounts_12 : decode cX1_findAmounts 12 = .ok (.istore_n 2, 1) := by decide +kernel
theorem dX1_findAmounts_13 : decode cX1_findAmounts 13 = .ok (.iload_n 2, 1) := by decide +kernel
theorem dX1_findAmounts_14 : decode cX1_findAmounts 14 = .ok (.aload_n 1, 1) := by decide +kernel
theorem dX1_findAmounts_15 : decode cX1_findAmounts 15 = .ok (.getfield 88, 3) := by decide +kernel
theorem dX1_findAmounts_18 : decode cX1_findAmounts 18 = .ok (.if_icmp .ge 80, 3) := by decide +kernel
theorem dX1_findAmounts_98 : decode cX1_findAmounts 98 = .ok (.return_, 1) := by decide +kernel
theorem dX1_find_36 : decode cX1_find 36 = .ok (.aload_n 0, 1) := by decide +kernel
theorem dX1_find_37 : decode cX1_find 37 = .ok (.iconst 1, 1) := by decide +kernel
theorem dX1_find_38 : decode cX1_find 38 = .ok (.putfield 59, 3) := by decide +kernel
theorem dX1_find_41 : decode cX1_find 41 = .ok (.return_, 1) := by decide +kernel
theorem dX6_state_11 : decode cX6_state 11 = .ok (.aload_n 0, 1) := by decide +kernel
theorem dX6_state_12 : decode cX6_state 12 = .ok (.getfield 19, 3) := by decide +kernel
theorem dX6_state_15 : decode cX6_state 15 = .ok (.getfield 114, 3) := by decide +kernel
theorem dX6_state_18 : decode cX6_state 18 = .ok (.ireturn, 1) := by decide +kernel
theorem dL_law_450 : decode cL_law 450 = .ok (.aload_n 2, 1) := by decide +kernel
theorem dL_law_451 : decode cL_law 451 = .ok (.invokevirtual 140, 3) := by decide +kernel
theorem dX12_state_0 : decode cX12_state 0 = .ok (.aload_n 0, 1) := by decide +kernel
theorem dX12_state_1 : decode cX12_state 1 = .ok (.invokevirtual 166, 3) := by decide +kernel
theorem dX12_reckons_0 : decode cX12_reckons 0 = .ok (.aload_n 0, 1) := by decide +kernel
theorem dX12_reckons_1 : decode cX12_reckons 1 = .ok (.getfield 77, 3) := by decide +kernel
theorem dX12_reckons_4 : decode cX12_reckons 4 = .ok (.ifCond .eq 4, 3) := by decide +kernel
theorem dX12_reckons_8 : decode cX12_reckons 8 = .ok (.aload_n 0, 1) := by decide +kernel
theorem dX12_reckons_9 : decode cX12_reckons 9 = .ok (.iconst 1, 1) := by decide +kernel
theorem dX12_reckons_10 : decode cX12_reckons 10 = .ok (.putfield 77, 3) := by decide +kernel
theorem dX12_reckons_13 : decode cX12_reckons 13 = .ok (.aload_n 0, 1) := by decide +kernel
theorem dX12_reckons_14 : decode cX12_reckons 14 = .ok (.iconst 0, 1) := by decide +kernel
theorem dX12_reckons_15 : decode cX12_reckons 15 = .ok (.putfield 151, 3) := by decide +kernel
theorem dX12_reckons_18 : decode cX12_reckons 18 = .ok (.aload_n 0, 1) := by decide +kernel
theorem dX12_reckons_19 : decode cX12_reckons 19 = .ok (.invokevirtual 154, 3) := by decide +kernel
theorem dX12_unknowns_0 : decode cX12_unknowns 0 = .ok (.aload_n 0, 1) := by decide +kernel
theorem dX12_unknowns_1 : decode cX12_unknowns 1 = .ok (.getfield 16, 3) := by decide +kernel
theorem dX12_unknowns_4 : decode cX12_unknowns 4 = .ok (.invokevirtual 125, 3) := by decide +kernel
theorem dX12_unknowns_7 : decode cX12_unknowns 7 = .ok (.istore_n 1, 1) := by decide +kernel
theorem dX12_unknowns_8 : decode cX12_unknowns 8 = .ok (.iconst 0, 1) := by decide +kernel
theorem dX12_unknowns_9 : decode cX12_unknowns 9 = .ok (.istore_n 2, 1) := by decide +kernel
theorem dX12_unknowns_10 : decode cX12_unknowns 10 = .ok (.iload_n 2, 1) := by decide +kernel
theorem dX12_unknowns_11 : decode cX12_unknowns 11 = .ok (.aload_n 0, 1) := by decide +kernel
theorem dX12_unknowns_12 : decode cX12_unknowns 12 = .ok (.getfield 10, 3) := by decide +kernel
theorem dX12_unknowns_15 : decode cX12_unknowns 15 = .ok (.invokevirtual 125, 3) := by decide +kernel
theorem dX12_unknowns_18 : decode cX12_unknowns 18 = .ok (.if_icmp .ge 59, 3) := by decide +kernel
theorem dX12_unknowns_77 : decode cX12_unknowns 77 = .ok (.iload_n 1, 1) := by decide +kernel
theorem dX12_unknowns_78 : decode cX12_unknowns 78 = .ok (.ireturn, 1) := by decide +kernel
theorem dX12_reckons_22 : decode cX12_reckons 22 = .ok (.iconst 2, 1) := by decide +kernel
theorem dX12_reckons_23 : decode cX12_reckons 23 = .ok (.aload_n 0, 1) := by decide +kernel
theorem dX12_reckons_24 : decode cX12_reckons 24 = .ok (.getfield 10, 3) := by decide +kernel
theorem dX12_reckons_27 : decode cX12_reckons 27 = .ok (.invokevirtual 125, 3) := by decide +kernel
theorem dX12_reckons_30 : decode cX12_reckons 30 = .ok (.imul, 1) := by decide +kernel
theorem dX12_reckons_31 : decode cX12_reckons 31 = .ok (.isub, 1) := by decide +kernel
theorem dX12_reckons_32 : decode cX12_reckons 32 = .ok (.istore_n 1, 1) := by decide +kernel
theorem dX12_reckons_33 : decode cX12_reckons 33 = .ok (.aload_n 0, 1) := by decide +kernel
theorem dX12_reckons_34 : decode cX12_reckons 34 = .ok (.iload_n 1, 1) := by decide +kernel
theorem dX12_reckons_35 : decode cX12_reckons 35 = .ok (.ifCond .ge 8, 3) := by decide +kernel
theorem dX12_reckons_43 : decode cX12_reckons 43 = .ok (.iload_n 1, 1) := by decide +kernel
theorem dX12_reckons_44 : decode cX12_reckons 44 = .ok (.ifCond .le 8, 3) := by decide +kernel
theorem dX12_reckons_52 : decode cX12_reckons 52 = .ok (.bipush 46, 2) := by decide +kernel
theorem dX12_reckons_54 : decode cX12_reckons 54 = .ok (.putfield 157, 3) := by decide +kernel
theorem dX12_reckons_57 : decode cX12_reckons 57 = .ok (.aload_n 0, 1) := by decide +kernel
theorem dX12_reckons_58 : decode cX12_reckons 58 = .ok (.getfield 157, 3) := by decide +kernel
theorem dX12_reckons_61 : decode cX12_reckons 61 = .ok (.bipush 46, 2) := by decide +kernel
theorem dX12_reckons_63 : decode cX12_reckons 63 = .ok (.if_icmp .eq 4, 3) := by decide +kernel
theorem dX12_reckons_67 : decode cX12_reckons 67 = .ok (.aload_n 0, 1) := by decide +kernel
theorem dX12_reckons_68 : decode cX12_reckons 68 = .ok (.aload_n 0, 1) := by decide +kernel
theorem dX12_reckons_69 : decode cX12_reckons 69 = .ok (.iconst (-1), 1) := by decide +kernel
theorem dX12_reckons_70 : decode cX12_reckons 70 = .ok (.invokevirtual 160, 3) := by decide +kernel
theorem dX12_determinant_0 : decode cX12_determinant 0 = .ok (.aload_n 0, 1) := by decide +kernel
theorem dX12_determinant_1 : decode cX12_determinant 1 = .ok (.getfield 16, 3) := by decide +kernel
theorem dX12_determinant_4 : decode cX12_determinant 4 = .ok (.invokevirtual 125, 3) := by decide +kernel
theorem dX12_determinant_7 : decode cX12_determinant 7 = .ok (.istore_n 2, 1) := by decide +kernel
theorem dX12_determinant_8 : decode cX12_determinant 8 = .ok (.iconst 0, 1) := by decide +kernel
theorem dX12_determinant_9 : decode cX12_determinant 9 = .ok (.istore_n 3, 1) := by decide +kernel
theorem dX12_determinant_10 : decode cX12_determinant 10 = .ok (.iload_n 3, 1) := by decide +kernel
theorem dX12_determinant_11 : decode cX12_determinant 11 = .ok (.iconst 1, 1) := by decide +kernel
theorem dX12_determinant_12 : decode cX12_determinant 12 = .ok (.iload_n 2, 1) := by decide +kernel
theorem dX12_determinant_13 : decode cX12_determinant 13 = .ok (.ishl, 1) := by decide +kernel
theorem dX12_determinant_14 : decode cX12_determinant 14 = .ok (.if_icmp .ge 16, 3) := by decide +kernel
theorem dX12_determinant_17 : decode cX12_determinant 17 = .ok (.aload_n 0, 1) := by decide +kernel
theorem dX12_determinant_18 : decode cX12_determinant 18 = .ok (.getfield 25, 3) := by decide +kernel
theorem dX12_determinant_21 : decode cX12_determinant 21 = .ok (.iload_n 3, 1) := by decide +kernel
theorem dX12_determinant_22 : decode cX12_determinant 22 = .ok (.lconst 0, 1) := by decide +kernel
theorem dX12_determinant_23 : decode cX12_determinant 23 = .ok (.lastore, 1) := by decide +kernel
theorem dX12_determinant_24 : decode cX12_determinant 24 = .ok (.iinc 3 1, 3) := by decide +kernel
theorem dX12_determinant_27 : decode cX12_determinant 27 = .ok (.goto (-17), 3) := by decide +kernel
theorem dX12_determinant_30 : decode cX12_determinant 30 = .ok (.aload_n 0, 1) := by decide +kernel
theorem dX12_determinant_31 : decode cX12_determinant 31 = .ok (.getfield 25, 3) := by decide +kernel
theorem dX12_determinant_34 : decode cX12_determinant 34 = .ok (.iconst 0, 1) := by decide +kernel
theorem dX12_determinant_35 : decode cX12_determinant 35 = .ok (.lconst 1, 1) := by decide +kernel
theorem dX12_determinant_36 : decode cX12_determinant 36 = .ok (.lastore, 1) := by decide +kernel
theorem dX12_determinant_37 : decode cX12_determinant 37 = .ok (.iconst 0, 1) := by decide +kernel
theorem dX12_determinant_38 : decode cX12_determinant 38 = .ok (.istore_n 3, 1) := by decide +kernel
theorem dX12_determinant_39 : decode cX12_determinant 39 = .ok (.iconst 0, 1) := by decide +kernel
theorem dX12_determinant_40 : decode cX12_determinant 40 = .ok (.istore 4, 2) := by decide +kernel
theorem dX12_determinant_42 : decode cX12_determinant 42 = .ok (.iload 4, 2) := by decide +kernel
theorem dX12_determinant_44 : decode cX12_determinant 44 = .ok (.iconst 2, 1) := by decide +kernel
theorem dX12_determinant_45 : decode cX12_determinant 45 = .ok (.aload_n 0, 1) := by decide +kernel
theorem dX12_determinant_46 : decode cX12_determinant 46 = .ok (.getfield 10, 3) := by decide +kernel
theorem dX12_determinant_49 : decode cX12_determinant 49 = .ok (.invokevirtual 125, 3) := by decide +kernel
theorem dX12_determinant_52 : decode cX12_determinant 52 = .ok (.imul, 1) := by decide +kernel
theorem dX12_determinant_53 : decode cX12_determinant 53 = .ok (.if_icmp .ge 84, 3) := by decide +kernel
theorem dX12_determinant_137 : decode cX12_determinant 137 = .ok (.aload_n 0, 1) := by decide +kernel
theorem dX12_determinant_138 : decode cX12_determinant 138 = .ok (.getfield 25, 3) := by decide +kernel
theorem dX12_determinant_141 : decode cX12_determinant 141 = .ok (.iconst 1, 1) := by decide +kernel
theorem dX12_determinant_142 : decode cX12_determinant 142 = .ok (.iload_n 2, 1) := by decide +kernel
theorem dX12_determinant_143 : decode cX12_determinant 143 = .ok (.ishl, 1) := by decide +kernel
theorem dX12_determinant_144 : decode cX12_determinant 144 = .ok (.iconst 1, 1) := by decide +kernel
theorem dX12_determinant_145 : decode cX12_determinant 145 = .ok (.isub, 1) := by decide +kernel
theorem dX12_determinant_146 : decode cX12_determinant 146 = .ok (.laload, 1) := by decide +kernel
theorem dX12_determinant_147 : decode cX12_determinant 147 = .ok (.lreturn, 1) := by decide +kernel
theorem dX12_reckons_73 : decode cX12_reckons 73 = .ok (.putfield 163, 3) := by decide +kernel
theorem dX12_reckons_76 : decode cX12_reckons 76 = .ok (.aload_n 0, 1) := by decide +kernel
theorem dX12_reckons_77 : decode cX12_reckons 77 = .ok (.getfield 163, 3) := by decide +kernel
theorem dX12_reckons_80 : decode cX12_reckons 80 = .ok (.lconst 0, 1) := by decide +kernel
theorem dX12_reckons_81 : decode cX12_reckons 81 = .ok (.lcmp, 1) := by decide +kernel
theorem dX12_reckons_82 : decode cX12_reckons 82 = .ok (.ifCond .ne 9, 3) := by decide +kernel
theorem dX12_reckons_91 : decode cX12_reckons 91 = .ok (.iconst 0, 1) := by decide +kernel
theorem dX12_reckons_92 : decode cX12_reckons 92 = .ok (.istore_n 2, 1) := by decide +kernel
theorem dX12_reckons_93 : decode cX12_reckons 93 = .ok (.iload_n 2, 1) := by decide +kernel
theorem dX12_reckons_94 : decode cX12_reckons 94 = .ok (.aload_n 0, 1) := by decide +kernel
theorem dX12_reckons_95 : decode cX12_reckons 95 = .ok (.getfield 16, 3) := by decide +kernel
theorem dX12_reckons_98 : decode cX12_reckons 98 = .ok (.invokevirtual 125, 3) := by decide +kernel
theorem dX12_reckons_101 : decode cX12_reckons 101 = .ok (.if_icmp .ge 29, 3) := by decide +kernel
theorem dX12_reckons_130 : decode cX12_reckons 130 = .ok (.iconst 0, 1) := by decide +kernel
theorem dX12_reckons_131 : decode cX12_reckons 131 = .ok (.istore_n 2, 1) := by decide +kernel
theorem dX12_reckons_132 : decode cX12_reckons 132 = .ok (.iload_n 2, 1) := by decide +kernel
theorem dX12_reckons_133 : decode cX12_reckons 133 = .ok (.aload_n 0, 1) := by decide +kernel
theorem dX12_reckons_134 : decode cX12_reckons 134 = .ok (.getfield 16, 3) := by decide +kernel
theorem dX12_reckons_137 : decode cX12_reckons 137 = .ok (.invokevirtual 125, 3) := by decide +kernel
theorem dX12_reckons_140 : decode cX12_reckons 140 = .ok (.if_icmp .ge 31, 3) := by decide +kernel
theorem dX12_reckons_171 : decode cX12_reckons 171 = .ok (.aload_n 0, 1) := by decide +kernel
theorem dX12_reckons_172 : decode cX12_reckons 172 = .ok (.aload_n 0, 1) := by decide +kernel
theorem dX12_reckons_173 : decode cX12_reckons 173 = .ok (.getfield 163, 3) := by decide +kernel
theorem dX12_reckons_176 : decode cX12_reckons 176 = .ok (.lconst 0, 1) := by decide +kernel
theorem dX12_reckons_177 : decode cX12_reckons 177 = .ok (.lcmp, 1) := by decide +kernel
theorem dX12_reckons_178 : decode cX12_reckons 178 = .ok (.ifCond .ge 11, 3) := by decide +kernel
theorem dX12_reckons_189 : decode cX12_reckons 189 = .ok (.aload_n 0, 1) := by decide +kernel
theorem dX12_reckons_190 : decode cX12_reckons 190 = .ok (.getfield 163, 3) := by decide +kernel
theorem dX12_reckons_193 : decode cX12_reckons 193 = .ok (.putfield 163, 3) := by decide +kernel
theorem dX12_reckons_196 : decode cX12_reckons 196 = .ok (.return_, 1) := by decide +kernel
theorem dX12_state_4 : decode cX12_state 4 = .ok (.aload_n 0, 1) := by decide +kernel
theorem dX12_state_5 : decode cX12_state 5 = .ok (.iconst 0, 1) := by decide +kernel
theorem dX12_state_6 : decode cX12_state 6 = .ok (.putfield 74, 3) := by decide +kernel
theorem dX12_state_9 : decode cX12_state 9 = .ok (.aload_n 0, 1) := by decide +kernel
theorem dX12_state_10 : decode cX12_state 10 = .ok (.getfield 157, 3) := by decide +kernel
theorem dX12_state_13 : decode cX12_state 13 = .ok (.ireturn, 1) := by decide +kernel
theorem dL_law_454 : decode cL_law 454 = .ok (.if_icmp .eq 1509, 3) := by decide +kernel
theorem dL_law_459 : decode cL_law 459 = .ok (.aload_n 1, 1) := by decide +kernel
theorem dL_law_460 : decode cL_law 460 = .ok (.aload_n 0, 1) := by decide +kernel
theorem dL_law_461 : decode cL_law 461 = .ok (.iload 5, 2) := by decide +kernel
theorem dL_law_463 : decode cL_law 463 = .ok (.iconst 1, 1) := by decide +kernel
theorem dL_law_464 : decode cL_law 464 = .ok (.iadd, 1) := by decide +kernel
theorem dL_law_465 : decode cL_law 465 = .ok (.iaload, 1) := by decide +kernel
theorem dL_law_466 : decode cL_law 466 = .ok (.aload_n 3, 1) := by decide +kernel
theorem dL_law_467 : decode cL_law 467 = .ok (.invokestatic 141, 3) := by decide +kernel
theorem dL_force_0 : decode cL_force 0 = .ok (.aload_n 2, 1) := by decide +kernel
theorem dL_force_1 : decode cL_force 1 = .ok (.iconst 0, 1) := by decide +kernel
theorem dL_force_2 : decode cL_force 2 = .ok (.aload_n 0, 1) := by decide +kernel
theorem dL_force_3 : decode cL_force 3 = .ok (.iload_n 1, 1) := by decide +kernel
theorem dL_force_4 : decode cL_force 4 = .ok (.invokevirtual 27, 3) := by decide +kernel
theorem dX6_force_0 : decode cX6_force 0 = .ok (.aload_n 0, 1) := by decide +kernel
theorem dX6_force_1 : decode cX6_force 1 = .ok (.iload_n 1, 1) := by decide +kernel
theorem dX6_force_2 : decode cX6_force 2 = .ok (.invokevirtual 118, 3) := by decide +kernel
theorem dX6_checkMember_0 : decode cX6_checkMember 0 = .ok (.iload_n 1, 1) := by decide +kernel
theorem dX6_checkMember_1 : decode cX6_checkMember 1 = .ok (.ifCond .lt 14, 3) := by decide +kernel
theorem dX6_checkMember_15 : decode cX6_checkMember 15 = .ok (.new 228, 3) := by decide +kernel
theorem dX6_checkMember_18 : decode cX6_checkMember 18 = .ok (.dup, 1) := by decide +kernel
theorem dX6_checkMember_19 : decode cX6_checkMember 19 = .ok (.ldc_w 282, 3) := by decide +kernel
theorem dX6_checkMember_22 : decode cX6_checkMember 22 = .ok (.invokespecial 232, 3) := by decide +kernel
theorem dX6_checkMember_25 : decode cX6_checkMember 25 = .ok (.athrow, 1) := by decide +kernel
theorem dL_force_11 : decode cL_force 11 = .ok (.astore_n 3, 1) := by decide +kernel
theorem dL_force_12 : decode cL_force 12 = .ok (.iconst 1, 1) := by decide +kernel
theorem dL_force_13 : decode cL_force 13 = .ok (.ireturn, 1) := by decide +kernel
theorem dL_law_470 : decode cL_law 470 = .ok (.istore 6, 2) := by decide +kernel
theorem dL_law_472 : decode cL_law 472 = .ok (.aload_n 2, 1) := by decide +kernel
theorem dL_law_473 : decode cL_law 473 = .ok (.aload_n 0, 1) := by decide +kernel
theorem dL_law_474 : decode cL_law 474 = .ok (.iload 5, 2) := by decide +kernel
theorem dL_law_476 : decode cL_law 476 = .ok (.iconst 1, 1) := by decide +kernel
theorem dL_law_477 : decode cL_law 477 = .ok (.iadd, 1) := by decide +kernel
theorem dL_law_478 : decode cL_law 478 = .ok (.iaload, 1) := by decide +kernel
theorem dL_law_479 : decode cL_law 479 = .ok (.invokevirtual 144, 3) := by decide +kernel
theorem dX12_force_0 : decode cX12_force 0 = .ok (.aload_n 0, 1) := by decide +kernel
theorem dX12_force_1 : decode cX12_force 1 = .ok (.iload_n 1, 1) := by decide +kernel
theorem dX12_force_2 : decode cX12_force 2 = .ok (.invokevirtual 314, 3) := by decide +kernel
theorem dX12_isMember_0 : decode cX12_isMember 0 = .ok (.iload_n 1, 1) := by decide +kernel
theorem dX12_isMember_1 : decode cX12_isMember 1 = .ok (.i2l, 1) := by decide +kernel
theorem dX12_isMember_2 : decode cX12_isMember 2 = .ok (.iconst 0, 1) := by decide +kernel
theorem dX12_isMember_3 : decode cX12_isMember 3 = .ok (.aload_n 0, 1) := by decide +kernel
theorem dX12_isMember_4 : decode cX12_isMember 4 = .ok (.getfield 16, 3) := by decide +kernel
theorem dX12_isMember_7 : decode cX12_isMember 7 = .ok (.invokevirtual 125, 3) := by decide +kernel
theorem dX12_isMember_10 : decode cX12_isMember 10 = .ok (.iconst 1, 1) := by decide +kernel
theorem dX12_isMember_11 : decode cX12_isMember 11 = .ok (.isub, 1) := by decide +kernel
theorem dX12_isMember_12 : decode cX12_isMember 12 = .ok (.invokestatic 285, 3) := by decide +kernel
theorem dX12_isMember_15 : decode cX12_isMember 15 = .ok (.ireturn, 1) := by decide +kernel
theorem dX12_force_5 : decode cX12_force 5 = .ok (.ifCond .ne 9, 3) := by decide +kernel
theorem dX12_force_8 : decode cX12_force 8 = .ok (.aload_n 0, 1) := by decide +kernel
theorem dX12_force_9 : decode cX12_force 9 = .ok (.iconst 1, 1) := by decide +kernel
theorem dX12_force_10 : decode cX12_force 10 = .ok (.invokevirtual 317, 3) := by decide +kernel
theorem dX12_failsLong_0 : decode cX12_failsLong 0 = .ok (.aload_n 0, 1) := by decide +kernel
theorem dX12_failsLong_1 : decode cX12_failsLong 1 = .ok (.iload_n 1, 1) := by decide +kernel
theorem dX12_failsLong_2 : decode cX12_failsLong 2 = .ok (.putfield 74, 3) := by decide +kernel
theorem dX12_failsLong_5 : decode cX12_failsLong 5 = .ok (.lconst 0, 1) := by decide +kernel
theorem dX12_failsLong_6 : decode cX12_failsLong 6 = .ok (.lreturn, 1) := by decide +kernel
theorem dX12_force_13 : decode cX12_force 13 = .ok (.lreturn, 1) := by decide +kernel
theorem dL_law_482 : decode cL_law 482 = .ok (.lstore 7, 2) := by decide +kernel
theorem dL_law_484 : decode cL_law 484 = .ok (.aload_n 2, 1) := by decide +kernel
theorem dL_law_485 : decode cL_law 485 = .ok (.invokevirtual 125, 3) := by decide +kernel
theorem dL_law_488 : decode cL_law 488 = .ok (.iload 6, 2) := by decide +kernel
theorem dL_law_490 : decode cL_law 490 = .ok (.if_icmp .eq 5, 3) := by decide +kernel
theorem dL_law_495 : decode cL_law 495 = .ok (.iload 6, 2) := by decide +kernel
theorem dL_law_497 : decode cL_law 497 = .ok (.ifCond .ne 14, 3) := by decide +kernel
theorem dL_law_511 : decode cL_law 511 = .ok (.goto 1452, 3) := by decide +kernel
theorem dX6_checkMember_4 : decode cX6_checkMember 4 = .ok (.iload_n 1, 1) := by decide +kernel
theorem dX6_checkMember_5 : decode cX6_checkMember 5 = .ok (.aload_n 0, 1) := by decide +kernel
theorem dX6_checkMember_6 : decode cX6_checkMember 6 = .ok (.getfield 12, 3) := by decide +kernel
theorem dX6_checkMember_9 : decode cX6_checkMember 9 = .ok (.getfield 93, 3) := by decide +kernel
theorem dX6_checkMember_12 : decode cX6_checkMember 12 = .ok (.if_icmp .lt 14, 3) := by decide +kernel
theorem dL_law_514 : decode cL_law 514 = .ok (.aload_n 1, 1) := by decide +kernel
theorem dL_law_515 : decode cL_law 515 = .ok (.aload_n 0, 1) := by decide +kernel
theorem dL_law_516 : decode cL_law 516 = .ok (.iload 5, 2) := by decide +kernel
theorem dL_law_518 : decode cL_law 518 = .ok (.iconst 1, 1) := by decide +kernel
theorem dL_law_519 : decode cL_law 519 = .ok (.iadd, 1) := by decide +kernel
theorem dL_law_520 : decode cL_law 520 = .ok (.iaload, 1) := by decide +kernel
theorem dL_law_521 : decode cL_law 521 = .ok (.aload_n 3, 1) := by decide +kernel
theorem dL_law_522 : decode cL_law 522 = .ok (.invokestatic 145, 3) := by decide +kernel
theorem dL_pull_0 : decode cL_pull 0 = .ok (.aload_n 2, 1) := by decide +kernel
theorem dL_pull_1 : decode cL_pull 1 = .ok (.iconst 0, 1) := by decide +kernel
theorem dL_pull_2 : decode cL_pull 2 = .ok (.aload_n 0, 1) := by decide +kernel
theorem dL_pull_3 : decode cL_pull 3 = .ok (.iload_n 1, 1) := by decide +kernel
theorem dL_pull_4 : decode cL_pull 4 = .ok (.invokevirtual 31, 3) := by decide +kernel
theorem dX6_pull_0 : decode cX6_pull 0 = .ok (.aload_n 0, 1) := by decide +kernel
theorem dX6_pull_1 : decode cX6_pull 1 = .ok (.iload_n 1, 1) := by decide +kernel
theorem dX6_pull_2 : decode cX6_pull 2 = .ok (.invokevirtual 118, 3) := by decide +kernel
theorem dL_pull_11 : decode cL_pull 11 = .ok (.astore_n 3, 1) := by decide +kernel
theorem dL_pull_12 : decode cL_pull 12 = .ok (.iconst 1, 1) := by decide +kernel
theorem dL_pull_13 : decode cL_pull 13 = .ok (.ireturn, 1) := by decide +kernel
theorem dL_law_525 : decode cL_law 525 = .ok (.istore 6, 2) := by decide +kernel
theorem dL_law_527 : decode cL_law 527 = .ok (.aload_n 2, 1) := by decide +kernel
theorem dL_law_528 : decode cL_law 528 = .ok (.aload_n 0, 1) := by decide +kernel
theorem dL_law_529 : decode cL_law 529 = .ok (.iload 5, 2) := by decide +kernel
theorem dL_law_531 : decode cL_law 531 = .ok (.iconst 1, 1) := by decide +kernel
theorem dL_law_532 : decode cL_law 532 = .ok (.iadd, 1) := by decide +kernel
theorem dL_law_533 : decode cL_law 533 = .ok (.iaload, 1) := by decide +kernel
theorem dL_law_534 : decode cL_law 534 = .ok (.invokevirtual 147, 3) := by decide +kernel
theorem dX12_pull_0 : decode cX12_pull 0 = .ok (.aload_n 0, 1) := by decide +kernel
theorem dX12_pull_1 : decode cX12_pull 1 = .ok (.iload_n 1, 1) := by decide +kernel
theorem dX12_pull_2 : decode cX12_pull 2 = .ok (.invokevirtual 314, 3) := by decide +kernel
theorem dX12_pull_5 : decode cX12_pull 5 = .ok (.ifCond .ne 9, 3) := by decide +kernel
theorem dX12_pull_8 : decode cX12_pull 8 = .ok (.aload_n 0, 1) := by decide +kernel
theorem dX12_pull_9 : decode cX12_pull 9 = .ok (.iconst 1, 1) := by decide +kernel
theorem dX12_pull_10 : decode cX12_pull 10 = .ok (.invokevirtual 317, 3) := by decide +kernel
theorem dX12_pull_13 : decode cX12_pull 13 = .ok (.lreturn, 1) := by decide +kernel
theorem dL_law_537 : decode cL_law 537 = .ok (.lstore 7, 2) := by decide +kernel
theorem dL_law_539 : decode cL_law 539 = .ok (.aload_n 2, 1) := by decide +kernel
theorem dL_law_540 : decode cL_law 540 = .ok (.invokevirtual 125, 3) := by decide +kernel
theorem dL_law_543 : decode cL_law 543 = .ok (.iload 6, 2) := by decide +kernel
theorem dL_law_545 : decode cL_law 545 = .ok (.if_icmp .eq 5, 3) := by decide +kernel
theorem dL_law_550 : decode cL_law 550 = .ok (.iload 6, 2) := by decide +kernel
theorem dL_law_552 : decode cL_law 552 = .ok (.ifCond .ne 14, 3) := by decide +kernel
theorem dL_law_566 : decode cL_law 566 = .ok (.goto 1397, 3) := by decide +kernel
theorem dL_law_569 : decode cL_law 569 = .ok (.aload_n 1, 1) := by decide +kernel
theorem dL_law_570 : decode cL_law 570 = .ok (.aload_n 0, 1) := by decide +kernel
theorem dL_law_571 : decode cL_law 571 = .ok (.iload 5, 2) := by decide +kernel
theorem dL_law_573 : decode cL_law 573 = .ok (.iconst 1, 1) := by decide +kernel
theorem dL_law_574 : decode cL_law 574 = .ok (.iadd, 1) := by decide +kernel
theorem dL_law_575 : decode cL_law 575 = .ok (.iaload, 1) := by decide +kernel
theorem dL_law_576 : decode cL_law 576 = .ok (.aload_n 0, 1) := by decide +kernel
theorem dL_law_577 : decode cL_law 577 = .ok (.iload 5, 2) := by decide +kernel
theorem dL_law_579 : decode cL_law 579 = .ok (.iconst 2, 1) := by decide +kernel
theorem dL_law_580 : decode cL_law 580 = .ok (.iadd, 1) := by decide +kernel
theorem dL_law_581 : decode cL_law 581 = .ok (.iaload, 1) := by decide +kernel
theorem dL_law_582 : decode cL_law 582 = .ok (.ifCond .eq 7, 3) := by decide +kernel
theorem dL_law_589 : decode cL_law 589 = .ok (.iconst 0, 1) := by decide +kernel
theorem dL_law_590 : decode cL_law 590 = .ok (.aload_n 3, 1) := by decide +kernel
theorem dL_law_591 : decode cL_law 591 = .ok (.invokestatic 148, 3) := by decide +kernel
theorem dL_bearing_0 : decode cL_bearing 0 = .ok (.aload_n 3, 1) := by decide +kernel
theorem dL_bearing_1 : decode cL_bearing 1 = .ok (.iconst 0, 1) := by decide +kernel
theorem dL_bearing_2 : decode cL_bearing 2 = .ok (.aload_n 0, 1) := by decide +kernel
theorem dL_bearing_3 : decode cL_bearing 3 = .ok (.iload_n 1, 1) := by decide +kernel
theorem dL_bearing_4 : decode cL_bearing 4 = .ok (.iload_n 2, 1) := by decide +kernel
theorem dL_bearing_5 : decode cL_bearing 5 = .ok (.invokevirtual 34, 3) := by decide +kernel
theorem dX6_bearing_0 : decode cX6_bearing 0 = .ok (.aload_n 0, 1) := by decide +kernel
theorem dX6_bearing_1 : decode cX6_bearing 1 = .ok (.iload_n 1, 1) := by decide +kernel
theorem dX6_bearing_2 : decode cX6_bearing 2 = .ok (.invokevirtual 80, 3) := by decide +kernel
theorem dL_bearing_12 : decode cL_bearing 12 = .ok (.astore 4, 2) := by decide +kernel
theorem dL_bearing_14 : decode cL_bearing 14 = .ok (.iconst 1, 1) := by decide +kernel
theorem dL_bearing_15 : decode cL_bearing 15 = .ok (.ireturn, 1) := by decide +kernel
theorem dL_law_594 : decode cL_law 594 = .ok (.istore 6, 2) := by decide +kernel
theorem dL_law_596 : decode cL_law 596 = .ok (.aload_n 2, 1) := by decide +kernel
theorem dL_law_597 : decode cL_law 597 = .ok (.aload_n 0, 1) := by decide +kernel
theorem dL_law_598 : decode cL_law 598 = .ok (.iload 5, 2) := by decide +kernel
theorem dL_law_600 : decode cL_law 600 = .ok (.iconst 1, 1) := by decide +kernel
theorem dL_law_601 : decode cL_law 601 = .ok (.iadd, 1) := by decide +kernel
theorem dL_law_602 : decode cL_law 602 = .ok (.iaload, 1) := by decide +kernel
theorem dL_law_603 : decode cL_law 603 = .ok (.aload_n 0, 1) := by decide +kernel
theorem dL_law_604 : decode cL_law 604 = .ok (.iload 5, 2) := by decide +kernel
theorem dL_law_606 : decode cL_law 606 = .ok (.iconst 2, 1) := by decide +kernel
theorem dL_law_607 : decode cL_law 607 = .ok (.iadd, 1) := by decide +kernel
theorem dL_law_608 : decode cL_law 608 = .ok (.iaload, 1) := by decide +kernel
theorem dL_law_609 : decode cL_law 609 = .ok (.ifCond .eq 7, 3) := by decide +kernel
theorem dL_law_616 : decode cL_law 616 = .ok (.iconst 0, 1) := by decide +kernel
theorem dL_law_617 : decode cL_law 617 = .ok (.invokevirtual 151, 3) := by decide +kernel
theorem dX12_bearing_0 : decode cX12_bearing 0 = .ok (.aload_n 0, 1) := by decide +kernel
theorem dX12_bearing_1 : decode cX12_bearing 1 = .ok (.iload_n 1, 1) := by decide +kernel
theorem dX12_bearing_2 : decode cX12_bearing 2 = .ok (.invokevirtual 305, 3) := by decide +kernel
theorem dX12_bearing_5 : decode cX12_bearing 5 = .ok (.ifCond .ne 9, 3) := by decide +kernel
theorem dX12_bearing_8 : decode cX12_bearing 8 = .ok (.aload_n 0, 1) := by decide +kernel
theorem dX12_bearing_9 : decode cX12_bearing 9 = .ok (.iconst 1, 1) := by decide +kernel
theorem dX12_bearing_10 : decode cX12_bearing 10 = .ok (.invokevirtual 317, 3) := by decide +kernel
theorem dX12_bearing_13 : decode cX12_bearing 13 = .ok (.lreturn, 1) := by decide +kernel
theorem dL_law_620 : decode cL_law 620 = .ok (.lstore 7, 2) := by decide +kernel
theorem dL_law_622 : decode cL_law 622 = .ok (.aload_n 2, 1) := by decide +kernel
theorem dL_law_623 : decode cL_law 623 = .ok (.invokevirtual 125, 3) := by decide +kernel
theorem dL_law_626 : decode cL_law 626 = .ok (.iload 6, 2) := by decide +kernel
theorem dL_law_628 : decode cL_law 628 = .ok (.if_icmp .eq 5, 3) := by decide +kernel
theorem dL_law_633 : decode cL_law 633 = .ok (.iload 6, 2) := by decide +kernel
theorem dL_law_635 : decode cL_law 635 = .ok (.ifCond .ne 14, 3) := by decide +kernel
theorem dL_law_649 : decode cL_law 649 = .ok (.goto 1314, 3) := by decide +kernel
theorem dL_law_585 : decode cL_law 585 = .ok (.iconst 1, 1) := by decide +kernel
theorem dL_law_586 : decode cL_law 586 = .ok (.goto 4, 3) := by decide +kernel
theorem dL_law_612 : decode cL_law 612 = .ok (.iconst 1, 1) := by decide +kernel
theorem dL_law_613 : decode cL_law 613 = .ok (.goto 4, 3) := by decide +kernel
theorem dL_law_652 : decode cL_law 652 = .ok (.aload_n 1, 1) := by decide +kernel
theorem dL_law_653 : decode cL_law 653 = .ok (.aload_n 0, 1) := by decide +kernel
theorem dL_law_654 : decode cL_law 654 = .ok (.iload 5, 2) := by decide +kernel
theorem dL_law_656 : decode cL_law 656 = .ok (.iconst 1, 1) := by decide +kernel
theorem dL_law_657 : decode cL_law 657 = .ok (.iadd, 1) := by decide +kernel
theorem dL_law_658 : decode cL_law 658 = .ok (.iaload, 1) := by decide +kernel
theorem dL_law_659 : decode cL_law 659 = .ok (.aload_n 3, 1) := by decide +kernel
theorem dL_law_660 : decode cL_law 660 = .ok (.invokestatic 152, 3) := by decide +kernel
theorem dL_isBalanced_0 : decode cL_isBalanced 0 = .ok (.aload_n 2, 1) := by decide +kernel
theorem dL_isBalanced_1 : decode cL_isBalanced 1 = .ok (.iconst 0, 1) := by decide +kernel
theorem dL_isBalanced_2 : decode cL_isBalanced 2 = .ok (.aload_n 0, 1) := by decide +kernel
theorem dL_isBalanced_3 : decode cL_isBalanced 3 = .ok (.iload_n 1, 1) := by decide +kernel
theorem dL_isBalanced_4 : decode cL_isBalanced 4 = .ok (.invokevirtual 38, 3) := by decide +kernel
theorem dX6_isBalanced_0 : decode cX6_isBalanced 0 = .ok (.iload_n 1, 1) := by decide +kernel
theorem dX6_isBalanced_1 : decode cX6_isBalanced 1 = .ok (.iconst 0, 1) := by decide +kernel
theorem dX6_isBalanced_2 : decode cX6_isBalanced 2 = .ok (.bipush 30, 2) := by decide +kernel
theorem dX6_isBalanced_4 : decode cX6_isBalanced 4 = .ok (.invokestatic 44, 3) := by decide +kernel
theorem dX6_isBalanced_7 : decode cX6_isBalanced 7 = .ok (.ifCond .ne 13, 3) := by decide +kernel
theorem dX6_isBalanced_10 : decode cX6_isBalanced 10 = .ok (.new 56, 3) := by decide +kernel
theorem dX6_isBalanced_13 : decode cX6_isBalanced 13 = .ok (.dup, 1) := by decide +kernel
theorem dX6_isBalanced_14 : decode cX6_isBalanced 14 = .ok (.ldc 136, 2) := by decide +kernel
theorem dX6_isBalanced_16 : decode cX6_isBalanced 16 = .ok (.invokespecial 60, 3) := by decide +kernel
theorem dX6_isBalanced_19 : decode cX6_isBalanced 19 = .ok (.athrow, 1) := by decide +kernel
theorem dL_isBalanced_19 : decode cL_isBalanced 19 = .ok (.astore_n 3, 1) := by decide +kernel
theorem dL_isBalanced_20 : decode cL_isBalanced 20 = .ok (.iconst 1, 1) := by decide +kernel
theorem dL_isBalanced_21 : decode cL_isBalanced 21 = .ok (.ireturn, 1) := by decide +kernel
theorem dL_law_663 : decode cL_law 663 = .ok (.istore 6, 2) := by decide +kernel
theorem dL_law_665 : decode cL_law 665 = .ok (.aload_n 2, 1) := by decide +kernel
theorem dL_law_666 : decode cL_law 666 = .ok (.aload_n 0, 1) := by decide +kernel
theorem dL_law_667 : decode cL_law 667 = .ok (.iload 5, 2) := by decide +kernel
theorem dL_law_669 : decode cL_law 669 = .ok (.iconst 1, 1) := by decide +kernel
theorem dL_law_670 : decode cL_law 670 = .ok (.iadd, 1) := by decide +kernel
theorem dL_law_671 : decode cL_law 671 = .ok (.iaload, 1) := by decide +kernel
theorem dL_law_672 : decode cL_law 672 = .ok (.invokevirtual 154, 3) := by decide +kernel
theorem dX12_isBalanced_0 : decode cX12_isBalanced 0 = .ok (.iload_n 1, 1) := by decide +kernel
theorem dX12_isBalanced_1 : decode cX12_isBalanced 1 = .ok (.i2l, 1) := by decide +kernel
theorem dX12_isBalanced_2 : decode cX12_isBalanced 2 = .ok (.iconst 0, 1) := by decide +kernel
theorem dX12_isBalanced_3 : decode cX12_isBalanced 3 = .ok (.bipush 30, 2) := by decide +kernel
theorem dX12_isBalanced_5 : decode cX12_isBalanced 5 = .ok (.invokestatic 285, 3) := by decide +kernel
theorem dX12_isBalanced_8 : decode cX12_isBalanced 8 = .ok (.ifCond .ne 9, 3) := by decide +kernel
theorem dX12_isBalanced_11 : decode cX12_isBalanced 11 = .ok (.aload_n 0, 1) := by decide +kernel
theorem dX12_isBalanced_12 : decode cX12_isBalanced 12 = .ok (.iconst 1, 1) := by decide +kernel
theorem dX12_isBalanced_13 : decode cX12_isBalanced 13 = .ok (.invokevirtual 336, 3) := by decide +kernel
theorem dX12_refuses_0 : decode cX12_refuses 0 = .ok (.aload_n 0, 1) := by decide +kernel
theorem dX12_refuses_1 : decode cX12_refuses 1 = .ok (.iload_n 1, 1) := by decide +kernel
theorem dX12_refuses_2 : decode cX12_refuses 2 = .ok (.putfield 74, 3) := by decide +kernel
theorem dX12_refuses_5 : decode cX12_refuses 5 = .ok (.iconst 0, 1) := by decide +kernel
theorem dX12_refuses_6 : decode cX12_refuses 6 = .ok (.ireturn, 1) := by decide +kernel
theorem dX12_isBalanced_16 : decode cX12_isBalanced 16 = .ok (.ireturn, 1) := by decide +kernel
theorem dL_law_675 : decode cL_law 675 = .ok (.istore 7, 2) := by decide +kernel
theorem dL_law_677 : decode cL_law 677 = .ok (.aload_n 2, 1) := by decide +kernel
theorem dL_law_678 : decode cL_law 678 = .ok (.invokevirtual 125, 3) := by decide +kernel
theorem dL_law_681 : decode cL_law 681 = .ok (.iload 6, 2) := by decide +kernel
theorem dL_law_683 : decode cL_law 683 = .ok (.if_icmp .eq 5, 3) := by decide +kernel
theorem dL_law_688 : decode cL_law 688 = .ok (.iload 6, 2) := by decide +kernel
theorem dL_law_690 : decode cL_law 690 = .ok (.ifCond .ne 22, 3) := by decide +kernel
theorem dL_law_712 : decode cL_law 712 = .ok (.goto 1251, 3) := by decide +kernel
theorem dX6_isBalanced_20 : decode cX6_isBalanced 20 = .ok (.aload_n 0, 1) := by decide +kernel
theorem dX6_isBalanced_21 : decode cX6_isBalanced 21 = .ok (.invokevirtual 121, 3) := by decide +kernel
theorem dX6_checkStanding_0 : decode cX6_checkStanding 0 = .ok (.aload_n 0, 1) := by decide +kernel
theorem dX6_checkStanding_1 : decode cX6_checkStanding 1 = .ok (.getfield 19, 3) := by decide +kernel
theorem dX6_checkStanding_4 : decode cX6_checkStanding 4 = .ok (.aload_n 0, 1) := by decide +kernel
theorem dX6_checkStanding_5 : decode cX6_checkStanding 5 = .ok (.getfield 12, 3) := by decide +kernel
theorem dX6_checkStanding_8 : decode cX6_checkStanding 8 = .ok (.invokevirtual 110, 3) := by decide +kernel
theorem dX6_checkStanding_11 : decode cX6_checkStanding 11 = .ok (.aload_n 0, 1) := by decide +kernel
theorem dX6_checkStanding_12 : decode cX6_checkStanding 12 = .ok (.getfield 19, 3) := by decide +kernel
theorem dX6_checkStanding_15 : decode cX6_checkStanding 15 = .ok (.getfield 114, 3) := by decide +kernel
theorem dX6_checkStanding_18 : decode cX6_checkStanding 18 = .ok (.bipush 46, 2) := by decide +kernel
theorem dX6_checkStanding_20 : decode cX6_checkStanding 20 = .ok (.if_icmp .eq 14, 3) := by decide +kernel
theorem dX6_checkStanding_34 : decode cX6_checkStanding 34 = .ok (.return_, 1) := by decide +kernel
theorem dX6_isBalanced_24 : decode cX6_isBalanced 24 = .ok (.aload_n 0, 1) := by decide +kernel
theorem dX6_isBalanced_25 : decode cX6_isBalanced 25 = .ok (.getfield 19, 3) := by decide +kernel
theorem dX6_isBalanced_28 : decode cX6_isBalanced 28 = .ok (.aload_n 0, 1) := by decide +kernel
theorem dX6_isBalanced_29 : decode cX6_isBalanced 29 = .ok (.getfield 12, 3) := by decide +kernel
theorem dX6_isBalanced_32 : decode cX6_isBalanced 32 = .ok (.iload_n 1, 1) := by decide +kernel
theorem dX6_isBalanced_33 : decode cX6_isBalanced 33 = .ok (.invokevirtual 138, 3) := by decide +kernel
theorem dX1_holdsAt_0 : decode cX1_holdsAt 0 = .ok (.aload_n 0, 1) := by decide +kernel
theorem dX1_holdsAt_1 : decode cX1_holdsAt 1 = .ok (.aload_n 1, 1) := by decide +kernel
theorem dX1_holdsAt_2 : decode cX1_holdsAt 2 = .ok (.iload_n 2, 1) := by decide +kernel
theorem dX1_holdsAt_3 : decode cX1_holdsAt 3 = .ok (.iconst 0, 1) := by decide +kernel
theorem dX1_holdsAt_4 : decode cX1_holdsAt 4 = .ok (.invokevirtual 185, 3) := by decide +kernel
theorem dX1_holdsAlong_0 : decode cX1_holdsAlong 0 = .ok (.lconst 0, 1) := by decide +kernel
theorem dX1_holdsAlong_1 : decode cX1_holdsAlong 1 = .ok (.lstore 4, 2) := by decide +kernel
theorem dX1_holdsAlong_3 : decode cX1_holdsAlong 3 = .ok (.lconst 0, 1) := by decide +kernel
theorem dX1_holdsAlong_4 : decode cX1_holdsAlong 4 = .ok (.lstore 6, 2) := by decide +kernel
theorem dX1_holdsAlong_6 : decode cX1_holdsAlong 6 = .ok (.iconst 0, 1) := by decide +kernel
theorem dX1_holdsAlong_7 : decode cX1_holdsAlong 7 = .ok (.istore 8, 2) := by decide +kernel
theorem dX1_holdsAlong_9 : decode cX1_holdsAlong 9 = .ok (.iload 8, 2) := by decide +kernel
theorem dX1_holdsAlong_11 : decode cX1_holdsAlong 11 = .ok (.aload_n 1, 1) := by decide +kernel
theorem dX1_holdsAlong_12 : decode cX1_holdsAlong 12 = .ok (.getfield 78, 3) := by decide +kernel
theorem dX1_holdsAlong_15 : decode cX1_holdsAlong 15 = .ok (.if_icmp .ge 165, 3) := by decide +kernel
theorem dX1_holdsAlong_180 : decode cX1_holdsAlong 180 = .ok (.aload_n 0, 1) := by decide +kernel
theorem dX1_holdsAlong_181 : decode cX1_holdsAlong 181 = .ok (.getfield 104, 3) := by decide +kernel
theorem dX1_holdsAlong_184 : decode cX1_holdsAlong 184 = .ok (.lconst 0, 1) := by decide +kernel
theorem dX1_holdsAlong_185 : decode cX1_holdsAlong 185 = .ok (.lcmp, 1) := by decide +kernel
theorem dX1_holdsAlong_186 : decode cX1_holdsAlong 186 = .ok (.ifCond .le 34, 3) := by decide +kernel
theorem dX1_holdsAlong_189 : decode cX1_holdsAlong 189 = .ok (.lload 6, 2) := by decide +kernel
theorem dX1_holdsAlong_191 : decode cX1_holdsAlong 191 = .ok (.aload_n 0, 1) := by decide +kernel
theorem dX1_holdsAlong_192 : decode cX1_holdsAlong 192 = .ok (.getfield 104, 3) := by decide +kernel
theorem dX1_holdsAlong_195 : decode cX1_holdsAlong 195 = .ok (.lrem, 1) := by decide +kernel
theorem dX1_holdsAlong_196 : decode cX1_holdsAlong 196 = .ok (.lconst 0, 1) := by decide +kernel
theorem dX1_holdsAlong_197 : decode cX1_holdsAlong 197 = .ok (.lcmp, 1) := by decide +kernel
theorem dX1_holdsAlong_198 : decode cX1_holdsAlong 198 = .ok (.ifCond .ne 22, 3) := by decide +kernel
theorem dX1_holdsAlong_201 : decode cX1_holdsAlong 201 = .ok (.lload 4, 2) := by decide +kernel
theorem dX1_holdsAlong_203 : decode cX1_holdsAlong 203 = .ok (.lload 6, 2) := by decide +kernel
theorem dX1_holdsAlong_205 : decode cX1_holdsAlong 205 = .ok (.aload_n 0, 1) := by decide +kernel
theorem dX1_holdsAlong_206 : decode cX1_holdsAlong 206 = .ok (.getfield 104, 3) := by decide +kernel
theorem dX1_holdsAlong_209 : decode cX1_holdsAlong 209 = .ok (.ldiv, 1) := by decide +kernel
theorem dX1_holdsAlong_210 : decode cX1_holdsAlong 210 = .ok (.ladd, 1) := by decide +kernel
theorem dX1_holdsAlong_211 : decode cX1_holdsAlong 211 = .ok (.lconst 0, 1) := by decide +kernel
theorem dX1_holdsAlong_212 : decode cX1_holdsAlong 212 = .ok (.lcmp, 1) := by decide +kernel
theorem dX1_holdsAlong_213 : decode cX1_holdsAlong 213 = .ok (.ifCond .ne 7, 3) := by decide +kernel
theorem dX1_holdsAlong_216 : decode cX1_holdsAlong 216 = .ok (.iconst 1, 1) := by decide +kernel
theorem dX1_holdsAlong_217 : decode cX1_holdsAlong 217 = .ok (.goto 4, 3) := by decide +kernel
theorem dX1_holdsAlong_221 : decode cX1_holdsAlong 221 = .ok (.ireturn, 1) := by decide +kernel
theorem dX1_holdsAt_7 : decode cX1_holdsAt 7 = .ok (.ifCond .eq 17, 3) := by decide +kernel
theorem dX1_holdsAt_10 : decode cX1_holdsAt 10 = .ok (.aload_n 0, 1) := by decide +kernel
theorem dX1_holdsAt_11 : decode cX1_holdsAt 11 = .ok (.aload_n 1, 1) := by decide +kernel
theorem dX1_holdsAt_12 : decode cX1_holdsAt 12 = .ok (.iload_n 2, 1) := by decide +kernel
theorem dX1_holdsAt_13 : decode cX1_holdsAt 13 = .ok (.iconst 1, 1) := by decide +kernel
theorem dX1_holdsAt_14 : decode cX1_holdsAt 14 = .ok (.invokevirtual 185, 3) := by decide +kernel
theorem dX1_holdsAt_17 : decode cX1_holdsAt 17 = .ok (.ifCond .eq 7, 3) := by decide +kernel
theorem dX1_holdsAt_20 : decode cX1_holdsAt 20 = .ok (.iconst 1, 1) := by decide +kernel
theorem dX1_holdsAt_21 : decode cX1_holdsAt 21 = .ok (.goto 4, 3) := by decide +kernel
theorem dX1_holdsAt_25 : decode cX1_holdsAt 25 = .ok (.ireturn, 1) := by decide +kernel
theorem dX6_isBalanced_36 : decode cX6_isBalanced 36 = .ok (.ireturn, 1) := by decide +kernel
theorem dL_isBalanced_7 : decode cL_isBalanced 7 = .ok (.ifCond .eq 7, 3) := by decide +kernel
theorem dL_isBalanced_10 : decode cL_isBalanced 10 = .ok (.lconst 1, 1) := by decide +kernel
theorem dL_isBalanced_11 : decode cL_isBalanced 11 = .ok (.goto 4, 3) := by decide +kernel
theorem dL_isBalanced_15 : decode cL_isBalanced 15 = .ok (.lastore, 1) := by decide +kernel
theorem dL_isBalanced_16 : decode cL_isBalanced 16 = .ok (.goto 9, 3) := by decide +kernel
theorem dL_isBalanced_25 : decode cL_isBalanced 25 = .ok (.iconst 0, 1) := by decide +kernel
theorem dL_isBalanced_26 : decode cL_isBalanced 26 = .ok (.ireturn, 1) := by decide +kernel
theorem dX12_isBalanced_17 : decode cX12_isBalanced 17 = .ok (.aload_n 0, 1) := by decide +kernel
theorem dX12_isBalanced_18 : decode cX12_isBalanced 18 = .ok (.invokevirtual 320, 3) := by decide +kernel
theorem dX12_stands_0 : decode cX12_stands 0 = .ok (.aload_n 0, 1) := by decide +kernel
theorem dX12_stands_1 : decode cX12_stands 1 = .ok (.invokevirtual 166, 3) := by decide +kernel
theorem dX12_stands_4 : decode cX12_stands 4 = .ok (.aload_n 0, 1) := by decide +kernel
theorem dX12_stands_5 : decode cX12_stands 5 = .ok (.getfield 157, 3) := by decide +kernel
theorem dX12_stands_8 : decode cX12_stands 8 = .ok (.bipush 46, 2) := by decide +kernel
theorem dX12_stands_10 : decode cX12_stands 10 = .ok (.if_icmp .ne 7, 3) := by decide +kernel
theorem dX12_stands_13 : decode cX12_stands 13 = .ok (.iconst 1, 1) := by decide +kernel
theorem dX12_stands_14 : decode cX12_stands 14 = .ok (.goto 4, 3) := by decide +kernel
theorem dX12_stands_18 : decode cX12_stands 18 = .ok (.ireturn, 1) := by decide +kernel
theorem dX12_isBalanced_21 : decode cX12_isBalanced 21 = .ok (.ifCond .eq 37, 3) := by decide +kernel
theorem dX12_isBalanced_24 : decode cX12_isBalanced 24 = .ok (.aload_n 0, 1) := by decide +kernel
theorem dX12_isBalanced_25 : decode cX12_isBalanced 25 = .ok (.aload_n 0, 1) := by decide +kernel
theorem dX12_isBalanced_26 : decode cX12_isBalanced 26 = .ok (.iload_n 1, 1) := by decide +kernel
theorem dX12_isBalanced_27 : decode cX12_isBalanced 27 = .ok (.iconst 0, 1) := by decide +kernel
theorem dX12_isBalanced_28 : decode cX12_isBalanced 28 = .ok (.invokevirtual 339, 3) := by decide +kernel
theorem dX12_restOf_0 : decode cX12_restOf 0 = .ok (.lconst 0, 1) := by decide +kernel
theorem dX12_restOf_1 : decode cX12_restOf 1 = .ok (.lstore_n 3, 1) := by decide +kernel
theorem dX12_restOf_2 : decode cX12_restOf 2 = .ok (.iconst 0, 1) := by decide +kernel
theorem dX12_restOf_3 : decode cX12_restOf 3 = .ok (.istore 5, 2) := by decide +kernel
theorem dX12_restOf_5 : decode cX12_restOf 5 = .ok (.iload 5, 2) := by decide +kernel
theorem dX12_restOf_7 : decode cX12_restOf 7 = .ok (.aload_n 0, 1) := by decide +kernel
theorem dX12_restOf_8 : decode cX12_restOf 8 = .ok (.getfield 10, 3) := by decide +kernel
theorem dX12_restOf_11 : decode cX12_restOf 11 = .ok (.invokevirtual 125, 3) := by decide +kernel
theorem dX12_restOf_14 : decode cX12_restOf 14 = .ok (.if_icmp .ge 205, 3) := by decide +kernel
theorem dX12_restOf_219 : decode cX12_restOf 219 = .ok (.lload_n 3, 1) := by decide +kernel
theorem dX12_restOf_220 : decode cX12_restOf 220 = .ok (.lreturn, 1) := by decide +kernel
theorem dX12_isBalanced_31 : decode cX12_isBalanced 31 = .ok (.lconst 0, 1) := by decide +kernel
theorem dX12_isBalanced_32 : decode cX12_isBalanced 32 = .ok (.lcmp, 1) := by decide +kernel
theorem dX12_isBalanced_33 : decode cX12_isBalanced 33 = .ok (.ifCond .ne 18, 3) := by decide +kernel
theorem dX12_isBalanced_36 : decode cX12_isBalanced 36 = .ok (.aload_n 0, 1) := by decide +kernel
theorem dX12_isBalanced_37 : decode cX12_isBalanced 37 = .ok (.iload_n 1, 1) := by decide +kernel
theorem dX12_isBalanced_38 : decode cX12_isBalanced 38 = .ok (.iconst 1, 1) := by decide +kernel
theorem dX12_isBalanced_39 : decode cX12_isBalanced 39 = .ok (.invokevirtual 339, 3) := by decide +kernel
theorem dX12_isBalanced_42 : decode cX12_isBalanced 42 = .ok (.lconst 0, 1) := by decide +kernel
theorem dX12_isBalanced_43 : decode cX12_isBalanced 43 = .ok (.lcmp, 1) := by decide +kernel
theorem dX12_isBalanced_44 : decode cX12_isBalanced 44 = .ok (.ifCond .ne 7, 3) := by decide +kernel
theorem dX12_isBalanced_47 : decode cX12_isBalanced 47 = .ok (.iconst 1, 1) := by decide +kernel
theorem dX12_isBalanced_48 : decode cX12_isBalanced 48 = .ok (.goto 4, 3) := by decide +kernel
theorem dX12_isBalanced_52 : decode cX12_isBalanced 52 = .ok (.invokevirtual 343, 3) := by decide +kernel
theorem dX12_tells_0 : decode cX12_tells 0 = .ok (.aload_n 0, 1) := by decide +kernel
theorem dX12_tells_1 : decode cX12_tells 1 = .ok (.iconst 0, 1) := by decide +kernel
theorem dX12_tells_2 : decode cX12_tells 2 = .ok (.putfield 74, 3) := by decide +kernel
theorem dX12_tells_5 : decode cX12_tells 5 = .ok (.iload_n 1, 1) := by decide +kernel
theorem dX12_tells_6 : decode cX12_tells 6 = .ok (.ireturn, 1) := by decide +kernel
theorem dX12_isBalanced_55 : decode cX12_isBalanced 55 = .ok (.goto 8, 3) := by decide +kernel
theorem dX12_isBalanced_63 : decode cX12_isBalanced 63 = .ok (.ireturn, 1) := by decide +kernel
theorem dL_law_693 : decode cL_law 693 = .ok (.aload_n 3, 1) := by decide +kernel
theorem dL_law_694 : decode cL_law 694 = .ok (.iconst 0, 1) := by decide +kernel
theorem dL_law_695 : decode cL_law 695 = .ok (.laload, 1) := by decide +kernel
theorem dL_law_696 : decode cL_law 696 = .ok (.iload 7, 2) := by decide +kernel
theorem dL_law_698 : decode cL_law 698 = .ok (.ifCond .eq 7, 3) := by decide +kernel
theorem dL_law_701 : decode cL_law 701 = .ok (.lconst 1, 1) := by decide +kernel
theorem dL_law_702 : decode cL_law 702 = .ok (.goto 4, 3) := by decide +kernel
theorem dL_law_706 : decode cL_law 706 = .ok (.lcmp, 1) := by decide +kernel
theorem dL_law_707 : decode cL_law 707 = .ok (.ifCond .eq 5, 3) := by decide +kernel
theorem dL_law_715 : decode cL_law 715 = .ok (.aload_n 1, 1) := by decide +kernel
theorem dL_law_716 : decode cL_law 716 = .ok (.aload_n 3, 1) := by decide +kernel
theorem dL_law_717 : decode cL_law 717 = .ok (.invokestatic 155, 3) := by decide +kernel
theorem dL_weakest_0 : decode cL_weakest 0 = .ok (.aload_n 1, 1) := by decide +kernel
theorem dL_weakest_1 : decode cL_weakest 1 = .ok (.iconst 0, 1) := by decide +kernel
theorem dL_weakest_2 : decode cL_weakest 2 = .ok (.aload_n 0, 1) := by decide +kernel
theorem dL_weakest_3 : decode cL_weakest 3 = .ok (.invokevirtual 42, 3) := by decide +kernel
theorem dX6_weakest_0 : decode cX6_weakest 0 = .ok (.aload_n 0, 1) := by decide +kernel
theorem dX6_weakest_1 : decode cX6_weakest 1 = .ok (.invokevirtual 121, 3) := by decide +kernel
theorem dX6_weakest_4 : decode cX6_weakest 4 = .ok (.aload_n 0, 1) := by decide +kernel
theorem dX6_weakest_5 : decode cX6_weakest 5 = .ok (.getfield 12, 3) := by decide +kernel
theorem dX6_weakest_8 : decode cX6_weakest 8 = .ok (.getfield 93, 3) := by decide +kernel
theorem dX6_weakest_11 : decode cX6_weakest 11 = .ok (.ifCond .ne 13, 3) := by decide +kernel
theorem dX6_weakest_14 : decode cX6_weakest 14 = .ok (.new 142, 3) := by decide +kernel
theorem dX6_weakest_17 : decode cX6_weakest 17 = .ok (.dup, 1) := by decide +kernel
theorem dX6_weakest_18 : decode cX6_weakest 18 = .ok (.ldc 144, 2) := by decide +kernel
theorem dX6_weakest_20 : decode cX6_weakest 20 = .ok (.invokespecial 146, 3) := by decide +kernel
theorem dX6_weakest_23 : decode cX6_weakest 23 = .ok (.athrow, 1) := by decide +kernel
theorem dL_weakest_14 : decode cL_weakest 14 = .ok (.astore_n 2, 1) := by decide +kernel
theorem dL_weakest_15 : decode cL_weakest 15 = .ok (.iconst 2, 1) := by decide +kernel
theorem dL_weakest_16 : decode cL_weakest 16 = .ok (.ireturn, 1) := by decide +kernel
theorem dL_law_720 : decode cL_law 720 = .ok (.istore 6, 2) := by decide +kernel
theorem dL_law_722 : decode cL_law 722 = .ok (.aload_n 2, 1) := by decide +kernel
theorem dL_law_723 : decode cL_law 723 = .ok (.invokevirtual 158, 3) := by decide +kernel
theorem dX12_weakest_0 : decode cX12_weakest 0 = .ok (.aload_n 0, 1) := by decide +kernel
theorem dX12_weakest_1 : decode cX12_weakest 1 = .ok (.invokevirtual 320, 3) := by decide +kernel
theorem dX12_weakest_4 : decode cX12_weakest 4 = .ok (.ifCond .ne 9, 3) := by decide +kernel
theorem dX12_weakest_13 : decode cX12_weakest 13 = .ok (.iconst (-1), 1) := by decide +kernel
theorem dX12_weakest_14 : decode cX12_weakest 14 = .ok (.istore_n 1, 1) := by decide +kernel
theorem dX12_weakest_15 : decode cX12_weakest 15 = .ok (.iconst 0, 1) := by decide +kernel
theorem dX12_weakest_16 : decode cX12_weakest 16 = .ok (.istore_n 2, 1) := by decide +kernel
theorem dX12_weakest_17 : decode cX12_weakest 17 = .ok (.iload_n 2, 1) := by decide +kernel
theorem dX12_weakest_18 : decode cX12_weakest 18 = .ok (.aload_n 0, 1) := by decide +kernel
theorem dX12_weakest_19 : decode cX12_weakest 19 = .ok (.getfield 16, 3) := by decide +kernel
theorem dX12_weakest_22 : decode cX12_weakest 22 = .ok (.invokevirtual 125, 3) := by decide +kernel
theorem dX12_weakest_25 : decode cX12_weakest 25 = .ok (.if_icmp .ge 36, 3) := by decide +kernel
theorem dX12_weakest_61 : decode cX12_weakest 61 = .ok (.iload_n 1, 1) := by decide +kernel
theorem dX12_weakest_62 : decode cX12_weakest 62 = .ok (.iconst (-1), 1) := by decide +kernel
theorem dX12_weakest_63 : decode cX12_weakest 63 = .ok (.if_icmp .ne 11, 3) := by decide +kernel
theorem dX12_weakest_66 : decode cX12_weakest 66 = .ok (.aload_n 0, 1) := by decide +kernel
theorem dX12_weakest_67 : decode cX12_weakest 67 = .ok (.iconst 2, 1) := by decide +kernel
theorem dX12_weakest_68 : decode cX12_weakest 68 = .ok (.invokevirtual 289, 3) := by decide +kernel
theorem dX12_weakest_71 : decode cX12_weakest 71 = .ok (.goto 8, 3) := by decide +kernel
theorem dX12_weakest_79 : decode cX12_weakest 79 = .ok (.ireturn, 1) := by decide +kernel
theorem dL_law_726 : decode cL_law 726 = .ok (.istore 7, 2) := by decide +kernel
theorem dL_law_728 : decode cL_law 728 = .ok (.aload_n 2, 1) := by decide +kernel
theorem dL_law_729 : decode cL_law 729 = .ok (.invokevirtual 125, 3) := by decide +kernel
theorem dL_law_732 : decode cL_law 732 = .ok (.iload 6, 2) := by decide +kernel
theorem dL_law_734 : decode cL_law 734 = .ok (.if_icmp .eq 5, 3) := by decide +kernel
theorem dL_law_739 : decode cL_law 739 = .ok (.iload 6, 2) := by decide +kernel
theorem dL_law_741 : decode cL_law 741 = .ok (.ifCond .ne 15, 3) := by decide +kernel
theorem dL_law_756 : decode cL_law 756 = .ok (.goto 1207, 3) := by decide +kernel
theorem dL_law_759 : decode cL_law 759 = .ok (.aload_n 1, 1) := by decide +kernel
theorem dL_law_760 : decode cL_law 760 = .ok (.aload_n 0, 1) := by decide +kernel
theorem dL_law_761 : decode cL_law 761 = .ok (.iload 5, 2) := by decide +kernel
theorem dL_law_763 : decode cL_law 763 = .ok (.iconst 1, 1) := by decide +kernel
theorem dL_law_764 : decode cL_law 764 = .ok (.iadd, 1) := by decide +kernel
theorem dL_law_765 : decode cL_law 765 = .ok (.iaload, 1) := by decide +kernel
theorem dL_law_766 : decode cL_law 766 = .ok (.aload_n 0, 1) := by decide +kernel
theorem dL_law_767 : decode cL_law 767 = .ok (.iload 5, 2) := by decide +kernel
theorem dL_law_769 : decode cL_law 769 = .ok (.iconst 2, 1) := by decide +kernel
theorem dL_law_770 : decode cL_law 770 = .ok (.iadd, 1) := by decide +kernel
theorem dL_law_771 : decode cL_law 771 = .ok (.iaload, 1) := by decide +kernel
theorem dL_law_772 : decode cL_law 772 = .ok (.aload_n 0, 1) := by decide +kernel
theorem dL_law_773 : decode cL_law 773 = .ok (.iload 5, 2) := by decide +kernel
theorem dL_law_775 : decode cL_law 775 = .ok (.iconst 3, 1) := by decide +kernel
theorem dL_law_776 : decode cL_law 776 = .ok (.iadd, 1) := by decide +kernel
theorem dL_law_777 : decode cL_law 777 = .ok (.iaload, 1) := by decide +kernel
theorem dL_law_778 : decode cL_law 778 = .ok (.i2c, 1) := by decide +kernel
theorem dL_law_779 : decode cL_law 779 = .ok (.aload_n 0, 1) := by decide +kernel
theorem dL_law_780 : decode cL_law 780 = .ok (.iload 5, 2) := by decide +kernel
theorem dL_law_782 : decode cL_law 782 = .ok (.iconst 4, 1) := by decide +kernel
theorem dL_law_783 : decode cL_law 783 = .ok (.iadd, 1) := by decide +kernel
theorem dL_law_784 : decode cL_law 784 = .ok (.iaload, 1) := by decide +kernel
theorem dL_law_785 : decode cL_law 785 = .ok (.aload_n 0, 1) := by decide +kernel
theorem dL_law_786 : decode cL_law 786 = .ok (.iload 5, 2) := by decide +kernel
theorem dL_law_788 : decode cL_law 788 = .ok (.iconst 5, 1) := by decide +kernel
theorem dL_law_789 : decode cL_law 789 = .ok (.iadd, 1) := by decide +kernel
theorem dL_law_790 : decode cL_law 790 = .ok (.iaload, 1) := by decide +kernel
theorem dL_law_791 : decode cL_law 791 = .ok (.aload_n 3, 1) := by decide +kernel
theorem dL_law_792 : decode cL_law 792 = .ok (.invokestatic 159, 3) := by decide +kernel
theorem dL_joint_0 : decode cL_joint 0 = .ok (.aload 6, 2) := by decide +kernel
theorem dL_joint_2 : decode cL_joint 2 = .ok (.iconst 0, 1) := by decide +kernel
theorem dL_joint_3 : decode cL_joint 3 = .ok (.aload_n 0, 1) := by decide +kernel
theorem dL_joint_4 : decode cL_joint 4 = .ok (.iload_n 1, 1) := by decide +kernel
theorem dL_joint_5 : decode cL_joint 5 = .ok (.iload_n 2, 1) := by decide +kernel
theorem dL_joint_6 : decode cL_joint 6 = .ok (.iload_n 3, 1) := by decide +kernel
theorem dL_joint_7 : decode cL_joint 7 = .ok (.iload 4, 2) := by decide +kernel
theorem dL_joint_9 : decode cL_joint 9 = .ok (.iload 5, 2) := by decide +kernel
theorem dL_joint_11 : decode cL_joint 11 = .ok (.invokevirtual 48, 3) := by decide +kernel
theorem dX6_joint_0 : decode cX6_joint 0 = .ok (.aload_n 0, 1) := by decide +kernel
theorem dX6_joint_1 : decode cX6_joint 1 = .ok (.iload_n 1, 1) := by decide +kernel
theorem dX6_joint_2 : decode cX6_joint 2 = .ok (.invokevirtual 118, 3) := by decide +kernel
theorem dL_joint_19 : decode cL_joint 19 = .ok (.astore 7, 2) := by decide +kernel
theorem dL_joint_21 : decode cL_joint 21 = .ok (.iconst 1, 1) := by decide +kernel
theorem dL_joint_22 : decode cL_joint 22 = .ok (.ireturn, 1) := by decide +kernel
theorem dL_law_795 : decode cL_law 795 = .ok (.istore 6, 2) := by decide +kernel
theorem dL_law_797 : decode cL_law 797 = .ok (.aload_n 2, 1) := by decide +kernel
theorem dL_law_798 : decode cL_law 798 = .ok (.aload_n 0, 1) := by decide +kernel
theorem dL_law_799 : decode cL_law 799 = .ok (.iload 5, 2) := by decide +kernel
theorem dL_law_801 : decode cL_law 801 = .ok (.iconst 1, 1) := by decide +kernel
theorem dL_law_802 : decode cL_law 802 = .ok (.iadd, 1) := by decide +kernel
theorem dL_law_803 : decode cL_law 803 = .ok (.iaload, 1) := by decide +kernel
theorem dL_law_804 : decode cL_law 804 = .ok (.aload_n 0, 1) := by decide +kernel
theorem dL_law_805 : decode cL_law 805 = .ok (.iload 5, 2) := by decide +kernel
theorem dL_law_807 : decode cL_law 807 = .ok (.iconst 2, 1) := by decide +kernel
theorem dL_law_808 : decode cL_law 808 = .ok (.iadd, 1) := by decide +kernel
theorem dL_law_809 : decode cL_law 809 = .ok (.iaload, 1) := by decide +kernel
theorem dL_law_810 : decode cL_law 810 = .ok (.aload_n 0, 1) := by decide +kernel
theorem dL_law_811 : decode cL_law 811 = .ok (.iload 5, 2) := by decide +kernel
theorem dL_law_813 : decode cL_law 813 = .ok (.iconst 3, 1) := by decide +kernel
theorem dL_law_814 : decode cL_law 814 = .ok (.iadd, 1) := by decide +kernel
theorem dL_law_815 : decode cL_law 815 = .ok (.iaload, 1) := by decide +kernel
theorem dL_law_816 : decode cL_law 816 = .ok (.i2c, 1) := by decide +kernel
theorem dL_law_817 : decode cL_law 817 = .ok (.aload_n 0, 1) := by decide +kernel
theorem dL_law_818 : decode cL_law 818 = .ok (.iload 5, 2) := by decide +kernel
theorem dL_law_820 : decode cL_law 820 = .ok (.iconst 4, 1) := by decide +kernel
theorem dL_law_821 : decode cL_law 821 = .ok (.iadd, 1) := by decide +kernel
theorem dL_law_822 : decode cL_law 822 = .ok (.iaload, 1) := by decide +kernel
theorem dL_law_823 : decode cL_law 823 = .ok (.aload_n 0, 1) := by decide +kernel
theorem dL_law_824 : decode cL_law 824 = .ok (.iload 5, 2) := by decide +kernel
theorem dL_law_826 : decode cL_law 826 = .ok (.iconst 5, 1) := by decide +kernel
theorem dL_law_827 : decode cL_law 827 = .ok (.iadd, 1) := by decide +kernel
theorem dL_law_828 : decode cL_law 828 = .ok (.iaload, 1) := by decide +kernel
theorem dL_law_829 : decode cL_law 829 = .ok (.invokevirtual 162, 3) := by decide +kernel
theorem dX12_joint_0 : decode cX12_joint 0 = .ok (.aload_n 0, 1) := by decide +kernel
theorem dX12_joint_1 : decode cX12_joint 1 = .ok (.iload_n 1, 1) := by decide +kernel
theorem dX12_joint_2 : decode cX12_joint 2 = .ok (.invokevirtual 314, 3) := by decide +kernel
theorem dX12_joint_5 : decode cX12_joint 5 = .ok (.ifCond .eq 11, 3) := by decide +kernel
theorem dX12_joint_16 : decode cX12_joint 16 = .ok (.aload_n 0, 1) := by decide +kernel
theorem dX12_joint_17 : decode cX12_joint 17 = .ok (.iconst 1, 1) := by decide +kernel
theorem dX12_joint_18 : decode cX12_joint 18 = .ok (.invokevirtual 289, 3) := by decide +kernel
theorem dX12_joint_21 : decode cX12_joint 21 = .ok (.ireturn, 1) := by decide +kernel
theorem dL_law_832 : decode cL_law 832 = .ok (.istore 7, 2) := by decide +kernel
theorem dL_law_834 : decode cL_law 834 = .ok (.aload_n 2, 1) := by decide +kernel
theorem dL_law_835 : decode cL_law 835 = .ok (.invokevirtual 125, 3) := by decide +kernel
theorem dL_law_838 : decode cL_law 838 = .ok (.iload 6, 2) := by decide +kernel
theorem dL_law_840 : decode cL_law 840 = .ok (.if_icmp .eq 5, 3) := by decide +kernel
theorem dL_law_845 : decode cL_law 845 = .ok (.iload 6, 2) := by decide +kernel
theorem dL_law_847 : decode cL_law 847 = .ok (.ifCond .ne 15, 3) := by decide +kernel
theorem dL_law_862 : decode cL_law 862 = .ok (.goto 1101, 3) := by decide +kernel
theorem dL_law_865 : decode cL_law 865 = .ok (.aload_n 1, 1) := by decide +kernel
theorem dL_law_866 : decode cL_law 866 = .ok (.aload_n 0, 1) := by decide +kernel
theorem dL_law_867 : decode cL_law 867 = .ok (.iload 5, 2) := by decide +kernel
theorem dL_law_869 : decode cL_law 869 = .ok (.iconst 1, 1) := by decide +kernel
theorem dL_law_870 : decode cL_law 870 = .ok (.iadd, 1) := by decide +kernel
theorem dL_law_871 : decode cL_law 871 = .ok (.iaload, 1) := by decide +kernel
theorem dL_law_872 : decode cL_law 872 = .ok (.aload_n 3, 1) := by decide +kernel
theorem dL_law_873 : decode cL_law 873 = .ok (.invokestatic 163, 3) := by decide +kernel
theorem dL_isRight_0 : decode cL_isRight 0 = .ok (.aload_n 2, 1) := by decide +kernel
theorem dL_isRight_1 : decode cL_isRight 1 = .ok (.iconst 0, 1) := by decide +kernel
theorem dL_isRight_2 : decode cL_isRight 2 = .ok (.aload_n 0, 1) := by decide +kernel
theorem dL_isRight_3 : decode cL_isRight 3 = .ok (.iload_n 1, 1) := by decide +kernel
theorem dL_isRight_4 : decode cL_isRight 4 = .ok (.invokevirtual 54, 3) := by decide +kernel
theorem dX6_isRight_0 : decode cX6_isRight 0 = .ok (.aload_n 0, 1) := by decide +kernel
theorem dX6_isRight_1 : decode cX6_isRight 1 = .ok (.iload_n 1, 1) := by decide +kernel
theorem dX6_isRight_2 : decode cX6_isRight 2 = .ok (.invokevirtual 179, 3) := by decide +kernel
theorem dX6_checkJoint_0 : decode cX6_checkJoint 0 = .ok (.iload_n 1, 1) := by decide +kernel
theorem dX6_checkJoint_1 : decode cX6_checkJoint 1 = .ok (.ifCond .lt 14, 3) := by decide +kernel
theorem dX6_checkJoint_15 : decode cX6_checkJoint 15 = .ok (.new 228, 3) := by decide +kernel
theorem dX6_checkJoint_18 : decode cX6_checkJoint 18 = .ok (.dup, 1) := by decide +kernel
theorem dX6_checkJoint_19 : decode cX6_checkJoint 19 = .ok (.ldc_w 284, 3) := by decide +kernel
theorem dX6_checkJoint_22 : decode cX6_checkJoint 22 = .ok (.invokespecial 232, 3) := by decide +kernel
theorem dX6_checkJoint_25 : decode cX6_checkJoint 25 = .ok (.athrow, 1) := by decide +kernel
theorem dL_isRight_19 : decode cL_isRight 19 = .ok (.astore_n 3, 1) := by decide +kernel
theorem dL_isRight_20 : decode cL_isRight 20 = .ok (.iconst 1, 1) := by decide +kernel
theorem dL_isRight_21 : decode cL_isRight 21 = .ok (.ireturn, 1) := by decide +kernel
theorem dL_law_876 : decode cL_law 876 = .ok (.istore 6, 2) := by decide +kernel
theorem dL_law_878 : decode cL_law 878 = .ok (.aload_n 2, 1) := by decide +kernel
theorem dL_law_879 : decode cL_law 879 = .ok (.aload_n 0, 1) := by decide +kernel
theorem dL_law_880 : decode cL_law 880 = .ok (.iload 5, 2) := by decide +kernel
theorem dL_law_882 : decode cL_law 882 = .ok (.iconst 1, 1) := by decide +kernel
theorem dL_law_883 : decode cL_law 883 = .ok (.iadd, 1) := by decide +kernel
theorem dL_law_884 : decode cL_law 884 = .ok (.iaload, 1) := by decide +kernel
theorem dL_law_885 : decode cL_law 885 = .ok (.invokevirtual 165, 3) := by decide +kernel
theorem dX12_isRight_0 : decode cX12_isRight 0 = .ok (.aload_n 0, 1) := by decide +kernel
theorem dX12_isRight_1 : decode cX12_isRight 1 = .ok (.iload_n 1, 1) := by decide +kernel
theorem dX12_isRight_2 : decode cX12_isRight 2 = .ok (.invokevirtual 363, 3) := by decide +kernel
theorem dX12_isJoint_0 : decode cX12_isJoint 0 = .ok (.iload_n 1, 1) := by decide +kernel
theorem dX12_isJoint_1 : decode cX12_isJoint 1 = .ok (.i2l, 1) := by decide +kernel
theorem dX12_isJoint_2 : decode cX12_isJoint 2 = .ok (.iconst 0, 1) := by decide +kernel
theorem dX12_isJoint_3 : decode cX12_isJoint 3 = .ok (.aload_n 0, 1) := by decide +kernel
theorem dX12_isJoint_4 : decode cX12_isJoint 4 = .ok (.getfield 19, 3) := by decide +kernel
theorem dX12_isJoint_7 : decode cX12_isJoint 7 = .ok (.invokevirtual 125, 3) := by decide +kernel
theorem dX12_isJoint_10 : decode cX12_isJoint 10 = .ok (.iconst 1, 1) := by decide +kernel
theorem dX12_isJoint_11 : decode cX12_isJoint 11 = .ok (.isub, 1) := by decide +kernel
theorem dX12_isJoint_12 : decode cX12_isJoint 12 = .ok (.invokestatic 285, 3) := by decide +kernel
theorem dX12_isJoint_15 : decode cX12_isJoint 15 = .ok (.ireturn, 1) := by decide +kernel
theorem dX12_isRight_5 : decode cX12_isRight 5 = .ok (.ifCond .eq 25, 3) := by decide +kernel
theorem dX12_isRight_30 : decode cX12_isRight 30 = .ok (.aload_n 0, 1) := by decide +kernel
theorem dX12_isRight_31 : decode cX12_isRight 31 = .ok (.iconst 1, 1) := by decide +kernel
theorem dX12_isRight_32 : decode cX12_isRight 32 = .ok (.invokevirtual 336, 3) := by decide +kernel
theorem dX12_isRight_35 : decode cX12_isRight 35 = .ok (.ireturn, 1) := by decide +kernel
theorem dL_law_888 : decode cL_law 888 = .ok (.istore 7, 2) := by decide +kernel
theorem dL_law_890 : decode cL_law 890 = .ok (.aload_n 2, 1) := by decide +kernel
theorem dL_law_891 : decode cL_law 891 = .ok (.invokevirtual 125, 3) := by decide +kernel
theorem dL_law_894 : decode cL_law 894 = .ok (.iload 6, 2) := by decide +kernel
theorem dL_law_896 : decode cL_law 896 = .ok (.if_icmp .eq 5, 3) := by decide +kernel
theorem dL_law_901 : decode cL_law 901 = .ok (.iload 6, 2) := by decide +kernel
theorem dL_law_903 : decode cL_law 903 = .ok (.ifCond .ne 22, 3) := by decide +kernel
theorem dL_law_925 : decode cL_law 925 = .ok (.goto 1038, 3) := by decide +kernel
theorem dX6_checkJoint_4 : decode cX6_checkJoint 4 = .ok (.iload_n 1, 1) := by decide +kernel
theorem dX6_checkJoint_5 : decode cX6_checkJoint 5 = .ok (.aload_n 0, 1) := by decide +kernel
theorem dX6_checkJoint_6 : decode cX6_checkJoint 6 = .ok (.getfield 26, 3) := by decide +kernel
theorem dX6_checkJoint_9 : decode cX6_checkJoint 9 = .ok (.getfield 170, 3) := by decide +kernel
theorem dX6_checkJoint_12 : decode cX6_checkJoint 12 = .ok (.if_icmp .lt 14, 3) := by decide +kernel
theorem dL_law_928 : decode cL_law 928 = .ok (.aload_n 1, 1) := by decide +kernel
theorem dL_law_929 : decode cL_law 929 = .ok (.aload_n 0, 1) := by decide +kernel
theorem dL_law_930 : decode cL_law 930 = .ok (.iload 5, 2) := by decide +kernel
theorem dL_law_932 : decode cL_law 932 = .ok (.iconst 1, 1) := by decide +kernel
theorem dL_law_933 : decode cL_law 933 = .ok (.iadd, 1) := by decide +kernel
theorem dL_law_934 : decode cL_law 934 = .ok (.iaload, 1) := by decide +kernel
theorem dL_law_935 : decode cL_law 935 = .ok (.aload_n 3, 1) := by decide +kernel
theorem dL_law_936 : decode cL_law 936 = .ok (.invokestatic 166, 3) := by decide +kernel
theorem dL_misread_0 : decode cL_misread 0 = .ok (.aload_n 2, 1) := by decide +kernel
theorem dL_misread_1 : decode cL_misread 1 = .ok (.iconst 0, 1) := by decide +kernel
theorem dL_misread_2 : decode cL_misread 2 = .ok (.aload_n 0, 1) := by decide +kernel
theorem dL_misread_3 : decode cL_misread 3 = .ok (.iload_n 1, 1) := by decide +kernel
theorem dL_misread_4 : decode cL_misread 4 = .ok (.invokevirtual 57, 3) := by decide +kernel
theorem dX6_misread_0 : decode cX6_misread 0 = .ok (.aload_n 0, 1) := by decide +kernel
theorem dX6_misread_1 : decode cX6_misread 1 = .ok (.iload_n 1, 1) := by decide +kernel
theorem dX6_misread_2 : decode cX6_misread 2 = .ok (.invokevirtual 179, 3) := by decide +kernel
theorem dL_misread_12 : decode cL_misread 12 = .ok (.astore_n 3, 1) := by decide +kernel
theorem dL_misread_13 : decode cL_misread 13 = .ok (.iconst 1, 1) := by decide +kernel
theorem dL_misread_14 : decode cL_misread 14 = .ok (.ireturn, 1) := by decide +kernel
theorem dL_law_939 : decode cL_law 939 = .ok (.istore 6, 2) := by decide +kernel
theorem dL_law_941 : decode cL_law 941 = .ok (.aload_n 2, 1) := by decide +kernel
theorem dL_law_942 : decode cL_law 942 = .ok (.aload_n 0, 1) := by decide +kernel
theorem dL_law_943 : decode cL_law 943 = .ok (.iload 5, 2) := by decide +kernel
theorem dL_law_945 : decode cL_law 945 = .ok (.iconst 1, 1) := by decide +kernel
theorem dL_law_946 : decode cL_law 946 = .ok (.iadd, 1) := by decide +kernel
theorem dL_law_947 : decode cL_law 947 = .ok (.iaload, 1) := by decide +kernel
theorem dL_law_948 : decode cL_law 948 = .ok (.invokevirtual 168, 3) := by decide +kernel
theorem dX12_misread_0 : decode cX12_misread 0 = .ok (.aload_n 0, 1) := by decide +kernel
theorem dX12_misread_1 : decode cX12_misread 1 = .ok (.iload_n 1, 1) := by decide +kernel
theorem dX12_misread_2 : decode cX12_misread 2 = .ok (.invokevirtual 363, 3) := by decide +kernel
theorem dX12_misread_5 : decode cX12_misread 5 = .ok (.ifCond .eq 24, 3) := by decide +kernel
theorem dX12_misread_29 : decode cX12_misread 29 = .ok (.aload_n 0, 1) := by decide +kernel
theorem dX12_misread_30 : decode cX12_misread 30 = .ok (.iconst 1, 1) := by decide +kernel
theorem dX12_misread_31 : decode cX12_misread 31 = .ok (.invokevirtual 289, 3) := by decide +kernel
theorem dX12_misread_34 : decode cX12_misread 34 = .ok (.ireturn, 1) := by decide +kernel
theorem dL_law_951 : decode cL_law 951 = .ok (.istore 7, 2) := by decide +kernel
theorem dL_law_953 : decode cL_law 953 = .ok (.aload_n 2, 1) := by decide +kernel
theorem dL_law_954 : decode cL_law 954 = .ok (.invokevirtual 125, 3) := by decide +kernel
theorem dL_law_957 : decode cL_law 957 = .ok (.iload 6, 2) := by decide +kernel
theorem dL_law_959 : decode cL_law 959 = .ok (.if_icmp .eq 5, 3) := by decide +kernel
theorem dL_law_964 : decode cL_law 964 = .ok (.iload 6, 2) := by decide +kernel
theorem dL_law_966 : decode cL_law 966 = .ok (.ifCond .ne 15, 3) := by decide +kernel
theorem dL_law_981 : decode cL_law 981 = .ok (.goto 982, 3) := by decide +kernel
theorem dL_law_984 : decode cL_law 984 = .ok (.aload_n 1, 1) := by decide +kernel
theorem dL_law_985 : decode cL_law 985 = .ok (.invokevirtual 169, 3) := by decide +kernel
theorem dX6_clashes_0 : decode cX6_clashes 0 = .ok (.iconst 0, 1) := by decide +kernel
theorem dX6_clashes_1 : decode cX6_clashes 1 = .ok (.istore_n 1, 1) := by decide +kernel
theorem dX6_clashes_2 : decode cX6_clashes 2 = .ok (.iconst 0, 1) := by decide +kernel
theorem dX6_clashes_3 : decode cX6_clashes 3 = .ok (.istore_n 2, 1) := by decide +kernel
theorem dX6_clashes_4 : decode cX6_clashes 4 = .ok (.iload_n 2, 1) := by decide +kernel
theorem dX6_clashes_5 : decode cX6_clashes 5 = .ok (.aload_n 0, 1) := by decide +kernel
theorem dX6_clashes_6 : decode cX6_clashes 6 = .ok (.getfield 26, 3) := by decide +kernel
theorem dX6_clashes_9 : decode cX6_clashes 9 = .ok (.getfield 170, 3) := by decide +kernel
theorem dX6_clashes_12 : decode cX6_clashes 12 = .ok (.if_icmp .ge 42, 3) := by decide +kernel
theorem dX6_clashes_54 : decode cX6_clashes 54 = .ok (.iload_n 1, 1) := by decide +kernel
theorem dX6_clashes_55 : decode cX6_clashes 55 = .ok (.ireturn, 1) := by decide +kernel
theorem dL_law_988 : decode cL_law 988 = .ok (.aload_n 2, 1) := by decide +kernel
theorem dL_law_989 : decode cL_law 989 = .ok (.invokevirtual 172, 3) := by decide +kernel
theorem dX12_clashes_0 : decode cX12_clashes 0 = .ok (.iconst 0, 1) := by decide +kernel
theorem dX12_clashes_1 : decode cX12_clashes 1 = .ok (.istore_n 1, 1) := by decide +kernel
theorem dX12_clashes_2 : decode cX12_clashes 2 = .ok (.iconst 0, 1) := by decide +kernel
theorem dX12_clashes_3 : decode cX12_clashes 3 = .ok (.istore_n 2, 1) := by decide +kernel
theorem dX12_clashes_4 : decode cX12_clashes 4 = .ok (.iload_n 2, 1) := by decide +kernel
theorem dX12_clashes_5 : decode cX12_clashes 5 = .ok (.aload_n 0, 1) := by decide +kernel
theorem dX12_clashes_6 : decode cX12_clashes 6 = .ok (.getfield 19, 3) := by decide +kernel
theorem dX12_clashes_9 : decode cX12_clashes 9 = .ok (.invokevirtual 125, 3) := by decide +kernel
theorem dX12_clashes_12 : decode cX12_clashes 12 = .ok (.if_icmp .ge 92, 3) := by decide +kernel
theorem dX12_clashes_104 : decode cX12_clashes 104 = .ok (.aload_n 0, 1) := by decide +kernel
theorem dX12_clashes_105 : decode cX12_clashes 105 = .ok (.iload_n 1, 1) := by decide +kernel
theorem dX12_clashes_106 : decode cX12_clashes 106 = .ok (.invokevirtual 302, 3) := by decide +kernel
theorem dX12_clashes_109 : decode cX12_clashes 109 = .ok (.ireturn, 1) := by decide +kernel
theorem dL_law_992 : decode cL_law 992 = .ok (.if_icmp .eq 971, 3) := by decide +kernel
theorem dL_law_997 : decode cL_law 997 = .ok (.aload_n 1, 1) := by decide +kernel
theorem dL_law_998 : decode cL_law 998 = .ok (.aload_n 0, 1) := by decide +kernel
theorem dL_law_999 : decode cL_law 999 = .ok (.iload 5, 2) := by decide +kernel
theorem dL_law_1001 : decode cL_law 1001 = .ok (.iconst 1, 1) := by decide +kernel
theorem dL_law_1002 : decode cL_law 1002 = .ok (.iadd, 1) := by decide +kernel
theorem dL_law_1003 : decode cL_law 1003 = .ok (.iaload, 1) := by decide +kernel
theorem dL_law_1004 : decode cL_law 1004 = .ok (.aload_n 0, 1) := by decide +kernel
theorem dL_law_1005 : decode cL_law 1005 = .ok (.iload 5, 2) := by decide +kernel
theorem dL_law_1007 : decode cL_law 1007 = .ok (.iconst 2, 1) := by decide +kernel
theorem dL_law_1008 : decode cL_law 1008 = .ok (.iadd, 1) := by decide +kernel
theorem dL_law_1009 : decode cL_law 1009 = .ok (.iaload, 1) := by decide +kernel
theorem dL_law_1010 : decode cL_law 1010 = .ok (.aload_n 3, 1) := by decide +kernel
theorem dL_law_1011 : decode cL_law 1011 = .ok (.invokestatic 173, 3) := by decide +kernel
theorem dL_cutAt_0 : decode cL_cutAt 0 = .ok (.aload_n 3, 1) := by decide +kernel
theorem dL_cutAt_1 : decode cL_cutAt 1 = .ok (.iconst 0, 1) := by decide +kernel
theorem dL_cutAt_2 : decode cL_cutAt 2 = .ok (.aload_n 0, 1) := by decide +kernel
theorem dL_cutAt_3 : decode cL_cutAt 3 = .ok (.iload_n 1, 1) := by decide +kernel
theorem dL_cutAt_4 : decode cL_cutAt 4 = .ok (.iload_n 2, 1) := by decide +kernel
theorem dL_cutAt_5 : decode cL_cutAt 5 = .ok (.invokevirtual 61, 3) := by decide +kernel
theorem dX6_cutAt_0 : decode cX6_cutAt 0 = .ok (.aload_n 0, 1) := by decide +kernel
theorem dX6_cutAt_1 : decode cX6_cutAt 1 = .ok (.iload_n 1, 1) := by decide +kernel
theorem dX6_cutAt_2 : decode cX6_cutAt 2 = .ok (.invokevirtual 118, 3) := by decide +kernel
theorem dL_cutAt_13 : decode cL_cutAt 13 = .ok (.astore 4, 2) := by decide +kernel
theorem dL_cutAt_15 : decode cL_cutAt 15 = .ok (.iconst 1, 1) := by decide +kernel
theorem dL_cutAt_16 : decode cL_cutAt 16 = .ok (.ireturn, 1) := by decide +kernel
theorem dL_law_1014 : decode cL_law 1014 = .ok (.istore 6, 2) := by decide +kernel
theorem dL_law_1016 : decode cL_law 1016 = .ok (.aload_n 2, 1) := by decide +kernel
theorem dL_law_1017 : decode cL_law 1017 = .ok (.aload_n 0, 1) := by decide +kernel
theorem dL_law_1018 : decode cL_law 1018 = .ok (.iload 5, 2) := by decide +kernel
theorem dL_law_1020 : decode cL_law 1020 = .ok (.iconst 1, 1) := by decide +kernel
theorem dL_law_1021 : decode cL_law 1021 = .ok (.iadd, 1) := by decide +kernel
theorem dL_law_1022 : decode cL_law 1022 = .ok (.iaload, 1) := by decide +kernel
theorem dL_law_1023 : decode cL_law 1023 = .ok (.aload_n 0, 1) := by decide +kernel
theorem dL_law_1024 : decode cL_law 1024 = .ok (.iload 5, 2) := by decide +kernel
theorem dL_law_1026 : decode cL_law 1026 = .ok (.iconst 2, 1) := by decide +kernel
theorem dL_law_1027 : decode cL_law 1027 = .ok (.iadd, 1) := by decide +kernel
theorem dL_law_1028 : decode cL_law 1028 = .ok (.iaload, 1) := by decide +kernel
theorem dL_law_1029 : decode cL_law 1029 = .ok (.invokevirtual 176, 3) := by decide +kernel
theorem dX12_cutAt_0 : decode cX12_cutAt 0 = .ok (.aload_n 0, 1) := by decide +kernel
theorem dX12_cutAt_1 : decode cX12_cutAt 1 = .ok (.iload_n 1, 1) := by decide +kernel
theorem dX12_cutAt_2 : decode cX12_cutAt 2 = .ok (.invokevirtual 314, 3) := by decide +kernel
theorem dX12_cutAt_5 : decode cX12_cutAt 5 = .ok (.ifCond .ne 9, 3) := by decide +kernel
theorem dX12_cutAt_8 : decode cX12_cutAt 8 = .ok (.aload_n 0, 1) := by decide +kernel
theorem dX12_cutAt_9 : decode cX12_cutAt 9 = .ok (.iconst 1, 1) := by decide +kernel
theorem dX12_cutAt_10 : decode cX12_cutAt 10 = .ok (.invokevirtual 289, 3) := by decide +kernel
theorem dX12_cutAt_13 : decode cX12_cutAt 13 = .ok (.ireturn, 1) := by decide +kernel
theorem dL_law_1032 : decode cL_law 1032 = .ok (.istore 7, 2) := by decide +kernel
theorem dL_law_1034 : decode cL_law 1034 = .ok (.aload_n 2, 1) := by decide +kernel
theorem dL_law_1035 : decode cL_law 1035 = .ok (.invokevirtual 125, 3) := by decide +kernel
theorem dL_law_1038 : decode cL_law 1038 = .ok (.iload 6, 2) := by decide +kernel
theorem dL_law_1040 : decode cL_law 1040 = .ok (.if_icmp .eq 5, 3) := by decide +kernel
theorem dL_law_1045 : decode cL_law 1045 = .ok (.iload 6, 2) := by decide +kernel
theorem dL_law_1047 : decode cL_law 1047 = .ok (.ifCond .ne 15, 3) := by decide +kernel
theorem dL_law_1062 : decode cL_law 1062 = .ok (.goto 901, 3) := by decide +kernel
theorem dL_law_1065 : decode cL_law 1065 = .ok (.aload_n 1, 1) := by decide +kernel
theorem dL_law_1066 : decode cL_law 1066 = .ok (.aload_n 0, 1) := by decide +kernel
theorem dL_law_1067 : decode cL_law 1067 = .ok (.iload 5, 2) := by decide +kernel
theorem dL_law_1069 : decode cL_law 1069 = .ok (.iconst 1, 1) := by decide +kernel
theorem dL_law_1070 : decode cL_law 1070 = .ok (.iadd, 1) := by decide +kernel
theorem dL_law_1071 : decode cL_law 1071 = .ok (.iaload, 1) := by decide +kernel
theorem dL_law_1072 : decode cL_law 1072 = .ok (.aload_n 0, 1) := by decide +kernel
theorem dL_law_1073 : decode cL_law 1073 = .ok (.iload 5, 2) := by decide +kernel
theorem dL_law_1075 : decode cL_law 1075 = .ok (.iconst 2, 1) := by decide +kernel
theorem dL_law_1076 : decode cL_law 1076 = .ok (.iadd, 1) := by decide +kernel
theorem dL_law_1077 : decode cL_law 1077 = .ok (.iaload, 1) := by decide +kernel
theorem dL_law_1078 : decode cL_law 1078 = .ok (.aload_n 3, 1) := by decide +kernel
theorem dL_law_1079 : decode cL_law 1079 = .ok (.invokestatic 177, 3) := by decide +kernel
theorem dL_dry_0 : decode cL_dry 0 = .ok (.aload_n 3, 1) := by decide +kernel
theorem dL_dry_1 : decode cL_dry 1 = .ok (.iconst 0, 1) := by decide +kernel
theorem dL_dry_2 : decode cL_dry 2 = .ok (.aload_n 0, 1) := by decide +kernel
theorem dL_dry_3 : decode cL_dry 3 = .ok (.iload_n 1, 1) := by decide +kernel
theorem dL_dry_4 : decode cL_dry 4 = .ok (.iload_n 2, 1) := by decide +kernel
theorem dL_dry_5 : decode cL_dry 5 = .ok (.invokevirtual 65, 3) := by decide +kernel
theorem dX6_dry_0 : decode cX6_dry 0 = .ok (.aload_n 0, 1) := by decide +kernel
theorem dX6_dry_1 : decode cX6_dry 1 = .ok (.iload_n 1, 1) := by decide +kernel
theorem dX6_dry_2 : decode cX6_dry 2 = .ok (.invokevirtual 118, 3) := by decide +kernel
theorem dL_dry_13 : decode cL_dry 13 = .ok (.astore 4, 2) := by decide +kernel
theorem dL_dry_15 : decode cL_dry 15 = .ok (.iconst 1, 1) := by decide +kernel
theorem dL_dry_16 : decode cL_dry 16 = .ok (.ireturn, 1) := by decide +kernel
theorem dL_law_1082 : decode cL_law 1082 = .ok (.istore 6, 2) := by decide +kernel
theorem dL_law_1084 : decode cL_law 1084 = .ok (.aload_n 2, 1) := by decide +kernel
theorem dL_law_1085 : decode cL_law 1085 = .ok (.aload_n 0, 1) := by decide +kernel
theorem dL_law_1086 : decode cL_law 1086 = .ok (.iload 5, 2) := by decide +kernel
theorem dL_law_1088 : decode cL_law 1088 = .ok (.iconst 1, 1) := by decide +kernel
theorem dL_law_1089 : decode cL_law 1089 = .ok (.iadd, 1) := by decide +kernel
theorem dL_law_1090 : decode cL_law 1090 = .ok (.iaload, 1) := by decide +kernel
theorem dL_law_1091 : decode cL_law 1091 = .ok (.aload_n 0, 1) := by decide +kernel
theorem dL_law_1092 : decode cL_law 1092 = .ok (.iload 5, 2) := by decide +kernel
theorem dL_law_1094 : decode cL_law 1094 = .ok (.iconst 2, 1) := by decide +kernel
theorem dL_law_1095 : decode cL_law 1095 = .ok (.iadd, 1) := by decide +kernel
theorem dL_law_1096 : decode cL_law 1096 = .ok (.iaload, 1) := by decide +kernel
theorem dL_law_1097 : decode cL_law 1097 = .ok (.invokevirtual 179, 3) := by decide +kernel
theorem dX12_dry_0 : decode cX12_dry 0 = .ok (.aload_n 0, 1) := by decide +kernel
theorem dX12_dry_1 : decode cX12_dry 1 = .ok (.iload_n 1, 1) := by decide +kernel
theorem dX12_dry_2 : decode cX12_dry 2 = .ok (.invokevirtual 314, 3) := by decide +kernel
theorem dX12_dry_5 : decode cX12_dry 5 = .ok (.ifCond .ne 9, 3) := by decide +kernel
theorem dX12_dry_8 : decode cX12_dry 8 = .ok (.aload_n 0, 1) := by decide +kernel
theorem dX12_dry_9 : decode cX12_dry 9 = .ok (.iconst 1, 1) := by decide +kernel
theorem dX12_dry_10 : decode cX12_dry 10 = .ok (.invokevirtual 289, 3) := by decide +kernel
theorem dX12_dry_13 : decode cX12_dry 13 = .ok (.ireturn, 1) := by decide +kernel
theorem dL_law_1100 : decode cL_law 1100 = .ok (.istore 7, 2) := by decide +kernel
theorem dL_law_1102 : decode cL_law 1102 = .ok (.aload_n 2, 1) := by decide +kernel
theorem dL_law_1103 : decode cL_law 1103 = .ok (.invokevirtual 125, 3) := by decide +kernel
theorem dL_law_1106 : decode cL_law 1106 = .ok (.iload 6, 2) := by decide +kernel
theorem dL_law_1108 : decode cL_law 1108 = .ok (.if_icmp .eq 5, 3) := by decide +kernel
theorem dL_law_1113 : decode cL_law 1113 = .ok (.iload 6, 2) := by decide +kernel
theorem dL_law_1115 : decode cL_law 1115 = .ok (.ifCond .ne 15, 3) := by decide +kernel
theorem dL_law_1130 : decode cL_law 1130 = .ok (.goto 833, 3) := by decide +kernel
theorem dL_law_1133 : decode cL_law 1133 = .ok (.aload_n 1, 1) := by decide +kernel
theorem dL_law_1134 : decode cL_law 1134 = .ok (.aload_n 0, 1) := by decide +kernel
theorem dL_law_1135 : decode cL_law 1135 = .ok (.iload 5, 2) := by decide +kernel
theorem dL_law_1137 : decode cL_law 1137 = .ok (.iconst 1, 1) := by decide +kernel
theorem dL_law_1138 : decode cL_law 1138 = .ok (.iadd, 1) := by decide +kernel
theorem dL_law_1139 : decode cL_law 1139 = .ok (.iaload, 1) := by decide +kernel
theorem dL_law_1140 : decode cL_law 1140 = .ok (.aload_n 3, 1) := by decide +kernel
theorem dL_law_1141 : decode cL_law 1141 = .ok (.invokestatic 180, 3) := by decide +kernel
theorem dL_gap_0 : decode cL_gap 0 = .ok (.aload_n 2, 1) := by decide +kernel
theorem dL_gap_1 : decode cL_gap 1 = .ok (.iconst 0, 1) := by decide +kernel
theorem dL_gap_2 : decode cL_gap 2 = .ok (.aload_n 0, 1) := by decide +kernel
theorem dL_gap_3 : decode cL_gap 3 = .ok (.iload_n 1, 1) := by decide +kernel
theorem dL_gap_4 : decode cL_gap 4 = .ok (.invokevirtual 68, 3) := by decide +kernel
theorem dX6_gap_0 : decode cX6_gap 0 = .ok (.aload_n 0, 1) := by decide +kernel
theorem dX6_gap_1 : decode cX6_gap 1 = .ok (.iload_n 1, 1) := by decide +kernel
theorem dX6_gap_2 : decode cX6_gap 2 = .ok (.invokevirtual 179, 3) := by decide +kernel
theorem dL_gap_12 : decode cL_gap 12 = .ok (.astore_n 3, 1) := by decide +kernel
theorem dL_gap_13 : decode cL_gap 13 = .ok (.iconst 1, 1) := by decide +kernel
theorem dL_gap_14 : decode cL_gap 14 = .ok (.ireturn, 1) := by decide +kernel
theorem dL_law_1144 : decode cL_law 1144 = .ok (.istore 6, 2) := by decide +kernel
theorem dL_law_1146 : decode cL_law 1146 = .ok (.aload_n 2, 1) := by decide +kernel
theorem dL_law_1147 : decode cL_law 1147 = .ok (.aload_n 0, 1) := by decide +kernel
theorem dL_law_1148 : decode cL_law 1148 = .ok (.iload 5, 2) := by decide +kernel
theorem dL_law_1150 : decode cL_law 1150 = .ok (.iconst 1, 1) := by decide +kernel
theorem dL_law_1151 : decode cL_law 1151 = .ok (.iadd, 1) := by decide +kernel
theorem dL_law_1152 : decode cL_law 1152 = .ok (.iaload, 1) := by decide +kernel
theorem dL_law_1153 : decode cL_law 1153 = .ok (.invokevirtual 182, 3) := by decide +kernel
theorem dX12_gap_0 : decode cX12_gap 0 = .ok (.aload_n 0, 1) := by decide +kernel
theorem dX12_gap_1 : decode cX12_gap 1 = .ok (.iload_n 1, 1) := by decide +kernel
theorem dX12_gap_2 : decode cX12_gap 2 = .ok (.invokevirtual 363, 3) := by decide +kernel
theorem dX12_gap_5 : decode cX12_gap 5 = .ok (.ifCond .eq 25, 3) := by decide +kernel
theorem dX12_gap_30 : decode cX12_gap 30 = .ok (.aload_n 0, 1) := by decide +kernel
theorem dX12_gap_31 : decode cX12_gap 31 = .ok (.iconst 1, 1) := by decide +kernel
theorem dX12_gap_32 : decode cX12_gap 32 = .ok (.invokevirtual 289, 3) := by decide +kernel
theorem dX12_gap_35 : decode cX12_gap 35 = .ok (.ireturn, 1) := by decide +kernel
theorem dL_law_1156 : decode cL_law 1156 = .ok (.istore 7, 2) := by decide +kernel
theorem dL_law_1158 : decode cL_law 1158 = .ok (.aload_n 2, 1) := by decide +kernel
theorem dL_law_1159 : decode cL_law 1159 = .ok (.invokevirtual 125, 3) := by decide +kernel
theorem dL_law_1162 : decode cL_law 1162 = .ok (.iload 6, 2) := by decide +kernel
theorem dL_law_1164 : decode cL_law 1164 = .ok (.if_icmp .eq 5, 3) := by decide +kernel
theorem dL_law_1169 : decode cL_law 1169 = .ok (.iload 6, 2) := by decide +kernel
theorem dL_law_1171 : decode cL_law 1171 = .ok (.ifCond .ne 15, 3) := by decide +kernel
theorem dL_law_1186 : decode cL_law 1186 = .ok (.goto 777, 3) := by decide +kernel
theorem dL_law_1189 : decode cL_law 1189 = .ok (.aload_n 1, 1) := by decide +kernel
theorem dL_law_1190 : decode cL_law 1190 = .ok (.aload_n 3, 1) := by decide +kernel
theorem dL_law_1191 : decode cL_law 1191 = .ok (.invokestatic 183, 3) := by decide +kernel
theorem dL_widest_0 : decode cL_widest 0 = .ok (.aload_n 1, 1) := by decide +kernel
theorem dL_widest_1 : decode cL_widest 1 = .ok (.iconst 0, 1) := by decide +kernel
theorem dL_widest_2 : decode cL_widest 2 = .ok (.aload_n 0, 1) := by decide +kernel
theorem dL_widest_3 : decode cL_widest 3 = .ok (.invokevirtual 71, 3) := by decide +kernel
theorem dX6_widest_0 : decode cX6_widest 0 = .ok (.aload_n 0, 1) := by decide +kernel
theorem dX6_widest_1 : decode cX6_widest 1 = .ok (.getfield 26, 3) := by decide +kernel
theorem dX6_widest_4 : decode cX6_widest 4 = .ok (.getfield 170, 3) := by decide +kernel
theorem dX6_widest_7 : decode cX6_widest 7 = .ok (.ifCond .ne 13, 3) := by decide +kernel
theorem dX6_widest_10 : decode cX6_widest 10 = .ok (.new 142, 3) := by decide +kernel
theorem dX6_widest_13 : decode cX6_widest 13 = .ok (.dup, 1) := by decide +kernel
theorem dX6_widest_14 : decode cX6_widest 14 = .ok (.ldc 206, 2) := by decide +kernel
theorem dX6_widest_16 : decode cX6_widest 16 = .ok (.invokespecial 146, 3) := by decide +kernel
theorem dX6_widest_19 : decode cX6_widest 19 = .ok (.athrow, 1) := by decide +kernel
theorem dL_widest_11 : decode cL_widest 11 = .ok (.astore_n 2, 1) := by decide +kernel
theorem dL_widest_12 : decode cL_widest 12 = .ok (.iconst 1, 1) := by decide +kernel
theorem dL_widest_13 : decode cL_widest 13 = .ok (.ireturn, 1) := by decide +kernel
theorem dL_law_1194 : decode cL_law 1194 = .ok (.istore 6, 2) := by decide +kernel
theorem dL_law_1196 : decode cL_law 1196 = .ok (.aload_n 2, 1) := by decide +kernel
theorem dL_law_1197 : decode cL_law 1197 = .ok (.invokevirtual 185, 3) := by decide +kernel
theorem dX12_widest_0 : decode cX12_widest 0 = .ok (.iconst (-1), 1) := by decide +kernel
theorem dX12_widest_1 : decode cX12_widest 1 = .ok (.istore_n 1, 1) := by decide +kernel
theorem dX12_widest_2 : decode cX12_widest 2 = .ok (.iconst 0, 1) := by decide +kernel
theorem dX12_widest_3 : decode cX12_widest 3 = .ok (.istore_n 2, 1) := by decide +kernel
theorem dX12_widest_4 : decode cX12_widest 4 = .ok (.iload_n 2, 1) := by decide +kernel
theorem dX12_widest_5 : decode cX12_widest 5 = .ok (.aload_n 0, 1) := by decide +kernel
theorem dX12_widest_6 : decode cX12_widest 6 = .ok (.getfield 19, 3) := by decide +kernel
theorem dX12_widest_9 : decode cX12_widest 9 = .ok (.invokevirtual 125, 3) := by decide +kernel
theorem dX12_widest_12 : decode cX12_widest 12 = .ok (.if_icmp .ge 49, 3) := by decide +kernel
theorem dX12_widest_61 : decode cX12_widest 61 = .ok (.iload_n 1, 1) := by decide +kernel
theorem dX12_widest_62 : decode cX12_widest 62 = .ok (.iconst (-1), 1) := by decide +kernel
theorem dX12_widest_63 : decode cX12_widest 63 = .ok (.if_icmp .ne 11, 3) := by decide +kernel
theorem dX12_widest_66 : decode cX12_widest 66 = .ok (.aload_n 0, 1) := by decide +kernel
theorem dX12_widest_67 : decode cX12_widest 67 = .ok (.iconst 1, 1) := by decide +kernel
theorem dX12_widest_68 : decode cX12_widest 68 = .ok (.invokevirtual 289, 3) := by decide +kernel
theorem dX12_widest_71 : decode cX12_widest 71 = .ok (.goto 8, 3) := by decide +kernel
theorem dX12_widest_79 : decode cX12_widest 79 = .ok (.ireturn, 1) := by decide +kernel
theorem dL_law_1200 : decode cL_law 1200 = .ok (.istore 7, 2) := by decide +kernel
theorem dL_law_1202 : decode cL_law 1202 = .ok (.aload_n 2, 1) := by decide +kernel
theorem dL_law_1203 : decode cL_law 1203 = .ok (.invokevirtual 125, 3) := by decide +kernel
theorem dL_law_1206 : decode cL_law 1206 = .ok (.iload 6, 2) := by decide +kernel
theorem dL_law_1208 : decode cL_law 1208 = .ok (.if_icmp .eq 5, 3) := by decide +kernel
theorem dL_law_1213 : decode cL_law 1213 = .ok (.iload 6, 2) := by decide +kernel
theorem dL_law_1215 : decode cL_law 1215 = .ok (.ifCond .ne 15, 3) := by decide +kernel
theorem dL_law_1230 : decode cL_law 1230 = .ok (.goto 733, 3) := by decide +kernel
theorem dL_law_1233 : decode cL_law 1233 = .ok (.aload_n 1, 1) := by decide +kernel
theorem dL_law_1234 : decode cL_law 1234 = .ok (.aload_n 0, 1) := by decide +kernel
theorem dL_law_1235 : decode cL_law 1235 = .ok (.iload 5, 2) := by decide +kernel
theorem dL_law_1237 : decode cL_law 1237 = .ok (.iconst 1, 1) := by decide +kernel
theorem dL_law_1238 : decode cL_law 1238 = .ok (.iadd, 1) := by decide +kernel
theorem dL_law_1239 : decode cL_law 1239 = .ok (.iaload, 1) := by decide +kernel
theorem dL_law_1240 : decode cL_law 1240 = .ok (.aload_n 0, 1) := by decide +kernel
theorem dL_law_1241 : decode cL_law 1241 = .ok (.iload 5, 2) := by decide +kernel
theorem dL_law_1243 : decode cL_law 1243 = .ok (.iconst 2, 1) := by decide +kernel
theorem dL_law_1244 : decode cL_law 1244 = .ok (.iadd, 1) := by decide +kernel
theorem dL_law_1245 : decode cL_law 1245 = .ok (.iaload, 1) := by decide +kernel
theorem dL_law_1246 : decode cL_law 1246 = .ok (.aload_n 0, 1) := by decide +kernel
theorem dL_law_1247 : decode cL_law 1247 = .ok (.iload 5, 2) := by decide +kernel
theorem dL_law_1249 : decode cL_law 1249 = .ok (.iconst 3, 1) := by decide +kernel
theorem dL_law_1250 : decode cL_law 1250 = .ok (.iadd, 1) := by decide +kernel
theorem dL_law_1251 : decode cL_law 1251 = .ok (.iaload, 1) := by decide +kernel
theorem dL_law_1252 : decode cL_law 1252 = .ok (.aload_n 3, 1) := by decide +kernel
theorem dL_law_1253 : decode cL_law 1253 = .ok (.invokestatic 186, 3) := by decide +kernel
theorem dL_stick_0 : decode cL_stick 0 = .ok (.aload 4, 2) := by decide +kernel
theorem dL_stick_2 : decode cL_stick 2 = .ok (.iconst 0, 1) := by decide +kernel
theorem dL_stick_3 : decode cL_stick 3 = .ok (.aload_n 0, 1) := by decide +kernel
theorem dL_stick_4 : decode cL_stick 4 = .ok (.iload_n 1, 1) := by decide +kernel
theorem dL_stick_5 : decode cL_stick 5 = .ok (.iload_n 2, 1) := by decide +kernel
theorem dL_stick_6 : decode cL_stick 6 = .ok (.iload_n 3, 1) := by decide +kernel
theorem dL_stick_7 : decode cL_stick 7 = .ok (.invokevirtual 74, 3) := by decide +kernel
theorem dX6_stick_0 : decode cX6_stick 0 = .ok (.iload_n 1, 1) := by decide +kernel
theorem dX6_stick_1 : decode cX6_stick 1 = .ok (.iconst 1, 1) := by decide +kernel
theorem dX6_stick_2 : decode cX6_stick 2 = .ok (.sipush 900, 3) := by decide +kernel
theorem dX6_stick_5 : decode cX6_stick 5 = .ok (.invokestatic 44, 3) := by decide +kernel
theorem dX6_stick_8 : decode cX6_stick 8 = .ok (.ifCond .eq 11, 3) := by decide +kernel
theorem dX6_stick_19 : decode cX6_stick 19 = .ok (.new 56, 3) := by decide +kernel
theorem dX6_stick_22 : decode cX6_stick 22 = .ok (.dup, 1) := by decide +kernel
theorem dX6_stick_23 : decode cX6_stick 23 = .ok (.ldc 208, 2) := by decide +kernel
theorem dX6_stick_25 : decode cX6_stick 25 = .ok (.invokespecial 60, 3) := by decide +kernel
theorem dX6_stick_28 : decode cX6_stick 28 = .ok (.athrow, 1) := by decide +kernel
theorem dL_stick_15 : decode cL_stick 15 = .ok (.astore 5, 2) := by decide +kernel
theorem dL_stick_17 : decode cL_stick 17 = .ok (.iconst 1, 1) := by decide +kernel
theorem dL_stick_18 : decode cL_stick 18 = .ok (.ireturn, 1) := by decide +kernel
theorem dL_law_1256 : decode cL_law 1256 = .ok (.istore 6, 2) := by decide +kernel
theorem dL_law_1258 : decode cL_law 1258 = .ok (.aload_n 2, 1) := by decide +kernel
theorem dL_law_1259 : decode cL_law 1259 = .ok (.aload_n 0, 1) := by decide +kernel
theorem dL_law_1260 : decode cL_law 1260 = .ok (.iload 5, 2) := by decide +kernel
theorem dL_law_1262 : decode cL_law 1262 = .ok (.iconst 1, 1) := by decide +kernel
theorem dL_law_1263 : decode cL_law 1263 = .ok (.iadd, 1) := by decide +kernel
theorem dL_law_1264 : decode cL_law 1264 = .ok (.iaload, 1) := by decide +kernel
theorem dL_law_1265 : decode cL_law 1265 = .ok (.aload_n 0, 1) := by decide +kernel
theorem dL_law_1266 : decode cL_law 1266 = .ok (.iload 5, 2) := by decide +kernel
theorem dL_law_1268 : decode cL_law 1268 = .ok (.iconst 2, 1) := by decide +kernel
theorem dL_law_1269 : decode cL_law 1269 = .ok (.iadd, 1) := by decide +kernel
theorem dL_law_1270 : decode cL_law 1270 = .ok (.iaload, 1) := by decide +kernel
theorem dL_law_1271 : decode cL_law 1271 = .ok (.aload_n 0, 1) := by decide +kernel
theorem dL_law_1272 : decode cL_law 1272 = .ok (.iload 5, 2) := by decide +kernel
theorem dL_law_1274 : decode cL_law 1274 = .ok (.iconst 3, 1) := by decide +kernel
theorem dL_law_1275 : decode cL_law 1275 = .ok (.iadd, 1) := by decide +kernel
theorem dL_law_1276 : decode cL_law 1276 = .ok (.iaload, 1) := by decide +kernel
theorem dL_law_1277 : decode cL_law 1277 = .ok (.invokevirtual 188, 3) := by decide +kernel
theorem dX12_stick_0 : decode cX12_stick 0 = .ok (.iload_n 1, 1) := by decide +kernel
theorem dX12_stick_1 : decode cX12_stick 1 = .ok (.i2l, 1) := by decide +kernel
theorem dX12_stick_2 : decode cX12_stick 2 = .ok (.iconst 1, 1) := by decide +kernel
theorem dX12_stick_3 : decode cX12_stick 3 = .ok (.sipush 900, 3) := by decide +kernel
theorem dX12_stick_6 : decode cX12_stick 6 = .ok (.invokestatic 285, 3) := by decide +kernel
theorem dX12_stick_9 : decode cX12_stick 9 = .ok (.ifCond .eq 25, 3) := by decide +kernel
theorem dX12_stick_34 : decode cX12_stick 34 = .ok (.aload_n 0, 1) := by decide +kernel
theorem dX12_stick_35 : decode cX12_stick 35 = .ok (.iconst 1, 1) := by decide +kernel
theorem dX12_stick_36 : decode cX12_stick 36 = .ok (.invokevirtual 289, 3) := by decide +kernel
theorem dX12_stick_39 : decode cX12_stick 39 = .ok (.ireturn, 1) := by decide +kernel
theorem dL_law_1280 : decode cL_law 1280 = .ok (.istore 7, 2) := by decide +kernel
theorem dL_law_1282 : decode cL_law 1282 = .ok (.aload_n 2, 1) := by decide +kernel
theorem dL_law_1283 : decode cL_law 1283 = .ok (.invokevirtual 125, 3) := by decide +kernel
theorem dL_law_1286 : decode cL_law 1286 = .ok (.iload 6, 2) := by decide +kernel
theorem dL_law_1288 : decode cL_law 1288 = .ok (.if_icmp .eq 5, 3) := by decide +kernel
theorem dL_law_1293 : decode cL_law 1293 = .ok (.iload 6, 2) := by decide +kernel
theorem dL_law_1295 : decode cL_law 1295 = .ok (.ifCond .ne 15, 3) := by decide +kernel
theorem dL_law_1310 : decode cL_law 1310 = .ok (.goto 653, 3) := by decide +kernel
theorem dX6_stick_11 : decode cX6_stick 11 = .ok (.iload_n 2, 1) := by decide +kernel
theorem dX6_stick_12 : decode cX6_stick 12 = .ok (.iload_n 3, 1) := by decide +kernel
theorem dX6_stick_13 : decode cX6_stick 13 = .ok (.invokestatic 88, 3) := by decide +kernel
theorem dX6_isSection_0 : decode cX6_isSection 0 = .ok (.iload_n 0, 1) := by decide +kernel
theorem dX6_isSection_1 : decode cX6_isSection 1 = .ok (.bipush 6, 2) := by decide +kernel
theorem dX6_isSection_3 : decode cX6_isSection 3 = .ok (.bipush 40, 2) := by decide +kernel
theorem dX6_isSection_5 : decode cX6_isSection 5 = .ok (.invokestatic 44, 3) := by decide +kernel
theorem dX6_isSection_8 : decode cX6_isSection 8 = .ok (.ifCond .eq 16, 3) := by decide +kernel
theorem dX6_isSection_24 : decode cX6_isSection 24 = .ok (.iconst 0, 1) := by decide +kernel
theorem dX6_isSection_25 : decode cX6_isSection 25 = .ok (.ireturn, 1) := by decide +kernel
theorem dX6_stick_16 : decode cX6_stick 16 = .ok (.ifCond .ne 13, 3) := by decide +kernel
theorem dX12_stick_12 : decode cX12_stick 12 = .ok (.iload_n 2, 1) := by decide +kernel
theorem dX12_stick_13 : decode cX12_stick 13 = .ok (.i2l, 1) := by decide +kernel
theorem dX12_stick_14 : decode cX12_stick 14 = .ok (.bipush 6, 2) := by decide +kernel
theorem dX12_stick_16 : decode cX12_stick 16 = .ok (.bipush 40, 2) := by decide +kernel
theorem dX12_stick_18 : decode cX12_stick 18 = .ok (.invokestatic 285, 3) := by decide +kernel
theorem dX12_stick_21 : decode cX12_stick 21 = .ok (.ifCond .eq 13, 3) := by decide +kernel
theorem dX6_isSection_11 : decode cX6_isSection 11 = .ok (.iload_n 1, 1) := by decide +kernel
theorem dX6_isSection_12 : decode cX6_isSection 12 = .ok (.iconst 0, 1) := by decide +kernel
theorem dX6_isSection_13 : decode cX6_isSection 13 = .ok (.iconst 3, 1) := by decide +kernel
theorem dX6_isSection_14 : decode cX6_isSection 14 = .ok (.invokestatic 44, 3) := by decide +kernel
theorem dX6_isSection_17 : decode cX6_isSection 17 = .ok (.ifCond .eq 7, 3) := by decide +kernel
theorem dX12_stick_24 : decode cX12_stick 24 = .ok (.iload_n 3, 1) := by decide +kernel
theorem dX12_stick_25 : decode cX12_stick 25 = .ok (.i2l, 1) := by decide +kernel
theorem dX12_stick_26 : decode cX12_stick 26 = .ok (.iconst 0, 1) := by decide +kernel
theorem dX12_stick_27 : decode cX12_stick 27 = .ok (.iconst 3, 1) := by decide +kernel
theorem dX12_stick_28 : decode cX12_stick 28 = .ok (.invokestatic 285, 3) := by decide +kernel
theorem dX12_stick_31 : decode cX12_stick 31 = .ok (.ifCond .ne 9, 3) := by decide +kernel
theorem dX6_isSection_20 : decode cX6_isSection 20 = .ok (.iconst 1, 1) := by decide +kernel
theorem dX6_isSection_21 : decode cX6_isSection 21 = .ok (.goto 4, 3) := by decide +kernel
theorem dX6_stick_29 : decode cX6_stick 29 = .ok (.aload_n 0, 1) := by decide +kernel
theorem dX6_stick_30 : decode cX6_stick 30 = .ok (.getfield 33, 3) := by decide +kernel
theorem dX6_stick_33 : decode cX6_stick 33 = .ok (.getfield 210, 3) := by decide +kernel
theorem dX6_stick_36 : decode cX6_stick 36 = .ok (.iconst 5, 1) := by decide +kernel
theorem dX6_stick_37 : decode cX6_stick 37 = .ok (.if_icmp .lt 13, 3) := by decide +kernel
theorem dX6_stick_50 : decode cX6_stick 50 = .ok (.aload_n 0, 1) := by decide +kernel
theorem dX6_stick_51 : decode cX6_stick 51 = .ok (.getfield 33, 3) := by decide +kernel
theorem dX6_stick_54 : decode cX6_stick 54 = .ok (.iconst 0, 1) := by decide +kernel
theorem dX6_stick_55 : decode cX6_stick 55 = .ok (.putfield 98, 3) := by decide +kernel
theorem dX6_stick_58 : decode cX6_stick 58 = .ok (.aload_n 0, 1) := by decide +kernel
theorem dX6_stick_59 : decode cX6_stick 59 = .ok (.getfield 33, 3) := by decide +kernel
theorem dX6_stick_62 : decode cX6_stick 62 = .ok (.iload_n 1, 1) := by decide +kernel
theorem dX6_stick_63 : decode cX6_stick 63 = .ok (.iload_n 2, 1) := by decide +kernel
theorem dX6_stick_64 : decode cX6_stick 64 = .ok (.iload_n 3, 1) := by decide +kernel
theorem dX6_stick_65 : decode cX6_stick 65 = .ok (.invokevirtual 213, 3) := by decide +kernel
theorem dX0_add_0 : decode cX0_add 0 = .ok (.aload_n 0, 1) := by decide +kernel
theorem dX0_add_1 : decode cX0_add 1 = .ok (.getfield 34, 3) := by decide +kernel
theorem dX0_add_4 : decode cX0_add 4 = .ok (.istore 4, 2) := by decide +kernel
theorem dX0_add_6 : decode cX0_add 6 = .ok (.aload_n 0, 1) := by decide +kernel
theorem dX0_add_7 : decode cX0_add 7 = .ok (.getfield 15, 3) := by decide +kernel
theorem dX0_add_10 : decode cX0_add 10 = .ok (.iload 4, 2) := by decide +kernel
theorem dX0_add_12 : decode cX0_add 12 = .ok (.iload_n 1, 1) := by decide +kernel
theorem dX0_add_13 : decode cX0_add 13 = .ok (.iastore, 1) := by decide +kernel
theorem dX0_add_14 : decode cX0_add 14 = .ok (.aload_n 0, 1) := by decide +kernel
theorem dX0_add_15 : decode cX0_add 15 = .ok (.getfield 18, 3) := by decide +kernel
theorem dX0_add_18 : decode cX0_add 18 = .ok (.iload 4, 2) := by decide +kernel
theorem dX0_add_20 : decode cX0_add 20 = .ok (.iload_n 2, 1) := by decide +kernel
theorem dX0_add_21 : decode cX0_add 21 = .ok (.iastore, 1) := by decide +kernel
theorem dX0_add_22 : decode cX0_add 22 = .ok (.aload_n 0, 1) := by decide +kernel
theorem dX0_add_23 : decode cX0_add 23 = .ok (.getfield 21, 3) := by decide +kernel
theorem dX0_add_26 : decode cX0_add 26 = .ok (.iload 4, 2) := by decide +kernel
theorem dX0_add_28 : decode cX0_add 28 = .ok (.iload_n 3, 1) := by decide +kernel
theorem dX0_add_29 : decode cX0_add 29 = .ok (.iastore, 1) := by decide +kernel
theorem dX0_add_30 : decode cX0_add 30 = .ok (.aload_n 0, 1) := by decide +kernel
theorem dX0_add_31 : decode cX0_add 31 = .ok (.iload 4, 2) := by decide +kernel
theorem dX0_add_33 : decode cX0_add 33 = .ok (.iconst 1, 1) := by decide +kernel
theorem dX0_add_34 : decode cX0_add 34 = .ok (.iadd, 1) := by decide +kernel
theorem dX0_add_35 : decode cX0_add 35 = .ok (.putfield 34, 3) := by decide +kernel
theorem dX0_add_38 : decode cX0_add 38 = .ok (.iload 4, 2) := by decide +kernel
theorem dX0_add_40 : decode cX0_add 40 = .ok (.ireturn, 1) := by decide +kernel
theorem dX6_stick_68 : decode cX6_stick 68 = .ok (.ireturn, 1) := by decide +kernel
theorem dL_stick_10 : decode cL_stick 10 = .ok (.i2l, 1) := by decide +kernel
theorem dL_stick_11 : decode cL_stick 11 = .ok (.lastore, 1) := by decide +kernel
theorem dL_stick_12 : decode cL_stick 12 = .ok (.goto 11, 3) := by decide +kernel
theorem dL_stick_23 : decode cL_stick 23 = .ok (.iconst 0, 1) := by decide +kernel
theorem dL_stick_24 : decode cL_stick 24 = .ok (.ireturn, 1) := by decide +kernel
theorem dX12_stick_40 : decode cX12_stick 40 = .ok (.aload_n 0, 1) := by decide +kernel
theorem dX12_stick_41 : decode cX12_stick 41 = .ok (.getfield 22, 3) := by decide +kernel
theorem dX12_stick_44 : decode cX12_stick 44 = .ok (.invokevirtual 125, 3) := by decide +kernel
theorem dX12_stick_47 : decode cX12_stick 47 = .ok (.iconst 5, 1) := by decide +kernel
theorem dX12_stick_48 : decode cX12_stick 48 = .ok (.if_icmp .ne 9, 3) := by decide +kernel
theorem dX12_stick_57 : decode cX12_stick 57 = .ok (.aload_n 0, 1) := by decide +kernel
theorem dX12_stick_58 : decode cX12_stick 58 = .ok (.getfield 22, 3) := by decide +kernel
theorem dX12_stick_61 : decode cX12_stick 61 = .ok (.new 239, 3) := by decide +kernel
theorem dX12_stick_64 : decode cX12_stick 64 = .ok (.dup, 1) := by decide +kernel
theorem dX12_stick_65 : decode cX12_stick 65 = .ok (.iload_n 1, 1) := by decide +kernel
theorem dX12_stick_66 : decode cX12_stick 66 = .ok (.iload_n 2, 1) := by decide +kernel
theorem dX12_stick_67 : decode cX12_stick 67 = .ok (.iload_n 3, 1) := by decide +kernel
theorem dX12_stick_68 : decode cX12_stick 68 = .ok (.invokespecial 386, 3) := by decide +kernel
theorem dX10_init_0 : decode cX10_init 0 = .ok (.aload_n 0, 1) := by decide +kernel
theorem dX10_init_1 : decode cX10_init 1 = .ok (.invokespecial 1, 3) := by decide +kernel
theorem dX10_init_4 : decode cX10_init 4 = .ok (.aload_n 0, 1) := by decide +kernel
theorem dX10_init_5 : decode cX10_init 5 = .ok (.iload_n 1, 1) := by decide +kernel
theorem dX10_init_6 : decode cX10_init 6 = .ok (.putfield 7, 3) := by decide +kernel
theorem dX10_init_9 : decode cX10_init 9 = .ok (.aload_n 0, 1) := by decide +kernel
theorem dX10_init_10 : decode cX10_init 10 = .ok (.iload_n 2, 1) := by decide +kernel
theorem dX10_init_11 : decode cX10_init 11 = .ok (.putfield 13, 3) := by decide +kernel
theorem dX10_init_14 : decode cX10_init 14 = .ok (.aload_n 0, 1) := by decide +kernel
theorem dX10_init_15 : decode cX10_init 15 = .ok (.iload_n 3, 1) := by decide +kernel
theorem dX10_init_16 : decode cX10_init 16 = .ok (.putfield 16, 3) := by decide +kernel
theorem dX10_init_19 : decode cX10_init 19 = .ok (.return_, 1) := by decide +kernel
theorem dX12_stick_71 : decode cX12_stick 71 = .ok (.invokevirtual 295, 3) := by decide +kernel
theorem dX12_stick_74 : decode cX12_stick 74 = .ok (.pop, 1) := by decide +kernel
theorem dX12_stick_75 : decode cX12_stick 75 = .ok (.aload_n 0, 1) := by decide +kernel
theorem dX12_stick_76 : decode cX12_stick 76 = .ok (.iconst 0, 1) := by decide +kernel
theorem dX12_stick_77 : decode cX12_stick 77 = .ok (.putfield 84, 3) := by decide +kernel
theorem dX12_stick_80 : decode cX12_stick 80 = .ok (.aload_n 0, 1) := by decide +kernel
theorem dX12_stick_81 : decode cX12_stick 81 = .ok (.aload_n 0, 1) := by decide +kernel
theorem dX12_stick_82 : decode cX12_stick 82 = .ok (.getfield 22, 3) := by decide +kernel
theorem dX12_stick_85 : decode cX12_stick 85 = .ok (.invokevirtual 125, 3) := by decide +kernel
theorem dX12_stick_88 : decode cX12_stick 88 = .ok (.iconst 1, 1) := by decide +kernel
theorem dX12_stick_89 : decode cX12_stick 89 = .ok (.isub, 1) := by decide +kernel
theorem dX12_stick_90 : decode cX12_stick 90 = .ok (.invokevirtual 302, 3) := by decide +kernel
theorem dX12_stick_93 : decode cX12_stick 93 = .ok (.ireturn, 1) := by decide +kernel
theorem dL_law_1298 : decode cL_law 1298 = .ok (.aload_n 3, 1) := by decide +kernel
theorem dL_law_1299 : decode cL_law 1299 = .ok (.iconst 0, 1) := by decide +kernel
theorem dL_law_1300 : decode cL_law 1300 = .ok (.laload, 1) := by decide +kernel
theorem dL_law_1301 : decode cL_law 1301 = .ok (.iload 7, 2) := by decide +kernel
theorem dL_law_1303 : decode cL_law 1303 = .ok (.i2l, 1) := by decide +kernel
theorem dL_law_1304 : decode cL_law 1304 = .ok (.lcmp, 1) := by decide +kernel
theorem dL_law_1305 : decode cL_law 1305 = .ok (.ifCond .eq 5, 3) := by decide +kernel
theorem dL_law_1313 : decode cL_law 1313 = .ok (.aload_n 1, 1) := by decide +kernel
theorem dL_law_1314 : decode cL_law 1314 = .ok (.aload_n 0, 1) := by decide +kernel
theorem dL_law_1315 : decode cL_law 1315 = .ok (.iload 5, 2) := by decide +kernel
theorem dL_law_1317 : decode cL_law 1317 = .ok (.iconst 1, 1) := by decide +kernel
theorem dL_law_1318 : decode cL_law 1318 = .ok (.iadd, 1) := by decide +kernel
theorem dL_law_1319 : decode cL_law 1319 = .ok (.iaload, 1) := by decide +kernel
theorem dL_law_1320 : decode cL_law 1320 = .ok (.aload_n 3, 1) := by decide +kernel
theorem dL_law_1321 : decode cL_law 1321 = .ok (.invokestatic 189, 3) := by decide +kernel
theorem dL_piece_0 : decode cL_piece 0 = .ok (.aload_n 2, 1) := by decide +kernel
theorem dL_piece_1 : decode cL_piece 1 = .ok (.iconst 0, 1) := by decide +kernel
theorem dL_piece_2 : decode cL_piece 2 = .ok (.aload_n 0, 1) := by decide +kernel
theorem dL_piece_3 : decode cL_piece 3 = .ok (.iload_n 1, 1) := by decide +kernel
theorem dL_piece_4 : decode cL_piece 4 = .ok (.invokevirtual 77, 3) := by decide +kernel
theorem dX6_piece_0 : decode cX6_piece 0 = .ok (.aload_n 0, 1) := by decide +kernel
theorem dX6_piece_1 : decode cX6_piece 1 = .ok (.iload_n 1, 1) := by decide +kernel
theorem dX6_piece_2 : decode cX6_piece 2 = .ok (.invokevirtual 118, 3) := by decide +kernel
theorem dL_piece_12 : decode cL_piece 12 = .ok (.astore_n 3, 1) := by decide +kernel
theorem dL_piece_13 : decode cL_piece 13 = .ok (.iconst 1, 1) := by decide +kernel
theorem dL_piece_14 : decode cL_piece 14 = .ok (.ireturn, 1) := by decide +kernel
theorem dL_law_1324 : decode cL_law 1324 = .ok (.istore 6, 2) := by decide +kernel
theorem dL_law_1326 : decode cL_law 1326 = .ok (.aload_n 2, 1) := by decide +kernel
theorem dL_law_1327 : decode cL_law 1327 = .ok (.aload_n 0, 1) := by decide +kernel
theorem dL_law_1328 : decode cL_law 1328 = .ok (.iload 5, 2) := by decide +kernel
theorem dL_law_1330 : decode cL_law 1330 = .ok (.iconst 1, 1) := by decide +kernel
theorem dL_law_1331 : decode cL_law 1331 = .ok (.iadd, 1) := by decide +kernel
theorem dL_law_1332 : decode cL_law 1332 = .ok (.iaload, 1) := by decide +kernel
theorem dL_law_1333 : decode cL_law 1333 = .ok (.invokevirtual 191, 3) := by decide +kernel
theorem dX12_piece_0 : decode cX12_piece 0 = .ok (.aload_n 0, 1) := by decide +kernel
theorem dX12_piece_1 : decode cX12_piece 1 = .ok (.iload_n 1, 1) := by decide +kernel
theorem dX12_piece_2 : decode cX12_piece 2 = .ok (.invokevirtual 314, 3) := by decide +kernel
theorem dX12_piece_5 : decode cX12_piece 5 = .ok (.ifCond .eq 15, 3) := by decide +kernel
theorem dX12_piece_20 : decode cX12_piece 20 = .ok (.aload_n 0, 1) := by decide +kernel
theorem dX12_piece_21 : decode cX12_piece 21 = .ok (.iconst 1, 1) := by decide +kernel
theorem dX12_piece_22 : decode cX12_piece 22 = .ok (.invokevirtual 289, 3) := by decide +kernel
theorem dX12_piece_25 : decode cX12_piece 25 = .ok (.ireturn, 1) := by decide +kernel
theorem dL_law_1336 : decode cL_law 1336 = .ok (.istore 7, 2) := by decide +kernel
theorem dL_law_1338 : decode cL_law 1338 = .ok (.aload_n 2, 1) := by decide +kernel
theorem dL_law_1339 : decode cL_law 1339 = .ok (.invokevirtual 125, 3) := by decide +kernel
theorem dL_law_1342 : decode cL_law 1342 = .ok (.iload 6, 2) := by decide +kernel
theorem dL_law_1344 : decode cL_law 1344 = .ok (.if_icmp .eq 5, 3) := by decide +kernel
theorem dL_law_1349 : decode cL_law 1349 = .ok (.iload 6, 2) := by decide +kernel
theorem dL_law_1351 : decode cL_law 1351 = .ok (.ifCond .ne 15, 3) := by decide +kernel
theorem dL_law_1366 : decode cL_law 1366 = .ok (.goto 597, 3) := by decide +kernel
theorem dL_law_1369 : decode cL_law 1369 = .ok (.aload_n 1, 1) := by decide +kernel
theorem dL_law_1370 : decode cL_law 1370 = .ok (.aload_n 0, 1) := by decide +kernel
theorem dL_law_1371 : decode cL_law 1371 = .ok (.iload 5, 2) := by decide +kernel
theorem dL_law_1373 : decode cL_law 1373 = .ok (.iconst 1, 1) := by decide +kernel
theorem dL_law_1374 : decode cL_law 1374 = .ok (.iadd, 1) := by decide +kernel
theorem dL_law_1375 : decode cL_law 1375 = .ok (.iaload, 1) := by decide +kernel
theorem dL_law_1376 : decode cL_law 1376 = .ok (.aload_n 3, 1) := by decide +kernel
theorem dL_law_1377 : decode cL_law 1377 = .ok (.invokestatic 192, 3) := by decide +kernel
theorem dL_stickOf_0 : decode cL_stickOf 0 = .ok (.aload_n 2, 1) := by decide +kernel
theorem dL_stickOf_1 : decode cL_stickOf 1 = .ok (.iconst 0, 1) := by decide +kernel
theorem dL_stickOf_2 : decode cL_stickOf 2 = .ok (.aload_n 0, 1) := by decide +kernel
theorem dL_stickOf_3 : decode cL_stickOf 3 = .ok (.iload_n 1, 1) := by decide +kernel
theorem dL_stickOf_4 : decode cL_stickOf 4 = .ok (.invokevirtual 80, 3) := by decide +kernel
theorem dX6_stickOf_0 : decode cX6_stickOf 0 = .ok (.aload_n 0, 1) := by decide +kernel
theorem dX6_stickOf_1 : decode cX6_stickOf 1 = .ok (.iload_n 1, 1) := by decide +kernel
theorem dX6_stickOf_2 : decode cX6_stickOf 2 = .ok (.invokevirtual 118, 3) := by decide +kernel
theorem dL_stickOf_12 : decode cL_stickOf 12 = .ok (.astore_n 3, 1) := by decide +kernel
theorem dL_stickOf_13 : decode cL_stickOf 13 = .ok (.iconst 1, 1) := by decide +kernel
theorem dL_stickOf_14 : decode cL_stickOf 14 = .ok (.ireturn, 1) := by decide +kernel
theorem dL_law_1380 : decode cL_law 1380 = .ok (.istore 6, 2) := by decide +kernel
theorem dL_law_1382 : decode cL_law 1382 = .ok (.aload_n 2, 1) := by decide +kernel
theorem dL_law_1383 : decode cL_law 1383 = .ok (.aload_n 0, 1) := by decide +kernel
theorem dL_law_1384 : decode cL_law 1384 = .ok (.iload 5, 2) := by decide +kernel
theorem dL_law_1386 : decode cL_law 1386 = .ok (.iconst 1, 1) := by decide +kernel
theorem dL_law_1387 : decode cL_law 1387 = .ok (.iadd, 1) := by decide +kernel
theorem dL_law_1388 : decode cL_law 1388 = .ok (.iaload, 1) := by decide +kernel
theorem dL_law_1389 : decode cL_law 1389 = .ok (.invokevirtual 194, 3) := by decide +kernel
theorem dX12_stickOf_0 : decode cX12_stickOf 0 = .ok (.aload_n 0, 1) := by decide +kernel
theorem dX12_stickOf_1 : decode cX12_stickOf 1 = .ok (.iload_n 1, 1) := by decide +kernel
theorem dX12_stickOf_2 : decode cX12_stickOf 2 = .ok (.invokevirtual 314, 3) := by decide +kernel
theorem dX12_stickOf_5 : decode cX12_stickOf 5 = .ok (.ifCond .ne 9, 3) := by decide +kernel
theorem dX12_stickOf_8 : decode cX12_stickOf 8 = .ok (.aload_n 0, 1) := by decide +kernel
theorem dX12_stickOf_9 : decode cX12_stickOf 9 = .ok (.iconst 1, 1) := by decide +kernel
theorem dX12_stickOf_10 : decode cX12_stickOf 10 = .ok (.invokevirtual 289, 3) := by decide +kernel
theorem dX12_stickOf_13 : decode cX12_stickOf 13 = .ok (.ireturn, 1) := by decide +kernel
theorem dL_law_1392 : decode cL_law 1392 = .ok (.istore 7, 2) := by decide +kernel
theorem dL_law_1394 : decode cL_law 1394 = .ok (.aload_n 2, 1) := by decide +kernel
theorem dL_law_1395 : decode cL_law 1395 = .ok (.invokevirtual 125, 3) := by decide +kernel
theorem dL_law_1398 : decode cL_law 1398 = .ok (.iload 6, 2) := by decide +kernel
theorem dL_law_1400 : decode cL_law 1400 = .ok (.if_icmp .eq 5, 3) := by decide +kernel
theorem dL_law_1405 : decode cL_law 1405 = .ok (.iload 6, 2) := by decide +kernel
theorem dL_law_1407 : decode cL_law 1407 = .ok (.ifCond .ne 15, 3) := by decide +kernel
theorem dL_law_1422 : decode cL_law 1422 = .ok (.goto 541, 3) := by decide +kernel
theorem dL_law_1425 : decode cL_law 1425 = .ok (.aload_n 1, 1) := by decide +kernel
theorem dL_law_1426 : decode cL_law 1426 = .ok (.aload_n 3, 1) := by decide +kernel
theorem dL_law_1427 : decode cL_law 1427 = .ok (.invokestatic 195, 3) := by decide +kernel
theorem dL_wood_0 : decode cL_wood 0 = .ok (.aload_n 1, 1) := by decide +kernel
theorem dL_wood_1 : decode cL_wood 1 = .ok (.iconst 0, 1) := by decide +kernel
theorem dL_wood_2 : decode cL_wood 2 = .ok (.aload_n 0, 1) := by decide +kernel
theorem dL_wood_3 : decode cL_wood 3 = .ok (.invokevirtual 83, 3) := by decide +kernel
theorem dX6_wood_0 : decode cX6_wood 0 = .ok (.aload_n 0, 1) := by decide +kernel
theorem dX6_wood_1 : decode cX6_wood 1 = .ok (.invokevirtual 219, 3) := by decide +kernel
theorem dX6_checkCut_0 : decode cX6_checkCut 0 = .ok (.aload_n 0, 1) := by decide +kernel
theorem dX6_checkCut_1 : decode cX6_checkCut 1 = .ok (.getfield 33, 3) := by decide +kernel
theorem dX6_checkCut_4 : decode cX6_checkCut 4 = .ok (.aload_n 0, 1) := by decide +kernel
theorem dX6_checkCut_5 : decode cX6_checkCut 5 = .ok (.getfield 12, 3) := by decide +kernel
theorem dX6_checkCut_8 : decode cX6_checkCut 8 = .ok (.aload_n 0, 1) := by decide +kernel
theorem dX6_checkCut_9 : decode cX6_checkCut 9 = .ok (.getfield 26, 3) := by decide +kernel
theorem dX6_checkCut_12 : decode cX6_checkCut 12 = .ok (.invokevirtual 290, 3) := by decide +kernel
theorem dX0_find_0 : decode cX0_find 0 = .ok (.aload_n 0, 1) := by decide +kernel
theorem dX0_find_1 : decode cX0_find 1 = .ok (.getfield 49, 3) := by decide +kernel
theorem dX0_find_4 : decode cX0_find 4 = .ok (.ifCond .eq 4, 3) := by decide +kernel
theorem dX0_find_8 : decode cX0_find 8 = .ok (.iconst 1, 1) := by decide +kernel
theorem dX0_find_9 : decode cX0_find 9 = .ok (.aload_n 1, 1) := by decide +kernel
theorem dX0_find_10 : decode cX0_find 10 = .ok (.getfield 53, 3) := by decide +kernel
theorem dX0_find_13 : decode cX0_find 13 = .ok (.ishl, 1) := by decide +kernel
theorem dX0_find_14 : decode cX0_find 14 = .ok (.istore_n 3, 1) := by decide +kernel
theorem dX0_find_15 : decode cX0_find 15 = .ok (.aload_n 0, 1) := by decide +kernel
theorem dX0_find_16 : decode cX0_find 16 = .ok (.aload_n 1, 1) := by decide +kernel
theorem dX0_find_17 : decode cX0_find 17 = .ok (.aload_n 2, 1) := by decide +kernel
theorem dX0_find_18 : decode cX0_find 18 = .ok (.invokevirtual 56, 3) := by decide +kernel
theorem dX0_measure_0 : decode cX0_measure 0 = .ok (.ldc 74, 2) := by decide +kernel
theorem dX0_measure_2 : decode cX0_measure 2 = .ok (.istore_n 3, 1) := by decide +kernel
theorem dX0_measure_3 : decode cX0_measure 3 = .ok (.iconst 0, 1) := by decide +kernel
theorem dX0_measure_4 : decode cX0_measure 4 = .ok (.istore 4, 2) := by decide +kernel
theorem dX0_measure_6 : decode cX0_measure 6 = .ok (.iload 4, 2) := by decide +kernel
theorem dX0_measure_8 : decode cX0_measure 8 = .ok (.aload_n 1, 1) := by decide +kernel
theorem dX0_measure_9 : decode cX0_measure 9 = .ok (.getfield 53, 3) := by decide +kernel
theorem dX0_measure_12 : decode cX0_measure 12 = .ok (.if_icmp .ge 89, 3) := by decide +kernel
theorem dX0_measure_101 : decode cX0_measure 101 = .ok (.return_, 1) := by decide +kernel
theorem dX0_find_21 : decode cX0_find 21 = .ok (.iconst 0, 1) := by decide +kernel
theorem dX0_find_22 : decode cX0_find 22 = .ok (.istore 4, 2) := by decide +kernel
theorem dX0_find_24 : decode cX0_find 24 = .ok (.iload 4, 2) := by decide +kernel
theorem dX0_find_26 : decode cX0_find 26 = .ok (.iload_n 3, 1) := by decide +kernel
theorem dX0_find_27 : decode cX0_find 27 = .ok (.if_icmp .ge 28, 3) := by decide +kernel
theorem dX0_find_30 : decode cX0_find 30 = .ok (.aload_n 0, 1) := by decide +kernel
theorem dX0_find_31 : decode cX0_find 31 = .ok (.getfield 30, 3) := by decide +kernel
theorem dX0_find_34 : decode cX0_find 34 = .ok (.iload 4, 2) := by decide +kernel
theorem dX0_find_36 : decode cX0_find 36 = .ok (.iload 4, 2) := by decide +kernel
theorem dX0_find_38 : decode cX0_find 38 = .ok (.ifCond .ne 7, 3) := by decide +kernel
theorem dX0_find_41 : decode cX0_find 41 = .ok (.lconst 0, 1) := by decide +kernel
theorem dX0_find_42 : decode cX0_find 42 = .ok (.goto 6, 3) := by decide +kernel
theorem dX0_find_48 : decode cX0_find 48 = .ok (.lastore, 1) := by decide +kernel
theorem dX0_find_49 : decode cX0_find 49 = .ok (.iinc 4 1, 3) := by decide +kernel
theorem dX0_find_52 : decode cX0_find 52 = .ok (.goto (-28), 3) := by decide +kernel
theorem dX0_find_55 : decode cX0_find 55 = .ok (.iconst 0, 1) := by decide +kernel
theorem dX0_find_56 : decode cX0_find 56 = .ok (.istore 4, 2) := by decide +kernel
theorem dX0_find_58 : decode cX0_find 58 = .ok (.iload 4, 2) := by decide +kernel
theorem dX0_find_60 : decode cX0_find 60 = .ok (.aload_n 0, 1) := by decide +kernel
theorem dX0_find_61 : decode cX0_find 61 = .ok (.getfield 34, 3) := by decide +kernel
theorem dX0_find_64 : decode cX0_find 64 = .ok (.if_icmp .ge 23, 3) := by decide +kernel
theorem dX0_find_87 : decode cX0_find 87 = .ok (.aload_n 0, 1) := by decide +kernel
theorem dX0_find_88 : decode cX0_find 88 = .ok (.aload_n 0, 1) := by decide +kernel
theorem dX0_find_89 : decode cX0_find 89 = .ok (.getfield 30, 3) := by decide +kernel
theorem dX0_find_92 : decode cX0_find 92 = .ok (.iload_n 3, 1) := by decide +kernel
theorem dX0_find_93 : decode cX0_find 93 = .ok (.iconst 1, 1) := by decide +kernel
theorem dX0_find_94 : decode cX0_find 94 = .ok (.isub, 1) := by decide +kernel
theorem dX0_find_95 : decode cX0_find 95 = .ok (.laload, 1) := by decide +kernel
theorem dX0_find_96 : decode cX0_find 96 = .ok (.invokevirtual 70, 3) := by decide +kernel
theorem dX0_choose_0 : decode cX0_choose 0 = .ok (.aload_n 0, 1) := by decide +kernel
theorem dX0_choose_1 : decode cX0_choose 1 = .ok (.lload_n 1, 1) := by decide +kernel
theorem dX0_choose_2 : decode cX0_choose 2 = .ok (.ldc2_w 60, 3) := by decide +kernel
theorem dX0_choose_5 : decode cX0_choose 5 = .ok (.lcmp, 1) := by decide +kernel
theorem dX0_choose_6 : decode cX0_choose 6 = .ok (.ifCond .eq 7, 3) := by decide +kernel
theorem dX0_choose_9 : decode cX0_choose 9 = .ok (.iconst 1, 1) := by decide +kernel
theorem dX0_choose_10 : decode cX0_choose 10 = .ok (.goto 4, 3) := by decide +kernel
theorem dX0_choose_14 : decode cX0_choose 14 = .ok (.putfield 89, 3) := by decide +kernel
theorem dX0_choose_17 : decode cX0_choose 17 = .ok (.aload_n 0, 1) := by decide +kernel
theorem dX0_choose_18 : decode cX0_choose 18 = .ok (.getfield 89, 3) := by decide +kernel
theorem dX0_choose_21 : decode cX0_choose 21 = .ok (.ifCond .ne 4, 3) := by decide +kernel
theorem dX0_choose_25 : decode cX0_choose 25 = .ok (.aload_n 0, 1) := by decide +kernel
theorem dX0_choose_26 : decode cX0_choose 26 = .ok (.lload_n 1, 1) := by decide +kernel
theorem dX0_choose_27 : decode cX0_choose 27 = .ok (.ldc2_w 81, 3) := by decide +kernel
theorem dX0_choose_30 : decode cX0_choose 30 = .ok (.ldiv, 1) := by decide +kernel
theorem dX0_choose_31 : decode cX0_choose 31 = .ok (.l2i, 1) := by decide +kernel
theorem dX0_choose_32 : decode cX0_choose 32 = .ok (.putfield 92, 3) := by decide +kernel
theorem dX0_choose_35 : decode cX0_choose 35 = .ok (.lload_n 1, 1) := by decide +kernel
theorem dX0_choose_36 : decode cX0_choose 36 = .ok (.ldc2_w 81, 3) := by decide +kernel
theorem dX0_choose_39 : decode cX0_choose 39 = .ok (.lrem, 1) := by decide +kernel
theorem dX0_choose_40 : decode cX0_choose 40 = .ok (.l2i, 1) := by decide +kernel
theorem dX0_choose_41 : decode cX0_choose 41 = .ok (.istore_n 3, 1) := by decide +kernel
theorem dX0_choose_42 : decode cX0_choose 42 = .ok (.bipush 8, 2) := by decide +kernel
theorem dX0_choose_44 : decode cX0_choose 44 = .ok (.istore 4, 2) := by decide +kernel
theorem dX0_choose_46 : decode cX0_choose 46 = .ok (.iload 4, 2) := by decide +kernel
theorem dX0_choose_48 : decode cX0_choose 48 = .ok (.ifCond .lt 23, 3) := by decide +kernel
theorem dX0_choose_51 : decode cX0_choose 51 = .ok (.aload_n 0, 1) := by decide +kernel
theorem dX0_choose_52 : decode cX0_choose 52 = .ok (.getfield 9, 3) := by decide +kernel
theorem dX0_choose_55 : decode cX0_choose 55 = .ok (.iload 4, 2) := by decide +kernel
theorem dX0_choose_57 : decode cX0_choose 57 = .ok (.iload_n 3, 1) := by decide +kernel
theorem dX0_choose_58 : decode cX0_choose 58 = .ok (.iconst 5, 1) := by decide +kernel
theorem dX0_choose_59 : decode cX0_choose 59 = .ok (.irem, 1) := by decide +kernel
theorem dX0_choose_60 : decode cX0_choose 60 = .ok (.iastore, 1) := by decide +kernel
theorem dX0_choose_61 : decode cX0_choose 61 = .ok (.iload_n 3, 1) := by decide +kernel
theorem dX0_choose_62 : decode cX0_choose 62 = .ok (.iconst 5, 1) := by decide +kernel
theorem dX0_choose_63 : decode cX0_choose 63 = .ok (.idiv, 1) := by decide +kernel
theorem dX0_choose_64 : decode cX0_choose 64 = .ok (.istore_n 3, 1) := by decide +kernel
theorem dX0_choose_65 : decode cX0_choose 65 = .ok (.iinc 4 (-1), 3) := by decide +kernel
theorem dX0_choose_68 : decode cX0_choose 68 = .ok (.goto (-22), 3) := by decide +kernel
theorem dX0_choose_71 : decode cX0_choose 71 = .ok (.return_, 1) := by decide +kernel
theorem dX0_find_99 : decode cX0_find 99 = .ok (.aload_n 0, 1) := by decide +kernel
theorem dX0_find_100 : decode cX0_find 100 = .ok (.iconst 1, 1) := by decide +kernel
theorem dX0_find_101 : decode cX0_find 101 = .ok (.putfield 49, 3) := by decide +kernel
theorem dX0_find_104 : decode cX0_find 104 = .ok (.return_, 1) := by decide +kernel
theorem dX6_checkCut_15 : decode cX6_checkCut 15 = .ok (.aload_n 0, 1) := by decide +kernel
theorem dX6_checkCut_16 : decode cX6_checkCut 16 = .ok (.getfield 33, 3) := by decide +kernel
theorem dX6_checkCut_19 : decode cX6_checkCut 19 = .ok (.getfield 291, 3) := by decide +kernel
theorem dX6_checkCut_22 : decode cX6_checkCut 22 = .ok (.ifCond .ne 14, 3) := by decide +kernel
theorem dX6_checkCut_36 : decode cX6_checkCut 36 = .ok (.return_, 1) := by decide +kernel
theorem dX6_wood_4 : decode cX6_wood 4 = .ok (.aload_n 0, 1) := by decide +kernel
theorem dX6_wood_5 : decode cX6_wood 5 = .ok (.getfield 33, 3) := by decide +kernel
theorem dX6_wood_8 : decode cX6_wood 8 = .ok (.getfield 225, 3) := by decide +kernel
theorem dX6_wood_11 : decode cX6_wood 11 = .ok (.ireturn, 1) := by decide +kernel
theorem dL_wood_6 : decode cL_wood 6 = .ok (.i2l, 1) := by decide +kernel
theorem dL_wood_7 : decode cL_wood 7 = .ok (.lastore, 1) := by decide +kernel
theorem dL_wood_8 : decode cL_wood 8 = .ok (.goto 6, 3) := by decide +kernel
theorem dL_wood_14 : decode cL_wood 14 = .ok (.iconst 0, 1) := by decide +kernel
theorem dL_wood_15 : decode cL_wood 15 = .ok (.ireturn, 1) := by decide +kernel
theorem dL_law_1430 : decode cL_law 1430 = .ok (.istore 6, 2) := by decide +kernel
theorem dL_law_1432 : decode cL_law 1432 = .ok (.aload_n 2, 1) := by decide +kernel
theorem dL_law_1433 : decode cL_law 1433 = .ok (.invokevirtual 197, 3) := by decide +kernel
theorem dX12_wood_0 : decode cX12_wood 0 = .ok (.aload_n 0, 1) := by decide +kernel
theorem dX12_wood_1 : decode cX12_wood 1 = .ok (.invokevirtual 389, 3) := by decide +kernel
theorem dX12_areCut_0 : decode cX12_areCut 0 = .ok (.aload_n 0, 1) := by decide +kernel
theorem dX12_areCut_1 : decode cX12_areCut 1 = .ok (.invokevirtual 282, 3) := by decide +kernel
theorem dX12_saws_0 : decode cX12_saws 0 = .ok (.aload_n 0, 1) := by decide +kernel
theorem dX12_saws_1 : decode cX12_saws 1 = .ok (.getfield 84, 3) := by decide +kernel
theorem dX12_saws_4 : decode cX12_saws 4 = .ok (.ifCond .eq 4, 3) := by decide +kernel
theorem dX12_saws_8 : decode cX12_saws 8 = .ok (.aload_n 0, 1) := by decide +kernel
theorem dX12_saws_9 : decode cX12_saws 9 = .ok (.iconst 1, 1) := by decide +kernel
theorem dX12_saws_10 : decode cX12_saws 10 = .ok (.putfield 84, 3) := by decide +kernel
theorem dX12_saws_13 : decode cX12_saws 13 = .ok (.aload_n 0, 1) := by decide +kernel
theorem dX12_saws_14 : decode cX12_saws 14 = .ok (.iconst (-1), 1) := by decide +kernel
theorem dX12_saws_15 : decode cX12_saws 15 = .ok (.putfield 268, 3) := by decide +kernel
theorem dX12_saws_18 : decode cX12_saws 18 = .ok (.aload_n 0, 1) := by decide +kernel
theorem dX12_saws_19 : decode cX12_saws 19 = .ok (.invokevirtual 271, 3) := by decide +kernel
theorem dX12_sums_0 : decode cX12_sums 0 = .ok (.iconst 0, 1) := by decide +kernel
theorem dX12_sums_1 : decode cX12_sums 1 = .ok (.istore_n 1, 1) := by decide +kernel
theorem dX12_sums_2 : decode cX12_sums 2 = .ok (.iload_n 1, 1) := by decide +kernel
theorem dX12_sums_3 : decode cX12_sums 3 = .ok (.aload_n 0, 1) := by decide +kernel
theorem dX12_sums_4 : decode cX12_sums 4 = .ok (.getfield 16, 3) := by decide +kernel
theorem dX12_sums_7 : decode cX12_sums 7 = .ok (.invokevirtual 125, 3) := by decide +kernel
theorem dX12_sums_10 : decode cX12_sums 10 = .ok (.if_icmp .ge 22, 3) := by decide +kernel
theorem dX12_sums_32 : decode cX12_sums 32 = .ok (.iconst 1, 1) := by decide +kernel
theorem dX12_sums_33 : decode cX12_sums 33 = .ok (.istore_n 1, 1) := by decide +kernel
theorem dX12_sums_34 : decode cX12_sums 34 = .ok (.iload_n 1, 1) := by decide +kernel
theorem dX12_sums_35 : decode cX12_sums 35 = .ok (.iconst 1, 1) := by decide +kernel
theorem dX12_sums_36 : decode cX12_sums 36 = .ok (.aload_n 0, 1) := by decide +kernel
theorem dX12_sums_37 : decode cX12_sums 37 = .ok (.getfield 16, 3) := by decide +kernel
theorem dX12_sums_40 : decode cX12_sums 40 = .ok (.invokevirtual 125, 3) := by decide +kernel
theorem dX12_sums_43 : decode cX12_sums 43 = .ok (.ishl, 1) := by decide +kernel
theorem dX12_sums_44 : decode cX12_sums 44 = .ok (.if_icmp .ge 97, 3) := by decide +kernel
theorem dX12_sums_141 : decode cX12_sums 141 = .ok (.return_, 1) := by decide +kernel
theorem dX12_saws_22 : decode cX12_saws 22 = .ok (.iconst 0, 1) := by decide +kernel
theorem dX12_saws_23 : decode cX12_saws 23 = .ok (.istore_n 1, 1) := by decide +kernel
theorem dX12_saws_24 : decode cX12_saws 24 = .ok (.iload_n 1, 1) := by decide +kernel
theorem dX12_saws_25 : decode cX12_saws 25 = .ok (.iconst 1, 1) := by decide +kernel
theorem dX12_saws_26 : decode cX12_saws 26 = .ok (.aload_n 0, 1) := by decide +kernel
theorem dX12_saws_27 : decode cX12_saws 27 = .ok (.getfield 22, 3) := by decide +kernel
theorem dX12_saws_30 : decode cX12_saws 30 = .ok (.invokevirtual 125, 3) := by decide +kernel
theorem dX12_saws_33 : decode cX12_saws 33 = .ok (.ishl, 1) := by decide +kernel
theorem dX12_saws_34 : decode cX12_saws 34 = .ok (.if_icmp .ge 178, 3) := by decide +kernel
theorem dX12_saws_37 : decode cX12_saws 37 = .ok (.iconst 0, 1) := by decide +kernel
theorem dX12_saws_38 : decode cX12_saws 38 = .ok (.istore_n 2, 1) := by decide +kernel
theorem dX12_saws_39 : decode cX12_saws 39 = .ok (.iconst 0, 1) := by decide +kernel
theorem dX12_saws_40 : decode cX12_saws 40 = .ok (.istore_n 3, 1) := by decide +kernel
theorem dX12_saws_41 : decode cX12_saws 41 = .ok (.iload_n 3, 1) := by decide +kernel
theorem dX12_saws_42 : decode cX12_saws 42 = .ok (.aload_n 0, 1) := by decide +kernel
theorem dX12_saws_43 : decode cX12_saws 43 = .ok (.getfield 22, 3) := by decide +kernel
theorem dX12_saws_46 : decode cX12_saws 46 = .ok (.invokevirtual 125, 3) := by decide +kernel
theorem dX12_saws_49 : decode cX12_saws 49 = .ok (.if_icmp .ge 59, 3) := by decide +kernel
theorem dX12_saws_108 : decode cX12_saws 108 = .ok (.aload_n 0, 1) := by decide +kernel
theorem dX12_saws_109 : decode cX12_saws 109 = .ok (.getfield 268, 3) := by decide +kernel
theorem dX12_saws_112 : decode cX12_saws 112 = .ok (.iconst (-1), 1) := by decide +kernel
theorem dX12_saws_113 : decode cX12_saws 113 = .ok (.if_icmp .eq 11, 3) := by decide +kernel
theorem dX12_saws_124 : decode cX12_saws 124 = .ok (.aload_n 0, 1) := by decide +kernel
theorem dX12_saws_125 : decode cX12_saws 125 = .ok (.iload_n 1, 1) := by decide +kernel
theorem dX12_saws_126 : decode cX12_saws 126 = .ok (.invokevirtual 274, 3) := by decide +kernel
theorem dX12_areEnough_0 : decode cX12_areEnough 0 = .ok (.iconst 1, 1) := by decide +kernel
theorem dX12_areEnough_1 : decode cX12_areEnough 1 = .ok (.aload_n 0, 1) := by decide +kernel
theorem dX12_areEnough_2 : decode cX12_areEnough 2 = .ok (.getfield 16, 3) := by decide +kernel
theorem dX12_areEnough_5 : decode cX12_areEnough 5 = .ok (.invokevirtual 125, 3) := by decide +kernel
theorem dX12_areEnough_8 : decode cX12_areEnough 8 = .ok (.ishl, 1) := by decide +kernel
theorem dX12_areEnough_9 : decode cX12_areEnough 9 = .ok (.iconst 1, 1) := by decide +kernel
theorem dX12_areEnough_10 : decode cX12_areEnough 10 = .ok (.isub, 1) := by decide +kernel
theorem dX12_areEnough_11 : decode cX12_areEnough 11 = .ok (.istore_n 2, 1) := by decide +kernel
theorem dX12_areEnough_12 : decode cX12_areEnough 12 = .ok (.iconst 0, 1) := by decide +kernel
theorem dX12_areEnough_13 : decode cX12_areEnough 13 = .ok (.istore_n 3, 1) := by decide +kernel
theorem dX12_areEnough_14 : decode cX12_areEnough 14 = .ok (.iload_n 3, 1) := by decide +kernel
theorem dX12_areEnough_15 : decode cX12_areEnough 15 = .ok (.iload_n 2, 1) := by decide +kernel
theorem dX12_areEnough_16 : decode cX12_areEnough 16 = .ok (.if_icmp .gt 24, 3) := by decide +kernel
theorem dX12_areEnough_19 : decode cX12_areEnough 19 = .ok (.aload_n 0, 1) := by decide +kernel
theorem dX12_areEnough_20 : decode cX12_areEnough 20 = .ok (.getfield 39, 3) := by decide +kernel
theorem dX12_areEnough_23 : decode cX12_areEnough 23 = .ok (.iload_n 3, 1) := by decide +kernel
theorem dX12_areEnough_24 : decode cX12_areEnough 24 = .ok (.iload_n 3, 1) := by decide +kernel
theorem dX12_areEnough_25 : decode cX12_areEnough 25 = .ok (.ifCond .ne 7, 3) := by decide +kernel
theorem dX12_areEnough_28 : decode cX12_areEnough 28 = .ok (.iconst 1, 1) := by decide +kernel
theorem dX12_areEnough_29 : decode cX12_areEnough 29 = .ok (.goto 4, 3) := by decide +kernel
theorem dX12_areEnough_33 : decode cX12_areEnough 33 = .ok (.bastore, 1) := by decide +kernel
theorem dX12_areEnough_34 : decode cX12_areEnough 34 = .ok (.iinc 3 1, 3) := by decide +kernel
theorem dX12_areEnough_37 : decode cX12_areEnough 37 = .ok (.goto (-23), 3) := by decide +kernel
theorem dX12_areEnough_40 : decode cX12_areEnough 40 = .ok (.iconst 0, 1) := by decide +kernel
theorem dX12_areEnough_41 : decode cX12_areEnough 41 = .ok (.istore_n 3, 1) := by decide +kernel
theorem dX12_areEnough_42 : decode cX12_areEnough 42 = .ok (.iload_n 3, 1) := by decide +kernel
theorem dX12_areEnough_43 : decode cX12_areEnough 43 = .ok (.aload_n 0, 1) := by decide +kernel
theorem dX12_areEnough_44 : decode cX12_areEnough 44 = .ok (.getfield 22, 3) := by decide +kernel
theorem dX12_areEnough_47 : decode cX12_areEnough 47 = .ok (.invokevirtual 125, 3) := by decide +kernel
theorem dX12_areEnough_50 : decode cX12_areEnough 50 = .ok (.if_icmp .ge 76, 3) := by decide +kernel
theorem dX12_areEnough_126 : decode cX12_areEnough 126 = .ok (.aload_n 0, 1) := by decide +kernel
theorem dX12_areEnough_127 : decode cX12_areEnough 127 = .ok (.getfield 39, 3) := by decide +kernel
theorem dX12_areEnough_130 : decode cX12_areEnough 130 = .ok (.iload_n 2, 1) := by decide +kernel
theorem dX12_areEnough_131 : decode cX12_areEnough 131 = .ok (.baload, 1) := by decide +kernel
theorem dX12_areEnough_132 : decode cX12_areEnough 132 = .ok (.ireturn, 1) := by decide +kernel
theorem dX12_saws_129 : decode cX12_saws 129 = .ok (.ifCond .eq 77, 3) := by decide +kernel
theorem dX12_saws_132 : decode cX12_saws 132 = .ok (.aload_n 0, 1) := by decide +kernel
theorem dX12_saws_133 : decode cX12_saws 133 = .ok (.iload_n 1, 1) := by decide +kernel
theorem dX12_saws_134 : decode cX12_saws 134 = .ok (.iconst 0, 1) := by decide +kernel
theorem dX12_saws_135 : decode cX12_saws 135 = .ok (.invokevirtual 249, 3) := by decide +kernel
theorem dX12_cuts_0 : decode cX12_cuts 0 = .ok (.iload_n 2, 1) := by decide +kernel
theorem dX12_cuts_1 : decode cX12_cuts 1 = .ok (.aload_n 0, 1) := by decide +kernel
theorem dX12_cuts_2 : decode cX12_cuts 2 = .ok (.getfield 16, 3) := by decide +kernel
theorem dX12_cuts_5 : decode cX12_cuts 5 = .ok (.invokevirtual 125, 3) := by decide +kernel
theorem dX12_cuts_8 : decode cX12_cuts 8 = .ok (.if_icmp .ne 5, 3) := by decide +kernel
theorem dX12_cuts_11 : decode cX12_cuts 11 = .ok (.iconst 1, 1) := by decide +kernel
theorem dX12_cuts_12 : decode cX12_cuts 12 = .ok (.ireturn, 1) := by decide +kernel
theorem dX12_saws_138 : decode cX12_saws 138 = .ok (.ifCond .ne 6, 3) := by decide +kernel
theorem dX12_saws_144 : decode cX12_saws 144 = .ok (.aload_n 0, 1) := by decide +kernel
theorem dX12_saws_145 : decode cX12_saws 145 = .ok (.getfield 268, 3) := by decide +kernel
theorem dX12_saws_148 : decode cX12_saws 148 = .ok (.iconst (-1), 1) := by decide +kernel
theorem dX12_saws_149 : decode cX12_saws 149 = .ok (.if_icmp .eq 21, 3) := by decide +kernel
theorem dX12_saws_170 : decode cX12_saws 170 = .ok (.aload_n 0, 1) := by decide +kernel
theorem dX12_saws_171 : decode cX12_saws 171 = .ok (.iload_n 2, 1) := by decide +kernel
theorem dX12_saws_172 : decode cX12_saws 172 = .ok (.putfield 268, 3) := by decide +kernel
theorem dX12_saws_175 : decode cX12_saws 175 = .ok (.iconst 0, 1) := by decide +kernel
theorem dX12_saws_176 : decode cX12_saws 176 = .ok (.istore_n 3, 1) := by decide +kernel
theorem dX12_saws_177 : decode cX12_saws 177 = .ok (.iload_n 3, 1) := by decide +kernel
theorem dX12_saws_178 : decode cX12_saws 178 = .ok (.aload_n 0, 1) := by decide +kernel
theorem dX12_saws_179 : decode cX12_saws 179 = .ok (.getfield 16, 3) := by decide +kernel
theorem dX12_saws_182 : decode cX12_saws 182 = .ok (.invokevirtual 125, 3) := by decide +kernel
theorem dX12_saws_185 : decode cX12_saws 185 = .ok (.if_icmp .ge 21, 3) := by decide +kernel
theorem dX12_saws_206 : decode cX12_saws 206 = .ok (.iinc 1 1, 3) := by decide +kernel
theorem dX12_saws_209 : decode cX12_saws 209 = .ok (.goto (-185), 3) := by decide +kernel
theorem dX12_saws_212 : decode cX12_saws 212 = .ok (.return_, 1) := by decide +kernel
theorem dX12_areCut_4 : decode cX12_areCut 4 = .ok (.aload_n 0, 1) := by decide +kernel
theorem dX12_areCut_5 : decode cX12_areCut 5 = .ok (.getfield 268, 3) := by decide +kernel
theorem dX12_areCut_8 : decode cX12_areCut 8 = .ok (.iconst (-1), 1) := by decide +kernel
theorem dX12_areCut_9 : decode cX12_areCut 9 = .ok (.if_icmp .eq 7, 3) := by decide +kernel
theorem dX12_areCut_12 : decode cX12_areCut 12 = .ok (.iconst 1, 1) := by decide +kernel
theorem dX12_areCut_13 : decode cX12_areCut 13 = .ok (.goto 4, 3) := by decide +kernel
theorem dX12_areCut_17 : decode cX12_areCut 17 = .ok (.ireturn, 1) := by decide +kernel
theorem dX12_wood_4 : decode cX12_wood 4 = .ok (.ifCond .eq 14, 3) := by decide +kernel
theorem dX12_wood_7 : decode cX12_wood 7 = .ok (.aload_n 0, 1) := by decide +kernel
theorem dX12_wood_8 : decode cX12_wood 8 = .ok (.aload_n 0, 1) := by decide +kernel
theorem dX12_wood_9 : decode cX12_wood 9 = .ok (.getfield 268, 3) := by decide +kernel
theorem dX12_wood_12 : decode cX12_wood 12 = .ok (.invokevirtual 302, 3) := by decide +kernel
theorem dX12_wood_15 : decode cX12_wood 15 = .ok (.goto 8, 3) := by decide +kernel
theorem dX12_wood_23 : decode cX12_wood 23 = .ok (.ireturn, 1) := by decide +kernel
theorem dL_law_1436 : decode cL_law 1436 = .ok (.istore 7, 2) := by decide +kernel
theorem dL_law_1438 : decode cL_law 1438 = .ok (.aload_n 2, 1) := by decide +kernel
theorem dL_law_1439 : decode cL_law 1439 = .ok (.invokevirtual 125, 3) := by decide +kernel
theorem dL_law_1442 : decode cL_law 1442 = .ok (.iload 6, 2) := by decide +kernel
theorem dL_law_1444 : decode cL_law 1444 = .ok (.if_icmp .eq 5, 3) := by decide +kernel
theorem dL_law_1449 : decode cL_law 1449 = .ok (.iload 6, 2) := by decide +kernel
theorem dL_law_1451 : decode cL_law 1451 = .ok (.ifCond .ne 15, 3) := by decide +kernel
theorem dL_law_1454 : decode cL_law 1454 = .ok (.aload_n 3, 1) := by decide +kernel
theorem dL_law_1455 : decode cL_law 1455 = .ok (.iconst 0, 1) := by decide +kernel
theorem dL_law_1456 : decode cL_law 1456 = .ok (.laload, 1) := by decide +kernel
theorem dL_law_1457 : decode cL_law 1457 = .ok (.iload 7, 2) := by decide +kernel
theorem dL_law_1459 : decode cL_law 1459 = .ok (.i2l, 1) := by decide +kernel
theorem dL_law_1460 : decode cL_law 1460 = .ok (.lcmp, 1) := by decide +kernel
theorem dL_law_1461 : decode cL_law 1461 = .ok (.ifCond .eq 5, 3) := by decide +kernel
theorem dL_law_1466 : decode cL_law 1466 = .ok (.goto 497, 3) := by decide +kernel
theorem dL_law_1469 : decode cL_law 1469 = .ok (.aload_n 1, 1) := by decide +kernel
theorem dL_law_1470 : decode cL_law 1470 = .ok (.aload_n 0, 1) := by decide +kernel
theorem dL_law_1471 : decode cL_law 1471 = .ok (.iload 5, 2) := by decide +kernel
theorem dL_law_1473 : decode cL_law 1473 = .ok (.iconst 1, 1) := by decide +kernel
theorem dL_law_1474 : decode cL_law 1474 = .ok (.iadd, 1) := by decide +kernel
theorem dL_law_1475 : decode cL_law 1475 = .ok (.iaload, 1) := by decide +kernel
theorem dL_law_1476 : decode cL_law 1476 = .ok (.aload_n 3, 1) := by decide +kernel
theorem dL_law_1477 : decode cL_law 1477 = .ok (.invokestatic 198, 3) := by decide +kernel
theorem dL_waste_0 : decode cL_waste 0 = .ok (.aload_n 2, 1) := by decide +kernel
theorem dL_waste_1 : decode cL_waste 1 = .ok (.iconst 0, 1) := by decide +kernel
theorem dL_waste_2 : decode cL_waste 2 = .ok (.aload_n 0, 1) := by decide +kernel
theorem dL_waste_3 : decode cL_waste 3 = .ok (.iload_n 1, 1) := by decide +kernel
theorem dL_waste_4 : decode cL_waste 4 = .ok (.invokevirtual 86, 3) := by decide +kernel
theorem dX6_waste_0 : decode cX6_waste 0 = .ok (.iload_n 1, 1) := by decide +kernel
theorem dX6_waste_1 : decode cX6_waste 1 = .ok (.ifCond .lt 14, 3) := by decide +kernel
theorem dX6_waste_15 : decode cX6_waste 15 = .ok (.new 228, 3) := by decide +kernel
theorem dX6_waste_18 : decode cX6_waste 18 = .ok (.dup, 1) := by decide +kernel
theorem dX6_waste_19 : decode cX6_waste 19 = .ok (.ldc 230, 2) := by decide +kernel
theorem dX6_waste_21 : decode cX6_waste 21 = .ok (.invokespecial 232, 3) := by decide +kernel
theorem dX6_waste_24 : decode cX6_waste 24 = .ok (.athrow, 1) := by decide +kernel
theorem dL_waste_12 : decode cL_waste 12 = .ok (.astore_n 3, 1) := by decide +kernel
theorem dL_waste_13 : decode cL_waste 13 = .ok (.iconst 1, 1) := by decide +kernel
theorem dL_waste_14 : decode cL_waste 14 = .ok (.ireturn, 1) := by decide +kernel
theorem dL_law_1480 : decode cL_law 1480 = .ok (.istore 6, 2) := by decide +kernel
theorem dL_law_1482 : decode cL_law 1482 = .ok (.aload_n 2, 1) := by decide +kernel
theorem dL_law_1483 : decode cL_law 1483 = .ok (.aload_n 0, 1) := by decide +kernel
theorem dL_law_1484 : decode cL_law 1484 = .ok (.iload 5, 2) := by decide +kernel
theorem dL_law_1486 : decode cL_law 1486 = .ok (.iconst 1, 1) := by decide +kernel
theorem dL_law_1487 : decode cL_law 1487 = .ok (.iadd, 1) := by decide +kernel
theorem dL_law_1488 : decode cL_law 1488 = .ok (.iaload, 1) := by decide +kernel
theorem dL_law_1489 : decode cL_law 1489 = .ok (.invokevirtual 200, 3) := by decide +kernel
theorem dX12_waste_0 : decode cX12_waste 0 = .ok (.iload_n 1, 1) := by decide +kernel
theorem dX12_waste_1 : decode cX12_waste 1 = .ok (.i2l, 1) := by decide +kernel
theorem dX12_waste_2 : decode cX12_waste 2 = .ok (.iconst 0, 1) := by decide +kernel
theorem dX12_waste_3 : decode cX12_waste 3 = .ok (.aload_n 0, 1) := by decide +kernel
theorem dX12_waste_4 : decode cX12_waste 4 = .ok (.getfield 22, 3) := by decide +kernel
theorem dX12_waste_7 : decode cX12_waste 7 = .ok (.invokevirtual 125, 3) := by decide +kernel
theorem dX12_waste_10 : decode cX12_waste 10 = .ok (.iconst 1, 1) := by decide +kernel
theorem dX12_waste_11 : decode cX12_waste 11 = .ok (.isub, 1) := by decide +kernel
theorem dX12_waste_12 : decode cX12_waste 12 = .ok (.invokestatic 285, 3) := by decide +kernel
theorem dX12_waste_15 : decode cX12_waste 15 = .ok (.ifCond .ne 9, 3) := by decide +kernel
theorem dX12_waste_18 : decode cX12_waste 18 = .ok (.aload_n 0, 1) := by decide +kernel
theorem dX12_waste_19 : decode cX12_waste 19 = .ok (.iconst 1, 1) := by decide +kernel
theorem dX12_waste_20 : decode cX12_waste 20 = .ok (.invokevirtual 289, 3) := by decide +kernel
theorem dX12_waste_23 : decode cX12_waste 23 = .ok (.ireturn, 1) := by decide +kernel
theorem dL_law_1492 : decode cL_law 1492 = .ok (.istore 7, 2) := by decide +kernel
theorem dL_law_1494 : decode cL_law 1494 = .ok (.aload_n 2, 1) := by decide +kernel
theorem dL_law_1495 : decode cL_law 1495 = .ok (.invokevirtual 125, 3) := by decide +kernel
theorem dL_law_1498 : decode cL_law 1498 = .ok (.iload 6, 2) := by decide +kernel
theorem dL_law_1500 : decode cL_law 1500 = .ok (.if_icmp .eq 5, 3) := by decide +kernel
theorem dL_law_1505 : decode cL_law 1505 = .ok (.iload 6, 2) := by decide +kernel
theorem dL_law_1507 : decode cL_law 1507 = .ok (.ifCond .ne 15, 3) := by decide +kernel
theorem dL_law_1522 : decode cL_law 1522 = .ok (.goto 441, 3) := by decide +kernel
theorem dX6_waste_4 : decode cX6_waste 4 = .ok (.iload_n 1, 1) := by decide +kernel
theorem dX6_waste_5 : decode cX6_waste 5 = .ok (.aload_n 0, 1) := by decide +kernel
theorem dX6_waste_6 : decode cX6_waste 6 = .ok (.getfield 33, 3) := by decide +kernel
theorem dX6_waste_9 : decode cX6_waste 9 = .ok (.getfield 210, 3) := by decide +kernel
theorem dX6_waste_12 : decode cX6_waste 12 = .ok (.if_icmp .lt 13, 3) := by decide +kernel
theorem dL_law_1525 : decode cL_law 1525 = .ok (.aload_n 1, 1) := by decide +kernel
theorem dL_law_1526 : decode cL_law 1526 = .ok (.aload_n 0, 1) := by decide +kernel
theorem dL_law_1527 : decode cL_law 1527 = .ok (.iload 5, 2) := by decide +kernel
theorem dL_law_1529 : decode cL_law 1529 = .ok (.iconst 1, 1) := by decide +kernel
theorem dL_law_1530 : decode cL_law 1530 = .ok (.iadd, 1) := by decide +kernel
theorem dL_law_1531 : decode cL_law 1531 = .ok (.iaload, 1) := by decide +kernel
theorem dL_law_1532 : decode cL_law 1532 = .ok (.aload_n 3, 1) := by decide +kernel
theorem dL_law_1533 : decode cL_law 1533 = .ok (.invokestatic 201, 3) := by decide +kernel
theorem dL_setProps_0 : decode cL_setProps 0 = .ok (.aload_n 2, 1) := by decide +kernel
theorem dL_setProps_1 : decode cL_setProps 1 = .ok (.iconst 0, 1) := by decide +kernel
theorem dL_setProps_2 : decode cL_setProps 2 = .ok (.aload_n 0, 1) := by decide +kernel
theorem dL_setProps_3 : decode cL_setProps 3 = .ok (.iload_n 1, 1) := by decide +kernel
theorem dL_setProps_4 : decode cL_setProps 4 = .ok (.invokevirtual 89, 3) := by decide +kernel
theorem dX6_setProps_0 : decode cX6_setProps 0 = .ok (.iload_n 1, 1) := by decide +kernel
theorem dX6_setProps_1 : decode cX6_setProps 1 = .ok (.iconst 0, 1) := by decide +kernel
theorem dX6_setProps_2 : decode cX6_setProps 2 = .ok (.bipush 9, 2) := by decide +kernel
theorem dX6_setProps_4 : decode cX6_setProps 4 = .ok (.invokestatic 44, 3) := by decide +kernel
theorem dX6_setProps_7 : decode cX6_setProps 7 = .ok (.ifCond .ne 13, 3) := by decide +kernel
theorem dX6_setProps_10 : decode cX6_setProps 10 = .ok (.new 56, 3) := by decide +kernel
theorem dX6_setProps_13 : decode cX6_setProps 13 = .ok (.dup, 1) := by decide +kernel
theorem dX6_setProps_14 : decode cX6_setProps 14 = .ok (.ldc 236, 2) := by decide +kernel
theorem dX6_setProps_16 : decode cX6_setProps 16 = .ok (.invokespecial 60, 3) := by decide +kernel
theorem dX6_setProps_19 : decode cX6_setProps 19 = .ok (.athrow, 1) := by decide +kernel
theorem dL_setProps_12 : decode cL_setProps 12 = .ok (.astore_n 3, 1) := by decide +kernel
theorem dL_setProps_13 : decode cL_setProps 13 = .ok (.iconst 1, 1) := by decide +kernel
theorem dL_setProps_14 : decode cL_setProps 14 = .ok (.ireturn, 1) := by decide +kernel
theorem dL_law_1536 : decode cL_law 1536 = .ok (.istore 6, 2) := by decide +kernel
theorem dL_law_1538 : decode cL_law 1538 = .ok (.aload_n 2, 1) := by decide +kernel
theorem dL_law_1539 : decode cL_law 1539 = .ok (.aload_n 0, 1) := by decide +kernel
theorem dL_law_1540 : decode cL_law 1540 = .ok (.iload 5, 2) := by decide +kernel
theorem dL_law_1542 : decode cL_law 1542 = .ok (.iconst 1, 1) := by decide +kernel
theorem dL_law_1543 : decode cL_law 1543 = .ok (.iadd, 1) := by decide +kernel
theorem dL_law_1544 : decode cL_law 1544 = .ok (.iaload, 1) := by decide +kernel
theorem dL_law_1545 : decode cL_law 1545 = .ok (.invokevirtual 203, 3) := by decide +kernel
theorem dX12_setProps_0 : decode cX12_setProps 0 = .ok (.iload_n 1, 1) := by decide +kernel
theorem dX12_setProps_1 : decode cX12_setProps 1 = .ok (.i2l, 1) := by decide +kernel
theorem dX12_setProps_2 : decode cX12_setProps 2 = .ok (.iconst 0, 1) := by decide +kernel
theorem dX12_setProps_3 : decode cX12_setProps 3 = .ok (.bipush 9, 2) := by decide +kernel
theorem dX12_setProps_5 : decode cX12_setProps 5 = .ok (.invokestatic 285, 3) := by decide +kernel
theorem dX12_setProps_8 : decode cX12_setProps 8 = .ok (.ifCond .ne 9, 3) := by decide +kernel
theorem dX12_setProps_11 : decode cX12_setProps 11 = .ok (.aload_n 0, 1) := by decide +kernel
theorem dX12_setProps_12 : decode cX12_setProps 12 = .ok (.iconst 1, 1) := by decide +kernel
theorem dX12_setProps_13 : decode cX12_setProps 13 = .ok (.invokevirtual 289, 3) := by decide +kernel
theorem dX12_setProps_16 : decode cX12_setProps 16 = .ok (.ireturn, 1) := by decide +kernel
theorem dL_law_1548 : decode cL_law 1548 = .ok (.istore 7, 2) := by decide +kernel
theorem dL_law_1550 : decode cL_law 1550 = .ok (.aload_n 2, 1) := by decide +kernel
theorem dL_law_1551 : decode cL_law 1551 = .ok (.invokevirtual 125, 3) := by decide +kernel
theorem dL_law_1554 : decode cL_law 1554 = .ok (.iload 6, 2) := by decide +kernel
theorem dL_law_1556 : decode cL_law 1556 = .ok (.if_icmp .eq 5, 3) := by decide +kernel
theorem dL_law_1561 : decode cL_law 1561 = .ok (.iload 6, 2) := by decide +kernel
theorem dL_law_1563 : decode cL_law 1563 = .ok (.ifCond .ne 15, 3) := by decide +kernel
theorem dL_law_1578 : decode cL_law 1578 = .ok (.goto 385, 3) := by decide +kernel
theorem dX6_setProps_20 : decode cX6_setProps 20 = .ok (.aload_n 0, 1) := by decide +kernel
theorem dX6_setProps_21 : decode cX6_setProps 21 = .ok (.getfield 40, 3) := by decide +kernel
theorem dX6_setProps_24 : decode cX6_setProps 24 = .ok (.getfield 238, 3) := by decide +kernel
theorem dX6_setProps_27 : decode cX6_setProps 27 = .ok (.istore_n 2, 1) := by decide +kernel
theorem dX6_setProps_28 : decode cX6_setProps 28 = .ok (.aload_n 0, 1) := by decide +kernel
theorem dX6_setProps_29 : decode cX6_setProps 29 = .ok (.getfield 40, 3) := by decide +kernel
theorem dX6_setProps_32 : decode cX6_setProps 32 = .ok (.iload_n 1, 1) := by decide +kernel
theorem dX6_setProps_33 : decode cX6_setProps 33 = .ok (.putfield 238, 3) := by decide +kernel
theorem dX6_setProps_36 : decode cX6_setProps 36 = .ok (.aload_n 0, 1) := by decide +kernel
theorem dX6_setProps_37 : decode cX6_setProps 37 = .ok (.getfield 40, 3) := by decide +kernel
theorem dX6_setProps_40 : decode cX6_setProps 40 = .ok (.iconst 0, 1) := by decide +kernel
theorem dX6_setProps_41 : decode cX6_setProps 41 = .ok (.putfield 99, 3) := by decide +kernel
theorem dX6_setProps_44 : decode cX6_setProps 44 = .ok (.iload_n 2, 1) := by decide +kernel
theorem dX6_setProps_45 : decode cX6_setProps 45 = .ok (.ireturn, 1) := by decide +kernel
theorem dL_setProps_7 : decode cL_setProps 7 = .ok (.i2l, 1) := by decide +kernel
theorem dL_setProps_8 : decode cL_setProps 8 = .ok (.lastore, 1) := by decide +kernel
theorem dL_setProps_9 : decode cL_setProps 9 = .ok (.goto 6, 3) := by decide +kernel
theorem dL_setProps_15 : decode cL_setProps 15 = .ok (.iconst 0, 1) := by decide +kernel
theorem dL_setProps_16 : decode cL_setProps 16 = .ok (.ireturn, 1) := by decide +kernel
theorem dX12_setProps_17 : decode cX12_setProps 17 = .ok (.aload_n 0, 1) := by decide +kernel
theorem dX12_setProps_18 : decode cX12_setProps 18 = .ok (.getfield 70, 3) := by decide +kernel
theorem dX12_setProps_21 : decode cX12_setProps 21 = .ok (.istore_n 2, 1) := by decide +kernel
theorem dX12_setProps_22 : decode cX12_setProps 22 = .ok (.aload_n 0, 1) := by decide +kernel
theorem dX12_setProps_23 : decode cX12_setProps 23 = .ok (.iload_n 1, 1) := by decide +kernel
theorem dX12_setProps_24 : decode cX12_setProps 24 = .ok (.putfield 70, 3) := by decide +kernel
theorem dX12_setProps_27 : decode cX12_setProps 27 = .ok (.aload_n 0, 1) := by decide +kernel
theorem dX12_setProps_28 : decode cX12_setProps 28 = .ok (.iconst 0, 1) := by decide +kernel
theorem dX12_setProps_29 : decode cX12_setProps 29 = .ok (.putfield 81, 3) := by decide +kernel
theorem dX12_setProps_32 : decode cX12_setProps 32 = .ok (.aload_n 0, 1) := by decide +kernel
theorem dX12_setProps_33 : decode cX12_setProps 33 = .ok (.iload_n 2, 1) := by decide +kernel
theorem dX12_setProps_34 : decode cX12_setProps 34 = .ok (.invokevirtual 302, 3) := by decide +kernel
theorem dX12_setProps_37 : decode cX12_setProps 37 = .ok (.ireturn, 1) := by decide +kernel
theorem dL_law_1566 : decode cL_law 1566 = .ok (.aload_n 3, 1) := by decide +kernel
theorem dL_law_1567 : decode cL_law 1567 = .ok (.iconst 0, 1) := by decide +kernel
theorem dL_law_1568 : decode cL_law 1568 = .ok (.laload, 1) := by decide +kernel
theorem dL_law_1569 : decode cL_law 1569 = .ok (.iload 7, 2) := by decide +kernel
theorem dL_law_1571 : decode cL_law 1571 = .ok (.i2l, 1) := by decide +kernel
theorem dL_law_1572 : decode cL_law 1572 = .ok (.lcmp, 1) := by decide +kernel
theorem dL_law_1573 : decode cL_law 1573 = .ok (.ifCond .eq 5, 3) := by decide +kernel
theorem dL_law_1581 : decode cL_law 1581 = .ok (.aload_n 1, 1) := by decide +kernel
theorem dL_law_1582 : decode cL_law 1582 = .ok (.aload_n 0, 1) := by decide +kernel
theorem dL_law_1583 : decode cL_law 1583 = .ok (.iload 5, 2) := by decide +kernel
theorem dL_law_1585 : decode cL_law 1585 = .ok (.iconst 1, 1) := by decide +kernel
theorem dL_law_1586 : decode cL_law 1586 = .ok (.iadd, 1) := by decide +kernel
theorem dL_law_1587 : decode cL_law 1587 = .ok (.iaload, 1) := by decide +kernel
theorem dL_law_1588 : decode cL_law 1588 = .ok (.aload_n 3, 1) := by decide +kernel
theorem dL_law_1589 : decode cL_law 1589 = .ok (.invokestatic 204, 3) := by decide +kernel
theorem dL_raised_0 : decode cL_raised 0 = .ok (.aload_n 2, 1) := by decide +kernel
theorem dL_raised_1 : decode cL_raised 1 = .ok (.iconst 0, 1) := by decide +kernel
theorem dL_raised_2 : decode cL_raised 2 = .ok (.aload_n 0, 1) := by decide +kernel
theorem dL_raised_3 : decode cL_raised 3 = .ok (.iload_n 1, 1) := by decide +kernel
theorem dL_raised_4 : decode cL_raised 4 = .ok (.invokevirtual 92, 3) := by decide +kernel
theorem dX6_raised_0 : decode cX6_raised 0 = .ok (.aload_n 0, 1) := by decide +kernel
theorem dX6_raised_1 : decode cX6_raised 1 = .ok (.iload_n 1, 1) := by decide +kernel
theorem dX6_raised_2 : decode cX6_raised 2 = .ok (.invokevirtual 241, 3) := by decide +kernel
theorem dX6_checkPlaceInOrder_0 : decode cX6_checkPlaceInOrder 0 = .ok (.aload_n 0, 1) := by decide +kernel
theorem dX6_checkPlaceInOrder_1 : decode cX6_checkPlaceInOrder 1 = .ok (.getfield 40, 3) := by decide +kernel
theorem dX6_checkPlaceInOrder_4 : decode cX6_checkPlaceInOrder 4 = .ok (.aload_n 0, 1) := by decide +kernel
theorem dX6_checkPlaceInOrder_5 : decode cX6_checkPlaceInOrder 5 = .ok (.getfield 12, 3) := by decide +kernel
theorem dX6_checkPlaceInOrder_8 : decode cX6_checkPlaceInOrder 8 = .ok (.aload_n 0, 1) := by decide +kernel
theorem dX6_checkPlaceInOrder_9 : decode cX6_checkPlaceInOrder 9 = .ok (.getfield 26, 3) := by decide +kernel
theorem dX6_checkPlaceInOrder_12 : decode cX6_checkPlaceInOrder 12 = .ok (.invokevirtual 247, 3) := by decide +kernel
theorem dX4_find_0 : decode cX4_find 0 = .ok (.aload_n 0, 1) := by decide +kernel
theorem dX4_find_1 : decode cX4_find 1 = .ok (.getfield 37, 3) := by decide +kernel
theorem dX4_find_4 : decode cX4_find 4 = .ok (.ifCond .eq 4, 3) := by decide +kernel
theorem dX4_find_8 : decode cX4_find 8 = .ok (.aload_n 0, 1) := by decide +kernel
theorem dX4_find_9 : decode cX4_find 9 = .ok (.iconst 1, 1) := by decide +kernel
theorem dX4_find_10 : decode cX4_find 10 = .ok (.aload_n 1, 1) := by decide +kernel
theorem dX4_find_11 : decode cX4_find 11 = .ok (.getfield 41, 3) := by decide +kernel
theorem dX4_find_14 : decode cX4_find 14 = .ok (.ishl, 1) := by decide +kernel
theorem dX4_find_15 : decode cX4_find 15 = .ok (.iconst 1, 1) := by decide +kernel
theorem dX4_find_16 : decode cX4_find 16 = .ok (.isub, 1) := by decide +kernel
theorem dX4_find_17 : decode cX4_find 17 = .ok (.putfield 34, 3) := by decide +kernel
theorem dX4_find_20 : decode cX4_find 20 = .ok (.aload_n 0, 1) := by decide +kernel
theorem dX4_find_21 : decode cX4_find 21 = .ok (.aload_n 1, 1) := by decide +kernel
theorem dX4_find_22 : decode cX4_find 22 = .ok (.aload_n 2, 1) := by decide +kernel
theorem dX4_find_23 : decode cX4_find 23 = .ok (.invokevirtual 46, 3) := by decide +kernel
theorem dX4_gather_0 : decode cX4_gather 0 = .ok (.aload_n 0, 1) := by decide +kernel
theorem dX4_gather_1 : decode cX4_gather 1 = .ok (.iconst 0, 1) := by decide +kernel
theorem dX4_gather_2 : decode cX4_gather 2 = .ok (.putfield 60, 3) := by decide +kernel
theorem dX4_gather_5 : decode cX4_gather 5 = .ok (.iconst 0, 1) := by decide +kernel
theorem dX4_gather_6 : decode cX4_gather 6 = .ok (.istore_n 3, 1) := by decide +kernel
theorem dX4_gather_7 : decode cX4_gather 7 = .ok (.iload_n 3, 1) := by decide +kernel
theorem dX4_gather_8 : decode cX4_gather 8 = .ok (.aload_n 1, 1) := by decide +kernel
theorem dX4_gather_9 : decode cX4_gather 9 = .ok (.getfield 41, 3) := by decide +kernel
theorem dX4_gather_12 : decode cX4_gather 12 = .ok (.if_icmp .ge 135, 3) := by decide +kernel
theorem dX4_gather_147 : decode cX4_gather 147 = .ok (.return_, 1) := by decide +kernel
theorem dX4_find_26 : decode cX4_find 26 = .ok (.aload_n 0, 1) := by decide +kernel
theorem dX4_find_27 : decode cX4_find 27 = .ok (.aload_n 1, 1) := by decide +kernel
theorem dX4_find_28 : decode cX4_find 28 = .ok (.getfield 41, 3) := by decide +kernel
theorem dX4_find_31 : decode cX4_find 31 = .ok (.invokevirtual 50, 3) := by decide +kernel
theorem dX4_goForward_0 : decode cX4_goForward 0 = .ok (.aload_n 0, 1) := by decide +kernel
theorem dX4_goForward_1 : decode cX4_goForward 1 = .ok (.getfield 24, 3) := by decide +kernel
theorem dX4_goForward_4 : decode cX4_goForward 4 = .ok (.iconst 0, 1) := by decide +kernel
theorem dX4_goForward_5 : decode cX4_goForward 5 = .ok (.iconst 1, 1) := by decide +kernel
theorem dX4_goForward_6 : decode cX4_goForward 6 = .ok (.iastore, 1) := by decide +kernel
theorem dX4_goForward_7 : decode cX4_goForward 7 = .ok (.iconst 1, 1) := by decide +kernel
theorem dX4_goForward_8 : decode cX4_goForward 8 = .ok (.istore_n 2, 1) := by decide +kernel
theorem dX4_goForward_9 : decode cX4_goForward 9 = .ok (.iload_n 2, 1) := by decide +kernel
theorem dX4_goForward_10 : decode cX4_goForward 10 = .ok (.aload_n 0, 1) := by decide +kernel
theorem dX4_goForward_11 : decode cX4_goForward 11 = .ok (.getfield 34, 3) := by decide +kernel
theorem dX4_goForward_14 : decode cX4_goForward 14 = .ok (.if_icmp .gt 106, 3) := by decide +kernel
theorem dX4_goForward_120 : decode cX4_goForward 120 = .ok (.return_, 1) := by decide +kernel
theorem dX4_find_34 : decode cX4_find 34 = .ok (.aload_n 0, 1) := by decide +kernel
theorem dX4_find_35 : decode cX4_find 35 = .ok (.aload_n 1, 1) := by decide +kernel
theorem dX4_find_36 : decode cX4_find 36 = .ok (.getfield 41, 3) := by decide +kernel
theorem dX4_find_39 : decode cX4_find 39 = .ok (.invokevirtual 54, 3) := by decide +kernel
theorem dX4_goBackward_0 : decode cX4_goBackward 0 = .ok (.iconst 0, 1) := by decide +kernel
theorem dX4_goBackward_1 : decode cX4_goBackward 1 = .ok (.istore_n 2, 1) := by decide +kernel
theorem dX4_goBackward_2 : decode cX4_goBackward 2 = .ok (.iload_n 2, 1) := by decide +kernel
theorem dX4_goBackward_3 : decode cX4_goBackward 3 = .ok (.aload_n 0, 1) := by decide +kernel
theorem dX4_goBackward_4 : decode cX4_goBackward 4 = .ok (.getfield 34, 3) := by decide +kernel
theorem dX4_goBackward_7 : decode cX4_goBackward 7 = .ok (.if_icmp .gt 28, 3) := by decide +kernel
theorem dX4_goBackward_10 : decode cX4_goBackward 10 = .ok (.aload_n 0, 1) := by decide +kernel
theorem dX4_goBackward_11 : decode cX4_goBackward 11 = .ok (.getfield 27, 3) := by decide +kernel
theorem dX4_goBackward_14 : decode cX4_goBackward 14 = .ok (.iload_n 2, 1) := by decide +kernel
theorem dX4_goBackward_15 : decode cX4_goBackward 15 = .ok (.iload_n 2, 1) := by decide +kernel
theorem dX4_goBackward_16 : decode cX4_goBackward 16 = .ok (.aload_n 0, 1) := by decide +kernel
theorem dX4_goBackward_17 : decode cX4_goBackward 17 = .ok (.getfield 34, 3) := by decide +kernel
theorem dX4_goBackward_20 : decode cX4_goBackward 20 = .ok (.if_icmp .ne 7, 3) := by decide +kernel
theorem dX4_goBackward_23 : decode cX4_goBackward 23 = .ok (.iconst 1, 1) := by decide +kernel
theorem dX4_goBackward_24 : decode cX4_goBackward 24 = .ok (.goto 4, 3) := by decide +kernel
theorem dX4_goBackward_28 : decode cX4_goBackward 28 = .ok (.bastore, 1) := by decide +kernel
theorem dX4_goBackward_29 : decode cX4_goBackward 29 = .ok (.iinc 2 1, 3) := by decide +kernel
theorem dX4_goBackward_32 : decode cX4_goBackward 32 = .ok (.goto (-30), 3) := by decide +kernel
theorem dX4_goBackward_35 : decode cX4_goBackward 35 = .ok (.aload_n 0, 1) := by decide +kernel
theorem dX4_goBackward_36 : decode cX4_goBackward 36 = .ok (.getfield 34, 3) := by decide +kernel
theorem dX4_goBackward_39 : decode cX4_goBackward 39 = .ok (.istore_n 2, 1) := by decide +kernel
theorem dX4_goBackward_40 : decode cX4_goBackward 40 = .ok (.iload_n 2, 1) := by decide +kernel
theorem dX4_goBackward_41 : decode cX4_goBackward 41 = .ok (.ifCond .le 90, 3) := by decide +kernel
theorem dX4_goBackward_131 : decode cX4_goBackward 131 = .ok (.return_, 1) := by decide +kernel
theorem dX4_find_42 : decode cX4_find 42 = .ok (.aload_n 0, 1) := by decide +kernel
theorem dX4_find_43 : decode cX4_find 43 = .ok (.aload_n 1, 1) := by decide +kernel
theorem dX4_find_44 : decode cX4_find 44 = .ok (.getfield 41, 3) := by decide +kernel
theorem dX4_find_47 : decode cX4_find 47 = .ok (.invokevirtual 57, 3) := by decide +kernel
theorem dX4_findOrder_0 : decode cX4_findOrder 0 = .ok (.iconst 0, 1) := by decide +kernel
theorem dX4_findOrder_1 : decode cX4_findOrder 1 = .ok (.istore_n 2, 1) := by decide +kernel
theorem dX4_findOrder_2 : decode cX4_findOrder 2 = .ok (.iconst 0, 1) := by decide +kernel
theorem dX4_findOrder_3 : decode cX4_findOrder 3 = .ok (.istore_n 3, 1) := by decide +kernel
theorem dX4_findOrder_4 : decode cX4_findOrder 4 = .ok (.iload_n 3, 1) := by decide +kernel
theorem dX4_findOrder_5 : decode cX4_findOrder 5 = .ok (.iload_n 1, 1) := by decide +kernel
theorem dX4_findOrder_6 : decode cX4_findOrder 6 = .ok (.if_icmp .ge 38, 3) := by decide +kernel
theorem dX4_findOrder_44 : decode cX4_findOrder 44 = .ok (.return_, 1) := by decide +kernel
theorem dX4_find_50 : decode cX4_find 50 = .ok (.aload_n 0, 1) := by decide +kernel
theorem dX4_find_51 : decode cX4_find 51 = .ok (.iconst 1, 1) := by decide +kernel
theorem dX4_find_52 : decode cX4_find 52 = .ok (.putfield 37, 3) := by decide +kernel
theorem dX4_find_55 : decode cX4_find 55 = .ok (.return_, 1) := by decide +kernel
theorem dX6_checkPlaceInOrder_15 : decode cX6_checkPlaceInOrder 15 = .ok (.aload_n 0, 1) := by decide +kernel
theorem dX6_checkPlaceInOrder_16 : decode cX6_checkPlaceInOrder 16 = .ok (.getfield 40, 3) := by decide +kernel
theorem dX6_checkPlaceInOrder_19 : decode cX6_checkPlaceInOrder 19 = .ok (.invokevirtual 250, 3) := by decide +kernel
theorem dX4_orderCount_0 : decode cX4_orderCount 0 = .ok (.aload_n 0, 1) := by decide +kernel
theorem dX4_orderCount_1 : decode cX4_orderCount 1 = .ok (.getfield 24, 3) := by decide +kernel
theorem dX4_orderCount_4 : decode cX4_orderCount 4 = .ok (.aload_n 0, 1) := by decide +kernel
theorem dX4_orderCount_5 : decode cX4_orderCount 5 = .ok (.getfield 34, 3) := by decide +kernel
theorem dX4_orderCount_8 : decode cX4_orderCount 8 = .ok (.iaload, 1) := by decide +kernel
theorem dX4_orderCount_9 : decode cX4_orderCount 9 = .ok (.ireturn, 1) := by decide +kernel
theorem dX6_checkPlaceInOrder_22 : decode cX6_checkPlaceInOrder 22 = .ok (.ifCond .ne 14, 3) := by decide +kernel
theorem dX6_checkPlaceInOrder_36 : decode cX6_checkPlaceInOrder 36 = .ok (.iload_n 1, 1) := by decide +kernel
theorem dX6_checkPlaceInOrder_37 : decode cX6_checkPlaceInOrder 37 = .ok (.ifCond .lt 14, 3) := by decide +kernel
theorem dX6_checkPlaceInOrder_51 : decode cX6_checkPlaceInOrder 51 = .ok (.new 228, 3) := by decide +kernel
theorem dX6_checkPlaceInOrder_54 : decode cX6_checkPlaceInOrder 54 = .ok (.dup, 1) := by decide +kernel
theorem dX6_checkPlaceInOrder_55 : decode cX6_checkPlaceInOrder 55 = .ok (.ldc_w 298, 3) := by decide +kernel
theorem dX6_checkPlaceInOrder_58 : decode cX6_checkPlaceInOrder 58 = .ok (.invokespecial 232, 3) := by decide +kernel
theorem dX6_checkPlaceInOrder_61 : decode cX6_checkPlaceInOrder 61 = .ok (.athrow, 1) := by decide +kernel
theorem dL_raised_15 : decode cL_raised 15 = .ok (.astore_n 3, 1) := by decide +kernel
theorem dL_raised_16 : decode cL_raised 16 = .ok (.iconst 2, 1) := by decide +kernel
theorem dL_raised_17 : decode cL_raised 17 = .ok (.ireturn, 1) := by decide +kernel
theorem dL_law_1592 : decode cL_law 1592 = .ok (.istore 6, 2) := by decide +kernel
theorem dL_law_1594 : decode cL_law 1594 = .ok (.aload_n 2, 1) := by decide +kernel
theorem dL_law_1595 : decode cL_law 1595 = .ok (.aload_n 0, 1) := by decide +kernel
theorem dL_law_1596 : decode cL_law 1596 = .ok (.iload 5, 2) := by decide +kernel
theorem dL_law_1598 : decode cL_law 1598 = .ok (.iconst 1, 1) := by decide +kernel
theorem dL_law_1599 : decode cL_law 1599 = .ok (.iadd, 1) := by decide +kernel
theorem dL_law_1600 : decode cL_law 1600 = .ok (.iaload, 1) := by decide +kernel
theorem dL_law_1601 : decode cL_law 1601 = .ok (.invokevirtual 206, 3) := by decide +kernel
theorem dX12_raised_0 : decode cX12_raised 0 = .ok (.aload_n 0, 1) := by decide +kernel
theorem dX12_raised_1 : decode cX12_raised 1 = .ok (.invokevirtual 395, 3) := by decide +kernel
theorem dX12_hasOrder_0 : decode cX12_hasOrder 0 = .ok (.aload_n 0, 1) := by decide +kernel
theorem dX12_hasOrder_1 : decode cX12_hasOrder 1 = .ok (.invokevirtual 392, 3) := by decide +kernel
theorem dX12_raises_0 : decode cX12_raises 0 = .ok (.aload_n 0, 1) := by decide +kernel
theorem dX12_raises_1 : decode cX12_raises 1 = .ok (.getfield 81, 3) := by decide +kernel
theorem dX12_raises_4 : decode cX12_raises 4 = .ok (.ifCond .eq 4, 3) := by decide +kernel
theorem dX12_raises_8 : decode cX12_raises 8 = .ok (.aload_n 0, 1) := by decide +kernel
theorem dX12_raises_9 : decode cX12_raises 9 = .ok (.iconst 1, 1) := by decide +kernel
theorem dX12_raises_10 : decode cX12_raises 10 = .ok (.putfield 81, 3) := by decide +kernel
theorem dX12_raises_13 : decode cX12_raises 13 = .ok (.iconst 1, 1) := by decide +kernel
theorem dX12_raises_14 : decode cX12_raises 14 = .ok (.aload_n 0, 1) := by decide +kernel
theorem dX12_raises_15 : decode cX12_raises 15 = .ok (.getfield 16, 3) := by decide +kernel
theorem dX12_raises_18 : decode cX12_raises 18 = .ok (.invokevirtual 125, 3) := by decide +kernel
theorem dX12_raises_21 : decode cX12_raises 21 = .ok (.ishl, 1) := by decide +kernel
theorem dX12_raises_22 : decode cX12_raises 22 = .ok (.iconst 1, 1) := by decide +kernel
theorem dX12_raises_23 : decode cX12_raises 23 = .ok (.isub, 1) := by decide +kernel
theorem dX12_raises_24 : decode cX12_raises 24 = .ok (.istore_n 1, 1) := by decide +kernel
theorem dX12_raises_25 : decode cX12_raises 25 = .ok (.aload_n 0, 1) := by decide +kernel
theorem dX12_raises_26 : decode cX12_raises 26 = .ok (.getfield 42, 3) := by decide +kernel
theorem dX12_raises_29 : decode cX12_raises 29 = .ok (.iload_n 1, 1) := by decide +kernel
theorem dX12_raises_30 : decode cX12_raises 30 = .ok (.iconst 1, 1) := by decide +kernel
theorem dX12_raises_31 : decode cX12_raises 31 = .ok (.iastore, 1) := by decide +kernel
theorem dX12_raises_32 : decode cX12_raises 32 = .ok (.iload_n 1, 1) := by decide +kernel
theorem dX12_raises_33 : decode cX12_raises 33 = .ok (.iconst 1, 1) := by decide +kernel
theorem dX12_raises_34 : decode cX12_raises 34 = .ok (.isub, 1) := by decide +kernel
theorem dX12_raises_35 : decode cX12_raises 35 = .ok (.istore_n 2, 1) := by decide +kernel
theorem dX12_raises_36 : decode cX12_raises 36 = .ok (.iload_n 2, 1) := by decide +kernel
theorem dX12_raises_37 : decode cX12_raises 37 = .ok (.ifCond .lt 67, 3) := by decide +kernel
theorem dX12_raises_104 : decode cX12_raises 104 = .ok (.iconst 0, 1) := by decide +kernel
theorem dX12_raises_105 : decode cX12_raises 105 = .ok (.istore_n 2, 1) := by decide +kernel
theorem dX12_raises_106 : decode cX12_raises 106 = .ok (.iconst 0, 1) := by decide +kernel
theorem dX12_raises_107 : decode cX12_raises 107 = .ok (.istore_n 3, 1) := by decide +kernel
theorem dX12_raises_108 : decode cX12_raises 108 = .ok (.iload_n 3, 1) := by decide +kernel
theorem dX12_raises_109 : decode cX12_raises 109 = .ok (.aload_n 0, 1) := by decide +kernel
theorem dX12_raises_110 : decode cX12_raises 110 = .ok (.getfield 16, 3) := by decide +kernel
theorem dX12_raises_113 : decode cX12_raises 113 = .ok (.invokevirtual 125, 3) := by decide +kernel
theorem dX12_raises_116 : decode cX12_raises 116 = .ok (.if_icmp .ge 66, 3) := by decide +kernel
theorem dX12_raises_182 : decode cX12_raises 182 = .ok (.return_, 1) := by decide +kernel
theorem dX12_hasOrder_4 : decode cX12_hasOrder 4 = .ok (.aload_n 0, 1) := by decide +kernel
theorem dX12_hasOrder_5 : decode cX12_hasOrder 5 = .ok (.getfield 42, 3) := by decide +kernel
theorem dX12_hasOrder_8 : decode cX12_hasOrder 8 = .ok (.iconst 0, 1) := by decide +kernel
theorem dX12_hasOrder_9 : decode cX12_hasOrder 9 = .ok (.iaload, 1) := by decide +kernel
theorem dX12_hasOrder_10 : decode cX12_hasOrder 10 = .ok (.ifCond .le 7, 3) := by decide +kernel
theorem dX12_hasOrder_13 : decode cX12_hasOrder 13 = .ok (.iconst 1, 1) := by decide +kernel
theorem dX12_hasOrder_14 : decode cX12_hasOrder 14 = .ok (.goto 4, 3) := by decide +kernel
theorem dX12_hasOrder_18 : decode cX12_hasOrder 18 = .ok (.ireturn, 1) := by decide +kernel
theorem dX12_raised_4 : decode cX12_raised 4 = .ok (.ifCond .ne 9, 3) := by decide +kernel
theorem dX12_raised_13 : decode cX12_raised 13 = .ok (.iload_n 1, 1) := by decide +kernel
theorem dX12_raised_14 : decode cX12_raised 14 = .ok (.i2l, 1) := by decide +kernel
theorem dX12_raised_15 : decode cX12_raised 15 = .ok (.iconst 0, 1) := by decide +kernel
theorem dX12_raised_16 : decode cX12_raised 16 = .ok (.aload_n 0, 1) := by decide +kernel
theorem dX12_raised_17 : decode cX12_raised 17 = .ok (.getfield 16, 3) := by decide +kernel
theorem dX12_raised_20 : decode cX12_raised 20 = .ok (.invokevirtual 125, 3) := by decide +kernel
theorem dX12_raised_23 : decode cX12_raised 23 = .ok (.iconst 1, 1) := by decide +kernel
theorem dX12_raised_24 : decode cX12_raised 24 = .ok (.isub, 1) := by decide +kernel
theorem dX12_raised_25 : decode cX12_raised 25 = .ok (.invokestatic 285, 3) := by decide +kernel
theorem dX12_raised_28 : decode cX12_raised 28 = .ok (.ifCond .eq 16, 3) := by decide +kernel
theorem dX12_raised_44 : decode cX12_raised 44 = .ok (.aload_n 0, 1) := by decide +kernel
theorem dX12_raised_45 : decode cX12_raised 45 = .ok (.iconst 2, 1) := by decide +kernel
theorem dX12_raised_46 : decode cX12_raised 46 = .ok (.invokevirtual 289, 3) := by decide +kernel
theorem dX12_raised_49 : decode cX12_raised 49 = .ok (.ireturn, 1) := by decide +kernel
theorem dL_law_1604 : decode cL_law 1604 = .ok (.istore 7, 2) := by decide +kernel
theorem dL_law_1606 : decode cL_law 1606 = .ok (.aload_n 2, 1) := by decide +kernel
theorem dL_law_1607 : decode cL_law 1607 = .ok (.invokevirtual 125, 3) := by decide +kernel
theorem dL_law_1610 : decode cL_law 1610 = .ok (.iload 6, 2) := by decide +kernel
theorem dL_law_1612 : decode cL_law 1612 = .ok (.if_icmp .eq 5, 3) := by decide +kernel
theorem dL_law_1617 : decode cL_law 1617 = .ok (.iload 6, 2) := by decide +kernel
theorem dL_law_1619 : decode cL_law 1619 = .ok (.ifCond .ne 15, 3) := by decide +kernel
theorem dL_law_1634 : decode cL_law 1634 = .ok (.goto 329, 3) := by decide +kernel
theorem dX6_checkPlaceInOrder_40 : decode cX6_checkPlaceInOrder 40 = .ok (.iload_n 1, 1) := by decide +kernel
theorem dX6_checkPlaceInOrder_41 : decode cX6_checkPlaceInOrder 41 = .ok (.aload_n 0, 1) := by decide +kernel
theorem dX6_checkPlaceInOrder_42 : decode cX6_checkPlaceInOrder 42 = .ok (.getfield 12, 3) := by decide +kernel
theorem dX6_checkPlaceInOrder_45 : decode cX6_checkPlaceInOrder 45 = .ok (.getfield 93, 3) := by decide +kernel
theorem dX6_checkPlaceInOrder_48 : decode cX6_checkPlaceInOrder 48 = .ok (.if_icmp .lt 14, 3) := by decide +kernel
theorem dL_law_1637 : decode cL_law 1637 = .ok (.aload_n 1, 1) := by decide +kernel
theorem dL_law_1638 : decode cL_law 1638 = .ok (.invokevirtual 207, 3) := by decide +kernel
theorem dX6_canRaise_0 : decode cX6_canRaise 0 = .ok (.aload_n 0, 1) := by decide +kernel
theorem dX6_canRaise_1 : decode cX6_canRaise 1 = .ok (.getfield 40, 3) := by decide +kernel
theorem dX6_canRaise_4 : decode cX6_canRaise 4 = .ok (.aload_n 0, 1) := by decide +kernel
theorem dX6_canRaise_5 : decode cX6_canRaise 5 = .ok (.getfield 12, 3) := by decide +kernel
theorem dX6_canRaise_8 : decode cX6_canRaise 8 = .ok (.aload_n 0, 1) := by decide +kernel
theorem dX6_canRaise_9 : decode cX6_canRaise 9 = .ok (.getfield 26, 3) := by decide +kernel
theorem dX6_canRaise_12 : decode cX6_canRaise 12 = .ok (.invokevirtual 247, 3) := by decide +kernel
theorem dX6_canRaise_15 : decode cX6_canRaise 15 = .ok (.aload_n 0, 1) := by decide +kernel
theorem dX6_canRaise_16 : decode cX6_canRaise 16 = .ok (.getfield 40, 3) := by decide +kernel
theorem dX6_canRaise_19 : decode cX6_canRaise 19 = .ok (.invokevirtual 250, 3) := by decide +kernel
theorem dX6_canRaise_22 : decode cX6_canRaise 22 = .ok (.ifCond .le 7, 3) := by decide +kernel
theorem dX6_canRaise_25 : decode cX6_canRaise 25 = .ok (.iconst 1, 1) := by decide +kernel
theorem dX6_canRaise_26 : decode cX6_canRaise 26 = .ok (.goto 4, 3) := by decide +kernel
theorem dX6_canRaise_30 : decode cX6_canRaise 30 = .ok (.ireturn, 1) := by decide +kernel
theorem dL_law_1641 : decode cL_law 1641 = .ok (.aload_n 2, 1) := by decide +kernel
theorem dL_law_1642 : decode cL_law 1642 = .ok (.invokevirtual 211, 3) := by decide +kernel
theorem dX12_canRaise_0 : decode cX12_canRaise 0 = .ok (.aload_n 0, 1) := by decide +kernel
theorem dX12_canRaise_1 : decode cX12_canRaise 1 = .ok (.aload_n 0, 1) := by decide +kernel
theorem dX12_canRaise_2 : decode cX12_canRaise 2 = .ok (.invokevirtual 395, 3) := by decide +kernel
theorem dX12_canRaise_5 : decode cX12_canRaise 5 = .ok (.invokevirtual 343, 3) := by decide +kernel
theorem dX12_canRaise_8 : decode cX12_canRaise 8 = .ok (.ireturn, 1) := by decide +kernel
theorem dL_law_1645 : decode cL_law 1645 = .ok (.if_icmp .eq 318, 3) := by decide +kernel
theorem dL_law_1650 : decode cL_law 1650 = .ok (.aload_n 1, 1) := by decide +kernel
theorem dL_law_1651 : decode cL_law 1651 = .ok (.invokevirtual 212, 3) := by decide +kernel
theorem dX6_canTakeAway_0 : decode cX6_canTakeAway 0 = .ok (.aload_n 0, 1) := by decide +kernel
theorem dX6_canTakeAway_1 : decode cX6_canTakeAway 1 = .ok (.getfield 40, 3) := by decide +kernel
theorem dX6_canTakeAway_4 : decode cX6_canTakeAway 4 = .ok (.aload_n 0, 1) := by decide +kernel
theorem dX6_canTakeAway_5 : decode cX6_canTakeAway 5 = .ok (.getfield 12, 3) := by decide +kernel
theorem dX6_canTakeAway_8 : decode cX6_canTakeAway 8 = .ok (.aload_n 0, 1) := by decide +kernel
theorem dX6_canTakeAway_9 : decode cX6_canTakeAway 9 = .ok (.getfield 26, 3) := by decide +kernel
theorem dX6_canTakeAway_12 : decode cX6_canTakeAway 12 = .ok (.invokevirtual 247, 3) := by decide +kernel
theorem dX6_canTakeAway_15 : decode cX6_canTakeAway 15 = .ok (.aload_n 0, 1) := by decide +kernel
theorem dX6_canTakeAway_16 : decode cX6_canTakeAway 16 = .ok (.getfield 40, 3) := by decide +kernel
theorem dX6_canTakeAway_19 : decode cX6_canTakeAway 19 = .ok (.getfield 254, 3) := by decide +kernel
theorem dX6_canTakeAway_22 : decode cX6_canTakeAway 22 = .ok (.iconst 0, 1) := by decide +kernel
theorem dX6_canTakeAway_23 : decode cX6_canTakeAway 23 = .ok (.baload, 1) := by decide +kernel
theorem dX6_canTakeAway_24 : decode cX6_canTakeAway 24 = .ok (.ireturn, 1) := by decide +kernel
theorem dL_law_1654 : decode cL_law 1654 = .ok (.aload_n 2, 1) := by decide +kernel
theorem dL_law_1655 : decode cL_law 1655 = .ok (.invokevirtual 215, 3) := by decide +kernel
theorem dX12_canTakeAway_0 : decode cX12_canTakeAway 0 = .ok (.aload_n 0, 1) := by decide +kernel
theorem dX12_canTakeAway_1 : decode cX12_canTakeAway 1 = .ok (.aload_n 0, 1) := by decide +kernel
theorem dX12_canTakeAway_2 : decode cX12_canTakeAway 2 = .ok (.iconst 1, 1) := by decide +kernel
theorem dX12_canTakeAway_3 : decode cX12_canTakeAway 3 = .ok (.aload_n 0, 1) := by decide +kernel
theorem dX12_canTakeAway_4 : decode cX12_canTakeAway 4 = .ok (.getfield 16, 3) := by decide +kernel
theorem dX12_canTakeAway_7 : decode cX12_canTakeAway 7 = .ok (.invokevirtual 125, 3) := by decide +kernel
theorem dX12_canTakeAway_10 : decode cX12_canTakeAway 10 = .ok (.ishl, 1) := by decide +kernel
theorem dX12_canTakeAway_11 : decode cX12_canTakeAway 11 = .ok (.iconst 1, 1) := by decide +kernel
theorem dX12_canTakeAway_12 : decode cX12_canTakeAway 12 = .ok (.isub, 1) := by decide +kernel
theorem dX12_canTakeAway_13 : decode cX12_canTakeAway 13 = .ok (.invokevirtual 398, 3) := by decide +kernel
theorem dX12_isTakenAway_0 : decode cX12_isTakenAway 0 = .ok (.iconst 0, 1) := by decide +kernel
theorem dX12_isTakenAway_1 : decode cX12_isTakenAway 1 = .ok (.istore_n 2, 1) := by decide +kernel
theorem dX12_isTakenAway_2 : decode cX12_isTakenAway 2 = .ok (.iload_n 2, 1) := by decide +kernel
theorem dX12_isTakenAway_3 : decode cX12_isTakenAway 3 = .ok (.iconst 1, 1) := by decide +kernel
theorem dX12_isTakenAway_4 : decode cX12_isTakenAway 4 = .ok (.aload_n 0, 1) := by decide +kernel
theorem dX12_isTakenAway_5 : decode cX12_isTakenAway 5 = .ok (.getfield 16, 3) := by decide +kernel
theorem dX12_isTakenAway_8 : decode cX12_isTakenAway 8 = .ok (.invokevirtual 125, 3) := by decide +kernel
theorem dX12_isTakenAway_11 : decode cX12_isTakenAway 11 = .ok (.ishl, 1) := by decide +kernel
theorem dX12_isTakenAway_12 : decode cX12_isTakenAway 12 = .ok (.if_icmp .ge 16, 3) := by decide +kernel
theorem dX12_isTakenAway_15 : decode cX12_isTakenAway 15 = .ok (.aload_n 0, 1) := by decide +kernel
theorem dX12_isTakenAway_16 : decode cX12_isTakenAway 16 = .ok (.getfield 35, 3) := by decide +kernel
theorem dX12_isTakenAway_19 : decode cX12_isTakenAway 19 = .ok (.iload_n 2, 1) := by decide +kernel
theorem dX12_isTakenAway_20 : decode cX12_isTakenAway 20 = .ok (.iconst 0, 1) := by decide +kernel
theorem dX12_isTakenAway_21 : decode cX12_isTakenAway 21 = .ok (.bastore, 1) := by decide +kernel
theorem dX12_isTakenAway_22 : decode cX12_isTakenAway 22 = .ok (.iinc 2 1, 3) := by decide +kernel
theorem dX12_isTakenAway_25 : decode cX12_isTakenAway 25 = .ok (.goto (-23), 3) := by decide +kernel
theorem dX12_isTakenAway_28 : decode cX12_isTakenAway 28 = .ok (.aload_n 0, 1) := by decide +kernel
theorem dX12_isTakenAway_29 : decode cX12_isTakenAway 29 = .ok (.getfield 35, 3) := by decide +kernel
theorem dX12_isTakenAway_32 : decode cX12_isTakenAway 32 = .ok (.iload_n 1, 1) := by decide +kernel
theorem dX12_isTakenAway_33 : decode cX12_isTakenAway 33 = .ok (.iconst 1, 1) := by decide +kernel
theorem dX12_isTakenAway_34 : decode cX12_isTakenAway 34 = .ok (.bastore, 1) := by decide +kernel
theorem dX12_isTakenAway_35 : decode cX12_isTakenAway 35 = .ok (.iload_n 1, 1) := by decide +kernel
theorem dX12_isTakenAway_36 : decode cX12_isTakenAway 36 = .ok (.istore_n 2, 1) := by decide +kernel
theorem dX12_isTakenAway_37 : decode cX12_isTakenAway 37 = .ok (.iload_n 2, 1) := by decide +kernel
theorem dX12_isTakenAway_38 : decode cX12_isTakenAway 38 = .ok (.ifCond .le 105, 3) := by decide +kernel
theorem dX12_isTakenAway_143 : decode cX12_isTakenAway 143 = .ok (.aload_n 0, 1) := by decide +kernel
theorem dX12_isTakenAway_144 : decode cX12_isTakenAway 144 = .ok (.getfield 35, 3) := by decide +kernel
theorem dX12_isTakenAway_147 : decode cX12_isTakenAway 147 = .ok (.iconst 0, 1) := by decide +kernel
theorem dX12_isTakenAway_148 : decode cX12_isTakenAway 148 = .ok (.baload, 1) := by decide +kernel
theorem dX12_isTakenAway_149 : decode cX12_isTakenAway 149 = .ok (.ireturn, 1) := by decide +kernel
theorem dX12_canTakeAway_16 : decode cX12_canTakeAway 16 = .ok (.invokevirtual 343, 3) := by decide +kernel
theorem dX12_canTakeAway_19 : decode cX12_canTakeAway 19 = .ok (.ireturn, 1) := by decide +kernel
theorem dL_law_1658 : decode cL_law 1658 = .ok (.if_icmp .eq 305, 3) := by decide +kernel
theorem dL_law_1663 : decode cL_law 1663 = .ok (.aload_n 1, 1) := by decide +kernel
theorem dL_law_1664 : decode cL_law 1664 = .ok (.invokevirtual 216, 3) := by decide +kernel
theorem dX6_orders_0 : decode cX6_orders 0 = .ok (.aload_n 0, 1) := by decide +kernel
theorem dX6_orders_1 : decode cX6_orders 1 = .ok (.getfield 40, 3) := by decide +kernel
theorem dX6_orders_4 : decode cX6_orders 4 = .ok (.aload_n 0, 1) := by decide +kernel
theorem dX6_orders_5 : decode cX6_orders 5 = .ok (.getfield 12, 3) := by decide +kernel
theorem dX6_orders_8 : decode cX6_orders 8 = .ok (.aload_n 0, 1) := by decide +kernel
theorem dX6_orders_9 : decode cX6_orders 9 = .ok (.getfield 26, 3) := by decide +kernel
theorem dX6_orders_12 : decode cX6_orders 12 = .ok (.invokevirtual 247, 3) := by decide +kernel
theorem dX6_orders_15 : decode cX6_orders 15 = .ok (.aload_n 0, 1) := by decide +kernel
theorem dX6_orders_16 : decode cX6_orders 16 = .ok (.getfield 40, 3) := by decide +kernel
theorem dX6_orders_19 : decode cX6_orders 19 = .ok (.invokevirtual 250, 3) := by decide +kernel
theorem dX6_orders_22 : decode cX6_orders 22 = .ok (.ireturn, 1) := by decide +kernel
theorem dL_law_1667 : decode cL_law 1667 = .ok (.aload_n 2, 1) := by decide +kernel
theorem dL_law_1668 : decode cL_law 1668 = .ok (.invokevirtual 219, 3) := by decide +kernel
theorem dX12_orders_0 : decode cX12_orders 0 = .ok (.aload_n 0, 1) := by decide +kernel
theorem dX12_orders_1 : decode cX12_orders 1 = .ok (.invokevirtual 392, 3) := by decide +kernel
theorem dX12_orders_4 : decode cX12_orders 4 = .ok (.aload_n 0, 1) := by decide +kernel
theorem dX12_orders_5 : decode cX12_orders 5 = .ok (.aload_n 0, 1) := by decide +kernel
theorem dX12_orders_6 : decode cX12_orders 6 = .ok (.getfield 42, 3) := by decide +kernel
theorem dX12_orders_9 : decode cX12_orders 9 = .ok (.iconst 0, 1) := by decide +kernel
theorem dX12_orders_10 : decode cX12_orders 10 = .ok (.iaload, 1) := by decide +kernel
theorem dX12_orders_11 : decode cX12_orders 11 = .ok (.invokevirtual 302, 3) := by decide +kernel
theorem dX12_orders_14 : decode cX12_orders 14 = .ok (.ireturn, 1) := by decide +kernel
theorem dL_law_1671 : decode cL_law 1671 = .ok (.if_icmp .eq 292, 3) := by decide +kernel
theorem dL_law_1676 : decode cL_law 1676 = .ok (.aload_n 1, 1) := by decide +kernel
theorem dL_law_1677 : decode cL_law 1677 = .ok (.aload_n 0, 1) := by decide +kernel
theorem dL_law_1678 : decode cL_law 1678 = .ok (.iload 5, 2) := by decide +kernel
theorem dL_law_1680 : decode cL_law 1680 = .ok (.iconst 1, 1) := by decide +kernel
theorem dL_law_1681 : decode cL_law 1681 = .ok (.iadd, 1) := by decide +kernel
theorem dL_law_1682 : decode cL_law 1682 = .ok (.iaload, 1) := by decide +kernel
theorem dL_law_1683 : decode cL_law 1683 = .ok (.aload_n 3, 1) := by decide +kernel
theorem dL_law_1684 : decode cL_law 1684 = .ok (.invokestatic 220, 3) := by decide +kernel
theorem dL_props_0 : decode cL_props 0 = .ok (.aload_n 2, 1) := by decide +kernel
theorem dL_props_1 : decode cL_props 1 = .ok (.iconst 0, 1) := by decide +kernel
theorem dL_props_2 : decode cL_props 2 = .ok (.aload_n 0, 1) := by decide +kernel
theorem dL_props_3 : decode cL_props 3 = .ok (.iload_n 1, 1) := by decide +kernel
theorem dL_props_4 : decode cL_props 4 = .ok (.invokevirtual 95, 3) := by decide +kernel
theorem dX6_props_0 : decode cX6_props 0 = .ok (.aload_n 0, 1) := by decide +kernel
theorem dX6_props_1 : decode cX6_props 1 = .ok (.iload_n 1, 1) := by decide +kernel
theorem dX6_props_2 : decode cX6_props 2 = .ok (.invokevirtual 241, 3) := by decide +kernel
theorem dL_props_15 : decode cL_props 15 = .ok (.astore_n 3, 1) := by decide +kernel
theorem dL_props_16 : decode cL_props 16 = .ok (.iconst 2, 1) := by decide +kernel
theorem dL_props_17 : decode cL_props 17 = .ok (.ireturn, 1) := by decide +kernel
theorem dL_law_1687 : decode cL_law 1687 = .ok (.istore 6, 2) := by decide +kernel
theorem dL_law_1689 : decode cL_law 1689 = .ok (.aload_n 2, 1) := by decide +kernel
theorem dL_law_1690 : decode cL_law 1690 = .ok (.aload_n 0, 1) := by decide +kernel
theorem dL_law_1691 : decode cL_law 1691 = .ok (.iload 5, 2) := by decide +kernel
theorem dL_law_1693 : decode cL_law 1693 = .ok (.iconst 1, 1) := by decide +kernel
theorem dL_law_1694 : decode cL_law 1694 = .ok (.iadd, 1) := by decide +kernel
theorem dL_law_1695 : decode cL_law 1695 = .ok (.iaload, 1) := by decide +kernel
theorem dL_law_1696 : decode cL_law 1696 = .ok (.invokevirtual 222, 3) := by decide +kernel
theorem dX12_props_0 : decode cX12_props 0 = .ok (.aload_n 0, 1) := by decide +kernel
theorem dX12_props_1 : decode cX12_props 1 = .ok (.invokevirtual 395, 3) := by decide +kernel
theorem dX12_props_4 : decode cX12_props 4 = .ok (.ifCond .ne 9, 3) := by decide +kernel
theorem dX12_props_13 : decode cX12_props 13 = .ok (.iload_n 1, 1) := by decide +kernel
theorem dX12_props_14 : decode cX12_props 14 = .ok (.i2l, 1) := by decide +kernel
theorem dX12_props_15 : decode cX12_props 15 = .ok (.iconst 0, 1) := by decide +kernel
theorem dX12_props_16 : decode cX12_props 16 = .ok (.aload_n 0, 1) := by decide +kernel
theorem dX12_props_17 : decode cX12_props 17 = .ok (.getfield 16, 3) := by decide +kernel
theorem dX12_props_20 : decode cX12_props 20 = .ok (.invokevirtual 125, 3) := by decide +kernel
theorem dX12_props_23 : decode cX12_props 23 = .ok (.iconst 1, 1) := by decide +kernel
theorem dX12_props_24 : decode cX12_props 24 = .ok (.isub, 1) := by decide +kernel
theorem dX12_props_25 : decode cX12_props 25 = .ok (.invokestatic 285, 3) := by decide +kernel
theorem dX12_props_28 : decode cX12_props 28 = .ok (.ifCond .ne 9, 3) := by decide +kernel
theorem dX12_props_31 : decode cX12_props 31 = .ok (.aload_n 0, 1) := by decide +kernel
theorem dX12_props_32 : decode cX12_props 32 = .ok (.iconst 2, 1) := by decide +kernel
theorem dX12_props_33 : decode cX12_props 33 = .ok (.invokevirtual 289, 3) := by decide +kernel
theorem dX12_props_36 : decode cX12_props 36 = .ok (.ireturn, 1) := by decide +kernel
theorem dL_law_1699 : decode cL_law 1699 = .ok (.istore 7, 2) := by decide +kernel
theorem dL_law_1701 : decode cL_law 1701 = .ok (.aload_n 2, 1) := by decide +kernel
theorem dL_law_1702 : decode cL_law 1702 = .ok (.invokevirtual 125, 3) := by decide +kernel
theorem dL_law_1705 : decode cL_law 1705 = .ok (.iload 6, 2) := by decide +kernel
theorem dL_law_1707 : decode cL_law 1707 = .ok (.if_icmp .eq 5, 3) := by decide +kernel
theorem dL_law_1712 : decode cL_law 1712 = .ok (.iload 6, 2) := by decide +kernel
theorem dL_law_1714 : decode cL_law 1714 = .ok (.ifCond .ne 15, 3) := by decide +kernel
theorem dL_law_1729 : decode cL_law 1729 = .ok (.goto 234, 3) := by decide +kernel
theorem dL_law_1732 : decode cL_law 1732 = .ok (.aload_n 1, 1) := by decide +kernel
theorem dL_law_1733 : decode cL_law 1733 = .ok (.aload_n 3, 1) := by decide +kernel
theorem dL_law_1734 : decode cL_law 1734 = .ok (.invokestatic 223, 3) := by decide +kernel
theorem dL_stuck_0 : decode cL_stuck 0 = .ok (.aload_n 1, 1) := by decide +kernel
theorem dL_stuck_1 : decode cL_stuck 1 = .ok (.iconst 0, 1) := by decide +kernel
theorem dL_stuck_2 : decode cL_stuck 2 = .ok (.aload_n 0, 1) := by decide +kernel
theorem dL_stuck_3 : decode cL_stuck 3 = .ok (.invokevirtual 98, 3) := by decide +kernel
theorem dX6_stuck_0 : decode cX6_stuck 0 = .ok (.aload_n 0, 1) := by decide +kernel
theorem dX6_stuck_1 : decode cX6_stuck 1 = .ok (.getfield 40, 3) := by decide +kernel
theorem dX6_stuck_4 : decode cX6_stuck 4 = .ok (.aload_n 0, 1) := by decide +kernel
theorem dX6_stuck_5 : decode cX6_stuck 5 = .ok (.getfield 12, 3) := by decide +kernel
theorem dX6_stuck_8 : decode cX6_stuck 8 = .ok (.aload_n 0, 1) := by decide +kernel
theorem dX6_stuck_9 : decode cX6_stuck 9 = .ok (.getfield 26, 3) := by decide +kernel
theorem dX6_stuck_12 : decode cX6_stuck 12 = .ok (.invokevirtual 247, 3) := by decide +kernel
theorem dX6_stuck_15 : decode cX6_stuck 15 = .ok (.aload_n 0, 1) := by decide +kernel
theorem dX6_stuck_16 : decode cX6_stuck 16 = .ok (.getfield 40, 3) := by decide +kernel
theorem dX6_stuck_19 : decode cX6_stuck 19 = .ok (.invokevirtual 261, 3) := by decide +kernel
theorem dX4_lowestStuck_0 : decode cX4_lowestStuck 0 = .ok (.iconst 0, 1) := by decide +kernel
theorem dX4_lowestStuck_1 : decode cX4_lowestStuck 1 = .ok (.istore_n 1, 1) := by decide +kernel
theorem dX4_lowestStuck_2 : decode cX4_lowestStuck 2 = .ok (.iload_n 1, 1) := by decide +kernel
theorem dX4_lowestStuck_3 : decode cX4_lowestStuck 3 = .ok (.bipush 9, 2) := by decide +kernel
theorem dX4_lowestStuck_5 : decode cX4_lowestStuck 5 = .ok (.if_icmp .ge 38, 3) := by decide +kernel
theorem dX4_lowestStuck_8 : decode cX4_lowestStuck 8 = .ok (.iconst 1, 1) := by decide +kernel
theorem dX4_lowestStuck_9 : decode cX4_lowestStuck 9 = .ok (.iload_n 1, 1) := by decide +kernel
theorem dX4_lowestStuck_10 : decode cX4_lowestStuck 10 = .ok (.ishl, 1) := by decide +kernel
theorem dX4_lowestStuck_11 : decode cX4_lowestStuck 11 = .ok (.istore_n 2, 1) := by decide +kernel
theorem dX4_lowestStuck_12 : decode cX4_lowestStuck 12 = .ok (.aload_n 0, 1) := by decide +kernel
theorem dX4_lowestStuck_13 : decode cX4_lowestStuck 13 = .ok (.getfield 34, 3) := by decide +kernel
theorem dX4_lowestStuck_16 : decode cX4_lowestStuck 16 = .ok (.iload_n 2, 1) := by decide +kernel
theorem dX4_lowestStuck_17 : decode cX4_lowestStuck 17 = .ok (.iand, 1) := by decide +kernel
theorem dX4_lowestStuck_18 : decode cX4_lowestStuck 18 = .ok (.ifCond .eq 19, 3) := by decide +kernel
theorem dX4_lowestStuck_37 : decode cX4_lowestStuck 37 = .ok (.iinc 1 1, 3) := by decide +kernel
theorem dX4_lowestStuck_40 : decode cX4_lowestStuck 40 = .ok (.goto (-38), 3) := by decide +kernel
theorem dX4_lowestStuck_43 : decode cX4_lowestStuck 43 = .ok (.iconst (-1), 1) := by decide +kernel
theorem dX4_lowestStuck_44 : decode cX4_lowestStuck 44 = .ok (.ireturn, 1) := by decide +kernel
theorem dX6_stuck_22 : decode cX6_stuck 22 = .ok (.istore_n 1, 1) := by decide +kernel
theorem dX6_stuck_23 : decode cX6_stuck 23 = .ok (.iload_n 1, 1) := by decide +kernel
theorem dX6_stuck_24 : decode cX6_stuck 24 = .ok (.ifCond .ge 14, 3) := by decide +kernel
theorem dX6_stuck_27 : decode cX6_stuck 27 = .ok (.new 142, 3) := by decide +kernel
theorem dX6_stuck_30 : decode cX6_stuck 30 = .ok (.dup, 1) := by decide +kernel
theorem dX6_stuck_31 : decode cX6_stuck 31 = .ok (.ldc_w 264, 3) := by decide +kernel
theorem dX6_stuck_34 : decode cX6_stuck 34 = .ok (.invokespecial 146, 3) := by decide +kernel
theorem dX6_stuck_37 : decode cX6_stuck 37 = .ok (.athrow, 1) := by decide +kernel
theorem dL_stuck_11 : decode cL_stuck 11 = .ok (.astore_n 2, 1) := by decide +kernel
theorem dL_stuck_12 : decode cL_stuck 12 = .ok (.iconst 1, 1) := by decide +kernel
theorem dL_stuck_13 : decode cL_stuck 13 = .ok (.ireturn, 1) := by decide +kernel
theorem dL_law_1737 : decode cL_law 1737 = .ok (.istore 6, 2) := by decide +kernel
theorem dL_law_1739 : decode cL_law 1739 = .ok (.aload_n 2, 1) := by decide +kernel
theorem dL_law_1740 : decode cL_law 1740 = .ok (.invokevirtual 225, 3) := by decide +kernel
theorem dX12_stuck_0 : decode cX12_stuck 0 = .ok (.iconst 1, 1) := by decide +kernel
theorem dX12_stuck_1 : decode cX12_stuck 1 = .ok (.aload_n 0, 1) := by decide +kernel
theorem dX12_stuck_2 : decode cX12_stuck 2 = .ok (.getfield 16, 3) := by decide +kernel
theorem dX12_stuck_5 : decode cX12_stuck 5 = .ok (.invokevirtual 125, 3) := by decide +kernel
theorem dX12_stuck_8 : decode cX12_stuck 8 = .ok (.ishl, 1) := by decide +kernel
theorem dX12_stuck_9 : decode cX12_stuck 9 = .ok (.iconst 1, 1) := by decide +kernel
theorem dX12_stuck_10 : decode cX12_stuck 10 = .ok (.isub, 1) := by decide +kernel
theorem dX12_stuck_11 : decode cX12_stuck 11 = .ok (.istore_n 1, 1) := by decide +kernel
theorem dX12_stuck_12 : decode cX12_stuck 12 = .ok (.iconst 0, 1) := by decide +kernel
theorem dX12_stuck_13 : decode cX12_stuck 13 = .ok (.istore_n 2, 1) := by decide +kernel
theorem dX12_stuck_14 : decode cX12_stuck 14 = .ok (.iload_n 2, 1) := by decide +kernel
theorem dX12_stuck_15 : decode cX12_stuck 15 = .ok (.aload_n 0, 1) := by decide +kernel
theorem dX12_stuck_16 : decode cX12_stuck 16 = .ok (.getfield 16, 3) := by decide +kernel
theorem dX12_stuck_19 : decode cX12_stuck 19 = .ok (.invokevirtual 125, 3) := by decide +kernel
theorem dX12_stuck_22 : decode cX12_stuck 22 = .ok (.if_icmp .ge 30, 3) := by decide +kernel
theorem dX12_stuck_52 : decode cX12_stuck 52 = .ok (.aload_n 0, 1) := by decide +kernel
theorem dX12_stuck_53 : decode cX12_stuck 53 = .ok (.iconst 1, 1) := by decide +kernel
theorem dX12_stuck_54 : decode cX12_stuck 54 = .ok (.invokevirtual 289, 3) := by decide +kernel
theorem dX12_stuck_57 : decode cX12_stuck 57 = .ok (.ireturn, 1) := by decide +kernel
theorem dL_law_1743 : decode cL_law 1743 = .ok (.istore 7, 2) := by decide +kernel
theorem dL_law_1745 : decode cL_law 1745 = .ok (.aload_n 2, 1) := by decide +kernel
theorem dL_law_1746 : decode cL_law 1746 = .ok (.invokevirtual 125, 3) := by decide +kernel
theorem dL_law_1749 : decode cL_law 1749 = .ok (.iload 6, 2) := by decide +kernel
theorem dL_law_1751 : decode cL_law 1751 = .ok (.if_icmp .eq 5, 3) := by decide +kernel
theorem dL_law_1756 : decode cL_law 1756 = .ok (.iload 6, 2) := by decide +kernel
theorem dL_law_1758 : decode cL_law 1758 = .ok (.ifCond .ne 15, 3) := by decide +kernel
theorem dL_law_1773 : decode cL_law 1773 = .ok (.goto 190, 3) := by decide +kernel
theorem dL_law_1776 : decode cL_law 1776 = .ok (.aload_n 1, 1) := by decide +kernel
theorem dL_law_1777 : decode cL_law 1777 = .ok (.aload_n 3, 1) := by decide +kernel
theorem dL_law_1778 : decode cL_law 1778 = .ok (.invokestatic 226, 3) := by decide +kernel
theorem dL_allForce_0 : decode cL_allForce 0 = .ok (.aload_n 1, 1) := by decide +kernel
theorem dL_allForce_1 : decode cL_allForce 1 = .ok (.iconst 0, 1) := by decide +kernel
theorem dL_allForce_2 : decode cL_allForce 2 = .ok (.aload_n 0, 1) := by decide +kernel
theorem dL_allForce_3 : decode cL_allForce 3 = .ok (.invokevirtual 101, 3) := by decide +kernel
theorem dX6_allForce_0 : decode cX6_allForce 0 = .ok (.aload_n 0, 1) := by decide +kernel
theorem dX6_allForce_1 : decode cX6_allForce 1 = .ok (.invokevirtual 121, 3) := by decide +kernel
theorem dX6_allForce_4 : decode cX6_allForce 4 = .ok (.lconst 0, 1) := by decide +kernel
theorem dX6_allForce_5 : decode cX6_allForce 5 = .ok (.lstore_n 1, 1) := by decide +kernel
theorem dX6_allForce_6 : decode cX6_allForce 6 = .ok (.iconst 0, 1) := by decide +kernel
theorem dX6_allForce_7 : decode cX6_allForce 7 = .ok (.istore_n 3, 1) := by decide +kernel
theorem dX6_allForce_8 : decode cX6_allForce 8 = .ok (.iload_n 3, 1) := by decide +kernel
theorem dX6_allForce_9 : decode cX6_allForce 9 = .ok (.aload_n 0, 1) := by decide +kernel
theorem dX6_allForce_10 : decode cX6_allForce 10 = .ok (.getfield 12, 3) := by decide +kernel
theorem dX6_allForce_13 : decode cX6_allForce 13 = .ok (.getfield 93, 3) := by decide +kernel
theorem dX6_allForce_16 : decode cX6_allForce 16 = .ok (.if_icmp .ge 24, 3) := by decide +kernel
theorem dX6_allForce_40 : decode cX6_allForce 40 = .ok (.lload_n 1, 1) := by decide +kernel
theorem dX6_allForce_41 : decode cX6_allForce 41 = .ok (.lreturn, 1) := by decide +kernel
theorem dL_allForce_6 : decode cL_allForce 6 = .ok (.lastore, 1) := by decide +kernel
theorem dL_allForce_7 : decode cL_allForce 7 = .ok (.goto 6, 3) := by decide +kernel
theorem dL_allForce_13 : decode cL_allForce 13 = .ok (.iconst 0, 1) := by decide +kernel
theorem dL_allForce_14 : decode cL_allForce 14 = .ok (.ireturn, 1) := by decide +kernel
theorem dL_law_1781 : decode cL_law 1781 = .ok (.istore 6, 2) := by decide +kernel
theorem dL_law_1783 : decode cL_law 1783 = .ok (.aload_n 2, 1) := by decide +kernel
theorem dL_law_1784 : decode cL_law 1784 = .ok (.invokevirtual 228, 3) := by decide +kernel
theorem dX12_allForce_0 : decode cX12_allForce 0 = .ok (.aload_n 0, 1) := by decide +kernel
theorem dX12_allForce_1 : decode cX12_allForce 1 = .ok (.invokevirtual 320, 3) := by decide +kernel
theorem dX12_allForce_4 : decode cX12_allForce 4 = .ok (.ifCond .ne 9, 3) := by decide +kernel
theorem dX12_allForce_13 : decode cX12_allForce 13 = .ok (.lconst 0, 1) := by decide +kernel
theorem dX12_allForce_14 : decode cX12_allForce 14 = .ok (.lstore_n 1, 1) := by decide +kernel
theorem dX12_allForce_15 : decode cX12_allForce 15 = .ok (.iconst 0, 1) := by decide +kernel
theorem dX12_allForce_16 : decode cX12_allForce 16 = .ok (.istore_n 3, 1) := by decide +kernel
theorem dX12_allForce_17 : decode cX12_allForce 17 = .ok (.iload_n 3, 1) := by decide +kernel
theorem dX12_allForce_18 : decode cX12_allForce 18 = .ok (.aload_n 0, 1) := by decide +kernel
theorem dX12_allForce_19 : decode cX12_allForce 19 = .ok (.getfield 16, 3) := by decide +kernel
theorem dX12_allForce_22 : decode cX12_allForce 22 = .ok (.invokevirtual 125, 3) := by decide +kernel
theorem dX12_allForce_25 : decode cX12_allForce 25 = .ok (.if_icmp .ge 20, 3) := by decide +kernel
theorem dX12_allForce_45 : decode cX12_allForce 45 = .ok (.aload_n 0, 1) := by decide +kernel
theorem dX12_allForce_46 : decode cX12_allForce 46 = .ok (.lload_n 1, 1) := by decide +kernel
theorem dX12_allForce_47 : decode cX12_allForce 47 = .ok (.invokevirtual 326, 3) := by decide +kernel
theorem dX12_tellLong_0 : decode cX12_tellLong 0 = .ok (.aload_n 0, 1) := by decide +kernel
theorem dX12_tellLong_1 : decode cX12_tellLong 1 = .ok (.iconst 0, 1) := by decide +kernel
theorem dX12_tellLong_2 : decode cX12_tellLong 2 = .ok (.putfield 74, 3) := by decide +kernel
theorem dX12_tellLong_5 : decode cX12_tellLong 5 = .ok (.lload_n 1, 1) := by decide +kernel
theorem dX12_tellLong_6 : decode cX12_tellLong 6 = .ok (.lreturn, 1) := by decide +kernel
theorem dX12_allForce_50 : decode cX12_allForce 50 = .ok (.lreturn, 1) := by decide +kernel
theorem dL_law_1787 : decode cL_law 1787 = .ok (.lstore 7, 2) := by decide +kernel
theorem dL_law_1789 : decode cL_law 1789 = .ok (.aload_n 2, 1) := by decide +kernel
theorem dL_law_1790 : decode cL_law 1790 = .ok (.invokevirtual 125, 3) := by decide +kernel
theorem dL_law_1793 : decode cL_law 1793 = .ok (.iload 6, 2) := by decide +kernel
theorem dL_law_1795 : decode cL_law 1795 = .ok (.if_icmp .eq 5, 3) := by decide +kernel
theorem dL_law_1800 : decode cL_law 1800 = .ok (.iload 6, 2) := by decide +kernel
theorem dL_law_1802 : decode cL_law 1802 = .ok (.ifCond .ne 14, 3) := by decide +kernel
theorem dL_law_1805 : decode cL_law 1805 = .ok (.aload_n 3, 1) := by decide +kernel
theorem dL_law_1806 : decode cL_law 1806 = .ok (.iconst 0, 1) := by decide +kernel
theorem dL_law_1807 : decode cL_law 1807 = .ok (.laload, 1) := by decide +kernel
theorem dL_law_1808 : decode cL_law 1808 = .ok (.lload 7, 2) := by decide +kernel
theorem dL_law_1810 : decode cL_law 1810 = .ok (.lcmp, 1) := by decide +kernel
theorem dL_law_1811 : decode cL_law 1811 = .ok (.ifCond .eq 5, 3) := by decide +kernel
theorem dL_law_1816 : decode cL_law 1816 = .ok (.goto 147, 3) := by decide +kernel
theorem dL_law_1819 : decode cL_law 1819 = .ok (.aload_n 1, 1) := by decide +kernel
theorem dL_law_1820 : decode cL_law 1820 = .ok (.aload 4, 2) := by decide +kernel
theorem dL_law_1822 : decode cL_law 1822 = .ok (.invokestatic 229, 3) := by decide +kernel
theorem dL_rightShare_0 : decode cL_rightShare 0 = .ok (.aload_n 1, 1) := by decide +kernel
theorem dL_rightShare_1 : decode cL_rightShare 1 = .ok (.iconst 0, 1) := by decide +kernel
theorem dL_rightShare_2 : decode cL_rightShare 2 = .ok (.aload_n 0, 1) := by decide +kernel
theorem dL_rightShare_3 : decode cL_rightShare 3 = .ok (.invokevirtual 105, 3) := by decide +kernel
theorem dX6_rightShare_0 : decode cX6_rightShare 0 = .ok (.aload_n 0, 1) := by decide +kernel
theorem dX6_rightShare_1 : decode cX6_rightShare 1 = .ok (.getfield 26, 3) := by decide +kernel
theorem dX6_rightShare_4 : decode cX6_rightShare 4 = .ok (.getfield 170, 3) := by decide +kernel
theorem dX6_rightShare_7 : decode cX6_rightShare 7 = .ok (.ifCond .ne 13, 3) := by decide +kernel
theorem dX6_rightShare_10 : decode cX6_rightShare 10 = .ok (.new 266, 3) := by decide +kernel
theorem dX6_rightShare_13 : decode cX6_rightShare 13 = .ok (.dup, 1) := by decide +kernel
theorem dX6_rightShare_14 : decode cX6_rightShare 14 = .ok (.ldc 206, 2) := by decide +kernel
theorem dX6_rightShare_16 : decode cX6_rightShare 16 = .ok (.invokespecial 268, 3) := by decide +kernel
theorem dX6_rightShare_19 : decode cX6_rightShare 19 = .ok (.athrow, 1) := by decide +kernel
theorem dL_rightShare_11 : decode cL_rightShare 11 = .ok (.astore_n 2, 1) := by decide +kernel
theorem dL_rightShare_12 : decode cL_rightShare 12 = .ok (.iconst 1, 1) := by decide +kernel
theorem dL_rightShare_13 : decode cL_rightShare 13 = .ok (.ireturn, 1) := by decide +kernel
theorem dL_law_1825 : decode cL_law 1825 = .ok (.istore 6, 2) := by decide +kernel
theorem dL_law_1827 : decode cL_law 1827 = .ok (.aload_n 2, 1) := by decide +kernel
theorem dL_law_1828 : decode cL_law 1828 = .ok (.invokevirtual 232, 3) := by decide +kernel
theorem dX12_rightShare_0 : decode cX12_rightShare 0 = .ok (.iconst 0, 1) := by decide +kernel
theorem dX12_rightShare_1 : decode cX12_rightShare 1 = .ok (.istore_n 1, 1) := by decide +kernel
theorem dX12_rightShare_2 : decode cX12_rightShare 2 = .ok (.iconst 0, 1) := by decide +kernel
theorem dX12_rightShare_3 : decode cX12_rightShare 3 = .ok (.istore_n 2, 1) := by decide +kernel
theorem dX12_rightShare_4 : decode cX12_rightShare 4 = .ok (.iload_n 2, 1) := by decide +kernel
theorem dX12_rightShare_5 : decode cX12_rightShare 5 = .ok (.aload_n 0, 1) := by decide +kernel
theorem dX12_rightShare_6 : decode cX12_rightShare 6 = .ok (.getfield 19, 3) := by decide +kernel
theorem dX12_rightShare_9 : decode cX12_rightShare 9 = .ok (.invokevirtual 125, 3) := by decide +kernel
theorem dX12_rightShare_12 : decode cX12_rightShare 12 = .ok (.if_icmp .ge 35, 3) := by decide +kernel
theorem dX12_rightShare_47 : decode cX12_rightShare 47 = .ok (.aload_n 0, 1) := by decide +kernel
theorem dX12_rightShare_48 : decode cX12_rightShare 48 = .ok (.aload_n 0, 1) := by decide +kernel
theorem dX12_rightShare_49 : decode cX12_rightShare 49 = .ok (.getfield 19, 3) := by decide +kernel
theorem dX12_rightShare_52 : decode cX12_rightShare 52 = .ok (.invokevirtual 401, 3) := by decide +kernel
theorem dJx4a65c_isEmpty_aae02_0 : decode cJx4a65c_isEmpty_aae02 0 = .ok (.aload_n 0, 1) := by decide +kernel
theorem dJx4a65c_isEmpty_aae02_1 : decode cJx4a65c_isEmpty_aae02 1 = .ok (.getfield 48, 3) := by decide +kernel
theorem dJx4a65c_isEmpty_aae02_4 : decode cJx4a65c_isEmpty_aae02 4 = .ok (.ifCond .ne 7, 3) := by decide +kernel
theorem dJx4a65c_isEmpty_aae02_7 : decode cJx4a65c_isEmpty_aae02 7 = .ok (.iconst 1, 1) := by decide +kernel
theorem dJx4a65c_isEmpty_aae02_8 : decode cJx4a65c_isEmpty_aae02 8 = .ok (.goto 4, 3) := by decide +kernel
theorem dJx4a65c_isEmpty_aae02_12 : decode cJx4a65c_isEmpty_aae02 12 = .ok (.ireturn, 1) := by decide +kernel
theorem dX12_rightShare_55 : decode cX12_rightShare 55 = .ok (.ifCond .eq 7, 3) := by decide +kernel
theorem dX12_rightShare_58 : decode cX12_rightShare 58 = .ok (.iconst 1, 1) := by decide +kernel
theorem dX12_rightShare_59 : decode cX12_rightShare 59 = .ok (.goto 4, 3) := by decide +kernel
theorem dX12_rightShare_63 : decode cX12_rightShare 63 = .ok (.putfield 74, 3) := by decide +kernel
theorem dX12_rightShare_66 : decode cX12_rightShare 66 = .ok (.aload_n 0, 1) := by decide +kernel
theorem dX12_rightShare_67 : decode cX12_rightShare 67 = .ok (.getfield 74, 3) := by decide +kernel
theorem dX12_rightShare_70 : decode cX12_rightShare 70 = .ok (.ifCond .le 7, 3) := by decide +kernel
theorem dX12_rightShare_73 : decode cX12_rightShare 73 = .ok (.fconst 0, 1) := by decide +kernel
theorem dX12_rightShare_74 : decode cX12_rightShare 74 = .ok (.goto 14, 3) := by decide +kernel
theorem dX12_rightShare_88 : decode cX12_rightShare 88 = .ok (.freturn, 1) := by decide +kernel
theorem dL_law_1831 : decode cL_law 1831 = .ok (.fstore 7, 2) := by decide +kernel
theorem dL_law_1833 : decode cL_law 1833 = .ok (.aload_n 2, 1) := by decide +kernel
theorem dL_law_1834 : decode cL_law 1834 = .ok (.invokevirtual 125, 3) := by decide +kernel
theorem dL_law_1837 : decode cL_law 1837 = .ok (.iload 6, 2) := by decide +kernel
theorem dL_law_1839 : decode cL_law 1839 = .ok (.if_icmp .eq 5, 3) := by decide +kernel
theorem dL_law_1844 : decode cL_law 1844 = .ok (.iload 6, 2) := by decide +kernel
theorem dL_law_1846 : decode cL_law 1846 = .ok (.ifCond .ne 36, 3) := by decide +kernel
theorem dL_law_1882 : decode cL_law 1882 = .ok (.goto 81, 3) := by decide +kernel
theorem dL_law_1885 : decode cL_law 1885 = .ok (.aload_n 1, 1) := by decide +kernel
theorem dL_law_1886 : decode cL_law 1886 = .ok (.aload 4, 2) := by decide +kernel
theorem dL_law_1888 : decode cL_law 1888 = .ok (.invokestatic 233, 3) := by decide +kernel
theorem dL_meanPull_0 : decode cL_meanPull 0 = .ok (.aload_n 1, 1) := by decide +kernel
theorem dL_meanPull_1 : decode cL_meanPull 1 = .ok (.iconst 0, 1) := by decide +kernel
theorem dL_meanPull_2 : decode cL_meanPull 2 = .ok (.aload_n 0, 1) := by decide +kernel
theorem dL_meanPull_3 : decode cL_meanPull 3 = .ok (.invokevirtual 111, 3) := by decide +kernel
theorem dX6_meanPull_0 : decode cX6_meanPull 0 = .ok (.aload_n 0, 1) := by decide +kernel
theorem dX6_meanPull_1 : decode cX6_meanPull 1 = .ok (.invokevirtual 121, 3) := by decide +kernel
theorem dX6_meanPull_4 : decode cX6_meanPull 4 = .ok (.aload_n 0, 1) := by decide +kernel
theorem dX6_meanPull_5 : decode cX6_meanPull 5 = .ok (.getfield 12, 3) := by decide +kernel
theorem dX6_meanPull_8 : decode cX6_meanPull 8 = .ok (.getfield 93, 3) := by decide +kernel
theorem dX6_meanPull_11 : decode cX6_meanPull 11 = .ok (.ifCond .ne 13, 3) := by decide +kernel
theorem dX6_meanPull_14 : decode cX6_meanPull 14 = .ok (.new 266, 3) := by decide +kernel
theorem dX6_meanPull_17 : decode cX6_meanPull 17 = .ok (.dup, 1) := by decide +kernel
theorem dX6_meanPull_18 : decode cX6_meanPull 18 = .ok (.ldc 144, 2) := by decide +kernel
theorem dX6_meanPull_20 : decode cX6_meanPull 20 = .ok (.invokespecial 268, 3) := by decide +kernel
theorem dX6_meanPull_23 : decode cX6_meanPull 23 = .ok (.athrow, 1) := by decide +kernel
theorem dL_meanPull_13 : decode cL_meanPull 13 = .ok (.astore_n 2, 1) := by decide +kernel
theorem dL_meanPull_14 : decode cL_meanPull 14 = .ok (.iconst 2, 1) := by decide +kernel
theorem dL_meanPull_15 : decode cL_meanPull 15 = .ok (.ireturn, 1) := by decide +kernel
theorem dL_law_1891 : decode cL_law 1891 = .ok (.istore 6, 2) := by decide +kernel
theorem dL_law_1893 : decode cL_law 1893 = .ok (.aload_n 2, 1) := by decide +kernel
theorem dL_law_1894 : decode cL_law 1894 = .ok (.invokevirtual 235, 3) := by decide +kernel
theorem dX12_meanPull_0 : decode cX12_meanPull 0 = .ok (.aload_n 0, 1) := by decide +kernel
theorem dX12_meanPull_1 : decode cX12_meanPull 1 = .ok (.aload_n 0, 1) := by decide +kernel
theorem dX12_meanPull_2 : decode cX12_meanPull 2 = .ok (.invokevirtual 320, 3) := by decide +kernel
theorem dX12_meanPull_5 : decode cX12_meanPull 5 = .ok (.ifCond .ne 7, 3) := by decide +kernel
theorem dX12_meanPull_12 : decode cX12_meanPull 12 = .ok (.aload_n 0, 1) := by decide +kernel
theorem dX12_meanPull_13 : decode cX12_meanPull 13 = .ok (.getfield 16, 3) := by decide +kernel
theorem dX12_meanPull_16 : decode cX12_meanPull 16 = .ok (.invokevirtual 401, 3) := by decide +kernel
theorem dX12_meanPull_19 : decode cX12_meanPull 19 = .ok (.ifCond .eq 7, 3) := by decide +kernel
theorem dX12_meanPull_22 : decode cX12_meanPull 22 = .ok (.iconst 2, 1) := by decide +kernel
theorem dX12_meanPull_23 : decode cX12_meanPull 23 = .ok (.goto 4, 3) := by decide +kernel
theorem dX12_meanPull_27 : decode cX12_meanPull 27 = .ok (.putfield 74, 3) := by decide +kernel
theorem dX12_meanPull_30 : decode cX12_meanPull 30 = .ok (.aload_n 0, 1) := by decide +kernel
theorem dX12_meanPull_31 : decode cX12_meanPull 31 = .ok (.getfield 74, 3) := by decide +kernel
theorem dX12_meanPull_34 : decode cX12_meanPull 34 = .ok (.ifCond .le 5, 3) := by decide +kernel
theorem dX12_meanPull_37 : decode cX12_meanPull 37 = .ok (.dconst 0, 1) := by decide +kernel
theorem dX12_meanPull_38 : decode cX12_meanPull 38 = .ok (.dreturn, 1) := by decide +kernel
theorem dL_law_1897 : decode cL_law 1897 = .ok (.dstore 7, 2) := by decide +kernel
theorem dL_law_1899 : decode cL_law 1899 = .ok (.aload_n 2, 1) := by decide +kernel
theorem dL_law_1900 : decode cL_law 1900 = .ok (.invokevirtual 125, 3) := by decide +kernel
theorem dL_law_1903 : decode cL_law 1903 = .ok (.iload 6, 2) := by decide +kernel
theorem dL_law_1905 : decode cL_law 1905 = .ok (.if_icmp .eq 5, 3) := by decide +kernel
theorem dL_law_1910 : decode cL_law 1910 = .ok (.iload 6, 2) := by decide +kernel
theorem dL_law_1912 : decode cL_law 1912 = .ok (.ifCond .ne 35, 3) := by decide +kernel
theorem dL_law_1947 : decode cL_law 1947 = .ok (.goto 16, 3) := by decide +kernel
theorem dL_law_1950 : decode cL_law 1950 = .ok (.aload_n 1, 1) := by decide +kernel
theorem dL_law_1951 : decode cL_law 1951 = .ok (.invokevirtual 236, 3) := by decide +kernel
theorem dX6_isSound_0 : decode cX6_isSound 0 = .ok (.aload_n 0, 1) := by decide +kernel
theorem dX6_isSound_1 : decode cX6_isSound 1 = .ok (.getfield 19, 3) := by decide +kernel
theorem dX6_isSound_4 : decode cX6_isSound 4 = .ok (.aload_n 0, 1) := by decide +kernel
theorem dX6_isSound_5 : decode cX6_isSound 5 = .ok (.getfield 12, 3) := by decide +kernel
theorem dX6_isSound_8 : decode cX6_isSound 8 = .ok (.invokevirtual 110, 3) := by decide +kernel
theorem dX6_isSound_11 : decode cX6_isSound 11 = .ok (.aload_n 0, 1) := by decide +kernel
theorem dX6_isSound_12 : decode cX6_isSound 12 = .ok (.getfield 19, 3) := by decide +kernel
theorem dX6_isSound_15 : decode cX6_isSound 15 = .ok (.getfield 114, 3) := by decide +kernel
theorem dX6_isSound_18 : decode cX6_isSound 18 = .ok (.bipush 46, 2) := by decide +kernel
theorem dX6_isSound_20 : decode cX6_isSound 20 = .ok (.if_icmp .ne 34, 3) := by decide +kernel
theorem dX6_isSound_23 : decode cX6_isSound 23 = .ok (.iconst 0, 1) := by decide +kernel
theorem dX6_isSound_24 : decode cX6_isSound 24 = .ok (.istore_n 1, 1) := by decide +kernel
theorem dX6_isSound_25 : decode cX6_isSound 25 = .ok (.iload_n 1, 1) := by decide +kernel
theorem dX6_isSound_26 : decode cX6_isSound 26 = .ok (.bipush 30, 2) := by decide +kernel
theorem dX6_isSound_28 : decode cX6_isSound 28 = .ok (.if_icmp .gt 26, 3) := by decide +kernel
theorem dX6_isSound_31 : decode cX6_isSound 31 = .ok (.aload_n 0, 1) := by decide +kernel
theorem dX6_isSound_32 : decode cX6_isSound 32 = .ok (.getfield 19, 3) := by decide +kernel
theorem dX6_isSound_35 : decode cX6_isSound 35 = .ok (.aload_n 0, 1) := by decide +kernel
theorem dX6_isSound_36 : decode cX6_isSound 36 = .ok (.getfield 12, 3) := by decide +kernel
theorem dX6_isSound_39 : decode cX6_isSound 39 = .ok (.iload_n 1, 1) := by decide +kernel
theorem dX6_isSound_40 : decode cX6_isSound 40 = .ok (.invokevirtual 138, 3) := by decide +kernel
theorem dX6_isSound_43 : decode cX6_isSound 43 = .ok (.ifCond .ne 5, 3) := by decide +kernel
theorem dX6_isSound_48 : decode cX6_isSound 48 = .ok (.iinc 1 1, 3) := by decide +kernel
theorem dX6_isSound_51 : decode cX6_isSound 51 = .ok (.goto (-26), 3) := by decide +kernel
theorem dX6_isSound_54 : decode cX6_isSound 54 = .ok (.aload_n 0, 1) := by decide +kernel
theorem dX6_isSound_55 : decode cX6_isSound 55 = .ok (.invokevirtual 273, 3) := by decide +kernel
theorem dX6_isSound_58 : decode cX6_isSound 58 = .ok (.aload_n 0, 1) := by decide +kernel
theorem dX6_isSound_59 : decode cX6_isSound 59 = .ok (.invokevirtual 277, 3) := by decide +kernel
theorem dX4_find_7 : decode cX4_find 7 = .ok (.return_, 1) := by decide +kernel
theorem dX6_isSound_62 : decode cX6_isSound 62 = .ok (.if_icmp .ne 7, 3) := by decide +kernel
theorem dX6_isSound_65 : decode cX6_isSound 65 = .ok (.iconst 1, 1) := by decide +kernel
theorem dX6_isSound_66 : decode cX6_isSound 66 = .ok (.goto 4, 3) := by decide +kernel
theorem dX6_isSound_70 : decode cX6_isSound 70 = .ok (.ireturn, 1) := by decide +kernel
theorem dL_law_1954 : decode cL_law 1954 = .ok (.aload_n 2, 1) := by decide +kernel
theorem dL_law_1955 : decode cL_law 1955 = .ok (.invokevirtual 239, 3) := by decide +kernel
theorem dX12_isSound_0 : decode cX12_isSound 0 = .ok (.aload_n 0, 1) := by decide +kernel
theorem dX12_isSound_1 : decode cX12_isSound 1 = .ok (.iconst 1, 1) := by decide +kernel
theorem dX12_isSound_2 : decode cX12_isSound 2 = .ok (.invokevirtual 343, 3) := by decide +kernel
theorem dX12_isSound_5 : decode cX12_isSound 5 = .ok (.ireturn, 1) := by decide +kernel
theorem dL_law_1958 : decode cL_law 1958 = .ok (.if_icmp .eq 5, 3) := by decide +kernel
theorem dL_law_1963 : decode cL_law 1963 = .ok (.iinc 5 6, 3) := by decide +kernel
theorem dL_law_1966 : decode cL_law 1966 = .ok (.goto (-1938), 3) := by decide +kernel
theorem dL_law_28 : decode cL_law 28 = .ok (.iload 5, 2) := by decide +kernel
theorem dL_law_30 : decode cL_law 30 = .ok (.aload_n 0, 1) := by decide +kernel
theorem dL_law_31 : decode cL_law 31 = .ok (.arraylength, 1) := by decide +kernel
theorem dL_law_32 : decode cL_law 32 = .ok (.bipush 6, 2) := by decide +kernel
theorem dL_law_34 : decode cL_law 34 = .ok (.isub, 1) := by decide +kernel
theorem dL_law_35 : decode cL_law 35 = .ok (.if_icmp .gt 1934, 3) := by decide +kernel
theorem dL_law_1969 : decode cL_law 1969 = .ok (.iconst 1, 1) := by decide +kernel
theorem dL_law_1970 : decode cL_law 1970 = .ok (.ireturn, 1) := by decide +kernel
theorem dL_law_0 : decode cL_law 0 = .ok (.new 8, 3) := by decide +kernel
theorem dL_law_3 : decode cL_law 3 = .ok (.dup, 1) := by decide +kernel
theorem dL_law_4 : decode cL_law 4 = .ok (.invokespecial 115, 3) := by decide +kernel
theorem dL_law_7 : decode cL_law 7 = .ok (.astore_n 1, 1) := by decide +kernel
theorem dL_law_8 : decode cL_law 8 = .ok (.new 116, 3) := by decide +kernel
theorem dL_law_11 : decode cL_law 11 = .ok (.dup, 1) := by decide +kernel
theorem dL_law_12 : decode cL_law 12 = .ok (.invokespecial 118, 3) := by decide +kernel
theorem dL_law_15 : decode cL_law 15 = .ok (.astore_n 2, 1) := by decide +kernel
theorem dL_law_16 : decode cL_law 16 = .ok (.iconst 1, 1) := by decide +kernel
theorem dL_law_17 : decode cL_law 17 = .ok (.newarray .long, 2) := by decide +kernel
theorem dL_law_19 : decode cL_law 19 = .ok (.astore_n 3, 1) := by decide +kernel
theorem dL_law_20 : decode cL_law 20 = .ok (.iconst 1, 1) := by decide +kernel
theorem dL_law_21 : decode cL_law 21 = .ok (.newarray .double, 2) := by decide +kernel
theorem dL_law_23 : decode cL_law 23 = .ok (.astore 4, 2) := by decide +kernel
theorem dL_law_25 : decode cL_law 25 = .ok (.iconst 0, 1) := by decide +kernel
theorem dL_law_26 : decode cL_law 26 = .ok (.istore 5, 2) := by decide +kernel
theorem dL_law_38 : decode cL_law 38 = .ok (.aload_n 0, 1) := by decide +kernel
theorem dL_law_39 : decode cL_law 39 = .ok (.iload 5, 2) := by decide +kernel
theorem dL_law_41 : decode cL_law 41 = .ok (.iaload, 1) := by decide +kernel
theorem dL_law_42 : decode cL_law 42 = .ok (.bipush 63, 2) := by decide +kernel
theorem dL_law_44 : decode cL_law 44 = .ok (.iand, 1) := by decide +kernel
theorem dL_law_45 : decode cL_law 45 = .ok (.tableswitch 1918 0 32 #[147, 229, 321, 401, 414, 469, 524, 607, 670, 714, 820, 883, 939, 952, 1020, 1088, 1144, 1188, 1268, 1324, 1380, 1424, 1480, 1536, 1592, 1605, 1618, 1631, 1687, 1731, 1774, 1840, 1905], 147) := by decide +kernel
theorem gw117 : Cond.methodLink RX6 3 objectInit ∈ GW := gw_of (i := 117) (by decide +kernel) rfl
theorem gw118 : Cond.instanceMethod objectInit ∈ GW := gw_of (i := 118) (by decide +kernel) rfl
theorem gw119 : Cond.code objectInit ⟨#[0xb1]⟩ 1 none ∈ GW := gw_of (i := 119) (by decide +kernel) rfl
theorem gw120 : Cond.classLink RX6 9 RX2 ∈ GW := gw_of (i := 120) (by decide +kernel) rfl
theorem gw121 : Cond.instantiable RX2 12 ∈ GW := gw_of (i := 121) (by decide +kernel) rfl
theorem gw76 : Cond.initialized RX2 ∈ GW := gw_of (i := 76) (by decide +kernel) rfl
theorem gw125 : Cond.methodLink RX2 3 objectInit ∈ GW := gw_of (i := 125) (by decide +kernel) rfl
theorem gw178 : Cond.arrayClass .int ∈ GW := gw_of (i := 178) (by decide +kernel) rfl
theorem gw134 : Cond.fieldLink RX2 9 "Tenonyard$Frame" "places" "[I" ∈ GW := gw_of (i := 134) (by decide +kernel) rfl
theorem gw136 : Cond.fieldLink RX2 15 "Tenonyard$Frame" "loads" "[I" ∈ GW := gw_of (i := 136) (by decide +kernel) rfl
theorem gw138 : Cond.fieldLink RX2 18 "Tenonyard$Frame" "loadCounts" "[I" ∈ GW := gw_of (i := 138) (by decide +kernel) rfl
theorem gw179 : Cond.arrayClass .char ∈ GW := gw_of (i := 179) (by decide +kernel) rfl
theorem gw139 : Cond.fieldLink RX2 21 "Tenonyard$Frame" "kinds" "[C" ∈ GW := gw_of (i := 139) (by decide +kernel) rfl
theorem gw140 : Cond.fieldLink RX2 25 "Tenonyard$Frame" "firstNodes" "[I" ∈ GW := gw_of (i := 140) (by decide +kernel) rfl
theorem gw141 : Cond.fieldLink RX2 28 "Tenonyard$Frame" "secondNodes" "[I" ∈ GW := gw_of (i := 141) (by decide +kernel) rfl
theorem gw142 : Cond.fieldLink RX2 31 "Tenonyard$Frame" "breadths" "[I" ∈ GW := gw_of (i := 142) (by decide +kernel) rfl
theorem gw145 : Cond.fieldLink RX2 34 "Tenonyard$Frame" "grades" "[I" ∈ GW := gw_of (i := 145) (by decide +kernel) rfl
theorem gw147 : Cond.fieldLink RX2 37 "Tenonyard$Frame" "cutMoistures" "[I" ∈ GW := gw_of (i := 147) (by decide +kernel) rfl
theorem gw150 : Cond.fieldLink RX2 40 "Tenonyard$Frame" "driedMoistures" "[I" ∈ GW := gw_of (i := 150) (by decide +kernel) rfl
theorem gw123 : Cond.instanceMethod yX2_init ∈ GW := gw_of (i := 123) (by decide +kernel) rfl
theorem gw124 : Cond.code yX2_init cX2_init 1 none ∈ GW := gw_of (i := 124) (by decide +kernel) rfl
theorem gw122 : Cond.methodLinkNest RX6 11 yX2_init "Tenonyard" ∈ NW := nw_of (i := 122) (by decide +kernel) rfl
theorem gw363 : Cond.fieldLink RX6 12 "Tenonyard" "frame" "LTenonyard$Frame;" ∈ GW := gw_of (i := 363) (by decide +kernel) rfl
theorem gw180 : Cond.classLink RX6 16 RX1 ∈ GW := gw_of (i := 180) (by decide +kernel) rfl
theorem gw181 : Cond.instantiable RX1 17 ∈ GW := gw_of (i := 181) (by decide +kernel) rfl
theorem gw77 : Cond.initialized RX1 ∈ GW := gw_of (i := 77) (by decide +kernel) rfl
theorem gw185 : Cond.methodLink RX1 3 objectInit ∈ GW := gw_of (i := 185) (by decide +kernel) rfl
theorem gw196 : Cond.arrayClass .long ∈ GW := gw_of (i := 196) (by decide +kernel) rfl
theorem gw202 : Cond.fieldLink RX1 11 "Tenonyard$Forces" "wholes" "[J" ∈ GW := gw_of (i := 202) (by decide +kernel) rfl
theorem gw203 : Cond.fieldLink RX1 15 "Tenonyard$Forces" "rests" "[J" ∈ GW := gw_of (i := 203) (by decide +kernel) rfl
theorem gw204 : Cond.fieldLink RX1 18 "Tenonyard$Forces" "amounts" "[J" ∈ GW := gw_of (i := 204) (by decide +kernel) rfl
theorem gw206 : Cond.fieldLink RX1 21 "Tenonyard$Forces" "ways" "[I" ∈ GW := gw_of (i := 206) (by decide +kernel) rfl
theorem gw207 : Cond.fieldLink RX1 25 "Tenonyard$Forces" "highAsked" "[I" ∈ GW := gw_of (i := 207) (by decide +kernel) rfl
theorem gw208 : Cond.fieldLink RX1 28 "Tenonyard$Forces" "lowAsked" "[I" ∈ GW := gw_of (i := 208) (by decide +kernel) rfl
theorem gw209 : Cond.fieldLink RX1 31 "Tenonyard$Forces" "plain" "[J" ∈ GW := gw_of (i := 209) (by decide +kernel) rfl
theorem gw210 : Cond.fieldLink RX1 34 "Tenonyard$Forces" "high" "[J" ∈ GW := gw_of (i := 210) (by decide +kernel) rfl
theorem gw211 : Cond.fieldLink RX1 37 "Tenonyard$Forces" "low" "[J" ∈ GW := gw_of (i := 211) (by decide +kernel) rfl
theorem gw186 : Cond.classLink RX1 40 RX5 ∈ GW := gw_of (i := 186) (by decide +kernel) rfl
theorem gw187 : Cond.instantiable RX5 1 ∈ GW := gw_of (i := 187) (by decide +kernel) rfl
theorem gw78 : Cond.initialized RX5 ∈ GW := gw_of (i := 78) (by decide +kernel) rfl
theorem gw191 : Cond.methodLink RX5 1 objectInit ∈ GW := gw_of (i := 191) (by decide +kernel) rfl
theorem gw192 : Cond.fieldLink RX5 9 "Tenonyard$Wide" "parts" "[J" ∈ GW := gw_of (i := 192) (by decide +kernel) rfl
theorem gw189 : Cond.instanceMethod yX5_init ∈ GW := gw_of (i := 189) (by decide +kernel) rfl
theorem gw190 : Cond.code yX5_init cX5_init 1 none ∈ GW := gw_of (i := 190) (by decide +kernel) rfl
theorem gw188 : Cond.methodLinkNest RX1 42 yX5_init "Tenonyard" ∈ NW := nw_of (i := 188) (by decide +kernel) rfl
theorem gw212 : Cond.fieldLink RX1 43 "Tenonyard$Forces" "factor" "LTenonyard$Wide;" ∈ GW := gw_of (i := 212) (by decide +kernel) rfl
theorem gw213 : Cond.fieldLink RX1 47 "Tenonyard$Forces" "wideDivisor" "LTenonyard$Wide;" ∈ GW := gw_of (i := 213) (by decide +kernel) rfl
theorem gw214 : Cond.fieldLink RX1 50 "Tenonyard$Forces" "product" "LTenonyard$Wide;" ∈ GW := gw_of (i := 214) (by decide +kernel) rfl
theorem gw215 : Cond.fieldLink RX1 53 "Tenonyard$Forces" "square" "LTenonyard$Wide;" ∈ GW := gw_of (i := 215) (by decide +kernel) rfl
theorem gw216 : Cond.fieldLink RX1 56 "Tenonyard$Forces" "greatestSquare" "LTenonyard$Wide;" ∈ GW := gw_of (i := 216) (by decide +kernel) rfl
theorem gw183 : Cond.instanceMethod yX1_init ∈ GW := gw_of (i := 183) (by decide +kernel) rfl
theorem gw184 : Cond.code yX1_init cX1_init 1 none ∈ GW := gw_of (i := 184) (by decide +kernel) rfl
theorem gw182 : Cond.methodLinkNest RX6 18 yX1_init "Tenonyard" ∈ NW := nw_of (i := 182) (by decide +kernel) rfl
theorem gw364 : Cond.fieldLink RX6 19 "Tenonyard" "forces" "LTenonyard$Forces;" ∈ GW := gw_of (i := 364) (by decide +kernel) rfl
theorem gw252 : Cond.classLink RX6 23 RX3 ∈ GW := gw_of (i := 252) (by decide +kernel) rfl
theorem gw253 : Cond.instantiable RX3 6 ∈ GW := gw_of (i := 253) (by decide +kernel) rfl
theorem gw79 : Cond.initialized RX3 ∈ GW := gw_of (i := 79) (by decide +kernel) rfl
theorem gw257 : Cond.methodLink RX3 3 objectInit ∈ GW := gw_of (i := 257) (by decide +kernel) rfl
theorem gw261 : Cond.fieldLink RX3 9 "Tenonyard$Joinery" "goingIn" "[I" ∈ GW := gw_of (i := 261) (by decide +kernel) rfl
theorem gw262 : Cond.fieldLink RX3 15 "Tenonyard$Joinery" "receiving" "[I" ∈ GW := gw_of (i := 262) (by decide +kernel) rfl
theorem gw263 : Cond.fieldLink RX3 18 "Tenonyard$Joinery" "ways" "[I" ∈ GW := gw_of (i := 263) (by decide +kernel) rfl
theorem gw264 : Cond.fieldLink RX3 21 "Tenonyard$Joinery" "thicknesses" "[I" ∈ GW := gw_of (i := 264) (by decide +kernel) rfl
theorem gw265 : Cond.fieldLink RX3 24 "Tenonyard$Joinery" "marks" "[I" ∈ GW := gw_of (i := 265) (by decide +kernel) rfl
theorem gw255 : Cond.instanceMethod yX3_init ∈ GW := gw_of (i := 255) (by decide +kernel) rfl
theorem gw256 : Cond.code yX3_init cX3_init 1 none ∈ GW := gw_of (i := 256) (by decide +kernel) rfl
theorem gw254 : Cond.methodLinkNest RX6 25 yX3_init "Tenonyard" ∈ NW := nw_of (i := 254) (by decide +kernel) rfl
theorem gw365 : Cond.fieldLink RX6 26 "Tenonyard" "joinery" "LTenonyard$Joinery;" ∈ GW := gw_of (i := 365) (by decide +kernel) rfl
theorem gw279 : Cond.classLink RX6 30 RX0 ∈ GW := gw_of (i := 279) (by decide +kernel) rfl
theorem gw280 : Cond.instantiable RX0 11 ∈ GW := gw_of (i := 280) (by decide +kernel) rfl
theorem gw80 : Cond.initialized RX0 ∈ GW := gw_of (i := 80) (by decide +kernel) rfl
theorem gw284 : Cond.methodLink RX0 3 objectInit ∈ GW := gw_of (i := 284) (by decide +kernel) rfl
theorem gw293 : Cond.fieldLink RX0 9 "Tenonyard$Cutting" "chosen" "[I" ∈ GW := gw_of (i := 293) (by decide +kernel) rfl
theorem gw295 : Cond.fieldLink RX0 15 "Tenonyard$Cutting" "lengths" "[I" ∈ GW := gw_of (i := 295) (by decide +kernel) rfl
theorem gw296 : Cond.fieldLink RX0 18 "Tenonyard$Cutting" "breadths" "[I" ∈ GW := gw_of (i := 296) (by decide +kernel) rfl
theorem gw297 : Cond.fieldLink RX0 21 "Tenonyard$Cutting" "grades" "[I" ∈ GW := gw_of (i := 297) (by decide +kernel) rfl
theorem gw298 : Cond.fieldLink RX0 24 "Tenonyard$Cutting" "spans" "[I" ∈ GW := gw_of (i := 298) (by decide +kernel) rfl
theorem gw299 : Cond.fieldLink RX0 27 "Tenonyard$Cutting" "weights" "[I" ∈ GW := gw_of (i := 299) (by decide +kernel) rfl
theorem gw300 : Cond.fieldLink RX0 30 "Tenonyard$Cutting" "costs" "[J" ∈ GW := gw_of (i := 300) (by decide +kernel) rfl
theorem gw282 : Cond.instanceMethod yX0_init ∈ GW := gw_of (i := 282) (by decide +kernel) rfl
theorem gw283 : Cond.code yX0_init cX0_init 1 none ∈ GW := gw_of (i := 283) (by decide +kernel) rfl
theorem gw281 : Cond.methodLinkNest RX6 32 yX0_init "Tenonyard" ∈ NW := nw_of (i := 281) (by decide +kernel) rfl
theorem gw366 : Cond.fieldLink RX6 33 "Tenonyard" "cutting" "LTenonyard$Cutting;" ∈ GW := gw_of (i := 366) (by decide +kernel) rfl
theorem gw324 : Cond.classLink RX6 37 RX4 ∈ GW := gw_of (i := 324) (by decide +kernel) rfl
theorem gw325 : Cond.instantiable RX4 9 ∈ GW := gw_of (i := 325) (by decide +kernel) rfl
theorem gw81 : Cond.initialized RX4 ∈ GW := gw_of (i := 81) (by decide +kernel) rfl
theorem gw329 : Cond.methodLink RX4 3 objectInit ∈ GW := gw_of (i := 329) (by decide +kernel) rfl
theorem gw330 : Cond.fieldLink RX4 9 "Tenonyard$Raising" "limit" "I" ∈ GW := gw_of (i := 330) (by decide +kernel) rfl
theorem gw336 : Cond.fieldLink RX4 17 "Tenonyard$Raising" "asking" "[I" ∈ GW := gw_of (i := 336) (by decide +kernel) rfl
theorem gw337 : Cond.fieldLink RX4 21 "Tenonyard$Raising" "joined" "[I" ∈ GW := gw_of (i := 337) (by decide +kernel) rfl
theorem gw338 : Cond.fieldLink RX4 24 "Tenonyard$Raising" "orderCounts" "[I" ∈ GW := gw_of (i := 338) (by decide +kernel) rfl
theorem gw362 : Cond.arrayClass .boolean ∈ GW := gw_of (i := 362) (by decide +kernel) rfl
theorem gw339 : Cond.fieldLink RX4 27 "Tenonyard$Raising" "leadsToAll" "[Z" ∈ GW := gw_of (i := 339) (by decide +kernel) rfl
theorem gw341 : Cond.fieldLink RX4 31 "Tenonyard$Raising" "order" "[I" ∈ GW := gw_of (i := 341) (by decide +kernel) rfl
theorem gw327 : Cond.instanceMethod yX4_init ∈ GW := gw_of (i := 327) (by decide +kernel) rfl
theorem gw328 : Cond.code yX4_init cX4_init 1 none ∈ GW := gw_of (i := 328) (by decide +kernel) rfl
theorem gw326 : Cond.methodLinkNest RX6 39 yX4_init "Tenonyard" ∈ NW := nw_of (i := 326) (by decide +kernel) rfl
theorem gw367 : Cond.fieldLink RX6 40 "Tenonyard" "raising" "LTenonyard$Raising;" ∈ GW := gw_of (i := 367) (by decide +kernel) rfl
theorem gw1192 : Cond.methodLink RX12 1 objectInit ∈ GW := gw_of (i := 1192) (by decide +kernel) rfl
theorem gw1193 : Cond.classLink RX12 7 RJx4a65c ∈ GW := gw_of (i := 1193) (by decide +kernel) rfl
theorem gw1194 : Cond.instantiable RJx4a65c 3 ∈ GW := gw_of (i := 1194) (by decide +kernel) rfl
theorem gw85 : Cond.initialized RJx4a65c ∈ GW := gw_of (i := 85) (by decide +kernel) rfl
theorem gw1204 : Cond.methodLink RJxa1e45 1 objectInit ∈ GW := gw_of (i := 1204) (by decide +kernel) rfl
theorem gw1202 : Cond.instanceMethod yJxa1e45_init_da8c8 ∈ GW := gw_of (i := 1202) (by decide +kernel) rfl
theorem gw83 : Cond.initialized RJxa1e45 ∈ GW := gw_of (i := 83) (by decide +kernel) rfl
theorem gw1203 : Cond.code yJxa1e45_init_da8c8 cJxa1e45_init_da8c8 1 none ∈ GW := gw_of (i := 1203) (by decide +kernel) rfl
theorem gw1201 : Cond.methodLink RJxc12de 1 yJxa1e45_init_da8c8 ∈ GW := gw_of (i := 1201) (by decide +kernel) rfl
theorem gw1209 : Cond.fieldLink RJxc12de 7 "java/util/AbstractList" "modCount" "I" ∈ GW := gw_of (i := 1209) (by decide +kernel) rfl
theorem gw1199 : Cond.instanceMethod yJxc12de_init_da8c8 ∈ GW := gw_of (i := 1199) (by decide +kernel) rfl
theorem gw84 : Cond.initialized RJxc12de ∈ GW := gw_of (i := 84) (by decide +kernel) rfl
theorem gw1200 : Cond.code yJxc12de_init_da8c8 cJxc12de_init_da8c8 1 none ∈ GW := gw_of (i := 1200) (by decide +kernel) rfl
theorem gw1198 : Cond.methodLink RJx4a65c 1 yJxc12de_init_da8c8 ∈ GW := gw_of (i := 1198) (by decide +kernel) rfl
theorem gw1205 : Cond.fieldLink RJx4a65c 39 "java/util/ArrayList" "DEFAULTCAPACITY_EMPTY_ELEMENTDATA" "[Ljava/lang/Object;" ∈ GW := gw_of (i := 1205) (by decide +kernel) rfl
theorem gw1207 : Cond.fieldLink RJx4a65c 9 "java/util/ArrayList" "elementData" "[Ljava/lang/Object;" ∈ GW := gw_of (i := 1207) (by decide +kernel) rfl
theorem gw1196 : Cond.instanceMethod yJx4a65c_init_da8c8 ∈ GW := gw_of (i := 1196) (by decide +kernel) rfl
theorem gw1197 : Cond.code yJx4a65c_init_da8c8 cJx4a65c_init_da8c8 1 none ∈ GW := gw_of (i := 1197) (by decide +kernel) rfl
theorem gw1195 : Cond.methodLink RX12 9 yJx4a65c_init_da8c8 ∈ GW := gw_of (i := 1195) (by decide +kernel) rfl
theorem gw1219 : Cond.fieldLink RX12 10 "TenonyardModel" "nodes" "Ljava/util/ArrayList;" ∈ GW := gw_of (i := 1219) (by decide +kernel) rfl
theorem gw1220 : Cond.fieldLink RX12 16 "TenonyardModel" "members" "Ljava/util/ArrayList;" ∈ GW := gw_of (i := 1220) (by decide +kernel) rfl
theorem gw1221 : Cond.fieldLink RX12 19 "TenonyardModel" "joints" "Ljava/util/ArrayList;" ∈ GW := gw_of (i := 1221) (by decide +kernel) rfl
theorem gw1222 : Cond.fieldLink RX12 22 "TenonyardModel" "sticks" "Ljava/util/ArrayList;" ∈ GW := gw_of (i := 1222) (by decide +kernel) rfl
theorem gw1223 : Cond.fieldLink RX12 25 "TenonyardModel" "minors" "[J" ∈ GW := gw_of (i := 1223) (by decide +kernel) rfl
theorem gw1224 : Cond.fieldLink RX12 29 "TenonyardModel" "pulls" "[J" ∈ GW := gw_of (i := 1224) (by decide +kernel) rfl
theorem gw1225 : Cond.fieldLink RX12 32 "TenonyardModel" "forces" "[J" ∈ GW := gw_of (i := 1225) (by decide +kernel) rfl
theorem gw1226 : Cond.fieldLink RX12 35 "TenonyardModel" "isEnd" "[Z" ∈ GW := gw_of (i := 1226) (by decide +kernel) rfl
theorem gw1227 : Cond.fieldLink RX12 39 "TenonyardModel" "canCut" "[Z" ∈ GW := gw_of (i := 1227) (by decide +kernel) rfl
theorem gw1228 : Cond.fieldLink RX12 42 "TenonyardModel" "ways" "[I" ∈ GW := gw_of (i := 1228) (by decide +kernel) rfl
theorem gw1229 : Cond.fieldLink RX12 46 "TenonyardModel" "order" "[I" ∈ GW := gw_of (i := 1229) (by decide +kernel) rfl
theorem gw1230 : Cond.fieldLink RX12 49 "TenonyardModel" "best" "[I" ∈ GW := gw_of (i := 1230) (by decide +kernel) rfl
theorem gw1231 : Cond.fieldLink RX12 52 "TenonyardModel" "tried" "[I" ∈ GW := gw_of (i := 1231) (by decide +kernel) rfl
theorem gw1232 : Cond.fieldLink RX12 55 "TenonyardModel" "left" "[I" ∈ GW := gw_of (i := 1232) (by decide +kernel) rfl
theorem gw1233 : Cond.fieldLink RX12 58 "TenonyardModel" "needs" "[I" ∈ GW := gw_of (i := 1233) (by decide +kernel) rfl
theorem gw1234 : Cond.fieldLink RX12 61 "TenonyardModel" "lengths" "[I" ∈ GW := gw_of (i := 1234) (by decide +kernel) rfl
theorem gw1235 : Cond.fieldLink RX12 64 "TenonyardModel" "breadths" "[I" ∈ GW := gw_of (i := 1235) (by decide +kernel) rfl
theorem gw1236 : Cond.fieldLink RX12 67 "TenonyardModel" "grades" "[I" ∈ GW := gw_of (i := 1236) (by decide +kernel) rfl
theorem gw1239 : Cond.fieldLink RX12 70 "TenonyardModel" "props" "I" ∈ GW := gw_of (i := 1239) (by decide +kernel) rfl
theorem gw668 : Cond.classLink RX6 56 "java/lang/IllegalArgumentException" ∈ GW := gw_of (i := 668) (by decide +kernel) rfl
theorem gw95 : Cond.initialized "java/lang/IllegalArgumentException" ∈ GW := gw_of (i := 95) (by decide +kernel) rfl
theorem gw572 : Cond.classLink RL 13 "java/lang/IllegalArgumentException" ∈ GW := gw_of (i := 572) (by decide +kernel) rfl
theorem gw670 : Cond.castable "java/lang/IllegalArgumentException" "java/lang/IllegalArgumentException" ∈ NW := nw_of (i := 670) (by decide +kernel) rfl
theorem gw1238 : Cond.fieldLink RX12 74 "TenonyardModel" "thrown" "I" ∈ GW := gw_of (i := 1238) (by decide +kernel) rfl
theorem gw594 : Cond.fieldLink RJ0 38 "java/lang/String" "COMPACT_STRINGS" "Z" ∈ GW := gw_of (i := 594) (by decide +kernel) rfl
theorem gw1890 : Cond.fieldLink RJ0 15 "java/lang/String" "coder" "B" ∈ GW := gw_of (i := 1890) (by decide +kernel) rfl
theorem gw1891 : Cond.fieldLink RJ0 9 "java/lang/String" "value" "[B" ∈ GW := gw_of (i := 1891) (by decide +kernel) rfl
theorem gw610 : Cond.methodLink RJ1 92 Lib.Math.max.name ∈ GW := gw_of (i := 610) (by decide +kernel) rfl
theorem gw611 : Cond.static Lib.Math.max.name ∈ GW := gw_of (i := 611) (by decide +kernel) rfl
theorem gw88 : Cond.initialized RJ9 ∈ GW := gw_of (i := 88) (by decide +kernel) rfl
theorem gw612 : Cond.code Lib.Math.max.name Lib.Math.max.code 2 (some .int) ∈ GW := gw_of (i := 612) (by decide +kernel) rfl
theorem gw613 : Cond.methodLink RJ1 38 Lib.Math.min.name ∈ GW := gw_of (i := 613) (by decide +kernel) rfl
theorem gw614 : Cond.static Lib.Math.min.name ∈ GW := gw_of (i := 614) (by decide +kernel) rfl
theorem gw615 : Cond.code Lib.Math.min.name Lib.Math.min.code 2 (some .int) ∈ GW := gw_of (i := 615) (by decide +kernel) rfl
theorem gw127 : Cond.fieldLink RX6 63 "Tenonyard$Frame" "nodes" "I" ∈ GW := gw_of (i := 127) (by decide +kernel) rfl
theorem gw197 : Cond.fieldLink RX6 72 "Tenonyard$Forces" "isFound" "Z" ∈ GW := gw_of (i := 197) (by decide +kernel) rfl
theorem gw126 : Cond.fieldLink RX2 43 "Tenonyard$Frame" "nodes" "I" ∈ GW := gw_of (i := 126) (by decide +kernel) rfl
theorem gw1208 : Cond.fieldLink RJx4a65c 48 "java/util/ArrayList" "size" "I" ∈ GW := gw_of (i := 1208) (by decide +kernel) rfl
theorem gw1320 : Cond.classLink RX12 99 RX9 ∈ GW := gw_of (i := 1320) (by decide +kernel) rfl
theorem gw1321 : Cond.instantiable RX9 6 ∈ GW := gw_of (i := 1321) (by decide +kernel) rfl
theorem gw97 : Cond.initialized RX9 ∈ GW := gw_of (i := 97) (by decide +kernel) rfl
theorem gw1325 : Cond.methodLink RX9 1 objectInit ∈ GW := gw_of (i := 1325) (by decide +kernel) rfl
theorem gw1326 : Cond.fieldLink RX9 7 "TenonyardModel$Node" "x" "I" ∈ GW := gw_of (i := 1326) (by decide +kernel) rfl
theorem gw1328 : Cond.fieldLink RX9 13 "TenonyardModel$Node" "y" "I" ∈ GW := gw_of (i := 1328) (by decide +kernel) rfl
theorem gw1330 : Cond.fieldLink RX9 16 "TenonyardModel$Node" "kind" "C" ∈ GW := gw_of (i := 1330) (by decide +kernel) rfl
theorem gw1323 : Cond.instanceMethod yX9_init ∈ GW := gw_of (i := 1323) (by decide +kernel) rfl
theorem gw1324 : Cond.code yX9_init cX9_init 4 none ∈ GW := gw_of (i := 1324) (by decide +kernel) rfl
theorem gw1322 : Cond.methodLink RX12 292 yX9_init ∈ GW := gw_of (i := 1322) (by decide +kernel) rfl
theorem gw1210 : Cond.fieldLink RJx4a65c 63 "java/util/ArrayList" "modCount" "I" ∈ GW := gw_of (i := 1210) (by decide +kernel) rfl
theorem gw1211 : Cond.sameField "java/util/ArrayList" "java/util/AbstractList" "modCount" "I" ∈ GW := gw_of (i := 1211) (by decide +kernel) rfl
theorem gw1410 : Cond.methodLink RJx4a65c 79 Lib.Math.max.name ∈ GW := gw_of (i := 1410) (by decide +kernel) rfl
theorem gw1411 : Cond.classLink RJx4a65c 7 "java/lang/Object" ∈ GW := gw_of (i := 1411) (by decide +kernel) rfl
theorem gw1868 : Cond.castable RX9 "java/lang/Object" ∈ NW := nw_of (i := 1868) (by decide +kernel) rfl
theorem gw1241 : Cond.fieldLink RX12 77 "TenonyardModel" "isReckoned" "Z" ∈ GW := gw_of (i := 1241) (by decide +kernel) rfl
theorem gw1243 : Cond.fieldLink RX12 81 "TenonyardModel" "isRaised" "Z" ∈ GW := gw_of (i := 1243) (by decide +kernel) rfl
theorem gw1244 : Cond.fieldLink RX12 84 "TenonyardModel" "isCut" "Z" ∈ GW := gw_of (i := 1244) (by decide +kernel) rfl
theorem gw795 : Cond.classLink RX6 228 "java/lang/IndexOutOfBoundsException" ∈ GW := gw_of (i := 795) (by decide +kernel) rfl
theorem gw101 : Cond.initialized "java/lang/IndexOutOfBoundsException" ∈ GW := gw_of (i := 101) (by decide +kernel) rfl
theorem gw763 : Cond.classLink RL 21 "java/lang/IndexOutOfBoundsException" ∈ GW := gw_of (i := 763) (by decide +kernel) rfl
theorem gw797 : Cond.castable "java/lang/IndexOutOfBoundsException" "java/lang/IndexOutOfBoundsException" ∈ NW := nw_of (i := 797) (by decide +kernel) rfl
theorem gw198 : Cond.fieldLink RX1 59 "Tenonyard$Forces" "isFound" "Z" ∈ GW := gw_of (i := 198) (by decide +kernel) rfl
theorem gw128 : Cond.fieldLink RX1 78 "Tenonyard$Frame" "nodes" "I" ∈ GW := gw_of (i := 128) (by decide +kernel) rfl
theorem gw133 : Cond.fieldLink RX1 88 "Tenonyard$Frame" "members" "I" ∈ GW := gw_of (i := 133) (by decide +kernel) rfl
theorem gw414 : Cond.constant RJ6 265 (1431655765) ∈ GW := gw_of (i := 414) (by decide +kernel) rfl
theorem gw415 : Cond.constant RJ6 266 (858993459) ∈ GW := gw_of (i := 415) (by decide +kernel) rfl
theorem gw416 : Cond.constant RJ6 267 (252645135) ∈ GW := gw_of (i := 416) (by decide +kernel) rfl
theorem gw421 : Cond.methodLink RX1 98 Lib.MathLoose.abs_long.x ∈ GW := gw_of (i := 421) (by decide +kernel) rfl
theorem gw422 : Cond.static Lib.MathLoose.abs_long.x ∈ GW := gw_of (i := 422) (by decide +kernel) rfl
theorem gw423 : Cond.code Lib.MathLoose.abs_long.x Lib.MathLoose.abs_long.code 2 (some .long) ∈ GW := gw_of (i := 423) (by decide +kernel) rfl
theorem gw201 : Cond.fieldLink RX1 104 "Tenonyard$Forces" "divisor" "J" ∈ GW := gw_of (i := 201) (by decide +kernel) rfl
theorem gw199 : Cond.fieldLink RX1 67 "Tenonyard$Forces" "outcome" "C" ∈ GW := gw_of (i := 199) (by decide +kernel) rfl
theorem gw451 : Cond.constantLong RX5 13 (4294967295) ∈ GW := gw_of (i := 451) (by decide +kernel) rfl
theorem gw200 : Cond.fieldLink RX6 114 "Tenonyard$Forces" "outcome" "C" ∈ GW := gw_of (i := 200) (by decide +kernel) rfl
theorem gw1242 : Cond.fieldLink RX12 151 "TenonyardModel" "isForced" "Z" ∈ GW := gw_of (i := 1242) (by decide +kernel) rfl
theorem gw1245 : Cond.fieldLink RX12 157 "TenonyardModel" "state" "C" ∈ GW := gw_of (i := 1245) (by decide +kernel) rfl
theorem gw1237 : Cond.fieldLink RX12 163 "TenonyardModel" "base" "J" ∈ GW := gw_of (i := 1237) (by decide +kernel) rfl
theorem gw131 : Cond.fieldLink RX6 93 "Tenonyard$Frame" "members" "I" ∈ GW := gw_of (i := 131) (by decide +kernel) rfl
theorem gw891 : Cond.classLink RX6 142 "java/util/NoSuchElementException" ∈ GW := gw_of (i := 891) (by decide +kernel) rfl
theorem gw107 : Cond.initialized "java/util/NoSuchElementException" ∈ GW := gw_of (i := 107) (by decide +kernel) rfl
theorem gw573 : Cond.classLink RL 15 "java/lang/IllegalStateException" ∈ GW := gw_of (i := 573) (by decide +kernel) rfl
theorem gw886 : Cond.classLink RL 46 "java/util/NoSuchElementException" ∈ GW := gw_of (i := 886) (by decide +kernel) rfl
theorem gw893 : Cond.castable "java/util/NoSuchElementException" "java/util/NoSuchElementException" ∈ NW := nw_of (i := 893) (by decide +kernel) rfl
theorem gw260 : Cond.fieldLink RX6 170 "Tenonyard$Joinery" "count" "I" ∈ GW := gw_of (i := 260) (by decide +kernel) rfl
theorem gw286 : Cond.fieldLink RX6 210 "Tenonyard$Cutting" "count" "I" ∈ GW := gw_of (i := 286) (by decide +kernel) rfl
theorem gw287 : Cond.fieldLink RX6 98 "Tenonyard$Cutting" "isFound" "Z" ∈ GW := gw_of (i := 287) (by decide +kernel) rfl
theorem gw285 : Cond.fieldLink RX0 34 "Tenonyard$Cutting" "count" "I" ∈ GW := gw_of (i := 285) (by decide +kernel) rfl
theorem gw1706 : Cond.classLink RX12 239 RX10 ∈ GW := gw_of (i := 1706) (by decide +kernel) rfl
theorem gw1707 : Cond.instantiable RX10 3 ∈ GW := gw_of (i := 1707) (by decide +kernel) rfl
theorem gw110 : Cond.initialized RX10 ∈ GW := gw_of (i := 110) (by decide +kernel) rfl
theorem gw1711 : Cond.methodLink RX10 1 objectInit ∈ GW := gw_of (i := 1711) (by decide +kernel) rfl
theorem gw1712 : Cond.fieldLink RX10 7 "TenonyardModel$Stick" "length" "I" ∈ GW := gw_of (i := 1712) (by decide +kernel) rfl
theorem gw1714 : Cond.fieldLink RX10 13 "TenonyardModel$Stick" "breadth" "I" ∈ GW := gw_of (i := 1714) (by decide +kernel) rfl
theorem gw1716 : Cond.fieldLink RX10 16 "TenonyardModel$Stick" "grade" "I" ∈ GW := gw_of (i := 1716) (by decide +kernel) rfl
theorem gw1709 : Cond.instanceMethod yX10_init ∈ GW := gw_of (i := 1709) (by decide +kernel) rfl
theorem gw1710 : Cond.code yX10_init cX10_init 4 none ∈ GW := gw_of (i := 1710) (by decide +kernel) rfl
theorem gw1708 : Cond.methodLink RX12 386 yX10_init ∈ GW := gw_of (i := 1708) (by decide +kernel) rfl
theorem gw1876 : Cond.castable RX10 "java/lang/Object" ∈ NW := nw_of (i := 1876) (by decide +kernel) rfl
theorem gw288 : Cond.fieldLink RX0 49 "Tenonyard$Cutting" "isFound" "Z" ∈ GW := gw_of (i := 288) (by decide +kernel) rfl
theorem gw132 : Cond.fieldLink RX0 53 "Tenonyard$Frame" "members" "I" ∈ GW := gw_of (i := 132) (by decide +kernel) rfl
theorem gw1064 : Cond.constant RX0 74 (390625) ∈ GW := gw_of (i := 1064) (by decide +kernel) rfl
theorem gw1066 : Cond.constantLong RX0 60 (4611686018427387904) ∈ GW := gw_of (i := 1066) (by decide +kernel) rfl
theorem gw289 : Cond.fieldLink RX0 89 "Tenonyard$Cutting" "canCut" "Z" ∈ GW := gw_of (i := 289) (by decide +kernel) rfl
theorem gw1075 : Cond.constantLong RX0 81 (1953125) ∈ GW := gw_of (i := 1075) (by decide +kernel) rfl
theorem gw291 : Cond.fieldLink RX0 92 "Tenonyard$Cutting" "usedLength" "I" ∈ GW := gw_of (i := 291) (by decide +kernel) rfl
theorem gw290 : Cond.fieldLink RX6 291 "Tenonyard$Cutting" "canCut" "Z" ∈ GW := gw_of (i := 290) (by decide +kernel) rfl
theorem gw292 : Cond.fieldLink RX6 225 "Tenonyard$Cutting" "usedLength" "I" ∈ GW := gw_of (i := 292) (by decide +kernel) rfl
theorem gw1240 : Cond.fieldLink RX12 268 "TenonyardModel" "wood" "I" ∈ GW := gw_of (i := 1240) (by decide +kernel) rfl
theorem gw331 : Cond.fieldLink RX6 238 "Tenonyard$Raising" "limit" "I" ∈ GW := gw_of (i := 331) (by decide +kernel) rfl
theorem gw333 : Cond.fieldLink RX6 99 "Tenonyard$Raising" "isFound" "Z" ∈ GW := gw_of (i := 333) (by decide +kernel) rfl
theorem gw332 : Cond.fieldLink RX4 37 "Tenonyard$Raising" "isFound" "Z" ∈ GW := gw_of (i := 332) (by decide +kernel) rfl
theorem gw130 : Cond.fieldLink RX4 41 "Tenonyard$Frame" "members" "I" ∈ GW := gw_of (i := 130) (by decide +kernel) rfl
theorem gw334 : Cond.fieldLink RX4 34 "Tenonyard$Raising" "all" "I" ∈ GW := gw_of (i := 334) (by decide +kernel) rfl
theorem gw335 : Cond.fieldLink RX4 60 "Tenonyard$Raising" "hanging" "I" ∈ GW := gw_of (i := 335) (by decide +kernel) rfl
theorem gw340 : Cond.fieldLink RX6 254 "Tenonyard$Raising" "leadsToAll" "[Z" ∈ GW := gw_of (i := 340) (by decide +kernel) rfl
theorem gw1172 : Cond.classLink RX6 266 "java/lang/ArithmeticException" ∈ GW := gw_of (i := 1172) (by decide +kernel) rfl
theorem gw111 : Cond.initialized "java/lang/ArithmeticException" ∈ GW := gw_of (i := 111) (by decide +kernel) rfl
theorem gw1154 : Cond.classLink RL 109 "java/lang/ArithmeticException" ∈ GW := gw_of (i := 1154) (by decide +kernel) rfl
theorem gw1166 : Cond.castable "java/lang/ArithmeticException" "java/lang/ArithmeticException" ∈ NW := nw_of (i := 1166) (by decide +kernel) rfl
theorem gw578 : Cond.methodLink RX6 44 yX6_isWithin ∈ GW := gw_of (i := 578) (by decide +kernel) rfl
theorem gw579 : Cond.static yX6_isWithin ∈ GW := gw_of (i := 579) (by decide +kernel) rfl
theorem gw75 : Cond.initialized RX6 ∈ GW := gw_of (i := 75) (by decide +kernel) rfl
theorem gw580 : Cond.code yX6_isWithin cX6_isWithin 3 (some .boolean) ∈ GW := gw_of (i := 580) (by decide +kernel) rfl
theorem gw574 : Cond.methodLink RL 7 yX6_node ∈ GW := gw_of (i := 574) (by decide +kernel) rfl
theorem gw575 : Cond.instanceMethod yX6_node ∈ GW := gw_of (i := 575) (by decide +kernel) rfl
theorem gw576 : Cond.selects RX6 yX6_node yX6_node ∈ GW := gw_of (i := 576) (by decide +kernel) rfl
theorem gw577 : Cond.code yX6_node cX6_node 4 (some .int) ∈ GW := gw_of (i := 577) (by decide +kernel) rfl
theorem gw569 : Cond.methodLink RL 119 yL_node ∈ GW := gw_of (i := 569) (by decide +kernel) rfl
theorem gw570 : Cond.static yL_node ∈ GW := gw_of (i := 570) (by decide +kernel) rfl
theorem gw74 : Cond.initialized RL ∈ GW := gw_of (i := 74) (by decide +kernel) rfl
theorem gw571 : Cond.codeWith yL_node cL_node 6 (some .int) [(0, 12, 15, 13), (0, 12, 19, 15)] ∈ GW := gw_of (i := 571) (by decide +kernel) rfl
theorem gw1309 : Cond.methodLink RX12 285 yX12_in ∈ GW := gw_of (i := 1309) (by decide +kernel) rfl
theorem gw1310 : Cond.static yX12_in ∈ GW := gw_of (i := 1310) (by decide +kernel) rfl
theorem gw82 : Cond.initialized RX12 ∈ GW := gw_of (i := 82) (by decide +kernel) rfl
theorem gw1311 : Cond.code yX12_in cX12_in 4 (some .boolean) ∈ GW := gw_of (i := 1311) (by decide +kernel) rfl
theorem gw1312 : Cond.methodLink RX12 289 yX12_fails ∈ GW := gw_of (i := 1312) (by decide +kernel) rfl
theorem gw1314 : Cond.instanceMethod yX12_fails ∈ GW := gw_of (i := 1314) (by decide +kernel) rfl
theorem gw29 : Cond.selects RX12 yX12_fails yX12_fails ∈ GW := gw_of (i := 29) (by decide +kernel) rfl
theorem gw1315 : Cond.code yX12_fails cX12_fails 2 (some .int) ∈ GW := gw_of (i := 1315) (by decide +kernel) rfl
theorem gw1305 : Cond.methodLink RL 124 yX12_node ∈ GW := gw_of (i := 1305) (by decide +kernel) rfl
theorem gw1306 : Cond.instanceMethod yX12_node ∈ GW := gw_of (i := 1306) (by decide +kernel) rfl
theorem gw1307 : Cond.selects RX12 yX12_node yX12_node ∈ GW := gw_of (i := 1307) (by decide +kernel) rfl
theorem gw1308 : Cond.code yX12_node cX12_node 4 (some .int) ∈ GW := gw_of (i := 1308) (by decide +kernel) rfl
theorem gw1301 : Cond.methodLink RL 125 yX12_thrown ∈ GW := gw_of (i := 1301) (by decide +kernel) rfl
theorem gw1302 : Cond.instanceMethod yX12_thrown ∈ GW := gw_of (i := 1302) (by decide +kernel) rfl
theorem gw1303 : Cond.selects RX12 yX12_thrown yX12_thrown ∈ GW := gw_of (i := 1303) (by decide +kernel) rfl
theorem gw1304 : Cond.code yX12_thrown cX12_thrown 1 (some .int) ∈ GW := gw_of (i := 1304) (by decide +kernel) rfl
theorem gw590 : Cond.methodLink RJ0 492 yJ0_isLatin1_aae02 ∈ GW := gw_of (i := 590) (by decide +kernel) rfl
theorem gw591 : Cond.instanceMethod yJ0_isLatin1_aae02 ∈ GW := gw_of (i := 591) (by decide +kernel) rfl
theorem gw592 : Cond.selects RJ0 yJ0_isLatin1_aae02 yJ0_isLatin1_aae02 ∈ GW := gw_of (i := 592) (by decide +kernel) rfl
theorem gw86 : Cond.initialized RJ0 ∈ GW := gw_of (i := 86) (by decide +kernel) rfl
theorem gw593 : Cond.code yJ0_isLatin1_aae02 cJ0_isLatin1_aae02 1 (some .boolean) ∈ GW := gw_of (i := 593) (by decide +kernel) rfl
theorem gw600 : Cond.methodLink RJ0 335 yJ0_coder_7d493 ∈ GW := gw_of (i := 600) (by decide +kernel) rfl
theorem gw601 : Cond.instanceMethod yJ0_coder_7d493 ∈ GW := gw_of (i := 601) (by decide +kernel) rfl
theorem gw602 : Cond.selects RJ0 yJ0_coder_7d493 yJ0_coder_7d493 ∈ GW := gw_of (i := 602) (by decide +kernel) rfl
theorem gw603 : Cond.code yJ0_coder_7d493 cJ0_coder_7d493 1 (some .byte) ∈ GW := gw_of (i := 603) (by decide +kernel) rfl
theorem gw596 : Cond.methodLink RJ0 505 yJ0_length_8abf5 ∈ GW := gw_of (i := 596) (by decide +kernel) rfl
theorem gw597 : Cond.instanceMethod yJ0_length_8abf5 ∈ GW := gw_of (i := 597) (by decide +kernel) rfl
theorem gw598 : Cond.selects RJ0 yJ0_length_8abf5 yJ0_length_8abf5 ∈ GW := gw_of (i := 598) (by decide +kernel) rfl
theorem gw599 : Cond.code yJ0_length_8abf5 cJ0_length_8abf5 1 (some .int) ∈ GW := gw_of (i := 599) (by decide +kernel) rfl
theorem gw607 : Cond.methodLink RJ1 88 yJ1_canEncode_9a6ad ∈ GW := gw_of (i := 607) (by decide +kernel) rfl
theorem gw608 : Cond.static yJ1_canEncode_9a6ad ∈ GW := gw_of (i := 608) (by decide +kernel) rfl
theorem gw87 : Cond.initialized RJ1 ∈ GW := gw_of (i := 87) (by decide +kernel) rfl
theorem gw609 : Cond.code yJ1_canEncode_9a6ad cJ1_canEncode_9a6ad 1 (some .boolean) ∈ GW := gw_of (i := 609) (by decide +kernel) rfl
theorem gw604 : Cond.methodLink RJ0 637 yJ1_indexOf_4cfef ∈ GW := gw_of (i := 604) (by decide +kernel) rfl
theorem gw605 : Cond.static yJ1_indexOf_4cfef ∈ GW := gw_of (i := 605) (by decide +kernel) rfl
theorem gw606 : Cond.code yJ1_indexOf_4cfef cJ1_indexOf_4cfef 4 (some .int) ∈ GW := gw_of (i := 606) (by decide +kernel) rfl
theorem gw586 : Cond.methodLink RJ0 633 yJ0_indexOf_7cf53 ∈ GW := gw_of (i := 586) (by decide +kernel) rfl
theorem gw587 : Cond.instanceMethod yJ0_indexOf_7cf53 ∈ GW := gw_of (i := 587) (by decide +kernel) rfl
theorem gw588 : Cond.selects RJ0 yJ0_indexOf_7cf53 yJ0_indexOf_7cf53 ∈ GW := gw_of (i := 588) (by decide +kernel) rfl
theorem gw589 : Cond.code yJ0_indexOf_7cf53 cJ0_indexOf_7cf53 3 (some .int) ∈ GW := gw_of (i := 589) (by decide +kernel) rfl
theorem gw582 : Cond.methodLink RX6 50 yJ0_indexOf_0f7a4 ∈ GW := gw_of (i := 582) (by decide +kernel) rfl
theorem gw583 : Cond.instanceMethod yJ0_indexOf_0f7a4 ∈ GW := gw_of (i := 583) (by decide +kernel) rfl
theorem gw584 : Cond.selects RJ0 yJ0_indexOf_0f7a4 yJ0_indexOf_0f7a4 ∈ GW := gw_of (i := 584) (by decide +kernel) rfl
theorem gw585 : Cond.code yJ0_indexOf_0f7a4 cJ0_indexOf_0f7a4 2 (some .int) ∈ GW := gw_of (i := 585) (by decide +kernel) rfl
theorem gw616 : Cond.methodLink RJ1 95 yJ1_indexOfChar_4cfef ∈ GW := gw_of (i := 616) (by decide +kernel) rfl
theorem gw617 : Cond.static yJ1_indexOfChar_4cfef ∈ GW := gw_of (i := 617) (by decide +kernel) rfl
theorem gw618 : Cond.code yJ1_indexOfChar_4cfef cJ1_indexOfChar_4cfef 6 (some .int) ∈ GW := gw_of (i := 618) (by decide +kernel) rfl
theorem gw756 : Cond.methodLink RX6 76 yX2_addNode ∈ GW := gw_of (i := 756) (by decide +kernel) rfl
theorem gw757 : Cond.instanceMethod yX2_addNode ∈ GW := gw_of (i := 757) (by decide +kernel) rfl
theorem gw758 : Cond.selects RX2 yX2_addNode yX2_addNode ∈ GW := gw_of (i := 758) (by decide +kernel) rfl
theorem gw759 : Cond.code yX2_addNode cX2_addNode 5 (some .int) ∈ GW := gw_of (i := 759) (by decide +kernel) rfl
theorem gw1316 : Cond.methodLink RX12 125 yJx4a65c_size_8abf5 ∈ GW := gw_of (i := 1316) (by decide +kernel) rfl
theorem gw1317 : Cond.instanceMethod yJx4a65c_size_8abf5 ∈ GW := gw_of (i := 1317) (by decide +kernel) rfl
theorem gw1318 : Cond.selects RJx4a65c yJx4a65c_size_8abf5 yJx4a65c_size_8abf5 ∈ GW := gw_of (i := 1318) (by decide +kernel) rfl
theorem gw1319 : Cond.code yJx4a65c_size_8abf5 cJx4a65c_size_8abf5 1 (some .int) ∈ GW := gw_of (i := 1319) (by decide +kernel) rfl
theorem gw1360 : Cond.methodLink RJx4a65c 69 yJx4a65c_grow_92f84 ∈ GW := gw_of (i := 1360) (by decide +kernel) rfl
theorem gw1362 : Cond.instanceMethod yJx4a65c_grow_92f84 ∈ GW := gw_of (i := 1362) (by decide +kernel) rfl
theorem gw32 : Cond.selects RJx4a65c yJx4a65c_grow_92f84 yJx4a65c_grow_92f84 ∈ GW := gw_of (i := 32) (by decide +kernel) rfl
theorem gw1363 : Cond.code yJx4a65c_grow_92f84 cJx4a65c_grow_92f84 4 (some (.array (.object "java/lang/Object"))) ∈ GW := gw_of (i := 1363) (by decide +kernel) rfl
theorem gw1356 : Cond.methodLink RJx4a65c 129 yJx4a65c_grow_d5877 ∈ GW := gw_of (i := 1356) (by decide +kernel) rfl
theorem gw1358 : Cond.instanceMethod yJx4a65c_grow_d5877 ∈ GW := gw_of (i := 1358) (by decide +kernel) rfl
theorem gw31 : Cond.selects RJx4a65c yJx4a65c_grow_d5877 yJx4a65c_grow_d5877 ∈ GW := gw_of (i := 31) (by decide +kernel) rfl
theorem gw1359 : Cond.code yJx4a65c_grow_d5877 cJx4a65c_grow_d5877 1 (some (.array (.object "java/lang/Object"))) ∈ GW := gw_of (i := 1359) (by decide +kernel) rfl
theorem gw1352 : Cond.methodLink RJx4a65c 131 yJx4a65c_add_72be8 ∈ GW := gw_of (i := 1352) (by decide +kernel) rfl
theorem gw1354 : Cond.instanceMethod yJx4a65c_add_72be8 ∈ GW := gw_of (i := 1354) (by decide +kernel) rfl
theorem gw30 : Cond.selects RJx4a65c yJx4a65c_add_72be8 yJx4a65c_add_72be8 ∈ GW := gw_of (i := 30) (by decide +kernel) rfl
theorem gw1355 : Cond.code yJx4a65c_add_72be8 cJx4a65c_add_72be8 4 none ∈ GW := gw_of (i := 1355) (by decide +kernel) rfl
theorem gw1348 : Cond.methodLink RX12 295 yJx4a65c_add_9ea2d ∈ GW := gw_of (i := 1348) (by decide +kernel) rfl
theorem gw1349 : Cond.instanceMethod yJx4a65c_add_9ea2d ∈ GW := gw_of (i := 1349) (by decide +kernel) rfl
theorem gw1350 : Cond.selects RJx4a65c yJx4a65c_add_9ea2d yJx4a65c_add_9ea2d ∈ GW := gw_of (i := 1350) (by decide +kernel) rfl
theorem gw1351 : Cond.code yJx4a65c_add_9ea2d cJx4a65c_add_9ea2d 2 (some .boolean) ∈ GW := gw_of (i := 1351) (by decide +kernel) rfl
theorem gw1412 : Cond.methodLink RX12 299 yX12_changes ∈ GW := gw_of (i := 1412) (by decide +kernel) rfl
theorem gw1414 : Cond.instanceMethod yX12_changes ∈ GW := gw_of (i := 1414) (by decide +kernel) rfl
theorem gw33 : Cond.selects RX12 yX12_changes yX12_changes ∈ GW := gw_of (i := 33) (by decide +kernel) rfl
theorem gw1415 : Cond.code yX12_changes cX12_changes 1 none ∈ GW := gw_of (i := 1415) (by decide +kernel) rfl
theorem gw1416 : Cond.methodLink RX12 302 yX12_tell ∈ GW := gw_of (i := 1416) (by decide +kernel) rfl
theorem gw1418 : Cond.instanceMethod yX12_tell ∈ GW := gw_of (i := 1418) (by decide +kernel) rfl
theorem gw34 : Cond.selects RX12 yX12_tell yX12_tell ∈ GW := gw_of (i := 34) (by decide +kernel) rfl
theorem gw1419 : Cond.code yX12_tell cX12_tell 2 (some .int) ∈ GW := gw_of (i := 1419) (by decide +kernel) rfl
theorem gw791 : Cond.methodLink RX6 80 yX6_checkNode ∈ GW := gw_of (i := 791) (by decide +kernel) rfl
theorem gw793 : Cond.instanceMethod yX6_checkNode ∈ GW := gw_of (i := 793) (by decide +kernel) rfl
theorem gw17 : Cond.selects RX6 yX6_checkNode yX6_checkNode ∈ GW := gw_of (i := 17) (by decide +kernel) rfl
theorem gw794 : Cond.code yX6_checkNode cX6_checkNode 2 none ∈ GW := gw_of (i := 794) (by decide +kernel) rfl
theorem gw787 : Cond.methodLink RL 17 yX6_member ∈ GW := gw_of (i := 787) (by decide +kernel) rfl
theorem gw788 : Cond.instanceMethod yX6_member ∈ GW := gw_of (i := 788) (by decide +kernel) rfl
theorem gw789 : Cond.selects RX6 yX6_member yX6_member ∈ GW := gw_of (i := 789) (by decide +kernel) rfl
theorem gw790 : Cond.code yX6_member cX6_member 5 (some .int) ∈ GW := gw_of (i := 790) (by decide +kernel) rfl
theorem gw760 : Cond.methodLink RL 128 yL_member ∈ GW := gw_of (i := 760) (by decide +kernel) rfl
theorem gw761 : Cond.static yL_member ∈ GW := gw_of (i := 761) (by decide +kernel) rfl
theorem gw762 : Cond.codeWith yL_member cL_member 7 (some .int) [(0, 14, 17, 21), (0, 14, 21, 13), (0, 14, 25, 15)] ∈ GW := gw_of (i := 762) (by decide +kernel) rfl
theorem gw1424 : Cond.methodLink RX12 305 yX12_isNode ∈ GW := gw_of (i := 1424) (by decide +kernel) rfl
theorem gw1426 : Cond.instanceMethod yX12_isNode ∈ GW := gw_of (i := 1426) (by decide +kernel) rfl
theorem gw35 : Cond.selects RX12 yX12_isNode yX12_isNode ∈ GW := gw_of (i := 35) (by decide +kernel) rfl
theorem gw1427 : Cond.code yX12_isNode cX12_isNode 2 (some .boolean) ∈ GW := gw_of (i := 1427) (by decide +kernel) rfl
theorem gw1420 : Cond.methodLink RL 131 yX12_member ∈ GW := gw_of (i := 1420) (by decide +kernel) rfl
theorem gw1421 : Cond.instanceMethod yX12_member ∈ GW := gw_of (i := 1421) (by decide +kernel) rfl
theorem gw1422 : Cond.selects RX12 yX12_member yX12_member ∈ GW := gw_of (i := 1422) (by decide +kernel) rfl
theorem gw1423 : Cond.code yX12_member cX12_member 6 (some .int) ∈ GW := gw_of (i := 1423) (by decide +kernel) rfl
theorem gw824 : Cond.methodLink RL 23 yX6_load ∈ GW := gw_of (i := 824) (by decide +kernel) rfl
theorem gw825 : Cond.instanceMethod yX6_load ∈ GW := gw_of (i := 825) (by decide +kernel) rfl
theorem gw826 : Cond.selects RX6 yX6_load yX6_load ∈ GW := gw_of (i := 826) (by decide +kernel) rfl
theorem gw827 : Cond.code yX6_load cX6_load 4 (some .int) ∈ GW := gw_of (i := 827) (by decide +kernel) rfl
theorem gw821 : Cond.methodLink RL 132 yL_load ∈ GW := gw_of (i := 821) (by decide +kernel) rfl
theorem gw822 : Cond.static yL_load ∈ GW := gw_of (i := 822) (by decide +kernel) rfl
theorem gw823 : Cond.codeWith yL_load cL_load 6 (some .int) [(0, 12, 15, 21), (0, 12, 19, 13)] ∈ GW := gw_of (i := 823) (by decide +kernel) rfl
theorem gw1473 : Cond.methodLink RL 135 yX12_load ∈ GW := gw_of (i := 1473) (by decide +kernel) rfl
theorem gw1474 : Cond.instanceMethod yX12_load ∈ GW := gw_of (i := 1474) (by decide +kernel) rfl
theorem gw1475 : Cond.selects RX12 yX12_load yX12_load ∈ GW := gw_of (i := 1475) (by decide +kernel) rfl
theorem gw1476 : Cond.code yX12_load cX12_load 4 (some .int) ∈ GW := gw_of (i := 1476) (by decide +kernel) rfl
theorem gw395 : Cond.methodLink RX1 91 yX1_fillRows ∈ GW := gw_of (i := 395) (by decide +kernel) rfl
theorem gw397 : Cond.instanceMethod yX1_fillRows ∈ GW := gw_of (i := 397) (by decide +kernel) rfl
theorem gw1 : Cond.selects RX1 yX1_fillRows yX1_fillRows ∈ GW := gw_of (i := 1) (by decide +kernel) rfl
theorem gw398 : Cond.code yX1_fillRows cX1_fillRows 7 none ∈ GW := gw_of (i := 398) (by decide +kernel) rfl
theorem gw411 : Cond.methodLink RX1 119 yJ6_bitCount_0f7a4 ∈ GW := gw_of (i := 411) (by decide +kernel) rfl
theorem gw412 : Cond.static yJ6_bitCount_0f7a4 ∈ GW := gw_of (i := 412) (by decide +kernel) rfl
theorem gw105 : Cond.initialized RJ6 ∈ GW := gw_of (i := 105) (by decide +kernel) rfl
theorem gw413 : Cond.code yJ6_bitCount_0f7a4 cJ6_bitCount_0f7a4 1 (some .int) ∈ GW := gw_of (i := 413) (by decide +kernel) rfl
theorem gw407 : Cond.methodLink RX1 94 yX1_findDeterminants ∈ GW := gw_of (i := 407) (by decide +kernel) rfl
theorem gw409 : Cond.instanceMethod yX1_findDeterminants ∈ GW := gw_of (i := 409) (by decide +kernel) rfl
theorem gw2 : Cond.selects RX1 yX1_findDeterminants yX1_findDeterminants ∈ GW := gw_of (i := 2) (by decide +kernel) rfl
theorem gw410 : Cond.code yX1_findDeterminants cX1_findDeterminants 4 none ∈ GW := gw_of (i := 410) (by decide +kernel) rfl
theorem gw387 : Cond.methodLink RX1 63 yX1_findPulls ∈ GW := gw_of (i := 387) (by decide +kernel) rfl
theorem gw389 : Cond.instanceMethod yX1_findPulls ∈ GW := gw_of (i := 389) (by decide +kernel) rfl
theorem gw0 : Cond.selects RX1 yX1_findPulls yX1_findPulls ∈ GW := gw_of (i := 0) (by decide +kernel) rfl
theorem gw390 : Cond.code yX1_findPulls cX1_findPulls 7 (some .char) ∈ GW := gw_of (i := 390) (by decide +kernel) rfl
theorem gw439 : Cond.methodLink RX1 71 yX1_findBearings ∈ GW := gw_of (i := 439) (by decide +kernel) rfl
theorem gw441 : Cond.instanceMethod yX1_findBearings ∈ GW := gw_of (i := 441) (by decide +kernel) rfl
theorem gw6 : Cond.selects RX1 yX1_findBearings yX1_findBearings ∈ GW := gw_of (i := 6) (by decide +kernel) rfl
theorem gw442 : Cond.code yX1_findBearings cX1_findBearings 6 none ∈ GW := gw_of (i := 442) (by decide +kernel) rfl
theorem gw447 : Cond.methodLink RX1 141 yX5_set ∈ GW := gw_of (i := 447) (by decide +kernel) rfl
theorem gw448 : Cond.instanceMethod yX5_set ∈ GW := gw_of (i := 448) (by decide +kernel) rfl
theorem gw449 : Cond.selects RX5 yX5_set yX5_set ∈ GW := gw_of (i := 449) (by decide +kernel) rfl
theorem gw450 : Cond.code yX5_set cX5_set 4 none ∈ GW := gw_of (i := 450) (by decide +kernel) rfl
theorem gw443 : Cond.methodLink RX1 75 yX1_findAmounts ∈ GW := gw_of (i := 443) (by decide +kernel) rfl
theorem gw445 : Cond.instanceMethod yX1_findAmounts ∈ GW := gw_of (i := 445) (by decide +kernel) rfl
theorem gw7 : Cond.selects RX1 yX1_findAmounts yX1_findAmounts ∈ GW := gw_of (i := 7) (by decide +kernel) rfl
theorem gw446 : Cond.code yX1_findAmounts cX1_findAmounts 8 none ∈ GW := gw_of (i := 446) (by decide +kernel) rfl
theorem gw383 : Cond.methodLink RX6 110 yX1_find ∈ GW := gw_of (i := 383) (by decide +kernel) rfl
theorem gw384 : Cond.instanceMethod yX1_find ∈ GW := gw_of (i := 384) (by decide +kernel) rfl
theorem gw385 : Cond.selects RX1 yX1_find yX1_find ∈ GW := gw_of (i := 385) (by decide +kernel) rfl
theorem gw386 : Cond.code yX1_find cX1_find 2 none ∈ GW := gw_of (i := 386) (by decide +kernel) rfl
theorem gw379 : Cond.methodLink RL 136 yX6_state ∈ GW := gw_of (i := 379) (by decide +kernel) rfl
theorem gw380 : Cond.instanceMethod yX6_state ∈ GW := gw_of (i := 380) (by decide +kernel) rfl
theorem gw381 : Cond.selects RX6 yX6_state yX6_state ∈ GW := gw_of (i := 381) (by decide +kernel) rfl
theorem gw382 : Cond.code yX6_state cX6_state 1 (some .char) ∈ GW := gw_of (i := 382) (by decide +kernel) rfl
theorem gw1485 : Cond.methodLink RX12 154 yX12_unknowns ∈ GW := gw_of (i := 1485) (by decide +kernel) rfl
theorem gw1487 : Cond.instanceMethod yX12_unknowns ∈ GW := gw_of (i := 1487) (by decide +kernel) rfl
theorem gw37 : Cond.selects RX12 yX12_unknowns yX12_unknowns ∈ GW := gw_of (i := 37) (by decide +kernel) rfl
theorem gw1488 : Cond.code yX12_unknowns cX12_unknowns 3 (some .int) ∈ GW := gw_of (i := 1488) (by decide +kernel) rfl
theorem gw1489 : Cond.methodLink RX12 160 yX12_determinant ∈ GW := gw_of (i := 1489) (by decide +kernel) rfl
theorem gw1491 : Cond.instanceMethod yX12_determinant ∈ GW := gw_of (i := 1491) (by decide +kernel) rfl
theorem gw38 : Cond.selects RX12 yX12_determinant yX12_determinant ∈ GW := gw_of (i := 38) (by decide +kernel) rfl
theorem gw1492 : Cond.code yX12_determinant cX12_determinant 6 (some .long) ∈ GW := gw_of (i := 1492) (by decide +kernel) rfl
theorem gw1481 : Cond.methodLink RX12 166 yX12_reckons ∈ GW := gw_of (i := 1481) (by decide +kernel) rfl
theorem gw1483 : Cond.instanceMethod yX12_reckons ∈ GW := gw_of (i := 1483) (by decide +kernel) rfl
theorem gw36 : Cond.selects RX12 yX12_reckons yX12_reckons ∈ GW := gw_of (i := 36) (by decide +kernel) rfl
theorem gw1484 : Cond.code yX12_reckons cX12_reckons 3 none ∈ GW := gw_of (i := 1484) (by decide +kernel) rfl
theorem gw1477 : Cond.methodLink RL 140 yX12_state ∈ GW := gw_of (i := 1477) (by decide +kernel) rfl
theorem gw1478 : Cond.instanceMethod yX12_state ∈ GW := gw_of (i := 1478) (by decide +kernel) rfl
theorem gw1479 : Cond.selects RX12 yX12_state yX12_state ∈ GW := gw_of (i := 1479) (by decide +kernel) rfl
theorem gw1480 : Cond.code yX12_state cX12_state 1 (some .char) ∈ GW := gw_of (i := 1480) (by decide +kernel) rfl
theorem gw840 : Cond.methodLink RX6 118 yX6_checkMember ∈ GW := gw_of (i := 840) (by decide +kernel) rfl
theorem gw842 : Cond.instanceMethod yX6_checkMember ∈ GW := gw_of (i := 842) (by decide +kernel) rfl
theorem gw18 : Cond.selects RX6 yX6_checkMember yX6_checkMember ∈ GW := gw_of (i := 18) (by decide +kernel) rfl
theorem gw843 : Cond.code yX6_checkMember cX6_checkMember 2 none ∈ GW := gw_of (i := 843) (by decide +kernel) rfl
theorem gw836 : Cond.methodLink RL 27 yX6_force ∈ GW := gw_of (i := 836) (by decide +kernel) rfl
theorem gw837 : Cond.instanceMethod yX6_force ∈ GW := gw_of (i := 837) (by decide +kernel) rfl
theorem gw838 : Cond.selects RX6 yX6_force yX6_force ∈ GW := gw_of (i := 838) (by decide +kernel) rfl
theorem gw839 : Cond.code yX6_force cX6_force 2 (some .long) ∈ GW := gw_of (i := 839) (by decide +kernel) rfl
theorem gw833 : Cond.methodLink RL 141 yL_force ∈ GW := gw_of (i := 833) (by decide +kernel) rfl
theorem gw834 : Cond.static yL_force ∈ GW := gw_of (i := 834) (by decide +kernel) rfl
theorem gw835 : Cond.codeWith yL_force cL_force 4 (some .int) [(0, 8, 11, 21), (0, 8, 14, 15)] ∈ GW := gw_of (i := 835) (by decide +kernel) rfl
theorem gw1522 : Cond.methodLink RX12 314 yX12_isMember ∈ GW := gw_of (i := 1522) (by decide +kernel) rfl
theorem gw1524 : Cond.instanceMethod yX12_isMember ∈ GW := gw_of (i := 1524) (by decide +kernel) rfl
theorem gw45 : Cond.selects RX12 yX12_isMember yX12_isMember ∈ GW := gw_of (i := 45) (by decide +kernel) rfl
theorem gw1525 : Cond.code yX12_isMember cX12_isMember 2 (some .boolean) ∈ GW := gw_of (i := 1525) (by decide +kernel) rfl
theorem gw1526 : Cond.methodLink RX12 317 yX12_failsLong ∈ GW := gw_of (i := 1526) (by decide +kernel) rfl
theorem gw1528 : Cond.instanceMethod yX12_failsLong ∈ GW := gw_of (i := 1528) (by decide +kernel) rfl
theorem gw46 : Cond.selects RX12 yX12_failsLong yX12_failsLong ∈ GW := gw_of (i := 46) (by decide +kernel) rfl
theorem gw1529 : Cond.code yX12_failsLong cX12_failsLong 2 (some .long) ∈ GW := gw_of (i := 1529) (by decide +kernel) rfl
theorem gw1518 : Cond.methodLink RL 144 yX12_force ∈ GW := gw_of (i := 1518) (by decide +kernel) rfl
theorem gw1519 : Cond.instanceMethod yX12_force ∈ GW := gw_of (i := 1519) (by decide +kernel) rfl
theorem gw1520 : Cond.selects RX12 yX12_force yX12_force ∈ GW := gw_of (i := 1520) (by decide +kernel) rfl
theorem gw1521 : Cond.code yX12_force cX12_force 2 (some .long) ∈ GW := gw_of (i := 1521) (by decide +kernel) rfl
theorem gw853 : Cond.methodLink RL 31 yX6_pull ∈ GW := gw_of (i := 853) (by decide +kernel) rfl
theorem gw854 : Cond.instanceMethod yX6_pull ∈ GW := gw_of (i := 854) (by decide +kernel) rfl
theorem gw855 : Cond.selects RX6 yX6_pull yX6_pull ∈ GW := gw_of (i := 855) (by decide +kernel) rfl
theorem gw856 : Cond.code yX6_pull cX6_pull 2 (some .long) ∈ GW := gw_of (i := 856) (by decide +kernel) rfl
theorem gw850 : Cond.methodLink RL 145 yL_pull ∈ GW := gw_of (i := 850) (by decide +kernel) rfl
theorem gw851 : Cond.static yL_pull ∈ GW := gw_of (i := 851) (by decide +kernel) rfl
theorem gw852 : Cond.codeWith yL_pull cL_pull 4 (some .int) [(0, 8, 11, 21), (0, 8, 14, 15)] ∈ GW := gw_of (i := 852) (by decide +kernel) rfl
theorem gw1580 : Cond.methodLink RL 147 yX12_pull ∈ GW := gw_of (i := 1580) (by decide +kernel) rfl
theorem gw1581 : Cond.instanceMethod yX12_pull ∈ GW := gw_of (i := 1581) (by decide +kernel) rfl
theorem gw1582 : Cond.selects RX12 yX12_pull yX12_pull ∈ GW := gw_of (i := 1582) (by decide +kernel) rfl
theorem gw1583 : Cond.code yX12_pull cX12_pull 2 (some .long) ∈ GW := gw_of (i := 1583) (by decide +kernel) rfl
theorem gw870 : Cond.methodLink RL 34 yX6_bearing ∈ GW := gw_of (i := 870) (by decide +kernel) rfl
theorem gw871 : Cond.instanceMethod yX6_bearing ∈ GW := gw_of (i := 871) (by decide +kernel) rfl
theorem gw872 : Cond.selects RX6 yX6_bearing yX6_bearing ∈ GW := gw_of (i := 872) (by decide +kernel) rfl
theorem gw873 : Cond.code yX6_bearing cX6_bearing 3 (some .long) ∈ GW := gw_of (i := 873) (by decide +kernel) rfl
theorem gw867 : Cond.methodLink RL 148 yL_bearing ∈ GW := gw_of (i := 867) (by decide +kernel) rfl
theorem gw868 : Cond.static yL_bearing ∈ GW := gw_of (i := 868) (by decide +kernel) rfl
theorem gw869 : Cond.codeWith yL_bearing cL_bearing 5 (some .int) [(0, 9, 12, 21), (0, 9, 16, 15)] ∈ GW := gw_of (i := 869) (by decide +kernel) rfl
theorem gw1591 : Cond.methodLink RL 151 yX12_bearing ∈ GW := gw_of (i := 1591) (by decide +kernel) rfl
theorem gw1592 : Cond.instanceMethod yX12_bearing ∈ GW := gw_of (i := 1592) (by decide +kernel) rfl
theorem gw1593 : Cond.selects RX12 yX12_bearing yX12_bearing ∈ GW := gw_of (i := 1593) (by decide +kernel) rfl
theorem gw1594 : Cond.code yX12_bearing cX12_bearing 3 (some .long) ∈ GW := gw_of (i := 1594) (by decide +kernel) rfl
theorem gw878 : Cond.methodLink RL 38 yX6_isBalanced ∈ GW := gw_of (i := 878) (by decide +kernel) rfl
theorem gw879 : Cond.instanceMethod yX6_isBalanced ∈ GW := gw_of (i := 879) (by decide +kernel) rfl
theorem gw880 : Cond.selects RX6 yX6_isBalanced yX6_isBalanced ∈ GW := gw_of (i := 880) (by decide +kernel) rfl
theorem gw881 : Cond.code yX6_isBalanced cX6_isBalanced 2 (some .boolean) ∈ GW := gw_of (i := 881) (by decide +kernel) rfl
theorem gw875 : Cond.methodLink RL 152 yL_isBalanced ∈ GW := gw_of (i := 875) (by decide +kernel) rfl
theorem gw876 : Cond.static yL_isBalanced ∈ GW := gw_of (i := 876) (by decide +kernel) rfl
theorem gw877 : Cond.codeWith yL_isBalanced cL_isBalanced 4 (some .int) [(0, 16, 19, 13), (0, 16, 22, 15)] ∈ GW := gw_of (i := 877) (by decide +kernel) rfl
theorem gw1603 : Cond.methodLink RX12 336 yX12_refuses ∈ GW := gw_of (i := 1603) (by decide +kernel) rfl
theorem gw1605 : Cond.instanceMethod yX12_refuses ∈ GW := gw_of (i := 1605) (by decide +kernel) rfl
theorem gw54 : Cond.selects RX12 yX12_refuses yX12_refuses ∈ GW := gw_of (i := 54) (by decide +kernel) rfl
theorem gw1606 : Cond.code yX12_refuses cX12_refuses 2 (some .boolean) ∈ GW := gw_of (i := 1606) (by decide +kernel) rfl
theorem gw1599 : Cond.methodLink RL 154 yX12_isBalanced ∈ GW := gw_of (i := 1599) (by decide +kernel) rfl
theorem gw1600 : Cond.instanceMethod yX12_isBalanced ∈ GW := gw_of (i := 1600) (by decide +kernel) rfl
theorem gw1601 : Cond.selects RX12 yX12_isBalanced yX12_isBalanced ∈ GW := gw_of (i := 1601) (by decide +kernel) rfl
theorem gw1602 : Cond.code yX12_isBalanced cX12_isBalanced 2 (some .boolean) ∈ GW := gw_of (i := 1602) (by decide +kernel) rfl
theorem gw845 : Cond.methodLink RX6 121 yX6_checkStanding ∈ GW := gw_of (i := 845) (by decide +kernel) rfl
theorem gw847 : Cond.instanceMethod yX6_checkStanding ∈ GW := gw_of (i := 847) (by decide +kernel) rfl
theorem gw19 : Cond.selects RX6 yX6_checkStanding yX6_checkStanding ∈ GW := gw_of (i := 19) (by decide +kernel) rfl
theorem gw848 : Cond.code yX6_checkStanding cX6_checkStanding 1 none ∈ GW := gw_of (i := 848) (by decide +kernel) rfl
theorem gw558 : Cond.methodLink RX1 185 yX1_holdsAlong ∈ GW := gw_of (i := 558) (by decide +kernel) rfl
theorem gw560 : Cond.instanceMethod yX1_holdsAlong ∈ GW := gw_of (i := 560) (by decide +kernel) rfl
theorem gw15 : Cond.selects RX1 yX1_holdsAlong yX1_holdsAlong ∈ GW := gw_of (i := 15) (by decide +kernel) rfl
theorem gw561 : Cond.code yX1_holdsAlong cX1_holdsAlong 12 (some .boolean) ∈ GW := gw_of (i := 561) (by decide +kernel) rfl
theorem gw554 : Cond.methodLink RX6 138 yX1_holdsAt ∈ GW := gw_of (i := 554) (by decide +kernel) rfl
theorem gw555 : Cond.instanceMethod yX1_holdsAt ∈ GW := gw_of (i := 555) (by decide +kernel) rfl
theorem gw556 : Cond.selects RX1 yX1_holdsAt yX1_holdsAt ∈ GW := gw_of (i := 556) (by decide +kernel) rfl
theorem gw557 : Cond.code yX1_holdsAt cX1_holdsAt 3 (some .boolean) ∈ GW := gw_of (i := 557) (by decide +kernel) rfl
theorem gw1530 : Cond.methodLink RX12 320 yX12_stands ∈ GW := gw_of (i := 1530) (by decide +kernel) rfl
theorem gw1532 : Cond.instanceMethod yX12_stands ∈ GW := gw_of (i := 1532) (by decide +kernel) rfl
theorem gw47 : Cond.selects RX12 yX12_stands yX12_stands ∈ GW := gw_of (i := 47) (by decide +kernel) rfl
theorem gw1533 : Cond.code yX12_stands cX12_stands 1 (some .boolean) ∈ GW := gw_of (i := 1533) (by decide +kernel) rfl
theorem gw1607 : Cond.methodLink RX12 339 yX12_restOf ∈ GW := gw_of (i := 1607) (by decide +kernel) rfl
theorem gw1609 : Cond.instanceMethod yX12_restOf ∈ GW := gw_of (i := 1609) (by decide +kernel) rfl
theorem gw55 : Cond.selects RX12 yX12_restOf yX12_restOf ∈ GW := gw_of (i := 55) (by decide +kernel) rfl
theorem gw1610 : Cond.code yX12_restOf cX12_restOf 10 (some .long) ∈ GW := gw_of (i := 1610) (by decide +kernel) rfl
theorem gw1611 : Cond.methodLink RX12 343 yX12_tells ∈ GW := gw_of (i := 1611) (by decide +kernel) rfl
theorem gw1613 : Cond.instanceMethod yX12_tells ∈ GW := gw_of (i := 1613) (by decide +kernel) rfl
theorem gw56 : Cond.selects RX12 yX12_tells yX12_tells ∈ GW := gw_of (i := 56) (by decide +kernel) rfl
theorem gw1614 : Cond.code yX12_tells cX12_tells 2 (some .boolean) ∈ GW := gw_of (i := 1614) (by decide +kernel) rfl
theorem gw887 : Cond.methodLink RL 42 yX6_weakest ∈ GW := gw_of (i := 887) (by decide +kernel) rfl
theorem gw888 : Cond.instanceMethod yX6_weakest ∈ GW := gw_of (i := 888) (by decide +kernel) rfl
theorem gw889 : Cond.selects RX6 yX6_weakest yX6_weakest ∈ GW := gw_of (i := 889) (by decide +kernel) rfl
theorem gw890 : Cond.code yX6_weakest cX6_weakest 3 (some .int) ∈ GW := gw_of (i := 890) (by decide +kernel) rfl
theorem gw883 : Cond.methodLink RL 155 yL_weakest ∈ GW := gw_of (i := 883) (by decide +kernel) rfl
theorem gw884 : Cond.static yL_weakest ∈ GW := gw_of (i := 884) (by decide +kernel) rfl
theorem gw885 : Cond.codeWith yL_weakest cL_weakest 3 (some .int) [(0, 8, 11, 15), (0, 8, 14, 46)] ∈ GW := gw_of (i := 885) (by decide +kernel) rfl
theorem gw1615 : Cond.methodLink RL 158 yX12_weakest ∈ GW := gw_of (i := 1615) (by decide +kernel) rfl
theorem gw1616 : Cond.instanceMethod yX12_weakest ∈ GW := gw_of (i := 1616) (by decide +kernel) rfl
theorem gw1617 : Cond.selects RX12 yX12_weakest yX12_weakest ∈ GW := gw_of (i := 1617) (by decide +kernel) rfl
theorem gw1618 : Cond.code yX12_weakest cX12_weakest 3 (some .int) ∈ GW := gw_of (i := 1618) (by decide +kernel) rfl
theorem gw912 : Cond.methodLink RL 48 yX6_joint ∈ GW := gw_of (i := 912) (by decide +kernel) rfl
theorem gw913 : Cond.instanceMethod yX6_joint ∈ GW := gw_of (i := 913) (by decide +kernel) rfl
theorem gw914 : Cond.selects RX6 yX6_joint yX6_joint ∈ GW := gw_of (i := 914) (by decide +kernel) rfl
theorem gw915 : Cond.code yX6_joint cX6_joint 6 (some .int) ∈ GW := gw_of (i := 915) (by decide +kernel) rfl
theorem gw908 : Cond.methodLink RL 159 yL_joint ∈ GW := gw_of (i := 908) (by decide +kernel) rfl
theorem gw909 : Cond.static yL_joint ∈ GW := gw_of (i := 909) (by decide +kernel) rfl
theorem gw910 : Cond.codeWith yL_joint cL_joint 8 (some .int) [(0, 16, 19, 21), (0, 16, 23, 13), (0, 16, 27, 52), (0, 16, 31, 15)] ∈ GW := gw_of (i := 910) (by decide +kernel) rfl
theorem gw1619 : Cond.methodLink RL 162 yX12_joint ∈ GW := gw_of (i := 1619) (by decide +kernel) rfl
theorem gw1620 : Cond.instanceMethod yX12_joint ∈ GW := gw_of (i := 1620) (by decide +kernel) rfl
theorem gw1621 : Cond.selects RX12 yX12_joint yX12_joint ∈ GW := gw_of (i := 1621) (by decide +kernel) rfl
theorem gw1622 : Cond.code yX12_joint cX12_joint 9 (some .int) ∈ GW := gw_of (i := 1622) (by decide +kernel) rfl
theorem gw960 : Cond.methodLink RX6 179 yX6_checkJoint ∈ GW := gw_of (i := 960) (by decide +kernel) rfl
theorem gw962 : Cond.instanceMethod yX6_checkJoint ∈ GW := gw_of (i := 962) (by decide +kernel) rfl
theorem gw21 : Cond.selects RX6 yX6_checkJoint yX6_checkJoint ∈ GW := gw_of (i := 21) (by decide +kernel) rfl
theorem gw963 : Cond.code yX6_checkJoint cX6_checkJoint 2 none ∈ GW := gw_of (i := 963) (by decide +kernel) rfl
theorem gw956 : Cond.methodLink RL 54 yX6_isRight ∈ GW := gw_of (i := 956) (by decide +kernel) rfl
theorem gw957 : Cond.instanceMethod yX6_isRight ∈ GW := gw_of (i := 957) (by decide +kernel) rfl
theorem gw958 : Cond.selects RX6 yX6_isRight yX6_isRight ∈ GW := gw_of (i := 958) (by decide +kernel) rfl
theorem gw959 : Cond.code yX6_isRight cX6_isRight 2 (some .boolean) ∈ GW := gw_of (i := 959) (by decide +kernel) rfl
theorem gw953 : Cond.methodLink RL 163 yL_isRight ∈ GW := gw_of (i := 953) (by decide +kernel) rfl
theorem gw954 : Cond.static yL_isRight ∈ GW := gw_of (i := 954) (by decide +kernel) rfl
theorem gw955 : Cond.codeWith yL_isRight cL_isRight 4 (some .int) [(0, 16, 19, 21)] ∈ GW := gw_of (i := 955) (by decide +kernel) rfl
theorem gw1661 : Cond.methodLink RX12 363 yX12_isJoint ∈ GW := gw_of (i := 1661) (by decide +kernel) rfl
theorem gw1663 : Cond.instanceMethod yX12_isJoint ∈ GW := gw_of (i := 1663) (by decide +kernel) rfl
theorem gw57 : Cond.selects RX12 yX12_isJoint yX12_isJoint ∈ GW := gw_of (i := 57) (by decide +kernel) rfl
theorem gw1664 : Cond.code yX12_isJoint cX12_isJoint 2 (some .boolean) ∈ GW := gw_of (i := 1664) (by decide +kernel) rfl
theorem gw1657 : Cond.methodLink RL 165 yX12_isRight ∈ GW := gw_of (i := 1657) (by decide +kernel) rfl
theorem gw1658 : Cond.instanceMethod yX12_isRight ∈ GW := gw_of (i := 1658) (by decide +kernel) rfl
theorem gw1659 : Cond.selects RX12 yX12_isRight yX12_isRight ∈ GW := gw_of (i := 1659) (by decide +kernel) rfl
theorem gw1660 : Cond.code yX12_isRight cX12_isRight 2 (some .boolean) ∈ GW := gw_of (i := 1660) (by decide +kernel) rfl
theorem gw973 : Cond.methodLink RL 57 yX6_misread ∈ GW := gw_of (i := 973) (by decide +kernel) rfl
theorem gw974 : Cond.instanceMethod yX6_misread ∈ GW := gw_of (i := 974) (by decide +kernel) rfl
theorem gw975 : Cond.selects RX6 yX6_misread yX6_misread ∈ GW := gw_of (i := 975) (by decide +kernel) rfl
theorem gw976 : Cond.code yX6_misread cX6_misread 2 (some .int) ∈ GW := gw_of (i := 976) (by decide +kernel) rfl
theorem gw970 : Cond.methodLink RL 166 yL_misread ∈ GW := gw_of (i := 970) (by decide +kernel) rfl
theorem gw971 : Cond.static yL_misread ∈ GW := gw_of (i := 971) (by decide +kernel) rfl
theorem gw972 : Cond.codeWith yL_misread cL_misread 4 (some .int) [(0, 9, 12, 21)] ∈ GW := gw_of (i := 972) (by decide +kernel) rfl
theorem gw1670 : Cond.methodLink RL 168 yX12_misread ∈ GW := gw_of (i := 1670) (by decide +kernel) rfl
theorem gw1671 : Cond.instanceMethod yX12_misread ∈ GW := gw_of (i := 1671) (by decide +kernel) rfl
theorem gw1672 : Cond.selects RX12 yX12_misread yX12_misread ∈ GW := gw_of (i := 1672) (by decide +kernel) rfl
theorem gw1673 : Cond.code yX12_misread cX12_misread 2 (some .int) ∈ GW := gw_of (i := 1673) (by decide +kernel) rfl
theorem gw477 : Cond.methodLink RL 169 yX6_clashes ∈ GW := gw_of (i := 477) (by decide +kernel) rfl
theorem gw478 : Cond.instanceMethod yX6_clashes ∈ GW := gw_of (i := 478) (by decide +kernel) rfl
theorem gw479 : Cond.selects RX6 yX6_clashes yX6_clashes ∈ GW := gw_of (i := 479) (by decide +kernel) rfl
theorem gw480 : Cond.code yX6_clashes cX6_clashes 4 (some .int) ∈ GW := gw_of (i := 480) (by decide +kernel) rfl
theorem gw1678 : Cond.methodLink RL 172 yX12_clashes ∈ GW := gw_of (i := 1678) (by decide +kernel) rfl
theorem gw1679 : Cond.instanceMethod yX12_clashes ∈ GW := gw_of (i := 1679) (by decide +kernel) rfl
theorem gw1680 : Cond.selects RX12 yX12_clashes yX12_clashes ∈ GW := gw_of (i := 1680) (by decide +kernel) rfl
theorem gw1681 : Cond.code yX12_clashes cX12_clashes 4 (some .int) ∈ GW := gw_of (i := 1681) (by decide +kernel) rfl
theorem gw981 : Cond.methodLink RL 61 yX6_cutAt ∈ GW := gw_of (i := 981) (by decide +kernel) rfl
theorem gw982 : Cond.instanceMethod yX6_cutAt ∈ GW := gw_of (i := 982) (by decide +kernel) rfl
theorem gw983 : Cond.selects RX6 yX6_cutAt yX6_cutAt ∈ GW := gw_of (i := 983) (by decide +kernel) rfl
theorem gw984 : Cond.code yX6_cutAt cX6_cutAt 4 (some .int) ∈ GW := gw_of (i := 984) (by decide +kernel) rfl
theorem gw978 : Cond.methodLink RL 173 yL_cutAt ∈ GW := gw_of (i := 978) (by decide +kernel) rfl
theorem gw979 : Cond.static yL_cutAt ∈ GW := gw_of (i := 979) (by decide +kernel) rfl
theorem gw980 : Cond.codeWith yL_cutAt cL_cutAt 5 (some .int) [(0, 10, 13, 21), (0, 10, 17, 13)] ∈ GW := gw_of (i := 980) (by decide +kernel) rfl
theorem gw1682 : Cond.methodLink RL 176 yX12_cutAt ∈ GW := gw_of (i := 1682) (by decide +kernel) rfl
theorem gw1683 : Cond.instanceMethod yX12_cutAt ∈ GW := gw_of (i := 1683) (by decide +kernel) rfl
theorem gw1684 : Cond.selects RX12 yX12_cutAt yX12_cutAt ∈ GW := gw_of (i := 1684) (by decide +kernel) rfl
theorem gw1685 : Cond.code yX12_cutAt cX12_cutAt 4 (some .int) ∈ GW := gw_of (i := 1685) (by decide +kernel) rfl
theorem gw993 : Cond.methodLink RL 65 yX6_dry ∈ GW := gw_of (i := 993) (by decide +kernel) rfl
theorem gw994 : Cond.instanceMethod yX6_dry ∈ GW := gw_of (i := 994) (by decide +kernel) rfl
theorem gw995 : Cond.selects RX6 yX6_dry yX6_dry ∈ GW := gw_of (i := 995) (by decide +kernel) rfl
theorem gw996 : Cond.code yX6_dry cX6_dry 4 (some .int) ∈ GW := gw_of (i := 996) (by decide +kernel) rfl
theorem gw990 : Cond.methodLink RL 177 yL_dry ∈ GW := gw_of (i := 990) (by decide +kernel) rfl
theorem gw991 : Cond.static yL_dry ∈ GW := gw_of (i := 991) (by decide +kernel) rfl
theorem gw992 : Cond.codeWith yL_dry cL_dry 5 (some .int) [(0, 10, 13, 21), (0, 10, 17, 13)] ∈ GW := gw_of (i := 992) (by decide +kernel) rfl
theorem gw1686 : Cond.methodLink RL 179 yX12_dry ∈ GW := gw_of (i := 1686) (by decide +kernel) rfl
theorem gw1687 : Cond.instanceMethod yX12_dry ∈ GW := gw_of (i := 1687) (by decide +kernel) rfl
theorem gw1688 : Cond.selects RX12 yX12_dry yX12_dry ∈ GW := gw_of (i := 1688) (by decide +kernel) rfl
theorem gw1689 : Cond.code yX12_dry cX12_dry 4 (some .int) ∈ GW := gw_of (i := 1689) (by decide +kernel) rfl
theorem gw1000 : Cond.methodLink RL 68 yX6_gap ∈ GW := gw_of (i := 1000) (by decide +kernel) rfl
theorem gw1001 : Cond.instanceMethod yX6_gap ∈ GW := gw_of (i := 1001) (by decide +kernel) rfl
theorem gw1002 : Cond.selects RX6 yX6_gap yX6_gap ∈ GW := gw_of (i := 1002) (by decide +kernel) rfl
theorem gw1003 : Cond.code yX6_gap cX6_gap 2 (some .int) ∈ GW := gw_of (i := 1003) (by decide +kernel) rfl
theorem gw997 : Cond.methodLink RL 180 yL_gap ∈ GW := gw_of (i := 997) (by decide +kernel) rfl
theorem gw998 : Cond.static yL_gap ∈ GW := gw_of (i := 998) (by decide +kernel) rfl
theorem gw999 : Cond.codeWith yL_gap cL_gap 4 (some .int) [(0, 9, 12, 21)] ∈ GW := gw_of (i := 999) (by decide +kernel) rfl
theorem gw1690 : Cond.methodLink RL 182 yX12_gap ∈ GW := gw_of (i := 1690) (by decide +kernel) rfl
theorem gw1691 : Cond.instanceMethod yX12_gap ∈ GW := gw_of (i := 1691) (by decide +kernel) rfl
theorem gw1692 : Cond.selects RX12 yX12_gap yX12_gap ∈ GW := gw_of (i := 1692) (by decide +kernel) rfl
theorem gw1693 : Cond.code yX12_gap cX12_gap 2 (some .int) ∈ GW := gw_of (i := 1693) (by decide +kernel) rfl
theorem gw1011 : Cond.methodLink RL 71 yX6_widest ∈ GW := gw_of (i := 1011) (by decide +kernel) rfl
theorem gw1012 : Cond.instanceMethod yX6_widest ∈ GW := gw_of (i := 1012) (by decide +kernel) rfl
theorem gw1013 : Cond.selects RX6 yX6_widest yX6_widest ∈ GW := gw_of (i := 1013) (by decide +kernel) rfl
theorem gw1014 : Cond.code yX6_widest cX6_widest 3 (some .int) ∈ GW := gw_of (i := 1014) (by decide +kernel) rfl
theorem gw1008 : Cond.methodLink RL 183 yL_widest ∈ GW := gw_of (i := 1008) (by decide +kernel) rfl
theorem gw1009 : Cond.static yL_widest ∈ GW := gw_of (i := 1009) (by decide +kernel) rfl
theorem gw1010 : Cond.codeWith yL_widest cL_widest 3 (some .int) [(0, 8, 11, 46)] ∈ GW := gw_of (i := 1010) (by decide +kernel) rfl
theorem gw1698 : Cond.methodLink RL 185 yX12_widest ∈ GW := gw_of (i := 1698) (by decide +kernel) rfl
theorem gw1699 : Cond.instanceMethod yX12_widest ∈ GW := gw_of (i := 1699) (by decide +kernel) rfl
theorem gw1700 : Cond.selects RX12 yX12_widest yX12_widest ∈ GW := gw_of (i := 1700) (by decide +kernel) rfl
theorem gw1701 : Cond.code yX12_widest cX12_widest 3 (some .int) ∈ GW := gw_of (i := 1701) (by decide +kernel) rfl
theorem gw1019 : Cond.methodLink RL 74 yX6_stick ∈ GW := gw_of (i := 1019) (by decide +kernel) rfl
theorem gw1020 : Cond.instanceMethod yX6_stick ∈ GW := gw_of (i := 1020) (by decide +kernel) rfl
theorem gw1021 : Cond.selects RX6 yX6_stick yX6_stick ∈ GW := gw_of (i := 1021) (by decide +kernel) rfl
theorem gw1022 : Cond.code yX6_stick cX6_stick 4 (some .int) ∈ GW := gw_of (i := 1022) (by decide +kernel) rfl
theorem gw1016 : Cond.methodLink RL 186 yL_stick ∈ GW := gw_of (i := 1016) (by decide +kernel) rfl
theorem gw1017 : Cond.static yL_stick ∈ GW := gw_of (i := 1017) (by decide +kernel) rfl
theorem gw1018 : Cond.codeWith yL_stick cL_stick 6 (some .int) [(0, 12, 15, 13), (0, 12, 19, 15)] ∈ GW := gw_of (i := 1018) (by decide +kernel) rfl
theorem gw1702 : Cond.methodLink RL 188 yX12_stick ∈ GW := gw_of (i := 1702) (by decide +kernel) rfl
theorem gw1703 : Cond.instanceMethod yX12_stick ∈ GW := gw_of (i := 1703) (by decide +kernel) rfl
theorem gw1704 : Cond.selects RX12 yX12_stick yX12_stick ∈ GW := gw_of (i := 1704) (by decide +kernel) rfl
theorem gw1705 : Cond.code yX12_stick cX12_stick 4 (some .int) ∈ GW := gw_of (i := 1705) (by decide +kernel) rfl
theorem gw812 : Cond.methodLink RX6 88 yX6_isSection ∈ GW := gw_of (i := 812) (by decide +kernel) rfl
theorem gw813 : Cond.static yX6_isSection ∈ GW := gw_of (i := 813) (by decide +kernel) rfl
theorem gw814 : Cond.code yX6_isSection cX6_isSection 2 (some .boolean) ∈ GW := gw_of (i := 814) (by decide +kernel) rfl
theorem gw1025 : Cond.methodLink RX6 213 yX0_add ∈ GW := gw_of (i := 1025) (by decide +kernel) rfl
theorem gw1026 : Cond.instanceMethod yX0_add ∈ GW := gw_of (i := 1026) (by decide +kernel) rfl
theorem gw1027 : Cond.selects RX0 yX0_add yX0_add ∈ GW := gw_of (i := 1027) (by decide +kernel) rfl
theorem gw1028 : Cond.code yX0_add cX0_add 5 (some .int) ∈ GW := gw_of (i := 1028) (by decide +kernel) rfl
theorem gw1032 : Cond.methodLink RL 77 yX6_piece ∈ GW := gw_of (i := 1032) (by decide +kernel) rfl
theorem gw1033 : Cond.instanceMethod yX6_piece ∈ GW := gw_of (i := 1033) (by decide +kernel) rfl
theorem gw1034 : Cond.selects RX6 yX6_piece yX6_piece ∈ GW := gw_of (i := 1034) (by decide +kernel) rfl
theorem gw1035 : Cond.code yX6_piece cX6_piece 2 (some .int) ∈ GW := gw_of (i := 1035) (by decide +kernel) rfl
theorem gw1029 : Cond.methodLink RL 189 yL_piece ∈ GW := gw_of (i := 1029) (by decide +kernel) rfl
theorem gw1030 : Cond.static yL_piece ∈ GW := gw_of (i := 1030) (by decide +kernel) rfl
theorem gw1031 : Cond.codeWith yL_piece cL_piece 4 (some .int) [(0, 9, 12, 21)] ∈ GW := gw_of (i := 1031) (by decide +kernel) rfl
theorem gw1725 : Cond.methodLink RL 191 yX12_piece ∈ GW := gw_of (i := 1725) (by decide +kernel) rfl
theorem gw1726 : Cond.instanceMethod yX12_piece ∈ GW := gw_of (i := 1726) (by decide +kernel) rfl
theorem gw1727 : Cond.selects RX12 yX12_piece yX12_piece ∈ GW := gw_of (i := 1727) (by decide +kernel) rfl
theorem gw1728 : Cond.code yX12_piece cX12_piece 2 (some .int) ∈ GW := gw_of (i := 1728) (by decide +kernel) rfl
theorem gw1048 : Cond.methodLink RL 80 yX6_stickOf ∈ GW := gw_of (i := 1048) (by decide +kernel) rfl
theorem gw1049 : Cond.instanceMethod yX6_stickOf ∈ GW := gw_of (i := 1049) (by decide +kernel) rfl
theorem gw1050 : Cond.selects RX6 yX6_stickOf yX6_stickOf ∈ GW := gw_of (i := 1050) (by decide +kernel) rfl
theorem gw1051 : Cond.code yX6_stickOf cX6_stickOf 2 (some .int) ∈ GW := gw_of (i := 1051) (by decide +kernel) rfl
theorem gw1045 : Cond.methodLink RL 192 yL_stickOf ∈ GW := gw_of (i := 1045) (by decide +kernel) rfl
theorem gw1046 : Cond.static yL_stickOf ∈ GW := gw_of (i := 1046) (by decide +kernel) rfl
theorem gw1047 : Cond.codeWith yL_stickOf cL_stickOf 4 (some .int) [(0, 9, 12, 21), (0, 9, 15, 46)] ∈ GW := gw_of (i := 1047) (by decide +kernel) rfl
theorem gw1733 : Cond.methodLink RL 194 yX12_stickOf ∈ GW := gw_of (i := 1733) (by decide +kernel) rfl
theorem gw1734 : Cond.instanceMethod yX12_stickOf ∈ GW := gw_of (i := 1734) (by decide +kernel) rfl
theorem gw1735 : Cond.selects RX12 yX12_stickOf yX12_stickOf ∈ GW := gw_of (i := 1735) (by decide +kernel) rfl
theorem gw1736 : Cond.code yX12_stickOf cX12_stickOf 2 (some .int) ∈ GW := gw_of (i := 1736) (by decide +kernel) rfl
theorem gw1060 : Cond.methodLink RX0 56 yX0_measure ∈ GW := gw_of (i := 1060) (by decide +kernel) rfl
theorem gw1062 : Cond.instanceMethod yX0_measure ∈ GW := gw_of (i := 1062) (by decide +kernel) rfl
theorem gw24 : Cond.selects RX0 yX0_measure yX0_measure ∈ GW := gw_of (i := 24) (by decide +kernel) rfl
theorem gw1063 : Cond.code yX0_measure cX0_measure 8 none ∈ GW := gw_of (i := 1063) (by decide +kernel) rfl
theorem gw1079 : Cond.methodLink RX0 70 yX0_choose ∈ GW := gw_of (i := 1079) (by decide +kernel) rfl
theorem gw1081 : Cond.instanceMethod yX0_choose ∈ GW := gw_of (i := 1081) (by decide +kernel) rfl
theorem gw27 : Cond.selects RX0 yX0_choose yX0_choose ∈ GW := gw_of (i := 27) (by decide +kernel) rfl
theorem gw1082 : Cond.code yX0_choose cX0_choose 5 none ∈ GW := gw_of (i := 1082) (by decide +kernel) rfl
theorem gw1056 : Cond.methodLink RX6 290 yX0_find ∈ GW := gw_of (i := 1056) (by decide +kernel) rfl
theorem gw1057 : Cond.instanceMethod yX0_find ∈ GW := gw_of (i := 1057) (by decide +kernel) rfl
theorem gw1058 : Cond.selects RX0 yX0_find yX0_find ∈ GW := gw_of (i := 1058) (by decide +kernel) rfl
theorem gw1059 : Cond.code yX0_find cX0_find 5 none ∈ GW := gw_of (i := 1059) (by decide +kernel) rfl
theorem gw1052 : Cond.methodLink RX6 219 yX6_checkCut ∈ GW := gw_of (i := 1052) (by decide +kernel) rfl
theorem gw1054 : Cond.instanceMethod yX6_checkCut ∈ GW := gw_of (i := 1054) (by decide +kernel) rfl
theorem gw23 : Cond.selects RX6 yX6_checkCut yX6_checkCut ∈ GW := gw_of (i := 23) (by decide +kernel) rfl
theorem gw1055 : Cond.code yX6_checkCut cX6_checkCut 1 none ∈ GW := gw_of (i := 1055) (by decide +kernel) rfl
theorem gw1087 : Cond.methodLink RL 83 yX6_wood ∈ GW := gw_of (i := 1087) (by decide +kernel) rfl
theorem gw1088 : Cond.instanceMethod yX6_wood ∈ GW := gw_of (i := 1088) (by decide +kernel) rfl
theorem gw1089 : Cond.selects RX6 yX6_wood yX6_wood ∈ GW := gw_of (i := 1089) (by decide +kernel) rfl
theorem gw1090 : Cond.code yX6_wood cX6_wood 1 (some .int) ∈ GW := gw_of (i := 1090) (by decide +kernel) rfl
theorem gw1084 : Cond.methodLink RL 195 yL_wood ∈ GW := gw_of (i := 1084) (by decide +kernel) rfl
theorem gw1085 : Cond.static yL_wood ∈ GW := gw_of (i := 1085) (by decide +kernel) rfl
theorem gw1086 : Cond.codeWith yL_wood cL_wood 3 (some .int) [(0, 8, 11, 46)] ∈ GW := gw_of (i := 1086) (by decide +kernel) rfl
theorem gw1745 : Cond.methodLink RX12 271 yX12_sums ∈ GW := gw_of (i := 1745) (by decide +kernel) rfl
theorem gw1747 : Cond.instanceMethod yX12_sums ∈ GW := gw_of (i := 1747) (by decide +kernel) rfl
theorem gw63 : Cond.selects RX12 yX12_sums yX12_sums ∈ GW := gw_of (i := 63) (by decide +kernel) rfl
theorem gw1748 : Cond.code yX12_sums cX12_sums 4 none ∈ GW := gw_of (i := 1748) (by decide +kernel) rfl
theorem gw1754 : Cond.methodLink RX12 274 yX12_areEnough ∈ GW := gw_of (i := 1754) (by decide +kernel) rfl
theorem gw1756 : Cond.instanceMethod yX12_areEnough ∈ GW := gw_of (i := 1756) (by decide +kernel) rfl
theorem gw64 : Cond.selects RX12 yX12_areEnough yX12_areEnough ∈ GW := gw_of (i := 64) (by decide +kernel) rfl
theorem gw1757 : Cond.code yX12_areEnough cX12_areEnough 5 (some .boolean) ∈ GW := gw_of (i := 1757) (by decide +kernel) rfl
theorem gw1762 : Cond.methodLink RX12 249 yX12_cuts ∈ GW := gw_of (i := 1762) (by decide +kernel) rfl
theorem gw1764 : Cond.instanceMethod yX12_cuts ∈ GW := gw_of (i := 1764) (by decide +kernel) rfl
theorem gw66 : Cond.selects RX12 yX12_cuts yX12_cuts ∈ GW := gw_of (i := 66) (by decide +kernel) rfl
theorem gw1765 : Cond.code yX12_cuts cX12_cuts 8 (some .boolean) ∈ GW := gw_of (i := 1765) (by decide +kernel) rfl
theorem gw1741 : Cond.methodLink RX12 282 yX12_saws ∈ GW := gw_of (i := 1741) (by decide +kernel) rfl
theorem gw1743 : Cond.instanceMethod yX12_saws ∈ GW := gw_of (i := 1743) (by decide +kernel) rfl
theorem gw62 : Cond.selects RX12 yX12_saws yX12_saws ∈ GW := gw_of (i := 62) (by decide +kernel) rfl
theorem gw1744 : Cond.code yX12_saws cX12_saws 4 none ∈ GW := gw_of (i := 1744) (by decide +kernel) rfl
theorem gw1737 : Cond.methodLink RX12 389 yX12_areCut ∈ GW := gw_of (i := 1737) (by decide +kernel) rfl
theorem gw1739 : Cond.instanceMethod yX12_areCut ∈ GW := gw_of (i := 1739) (by decide +kernel) rfl
theorem gw61 : Cond.selects RX12 yX12_areCut yX12_areCut ∈ GW := gw_of (i := 61) (by decide +kernel) rfl
theorem gw1740 : Cond.code yX12_areCut cX12_areCut 1 (some .boolean) ∈ GW := gw_of (i := 1740) (by decide +kernel) rfl
theorem gw1770 : Cond.methodLink RL 197 yX12_wood ∈ GW := gw_of (i := 1770) (by decide +kernel) rfl
theorem gw1771 : Cond.instanceMethod yX12_wood ∈ GW := gw_of (i := 1771) (by decide +kernel) rfl
theorem gw1772 : Cond.selects RX12 yX12_wood yX12_wood ∈ GW := gw_of (i := 1772) (by decide +kernel) rfl
theorem gw1773 : Cond.code yX12_wood cX12_wood 1 (some .int) ∈ GW := gw_of (i := 1773) (by decide +kernel) rfl
theorem gw1094 : Cond.methodLink RL 86 yX6_waste ∈ GW := gw_of (i := 1094) (by decide +kernel) rfl
theorem gw1095 : Cond.instanceMethod yX6_waste ∈ GW := gw_of (i := 1095) (by decide +kernel) rfl
theorem gw1096 : Cond.selects RX6 yX6_waste yX6_waste ∈ GW := gw_of (i := 1096) (by decide +kernel) rfl
theorem gw1097 : Cond.code yX6_waste cX6_waste 2 (some .int) ∈ GW := gw_of (i := 1097) (by decide +kernel) rfl
theorem gw1091 : Cond.methodLink RL 198 yL_waste ∈ GW := gw_of (i := 1091) (by decide +kernel) rfl
theorem gw1092 : Cond.static yL_waste ∈ GW := gw_of (i := 1092) (by decide +kernel) rfl
theorem gw1093 : Cond.codeWith yL_waste cL_waste 4 (some .int) [(0, 9, 12, 21), (0, 9, 15, 46)] ∈ GW := gw_of (i := 1093) (by decide +kernel) rfl
theorem gw1774 : Cond.methodLink RL 200 yX12_waste ∈ GW := gw_of (i := 1774) (by decide +kernel) rfl
theorem gw1775 : Cond.instanceMethod yX12_waste ∈ GW := gw_of (i := 1775) (by decide +kernel) rfl
theorem gw1776 : Cond.selects RX12 yX12_waste yX12_waste ∈ GW := gw_of (i := 1776) (by decide +kernel) rfl
theorem gw1777 : Cond.code yX12_waste cX12_waste 4 (some .int) ∈ GW := gw_of (i := 1777) (by decide +kernel) rfl
theorem gw1106 : Cond.methodLink RL 89 yX6_setProps ∈ GW := gw_of (i := 1106) (by decide +kernel) rfl
theorem gw1107 : Cond.instanceMethod yX6_setProps ∈ GW := gw_of (i := 1107) (by decide +kernel) rfl
theorem gw1108 : Cond.selects RX6 yX6_setProps yX6_setProps ∈ GW := gw_of (i := 1108) (by decide +kernel) rfl
theorem gw1109 : Cond.code yX6_setProps cX6_setProps 3 (some .int) ∈ GW := gw_of (i := 1109) (by decide +kernel) rfl
theorem gw1103 : Cond.methodLink RL 201 yL_setProps ∈ GW := gw_of (i := 1103) (by decide +kernel) rfl
theorem gw1104 : Cond.static yL_setProps ∈ GW := gw_of (i := 1104) (by decide +kernel) rfl
theorem gw1105 : Cond.codeWith yL_setProps cL_setProps 4 (some .int) [(0, 9, 12, 13)] ∈ GW := gw_of (i := 1105) (by decide +kernel) rfl
theorem gw1778 : Cond.methodLink RL 203 yX12_setProps ∈ GW := gw_of (i := 1778) (by decide +kernel) rfl
theorem gw1779 : Cond.instanceMethod yX12_setProps ∈ GW := gw_of (i := 1779) (by decide +kernel) rfl
theorem gw1780 : Cond.selects RX12 yX12_setProps yX12_setProps ∈ GW := gw_of (i := 1780) (by decide +kernel) rfl
theorem gw1781 : Cond.code yX12_setProps cX12_setProps 3 (some .int) ∈ GW := gw_of (i := 1781) (by decide +kernel) rfl
theorem gw497 : Cond.methodLink RX4 46 yX4_gather ∈ GW := gw_of (i := 497) (by decide +kernel) rfl
theorem gw499 : Cond.instanceMethod yX4_gather ∈ GW := gw_of (i := 499) (by decide +kernel) rfl
theorem gw9 : Cond.selects RX4 yX4_gather yX4_gather ∈ GW := gw_of (i := 9) (by decide +kernel) rfl
theorem gw500 : Cond.code yX4_gather cX4_gather 6 none ∈ GW := gw_of (i := 500) (by decide +kernel) rfl
theorem gw513 : Cond.methodLink RX4 50 yX4_goForward ∈ GW := gw_of (i := 513) (by decide +kernel) rfl
theorem gw515 : Cond.instanceMethod yX4_goForward ∈ GW := gw_of (i := 515) (by decide +kernel) rfl
theorem gw10 : Cond.selects RX4 yX4_goForward yX4_goForward ∈ GW := gw_of (i := 10) (by decide +kernel) rfl
theorem gw516 : Cond.code yX4_goForward cX4_goForward 6 none ∈ GW := gw_of (i := 516) (by decide +kernel) rfl
theorem gw526 : Cond.methodLink RX4 54 yX4_goBackward ∈ GW := gw_of (i := 526) (by decide +kernel) rfl
theorem gw528 : Cond.instanceMethod yX4_goBackward ∈ GW := gw_of (i := 528) (by decide +kernel) rfl
theorem gw12 : Cond.selects RX4 yX4_goBackward yX4_goBackward ∈ GW := gw_of (i := 12) (by decide +kernel) rfl
theorem gw529 : Cond.code yX4_goBackward cX4_goBackward 6 none ∈ GW := gw_of (i := 529) (by decide +kernel) rfl
theorem gw530 : Cond.methodLink RX4 57 yX4_findOrder ∈ GW := gw_of (i := 530) (by decide +kernel) rfl
theorem gw532 : Cond.instanceMethod yX4_findOrder ∈ GW := gw_of (i := 532) (by decide +kernel) rfl
theorem gw13 : Cond.selects RX4 yX4_findOrder yX4_findOrder ∈ GW := gw_of (i := 13) (by decide +kernel) rfl
theorem gw533 : Cond.code yX4_findOrder cX4_findOrder 5 none ∈ GW := gw_of (i := 533) (by decide +kernel) rfl
theorem gw493 : Cond.methodLink RX6 247 yX4_find ∈ GW := gw_of (i := 493) (by decide +kernel) rfl
theorem gw494 : Cond.instanceMethod yX4_find ∈ GW := gw_of (i := 494) (by decide +kernel) rfl
theorem gw495 : Cond.selects RX4 yX4_find yX4_find ∈ GW := gw_of (i := 495) (by decide +kernel) rfl
theorem gw496 : Cond.code yX4_find cX4_find 3 none ∈ GW := gw_of (i := 496) (by decide +kernel) rfl
theorem gw538 : Cond.methodLink RX6 250 yX4_orderCount ∈ GW := gw_of (i := 538) (by decide +kernel) rfl
theorem gw539 : Cond.instanceMethod yX4_orderCount ∈ GW := gw_of (i := 539) (by decide +kernel) rfl
theorem gw540 : Cond.selects RX4 yX4_orderCount yX4_orderCount ∈ GW := gw_of (i := 540) (by decide +kernel) rfl
theorem gw541 : Cond.code yX4_orderCount cX4_orderCount 1 (some .int) ∈ GW := gw_of (i := 541) (by decide +kernel) rfl
theorem gw1118 : Cond.methodLink RX6 241 yX6_checkPlaceInOrder ∈ GW := gw_of (i := 1118) (by decide +kernel) rfl
theorem gw1120 : Cond.instanceMethod yX6_checkPlaceInOrder ∈ GW := gw_of (i := 1120) (by decide +kernel) rfl
theorem gw28 : Cond.selects RX6 yX6_checkPlaceInOrder yX6_checkPlaceInOrder ∈ GW := gw_of (i := 28) (by decide +kernel) rfl
theorem gw1121 : Cond.code yX6_checkPlaceInOrder cX6_checkPlaceInOrder 2 none ∈ GW := gw_of (i := 1121) (by decide +kernel) rfl
theorem gw1114 : Cond.methodLink RL 92 yX6_raised ∈ GW := gw_of (i := 1114) (by decide +kernel) rfl
theorem gw1115 : Cond.instanceMethod yX6_raised ∈ GW := gw_of (i := 1115) (by decide +kernel) rfl
theorem gw1116 : Cond.selects RX6 yX6_raised yX6_raised ∈ GW := gw_of (i := 1116) (by decide +kernel) rfl
theorem gw1117 : Cond.code yX6_raised cX6_raised 2 (some .int) ∈ GW := gw_of (i := 1117) (by decide +kernel) rfl
theorem gw1111 : Cond.methodLink RL 204 yL_raised ∈ GW := gw_of (i := 1111) (by decide +kernel) rfl
theorem gw1112 : Cond.static yL_raised ∈ GW := gw_of (i := 1112) (by decide +kernel) rfl
theorem gw1113 : Cond.codeWith yL_raised cL_raised 4 (some .int) [(0, 9, 12, 46), (0, 9, 15, 21)] ∈ GW := gw_of (i := 1113) (by decide +kernel) rfl
theorem gw1790 : Cond.methodLink RX12 392 yX12_raises ∈ GW := gw_of (i := 1790) (by decide +kernel) rfl
theorem gw1792 : Cond.instanceMethod yX12_raises ∈ GW := gw_of (i := 1792) (by decide +kernel) rfl
theorem gw69 : Cond.selects RX12 yX12_raises yX12_raises ∈ GW := gw_of (i := 69) (by decide +kernel) rfl
theorem gw1793 : Cond.code yX12_raises cX12_raises 5 none ∈ GW := gw_of (i := 1793) (by decide +kernel) rfl
theorem gw1786 : Cond.methodLink RX12 395 yX12_hasOrder ∈ GW := gw_of (i := 1786) (by decide +kernel) rfl
theorem gw1788 : Cond.instanceMethod yX12_hasOrder ∈ GW := gw_of (i := 1788) (by decide +kernel) rfl
theorem gw68 : Cond.selects RX12 yX12_hasOrder yX12_hasOrder ∈ GW := gw_of (i := 68) (by decide +kernel) rfl
theorem gw1789 : Cond.code yX12_hasOrder cX12_hasOrder 1 (some .boolean) ∈ GW := gw_of (i := 1789) (by decide +kernel) rfl
theorem gw1782 : Cond.methodLink RL 206 yX12_raised ∈ GW := gw_of (i := 1782) (by decide +kernel) rfl
theorem gw1783 : Cond.instanceMethod yX12_raised ∈ GW := gw_of (i := 1783) (by decide +kernel) rfl
theorem gw1784 : Cond.selects RX12 yX12_raised yX12_raised ∈ GW := gw_of (i := 1784) (by decide +kernel) rfl
theorem gw1785 : Cond.code yX12_raised cX12_raised 2 (some .int) ∈ GW := gw_of (i := 1785) (by decide +kernel) rfl
theorem gw489 : Cond.methodLink RL 207 yX6_canRaise ∈ GW := gw_of (i := 489) (by decide +kernel) rfl
theorem gw490 : Cond.instanceMethod yX6_canRaise ∈ GW := gw_of (i := 490) (by decide +kernel) rfl
theorem gw491 : Cond.selects RX6 yX6_canRaise yX6_canRaise ∈ GW := gw_of (i := 491) (by decide +kernel) rfl
theorem gw492 : Cond.code yX6_canRaise cX6_canRaise 1 (some .boolean) ∈ GW := gw_of (i := 492) (by decide +kernel) rfl
theorem gw1810 : Cond.methodLink RL 211 yX12_canRaise ∈ GW := gw_of (i := 1810) (by decide +kernel) rfl
theorem gw1811 : Cond.instanceMethod yX12_canRaise ∈ GW := gw_of (i := 1811) (by decide +kernel) rfl
theorem gw1812 : Cond.selects RX12 yX12_canRaise yX12_canRaise ∈ GW := gw_of (i := 1812) (by decide +kernel) rfl
theorem gw1813 : Cond.code yX12_canRaise cX12_canRaise 1 (some .boolean) ∈ GW := gw_of (i := 1813) (by decide +kernel) rfl
theorem gw542 : Cond.methodLink RL 212 yX6_canTakeAway ∈ GW := gw_of (i := 542) (by decide +kernel) rfl
theorem gw543 : Cond.instanceMethod yX6_canTakeAway ∈ GW := gw_of (i := 543) (by decide +kernel) rfl
theorem gw544 : Cond.selects RX6 yX6_canTakeAway yX6_canTakeAway ∈ GW := gw_of (i := 544) (by decide +kernel) rfl
theorem gw545 : Cond.code yX6_canTakeAway cX6_canTakeAway 1 (some .boolean) ∈ GW := gw_of (i := 545) (by decide +kernel) rfl
theorem gw1818 : Cond.methodLink RX12 398 yX12_isTakenAway ∈ GW := gw_of (i := 1818) (by decide +kernel) rfl
theorem gw1820 : Cond.instanceMethod yX12_isTakenAway ∈ GW := gw_of (i := 1820) (by decide +kernel) rfl
theorem gw73 : Cond.selects RX12 yX12_isTakenAway yX12_isTakenAway ∈ GW := gw_of (i := 73) (by decide +kernel) rfl
theorem gw1821 : Cond.code yX12_isTakenAway cX12_isTakenAway 5 (some .boolean) ∈ GW := gw_of (i := 1821) (by decide +kernel) rfl
theorem gw1814 : Cond.methodLink RL 215 yX12_canTakeAway ∈ GW := gw_of (i := 1814) (by decide +kernel) rfl
theorem gw1815 : Cond.instanceMethod yX12_canTakeAway ∈ GW := gw_of (i := 1815) (by decide +kernel) rfl
theorem gw1816 : Cond.selects RX12 yX12_canTakeAway yX12_canTakeAway ∈ GW := gw_of (i := 1816) (by decide +kernel) rfl
theorem gw1817 : Cond.code yX12_canTakeAway cX12_canTakeAway 1 (some .boolean) ∈ GW := gw_of (i := 1817) (by decide +kernel) rfl
theorem gw546 : Cond.methodLink RL 216 yX6_orders ∈ GW := gw_of (i := 546) (by decide +kernel) rfl
theorem gw547 : Cond.instanceMethod yX6_orders ∈ GW := gw_of (i := 547) (by decide +kernel) rfl
theorem gw548 : Cond.selects RX6 yX6_orders yX6_orders ∈ GW := gw_of (i := 548) (by decide +kernel) rfl
theorem gw549 : Cond.code yX6_orders cX6_orders 1 (some .int) ∈ GW := gw_of (i := 549) (by decide +kernel) rfl
theorem gw1822 : Cond.methodLink RL 219 yX12_orders ∈ GW := gw_of (i := 1822) (by decide +kernel) rfl
theorem gw1823 : Cond.instanceMethod yX12_orders ∈ GW := gw_of (i := 1823) (by decide +kernel) rfl
theorem gw1824 : Cond.selects RX12 yX12_orders yX12_orders ∈ GW := gw_of (i := 1824) (by decide +kernel) rfl
theorem gw1825 : Cond.code yX12_orders cX12_orders 1 (some .int) ∈ GW := gw_of (i := 1825) (by decide +kernel) rfl
theorem gw1127 : Cond.methodLink RL 95 yX6_props ∈ GW := gw_of (i := 1127) (by decide +kernel) rfl
theorem gw1128 : Cond.instanceMethod yX6_props ∈ GW := gw_of (i := 1128) (by decide +kernel) rfl
theorem gw1129 : Cond.selects RX6 yX6_props yX6_props ∈ GW := gw_of (i := 1129) (by decide +kernel) rfl
theorem gw1130 : Cond.code yX6_props cX6_props 4 (some .int) ∈ GW := gw_of (i := 1130) (by decide +kernel) rfl
theorem gw1124 : Cond.methodLink RL 220 yL_props ∈ GW := gw_of (i := 1124) (by decide +kernel) rfl
theorem gw1125 : Cond.static yL_props ∈ GW := gw_of (i := 1125) (by decide +kernel) rfl
theorem gw1126 : Cond.codeWith yL_props cL_props 4 (some .int) [(0, 9, 12, 46), (0, 9, 15, 21)] ∈ GW := gw_of (i := 1126) (by decide +kernel) rfl
theorem gw1826 : Cond.methodLink RL 222 yX12_props ∈ GW := gw_of (i := 1826) (by decide +kernel) rfl
theorem gw1827 : Cond.instanceMethod yX12_props ∈ GW := gw_of (i := 1827) (by decide +kernel) rfl
theorem gw1828 : Cond.selects RX12 yX12_props yX12_props ∈ GW := gw_of (i := 1828) (by decide +kernel) rfl
theorem gw1829 : Cond.code yX12_props cX12_props 4 (some .int) ∈ GW := gw_of (i := 1829) (by decide +kernel) rfl
theorem gw1139 : Cond.methodLink RX6 261 yX4_lowestStuck ∈ GW := gw_of (i := 1139) (by decide +kernel) rfl
theorem gw1140 : Cond.instanceMethod yX4_lowestStuck ∈ GW := gw_of (i := 1140) (by decide +kernel) rfl
theorem gw1141 : Cond.selects RX4 yX4_lowestStuck yX4_lowestStuck ∈ GW := gw_of (i := 1141) (by decide +kernel) rfl
theorem gw1142 : Cond.code yX4_lowestStuck cX4_lowestStuck 3 (some .int) ∈ GW := gw_of (i := 1142) (by decide +kernel) rfl
theorem gw1135 : Cond.methodLink RL 98 yX6_stuck ∈ GW := gw_of (i := 1135) (by decide +kernel) rfl
theorem gw1136 : Cond.instanceMethod yX6_stuck ∈ GW := gw_of (i := 1136) (by decide +kernel) rfl
theorem gw1137 : Cond.selects RX6 yX6_stuck yX6_stuck ∈ GW := gw_of (i := 1137) (by decide +kernel) rfl
theorem gw1138 : Cond.code yX6_stuck cX6_stuck 2 (some .int) ∈ GW := gw_of (i := 1138) (by decide +kernel) rfl
theorem gw1132 : Cond.methodLink RL 223 yL_stuck ∈ GW := gw_of (i := 1132) (by decide +kernel) rfl
theorem gw1133 : Cond.static yL_stuck ∈ GW := gw_of (i := 1133) (by decide +kernel) rfl
theorem gw1134 : Cond.codeWith yL_stuck cL_stuck 3 (some .int) [(0, 8, 11, 46)] ∈ GW := gw_of (i := 1134) (by decide +kernel) rfl
theorem gw1830 : Cond.methodLink RL 225 yX12_stuck ∈ GW := gw_of (i := 1830) (by decide +kernel) rfl
theorem gw1831 : Cond.instanceMethod yX12_stuck ∈ GW := gw_of (i := 1831) (by decide +kernel) rfl
theorem gw1832 : Cond.selects RX12 yX12_stuck yX12_stuck ∈ GW := gw_of (i := 1832) (by decide +kernel) rfl
theorem gw1833 : Cond.code yX12_stuck cX12_stuck 3 (some .int) ∈ GW := gw_of (i := 1833) (by decide +kernel) rfl
theorem gw1147 : Cond.methodLink RL 101 yX6_allForce ∈ GW := gw_of (i := 1147) (by decide +kernel) rfl
theorem gw1148 : Cond.instanceMethod yX6_allForce ∈ GW := gw_of (i := 1148) (by decide +kernel) rfl
theorem gw1149 : Cond.selects RX6 yX6_allForce yX6_allForce ∈ GW := gw_of (i := 1149) (by decide +kernel) rfl
theorem gw1150 : Cond.code yX6_allForce cX6_allForce 4 (some .long) ∈ GW := gw_of (i := 1150) (by decide +kernel) rfl
theorem gw1144 : Cond.methodLink RL 226 yL_allForce ∈ GW := gw_of (i := 1144) (by decide +kernel) rfl
theorem gw1145 : Cond.static yL_allForce ∈ GW := gw_of (i := 1145) (by decide +kernel) rfl
theorem gw1146 : Cond.codeWith yL_allForce cL_allForce 3 (some .int) [(0, 7, 10, 15)] ∈ GW := gw_of (i := 1146) (by decide +kernel) rfl
theorem gw1576 : Cond.methodLink RX12 326 yX12_tellLong ∈ GW := gw_of (i := 1576) (by decide +kernel) rfl
theorem gw1578 : Cond.instanceMethod yX12_tellLong ∈ GW := gw_of (i := 1578) (by decide +kernel) rfl
theorem gw51 : Cond.selects RX12 yX12_tellLong yX12_tellLong ∈ GW := gw_of (i := 51) (by decide +kernel) rfl
theorem gw1579 : Cond.code yX12_tellLong cX12_tellLong 3 (some .long) ∈ GW := gw_of (i := 1579) (by decide +kernel) rfl
theorem gw1834 : Cond.methodLink RL 228 yX12_allForce ∈ GW := gw_of (i := 1834) (by decide +kernel) rfl
theorem gw1835 : Cond.instanceMethod yX12_allForce ∈ GW := gw_of (i := 1835) (by decide +kernel) rfl
theorem gw1836 : Cond.selects RX12 yX12_allForce yX12_allForce ∈ GW := gw_of (i := 1836) (by decide +kernel) rfl
theorem gw1837 : Cond.code yX12_allForce cX12_allForce 4 (some .long) ∈ GW := gw_of (i := 1837) (by decide +kernel) rfl
theorem gw1168 : Cond.methodLink RL 105 yX6_rightShare ∈ GW := gw_of (i := 1168) (by decide +kernel) rfl
theorem gw1169 : Cond.instanceMethod yX6_rightShare ∈ GW := gw_of (i := 1169) (by decide +kernel) rfl
theorem gw1170 : Cond.selects RX6 yX6_rightShare yX6_rightShare ∈ GW := gw_of (i := 1170) (by decide +kernel) rfl
theorem gw1171 : Cond.code yX6_rightShare cX6_rightShare 3 (some .float) ∈ GW := gw_of (i := 1171) (by decide +kernel) rfl
theorem gw1151 : Cond.methodLink RL 229 yL_rightShare ∈ GW := gw_of (i := 1151) (by decide +kernel) rfl
theorem gw1152 : Cond.static yL_rightShare ∈ GW := gw_of (i := 1152) (by decide +kernel) rfl
theorem gw1153 : Cond.codeWith yL_rightShare cL_rightShare 3 (some .int) [(0, 8, 11, 109)] ∈ GW := gw_of (i := 1153) (by decide +kernel) rfl
theorem gw1842 : Cond.methodLink RX12 401 yJx4a65c_isEmpty_aae02 ∈ GW := gw_of (i := 1842) (by decide +kernel) rfl
theorem gw1843 : Cond.instanceMethod yJx4a65c_isEmpty_aae02 ∈ GW := gw_of (i := 1843) (by decide +kernel) rfl
theorem gw1844 : Cond.selects RJx4a65c yJx4a65c_isEmpty_aae02 yJx4a65c_isEmpty_aae02 ∈ GW := gw_of (i := 1844) (by decide +kernel) rfl
theorem gw1845 : Cond.code yJx4a65c_isEmpty_aae02 cJx4a65c_isEmpty_aae02 1 (some .boolean) ∈ GW := gw_of (i := 1845) (by decide +kernel) rfl
theorem gw1838 : Cond.methodLink RL 232 yX12_rightShare ∈ GW := gw_of (i := 1838) (by decide +kernel) rfl
theorem gw1839 : Cond.instanceMethod yX12_rightShare ∈ GW := gw_of (i := 1839) (by decide +kernel) rfl
theorem gw1840 : Cond.selects RX12 yX12_rightShare yX12_rightShare ∈ GW := gw_of (i := 1840) (by decide +kernel) rfl
theorem gw1841 : Cond.code yX12_rightShare cX12_rightShare 3 (some .float) ∈ GW := gw_of (i := 1841) (by decide +kernel) rfl
theorem gw1177 : Cond.methodLink RL 111 yX6_meanPull ∈ GW := gw_of (i := 1177) (by decide +kernel) rfl
theorem gw1178 : Cond.instanceMethod yX6_meanPull ∈ GW := gw_of (i := 1178) (by decide +kernel) rfl
theorem gw1179 : Cond.selects RX6 yX6_meanPull yX6_meanPull ∈ GW := gw_of (i := 1179) (by decide +kernel) rfl
theorem gw1180 : Cond.code yX6_meanPull cX6_meanPull 1 (some .double) ∈ GW := gw_of (i := 1180) (by decide +kernel) rfl
theorem gw1174 : Cond.methodLink RL 233 yL_meanPull ∈ GW := gw_of (i := 1174) (by decide +kernel) rfl
theorem gw1175 : Cond.static yL_meanPull ∈ GW := gw_of (i := 1175) (by decide +kernel) rfl
theorem gw1176 : Cond.codeWith yL_meanPull cL_meanPull 3 (some .int) [(0, 7, 10, 15), (0, 7, 13, 109)] ∈ GW := gw_of (i := 1176) (by decide +kernel) rfl
theorem gw1846 : Cond.methodLink RL 235 yX12_meanPull ∈ GW := gw_of (i := 1846) (by decide +kernel) rfl
theorem gw1847 : Cond.instanceMethod yX12_meanPull ∈ GW := gw_of (i := 1847) (by decide +kernel) rfl
theorem gw1848 : Cond.selects RX12 yX12_meanPull yX12_meanPull ∈ GW := gw_of (i := 1848) (by decide +kernel) rfl
theorem gw1849 : Cond.code yX12_meanPull cX12_meanPull 4 (some .double) ∈ GW := gw_of (i := 1849) (by decide +kernel) rfl
theorem gw567 : Cond.methodLink RX6 273 yX6_canRaise ∈ GW := gw_of (i := 567) (by decide +kernel) rfl
theorem gw568 : Cond.methodLink RX6 277 yX6_canTakeAway ∈ GW := gw_of (i := 568) (by decide +kernel) rfl
theorem gw550 : Cond.methodLink RL 236 yX6_isSound ∈ GW := gw_of (i := 550) (by decide +kernel) rfl
theorem gw551 : Cond.instanceMethod yX6_isSound ∈ GW := gw_of (i := 551) (by decide +kernel) rfl
theorem gw552 : Cond.selects RX6 yX6_isSound yX6_isSound ∈ GW := gw_of (i := 552) (by decide +kernel) rfl
theorem gw553 : Cond.code yX6_isSound cX6_isSound 2 (some .boolean) ∈ GW := gw_of (i := 553) (by decide +kernel) rfl
theorem gw1850 : Cond.methodLink RL 239 yX12_isSound ∈ GW := gw_of (i := 1850) (by decide +kernel) rfl
theorem gw1851 : Cond.instanceMethod yX12_isSound ∈ GW := gw_of (i := 1851) (by decide +kernel) rfl
theorem gw1852 : Cond.selects RX12 yX12_isSound yX12_isSound ∈ GW := gw_of (i := 1852) (by decide +kernel) rfl
theorem gw1853 : Cond.code yX12_isSound cX12_isSound 1 (some .boolean) ∈ GW := gw_of (i := 1853) (by decide +kernel) rfl
theorem gw112 : Cond.classLink RL 8 RX6 ∈ GW := gw_of (i := 112) (by decide +kernel) rfl
theorem gw1187 : Cond.classLink RL 116 RX12 ∈ GW := gw_of (i := 1187) (by decide +kernel) rfl
theorem gw113 : Cond.instantiable RX6 5 ∈ GW := gw_of (i := 113) (by decide +kernel) rfl
theorem gw1188 : Cond.instantiable RX12 27 ∈ GW := gw_of (i := 1188) (by decide +kernel) rfl
theorem gw114 : Cond.methodLink RL 115 yX6_init ∈ GW := gw_of (i := 114) (by decide +kernel) rfl
theorem gw1189 : Cond.methodLink RL 118 yX12_init ∈ GW := gw_of (i := 1189) (by decide +kernel) rfl
theorem gw1854 : Cond.arrayClass .double ∈ GW := gw_of (i := 1854) (by decide +kernel) rfl
theorem gw115 : Cond.instanceMethod yX6_init ∈ GW := gw_of (i := 115) (by decide +kernel) rfl
theorem gw116 : Cond.code yX6_init cX6_init 1 none ∈ GW := gw_of (i := 116) (by decide +kernel) rfl
theorem gw1190 : Cond.instanceMethod yX12_init ∈ GW := gw_of (i := 1190) (by decide +kernel) rfl
theorem gw1191 : Cond.code yX12_init cX12_init 1 none ∈ GW := gw_of (i := 1191) (by decide +kernel) rfl
theorem inX6 : ∀ w ∈ u_ws RX6 TX6 5, w ∈ GW := fun w hw => List.mem_filter.mpr ((show ∀ w ∈ u_ws RX6 TX6 5, w ∈ lw_tbl ∧ goodWord w = true by decide +kernel) w hw)
theorem inX0 : ∀ w ∈ u_ws RX0 TX0 11, w ∈ GW := fun w hw => List.mem_filter.mpr ((show ∀ w ∈ u_ws RX0 TX0 11, w ∈ lw_tbl ∧ goodWord w = true by decide +kernel) w hw)
theorem inX1 : ∀ w ∈ u_ws RX1 TX1 17, w ∈ GW := fun w hw => List.mem_filter.mpr ((show ∀ w ∈ u_ws RX1 TX1 17, w ∈ lw_tbl ∧ goodWord w = true by decide +kernel) w hw)
theorem inX2 : ∀ w ∈ u_ws RX2 TX2 12, w ∈ GW := fun w hw => List.mem_filter.mpr ((show ∀ w ∈ u_ws RX2 TX2 12, w ∈ lw_tbl ∧ goodWord w = true by decide +kernel) w hw)
theorem inX3 : ∀ w ∈ u_ws RX3 TX3 6, w ∈ GW := fun w hw => List.mem_filter.mpr ((show ∀ w ∈ u_ws RX3 TX3 6, w ∈ lw_tbl ∧ goodWord w = true by decide +kernel) w hw)
theorem inX4 : ∀ w ∈ u_ws RX4 TX4 9, w ∈ GW := fun w hw => List.mem_filter.mpr ((show ∀ w ∈ u_ws RX4 TX4 9, w ∈ lw_tbl ∧ goodWord w = true by decide +kernel) w hw)
theorem inX5 : ∀ w ∈ u_ws RX5 TX5 1, w ∈ GW := fun w hw => List.mem_filter.mpr ((show ∀ w ∈ u_ws RX5 TX5 1, w ∈ lw_tbl ∧ goodWord w = true by decide +kernel) w hw)
theorem inX12 : ∀ w ∈ u_ws RX12 TX12 27, w ∈ GW := fun w hw => List.mem_filter.mpr ((show ∀ w ∈ u_ws RX12 TX12 27, w ∈ lw_tbl ∧ goodWord w = true by decide +kernel) w hw)
theorem inX7 : ∀ w ∈ u_ws RX7 TX7 5, w ∈ GW := fun w hw => List.mem_filter.mpr ((show ∀ w ∈ u_ws RX7 TX7 5, w ∈ lw_tbl ∧ goodWord w = true by decide +kernel) w hw)
theorem inX8 : ∀ w ∈ u_ws RX8 TX8 6, w ∈ GW := fun w hw => List.mem_filter.mpr ((show ∀ w ∈ u_ws RX8 TX8 6, w ∈ lw_tbl ∧ goodWord w = true by decide +kernel) w hw)
theorem inX9 : ∀ w ∈ u_ws RX9 TX9 6, w ∈ GW := fun w hw => List.mem_filter.mpr ((show ∀ w ∈ u_ws RX9 TX9 6, w ∈ lw_tbl ∧ goodWord w = true by decide +kernel) w hw)
theorem inX10 : ∀ w ∈ u_ws RX10 TX10 3, w ∈ GW := fun w hw => List.mem_filter.mpr ((show ∀ w ∈ u_ws RX10 TX10 3, w ∈ lw_tbl ∧ goodWord w = true by decide +kernel) w hw)
theorem inX11 : ∀ w ∈ u_ws RX11 TX11 1, w ∈ GW := fun w hw => List.mem_filter.mpr ((show ∀ w ∈ u_ws RX11 TX11 1, w ∈ lw_tbl ∧ goodWord w = true by decide +kernel) w hw)
theorem inJx00060 : ∀ w ∈ u_ws RJx00060 TJx00060 6, w ∈ GW := fun w hw => List.mem_filter.mpr ((show ∀ w ∈ u_ws RJx00060 TJx00060 6, w ∈ lw_tbl ∧ goodWord w = true by decide +kernel) w hw)
theorem inJ0 : ∀ w ∈ u_ws RJ0 TJ0 2, w ∈ GW := fun w hw => List.mem_filter.mpr ((show ∀ w ∈ u_ws RJ0 TJ0 2, w ∈ lw_tbl ∧ goodWord w = true by decide +kernel) w hw)
theorem inJx4a65c : ∀ w ∈ u_ws RJx4a65c TJx4a65c 3, w ∈ GW := fun w hw => List.mem_filter.mpr ((show ∀ w ∈ u_ws RJx4a65c TJx4a65c 3, w ∈ lw_tbl ∧ goodWord w = true by decide +kernel) w hw)
theorem pd_X2_init : yX2_init.cls = RX2 ∧ yX2_init.cls ≠ "java/lang/invoke/MethodHandle" ∧ yX2_init.cls ≠ "java/lang/invoke/VarHandle" ∧ (parseMethodDescriptor yX2_init.desc).map (fun d => d.parameters.length) = some 0 := ⟨rfl, by decide +kernel, by decide +kernel, by decide +kernel⟩
theorem pd_X5_init : yX5_init.cls = RX5 ∧ yX5_init.cls ≠ "java/lang/invoke/MethodHandle" ∧ yX5_init.cls ≠ "java/lang/invoke/VarHandle" ∧ (parseMethodDescriptor yX5_init.desc).map (fun d => d.parameters.length) = some 0 := ⟨rfl, by decide +kernel, by decide +kernel, by decide +kernel⟩
theorem pd_X1_init : yX1_init.cls = RX1 ∧ yX1_init.cls ≠ "java/lang/invoke/MethodHandle" ∧ yX1_init.cls ≠ "java/lang/invoke/VarHandle" ∧ (parseMethodDescriptor yX1_init.desc).map (fun d => d.parameters.length) = some 0 := ⟨rfl, by decide +kernel, by decide +kernel, by decide +kernel⟩
theorem pd_X3_init : yX3_init.cls = RX3 ∧ yX3_init.cls ≠ "java/lang/invoke/MethodHandle" ∧ yX3_init.cls ≠ "java/lang/invoke/VarHandle" ∧ (parseMethodDescriptor yX3_init.desc).map (fun d => d.parameters.length) = some 0 := ⟨rfl, by decide +kernel, by decide +kernel, by decide +kernel⟩
theorem pd_X0_init : yX0_init.cls = RX0 ∧ yX0_init.cls ≠ "java/lang/invoke/MethodHandle" ∧ yX0_init.cls ≠ "java/lang/invoke/VarHandle" ∧ (parseMethodDescriptor yX0_init.desc).map (fun d => d.parameters.length) = some 0 := ⟨rfl, by decide +kernel, by decide +kernel, by decide +kernel⟩
theorem pd_X4_init : yX4_init.cls = RX4 ∧ yX4_init.cls ≠ "java/lang/invoke/MethodHandle" ∧ yX4_init.cls ≠ "java/lang/invoke/VarHandle" ∧ (parseMethodDescriptor yX4_init.desc).map (fun d => d.parameters.length) = some 0 := ⟨rfl, by decide +kernel, by decide +kernel, by decide +kernel⟩
theorem pd_Jxa1e45_init_da8c8 : yJxa1e45_init_da8c8.cls = RJxa1e45 ∧ yJxa1e45_init_da8c8.cls ≠ "java/lang/invoke/MethodHandle" ∧ yJxa1e45_init_da8c8.cls ≠ "java/lang/invoke/VarHandle" ∧ (parseMethodDescriptor yJxa1e45_init_da8c8.desc).map (fun d => d.parameters.length) = some 0 := ⟨rfl, by decide +kernel, by decide +kernel, by decide +kernel⟩
theorem pd_Jxc12de_init_da8c8 : yJxc12de_init_da8c8.cls = RJxc12de ∧ yJxc12de_init_da8c8.cls ≠ "java/lang/invoke/MethodHandle" ∧ yJxc12de_init_da8c8.cls ≠ "java/lang/invoke/VarHandle" ∧ (parseMethodDescriptor yJxc12de_init_da8c8.desc).map (fun d => d.parameters.length) = some 0 := ⟨rfl, by decide +kernel, by decide +kernel, by decide +kernel⟩
theorem pd_Jx4a65c_init_da8c8 : yJx4a65c_init_da8c8.cls = RJx4a65c ∧ yJx4a65c_init_da8c8.cls ≠ "java/lang/invoke/MethodHandle" ∧ yJx4a65c_init_da8c8.cls ≠ "java/lang/invoke/VarHandle" ∧ (parseMethodDescriptor yJx4a65c_init_da8c8.desc).map (fun d => d.parameters.length) = some 0 := ⟨rfl, by decide +kernel, by decide +kernel, by decide +kernel⟩
theorem pd_X6_isWithin : yX6_isWithin.cls = RX6 ∧ yX6_isWithin.cls ≠ "java/lang/invoke/MethodHandle" ∧ yX6_isWithin.cls ≠ "java/lang/invoke/VarHandle" ∧ (parseMethodDescriptor yX6_isWithin.desc).map (fun d => d.parameters.length) = some 3 := ⟨rfl, by decide +kernel, by decide +kernel, by decide +kernel⟩
theorem pd_X6_node : yX6_node.cls = RX6 ∧ yX6_node.cls ≠ "java/lang/invoke/MethodHandle" ∧ yX6_node.cls ≠ "java/lang/invoke/VarHandle" ∧ (parseMethodDescriptor yX6_node.desc).map (fun d => d.parameters.length) = some 3 := ⟨rfl, by decide +kernel, by decide +kernel, by decide +kernel⟩
theorem pd_L_node : yL_node.cls = RL ∧ yL_node.cls ≠ "java/lang/invoke/MethodHandle" ∧ yL_node.cls ≠ "java/lang/invoke/VarHandle" ∧ (parseMethodDescriptor yL_node.desc).map (fun d => d.parameters.length) = some 5 := ⟨rfl, by decide +kernel, by decide +kernel, by decide +kernel⟩
theorem pd_X12_in : yX12_in.cls = RX12 ∧ yX12_in.cls ≠ "java/lang/invoke/MethodHandle" ∧ yX12_in.cls ≠ "java/lang/invoke/VarHandle" ∧ (parseMethodDescriptor yX12_in.desc).map (fun d => d.parameters.length) = some 3 := ⟨rfl, by decide +kernel, by decide +kernel, by decide +kernel⟩
theorem pd_X12_fails : yX12_fails.cls = RX12 ∧ yX12_fails.cls ≠ "java/lang/invoke/MethodHandle" ∧ yX12_fails.cls ≠ "java/lang/invoke/VarHandle" ∧ (parseMethodDescriptor yX12_fails.desc).map (fun d => d.parameters.length) = some 1 := ⟨rfl, by decide +kernel, by decide +kernel, by decide +kernel⟩
theorem pd_X12_node : yX12_node.cls = RX12 ∧ yX12_node.cls ≠ "java/lang/invoke/MethodHandle" ∧ yX12_node.cls ≠ "java/lang/invoke/VarHandle" ∧ (parseMethodDescriptor yX12_node.desc).map (fun d => d.parameters.length) = some 3 := ⟨rfl, by decide +kernel, by decide +kernel, by decide +kernel⟩
theorem pd_X12_thrown : yX12_thrown.cls = RX12 ∧ yX12_thrown.cls ≠ "java/lang/invoke/MethodHandle" ∧ yX12_thrown.cls ≠ "java/lang/invoke/VarHandle" ∧ (parseMethodDescriptor yX12_thrown.desc).map (fun d => d.parameters.length) = some 0 := ⟨rfl, by decide +kernel, by decide +kernel, by decide +kernel⟩
theorem pd_J0_isLatin1_aae02 : yJ0_isLatin1_aae02.cls = RJ0 ∧ yJ0_isLatin1_aae02.cls ≠ "java/lang/invoke/MethodHandle" ∧ yJ0_isLatin1_aae02.cls ≠ "java/lang/invoke/VarHandle" ∧ (parseMethodDescriptor yJ0_isLatin1_aae02.desc).map (fun d => d.parameters.length) = some 0 := ⟨rfl, by decide +kernel, by decide +kernel, by decide +kernel⟩
theorem pd_J0_coder_7d493 : yJ0_coder_7d493.cls = RJ0 ∧ yJ0_coder_7d493.cls ≠ "java/lang/invoke/MethodHandle" ∧ yJ0_coder_7d493.cls ≠ "java/lang/invoke/VarHandle" ∧ (parseMethodDescriptor yJ0_coder_7d493.desc).map (fun d => d.parameters.length) = some 0 := ⟨rfl, by decide +kernel, by decide +kernel, by decide +kernel⟩
theorem pd_J0_length_8abf5 : yJ0_length_8abf5.cls = RJ0 ∧ yJ0_length_8abf5.cls ≠ "java/lang/invoke/MethodHandle" ∧ yJ0_length_8abf5.cls ≠ "java/lang/invoke/VarHandle" ∧ (parseMethodDescriptor yJ0_length_8abf5.desc).map (fun d => d.parameters.length) = some 0 := ⟨rfl, by decide +kernel, by decide +kernel, by decide +kernel⟩
theorem pd_J1_canEncode_9a6ad : yJ1_canEncode_9a6ad.cls = RJ1 ∧ yJ1_canEncode_9a6ad.cls ≠ "java/lang/invoke/MethodHandle" ∧ yJ1_canEncode_9a6ad.cls ≠ "java/lang/invoke/VarHandle" ∧ (parseMethodDescriptor yJ1_canEncode_9a6ad.desc).map (fun d => d.parameters.length) = some 1 := ⟨rfl, by decide +kernel, by decide +kernel, by decide +kernel⟩
theorem pd_J1_indexOf_4cfef : yJ1_indexOf_4cfef.cls = RJ1 ∧ yJ1_indexOf_4cfef.cls ≠ "java/lang/invoke/MethodHandle" ∧ yJ1_indexOf_4cfef.cls ≠ "java/lang/invoke/VarHandle" ∧ (parseMethodDescriptor yJ1_indexOf_4cfef.desc).map (fun d => d.parameters.length) = some 4 := ⟨rfl, by decide +kernel, by decide +kernel, by decide +kernel⟩
theorem pd_J0_indexOf_7cf53 : yJ0_indexOf_7cf53.cls = RJ0 ∧ yJ0_indexOf_7cf53.cls ≠ "java/lang/invoke/MethodHandle" ∧ yJ0_indexOf_7cf53.cls ≠ "java/lang/invoke/VarHandle" ∧ (parseMethodDescriptor yJ0_indexOf_7cf53.desc).map (fun d => d.parameters.length) = some 2 := ⟨rfl, by decide +kernel, by decide +kernel, by decide +kernel⟩
theorem pd_J0_indexOf_0f7a4 : yJ0_indexOf_0f7a4.cls = RJ0 ∧ yJ0_indexOf_0f7a4.cls ≠ "java/lang/invoke/MethodHandle" ∧ yJ0_indexOf_0f7a4.cls ≠ "java/lang/invoke/VarHandle" ∧ (parseMethodDescriptor yJ0_indexOf_0f7a4.desc).map (fun d => d.parameters.length) = some 1 := ⟨rfl, by decide +kernel, by decide +kernel, by decide +kernel⟩
theorem pd_J1_indexOfChar_4cfef : yJ1_indexOfChar_4cfef.cls = RJ1 ∧ yJ1_indexOfChar_4cfef.cls ≠ "java/lang/invoke/MethodHandle" ∧ yJ1_indexOfChar_4cfef.cls ≠ "java/lang/invoke/VarHandle" ∧ (parseMethodDescriptor yJ1_indexOfChar_4cfef.desc).map (fun d => d.parameters.length) = some 4 := ⟨rfl, by decide +kernel, by decide +kernel, by decide +kernel⟩
theorem pd_X2_addNode : yX2_addNode.cls = RX2 ∧ yX2_addNode.cls ≠ "java/lang/invoke/MethodHandle" ∧ yX2_addNode.cls ≠ "java/lang/invoke/VarHandle" ∧ (parseMethodDescriptor yX2_addNode.desc).map (fun d => d.parameters.length) = some 3 := ⟨rfl, by decide +kernel, by decide +kernel, by decide +kernel⟩
theorem pd_Jx4a65c_size_8abf5 : yJx4a65c_size_8abf5.cls = RJx4a65c ∧ yJx4a65c_size_8abf5.cls ≠ "java/lang/invoke/MethodHandle" ∧ yJx4a65c_size_8abf5.cls ≠ "java/lang/invoke/VarHandle" ∧ (parseMethodDescriptor yJx4a65c_size_8abf5.desc).map (fun d => d.parameters.length) = some 0 := ⟨rfl, by decide +kernel, by decide +kernel, by decide +kernel⟩
theorem pd_X9_init : yX9_init.cls = RX9 ∧ yX9_init.cls ≠ "java/lang/invoke/MethodHandle" ∧ yX9_init.cls ≠ "java/lang/invoke/VarHandle" ∧ (parseMethodDescriptor yX9_init.desc).map (fun d => d.parameters.length) = some 3 := ⟨rfl, by decide +kernel, by decide +kernel, by decide +kernel⟩
theorem pd_Jx4a65c_grow_92f84 : yJx4a65c_grow_92f84.cls = RJx4a65c ∧ yJx4a65c_grow_92f84.cls ≠ "java/lang/invoke/MethodHandle" ∧ yJx4a65c_grow_92f84.cls ≠ "java/lang/invoke/VarHandle" ∧ (parseMethodDescriptor yJx4a65c_grow_92f84.desc).map (fun d => d.parameters.length) = some 1 := ⟨rfl, by decide +kernel, by decide +kernel, by decide +kernel⟩
theorem pd_Jx4a65c_grow_d5877 : yJx4a65c_grow_d5877.cls = RJx4a65c ∧ yJx4a65c_grow_d5877.cls ≠ "java/lang/invoke/MethodHandle" ∧ yJx4a65c_grow_d5877.cls ≠ "java/lang/invoke/VarHandle" ∧ (parseMethodDescriptor yJx4a65c_grow_d5877.desc).map (fun d => d.parameters.length) = some 0 := ⟨rfl, by decide +kernel, by decide +kernel, by decide +kernel⟩
theorem pd_Jx4a65c_add_72be8 : yJx4a65c_add_72be8.cls = RJx4a65c ∧ yJx4a65c_add_72be8.cls ≠ "java/lang/invoke/MethodHandle" ∧ yJx4a65c_add_72be8.cls ≠ "java/lang/invoke/VarHandle" ∧ (parseMethodDescriptor yJx4a65c_add_72be8.desc).map (fun d => d.parameters.length) = some 3 := ⟨rfl, by decide +kernel, by decide +kernel, by decide +kernel⟩
theorem pd_Jx4a65c_add_9ea2d : yJx4a65c_add_9ea2d.cls = RJx4a65c ∧ yJx4a65c_add_9ea2d.cls ≠ "java/lang/invoke/MethodHandle" ∧ yJx4a65c_add_9ea2d.cls ≠ "java/lang/invoke/VarHandle" ∧ (parseMethodDescriptor yJx4a65c_add_9ea2d.desc).map (fun d => d.parameters.length) = some 1 := ⟨rfl, by decide +kernel, by decide +kernel, by decide +kernel⟩
theorem pd_X12_changes : yX12_changes.cls = RX12 ∧ yX12_changes.cls ≠ "java/lang/invoke/MethodHandle" ∧ yX12_changes.cls ≠ "java/lang/invoke/VarHandle" ∧ (parseMethodDescriptor yX12_changes.desc).map (fun d => d.parameters.length) = some 0 := ⟨rfl, by decide +kernel, by decide +kernel, by decide +kernel⟩
theorem pd_X12_tell : yX12_tell.cls = RX12 ∧ yX12_tell.cls ≠ "java/lang/invoke/MethodHandle" ∧ yX12_tell.cls ≠ "java/lang/invoke/VarHandle" ∧ (parseMethodDescriptor yX12_tell.desc).map (fun d => d.parameters.length) = some 1 := ⟨rfl, by decide +kernel, by decide +kernel, by decide +kernel⟩
theorem pd_X6_checkNode : yX6_checkNode.cls = RX6 ∧ yX6_checkNode.cls ≠ "java/lang/invoke/MethodHandle" ∧ yX6_checkNode.cls ≠ "java/lang/invoke/VarHandle" ∧ (parseMethodDescriptor yX6_checkNode.desc).map (fun d => d.parameters.length) = some 1 := ⟨rfl, by decide +kernel, by decide +kernel, by decide +kernel⟩
theorem pd_X6_member : yX6_member.cls = RX6 ∧ yX6_member.cls ≠ "java/lang/invoke/MethodHandle" ∧ yX6_member.cls ≠ "java/lang/invoke/VarHandle" ∧ (parseMethodDescriptor yX6_member.desc).map (fun d => d.parameters.length) = some 4 := ⟨rfl, by decide +kernel, by decide +kernel, by decide +kernel⟩
theorem pd_L_member : yL_member.cls = RL ∧ yL_member.cls ≠ "java/lang/invoke/MethodHandle" ∧ yL_member.cls ≠ "java/lang/invoke/VarHandle" ∧ (parseMethodDescriptor yL_member.desc).map (fun d => d.parameters.length) = some 6 := ⟨rfl, by decide +kernel, by decide +kernel, by decide +kernel⟩
theorem pd_X12_isNode : yX12_isNode.cls = RX12 ∧ yX12_isNode.cls ≠ "java/lang/invoke/MethodHandle" ∧ yX12_isNode.cls ≠ "java/lang/invoke/VarHandle" ∧ (parseMethodDescriptor yX12_isNode.desc).map (fun d => d.parameters.length) = some 1 := ⟨rfl, by decide +kernel, by decide +kernel, by decide +kernel⟩
theorem pd_X12_member : yX12_member.cls = RX12 ∧ yX12_member.cls ≠ "java/lang/invoke/MethodHandle" ∧ yX12_member.cls ≠ "java/lang/invoke/VarHandle" ∧ (parseMethodDescriptor yX12_member.desc).map (fun d => d.parameters.length) = some 4 := ⟨rfl, by decide +kernel, by decide +kernel, by decide +kernel⟩
theorem pd_X6_load : yX6_load.cls = RX6 ∧ yX6_load.cls ≠ "java/lang/invoke/MethodHandle" ∧ yX6_load.cls ≠ "java/lang/invoke/VarHandle" ∧ (parseMethodDescriptor yX6_load.desc).map (fun d => d.parameters.length) = some 3 := ⟨rfl, by decide +kernel, by decide +kernel, by decide +kernel⟩
theorem pd_L_load : yL_load.cls = RL ∧ yL_load.cls ≠ "java/lang/invoke/MethodHandle" ∧ yL_load.cls ≠ "java/lang/invoke/VarHandle" ∧ (parseMethodDescriptor yL_load.desc).map (fun d => d.parameters.length) = some 5 := ⟨rfl, by decide +kernel, by decide +kernel, by decide +kernel⟩
theorem pd_X12_load : yX12_load.cls = RX12 ∧ yX12_load.cls ≠ "java/lang/invoke/MethodHandle" ∧ yX12_load.cls ≠ "java/lang/invoke/VarHandle" ∧ (parseMethodDescriptor yX12_load.desc).map (fun d => d.parameters.length) = some 3 := ⟨rfl, by decide +kernel, by decide +kernel, by decide +kernel⟩
theorem pd_X1_fillRows : yX1_fillRows.cls = RX1 ∧ yX1_fillRows.cls ≠ "java/lang/invoke/MethodHandle" ∧ yX1_fillRows.cls ≠ "java/lang/invoke/VarHandle" ∧ (parseMethodDescriptor yX1_fillRows.desc).map (fun d => d.parameters.length) = some 1 := ⟨rfl, by decide +kernel, by decide +kernel, by decide +kernel⟩
theorem pd_J6_bitCount_0f7a4 : yJ6_bitCount_0f7a4.cls = RJ6 ∧ yJ6_bitCount_0f7a4.cls ≠ "java/lang/invoke/MethodHandle" ∧ yJ6_bitCount_0f7a4.cls ≠ "java/lang/invoke/VarHandle" ∧ (parseMethodDescriptor yJ6_bitCount_0f7a4.desc).map (fun d => d.parameters.length) = some 1 := ⟨rfl, by decide +kernel, by decide +kernel, by decide +kernel⟩
theorem pd_X1_findDeterminants : yX1_findDeterminants.cls = RX1 ∧ yX1_findDeterminants.cls ≠ "java/lang/invoke/MethodHandle" ∧ yX1_findDeterminants.cls ≠ "java/lang/invoke/VarHandle" ∧ (parseMethodDescriptor yX1_findDeterminants.desc).map (fun d => d.parameters.length) = some 1 := ⟨rfl, by decide +kernel, by decide +kernel, by decide +kernel⟩
theorem pd_X1_findPulls : yX1_findPulls.cls = RX1 ∧ yX1_findPulls.cls ≠ "java/lang/invoke/MethodHandle" ∧ yX1_findPulls.cls ≠ "java/lang/invoke/VarHandle" ∧ (parseMethodDescriptor yX1_findPulls.desc).map (fun d => d.parameters.length) = some 1 := ⟨rfl, by decide +kernel, by decide +kernel, by decide +kernel⟩
theorem pd_X1_findBearings : yX1_findBearings.cls = RX1 ∧ yX1_findBearings.cls ≠ "java/lang/invoke/MethodHandle" ∧ yX1_findBearings.cls ≠ "java/lang/invoke/VarHandle" ∧ (parseMethodDescriptor yX1_findBearings.desc).map (fun d => d.parameters.length) = some 1 := ⟨rfl, by decide +kernel, by decide +kernel, by decide +kernel⟩
theorem pd_X5_set : yX5_set.cls = RX5 ∧ yX5_set.cls ≠ "java/lang/invoke/MethodHandle" ∧ yX5_set.cls ≠ "java/lang/invoke/VarHandle" ∧ (parseMethodDescriptor yX5_set.desc).map (fun d => d.parameters.length) = some 1 := ⟨rfl, by decide +kernel, by decide +kernel, by decide +kernel⟩
theorem pd_X1_findAmounts : yX1_findAmounts.cls = RX1 ∧ yX1_findAmounts.cls ≠ "java/lang/invoke/MethodHandle" ∧ yX1_findAmounts.cls ≠ "java/lang/invoke/VarHandle" ∧ (parseMethodDescriptor yX1_findAmounts.desc).map (fun d => d.parameters.length) = some 1 := ⟨rfl, by decide +kernel, by decide +kernel, by decide +kernel⟩
theorem pd_X1_find : yX1_find.cls = RX1 ∧ yX1_find.cls ≠ "java/lang/invoke/MethodHandle" ∧ yX1_find.cls ≠ "java/lang/invoke/VarHandle" ∧ (parseMethodDescriptor yX1_find.desc).map (fun d => d.parameters.length) = some 1 := ⟨rfl, by decide +kernel, by decide +kernel, by decide +kernel⟩
theorem pd_X6_state : yX6_state.cls = RX6 ∧ yX6_state.cls ≠ "java/lang/invoke/MethodHandle" ∧ yX6_state.cls ≠ "java/lang/invoke/VarHandle" ∧ (parseMethodDescriptor yX6_state.desc).map (fun d => d.parameters.length) = some 0 := ⟨rfl, by decide +kernel, by decide +kernel, by decide +kernel⟩
theorem pd_X12_unknowns : yX12_unknowns.cls = RX12 ∧ yX12_unknowns.cls ≠ "java/lang/invoke/MethodHandle" ∧ yX12_unknowns.cls ≠ "java/lang/invoke/VarHandle" ∧ (parseMethodDescriptor yX12_unknowns.desc).map (fun d => d.parameters.length) = some 0 := ⟨rfl, by decide +kernel, by decide +kernel, by decide +kernel⟩
theorem pd_X12_determinant : yX12_determinant.cls = RX12 ∧ yX12_determinant.cls ≠ "java/lang/invoke/MethodHandle" ∧ yX12_determinant.cls ≠ "java/lang/invoke/VarHandle" ∧ (parseMethodDescriptor yX12_determinant.desc).map (fun d => d.parameters.length) = some 1 := ⟨rfl, by decide +kernel, by decide +kernel, by decide +kernel⟩
theorem pd_X12_reckons : yX12_reckons.cls = RX12 ∧ yX12_reckons.cls ≠ "java/lang/invoke/MethodHandle" ∧ yX12_reckons.cls ≠ "java/lang/invoke/VarHandle" ∧ (parseMethodDescriptor yX12_reckons.desc).map (fun d => d.parameters.length) = some 0 := ⟨rfl, by decide +kernel, by decide +kernel, by decide +kernel⟩
theorem pd_X12_state : yX12_state.cls = RX12 ∧ yX12_state.cls ≠ "java/lang/invoke/MethodHandle" ∧ yX12_state.cls ≠ "java/lang/invoke/VarHandle" ∧ (parseMethodDescriptor yX12_state.desc).map (fun d => d.parameters.length) = some 0 := ⟨rfl, by decide +kernel, by decide +kernel, by decide +kernel⟩
theorem pd_X6_checkMember : yX6_checkMember.cls = RX6 ∧ yX6_checkMember.cls ≠ "java/lang/invoke/MethodHandle" ∧ yX6_checkMember.cls ≠ "java/lang/invoke/VarHandle" ∧ (parseMethodDescriptor yX6_checkMember.desc).map (fun d => d.parameters.length) = some 1 := ⟨rfl, by decide +kernel, by decide +kernel, by decide +kernel⟩
theorem pd_X6_force : yX6_force.cls = RX6 ∧ yX6_force.cls ≠ "java/lang/invoke/MethodHandle" ∧ yX6_force.cls ≠ "java/lang/invoke/VarHandle" ∧ (parseMethodDescriptor yX6_force.desc).map (fun d => d.parameters.length) = some 1 := ⟨rfl, by decide +kernel, by decide +kernel, by decide +kernel⟩
theorem pd_L_force : yL_force.cls = RL ∧ yL_force.cls ≠ "java/lang/invoke/MethodHandle" ∧ yL_force.cls ≠ "java/lang/invoke/VarHandle" ∧ (parseMethodDescriptor yL_force.desc).map (fun d => d.parameters.length) = some 3 := ⟨rfl, by decide +kernel, by decide +kernel, by decide +kernel⟩
theorem pd_X12_isMember : yX12_isMember.cls = RX12 ∧ yX12_isMember.cls ≠ "java/lang/invoke/MethodHandle" ∧ yX12_isMember.cls ≠ "java/lang/invoke/VarHandle" ∧ (parseMethodDescriptor yX12_isMember.desc).map (fun d => d.parameters.length) = some 1 := ⟨rfl, by decide +kernel, by decide +kernel, by decide +kernel⟩
theorem pd_X12_failsLong : yX12_failsLong.cls = RX12 ∧ yX12_failsLong.cls ≠ "java/lang/invoke/MethodHandle" ∧ yX12_failsLong.cls ≠ "java/lang/invoke/VarHandle" ∧ (parseMethodDescriptor yX12_failsLong.desc).map (fun d => d.parameters.length) = some 1 := ⟨rfl, by decide +kernel, by decide +kernel, by decide +kernel⟩
theorem pd_X12_force : yX12_force.cls = RX12 ∧ yX12_force.cls ≠ "java/lang/invoke/MethodHandle" ∧ yX12_force.cls ≠ "java/lang/invoke/VarHandle" ∧ (parseMethodDescriptor yX12_force.desc).map (fun d => d.parameters.length) = some 1 := ⟨rfl, by decide +kernel, by decide +kernel, by decide +kernel⟩
theorem pd_X6_pull : yX6_pull.cls = RX6 ∧ yX6_pull.cls ≠ "java/lang/invoke/MethodHandle" ∧ yX6_pull.cls ≠ "java/lang/invoke/VarHandle" ∧ (parseMethodDescriptor yX6_pull.desc).map (fun d => d.parameters.length) = some 1 := ⟨rfl, by decide +kernel, by decide +kernel, by decide +kernel⟩
theorem pd_L_pull : yL_pull.cls = RL ∧ yL_pull.cls ≠ "java/lang/invoke/MethodHandle" ∧ yL_pull.cls ≠ "java/lang/invoke/VarHandle" ∧ (parseMethodDescriptor yL_pull.desc).map (fun d => d.parameters.length) = some 3 := ⟨rfl, by decide +kernel, by decide +kernel, by decide +kernel⟩
theorem pd_X12_pull : yX12_pull.cls = RX12 ∧ yX12_pull.cls ≠ "java/lang/invoke/MethodHandle" ∧ yX12_pull.cls ≠ "java/lang/invoke/VarHandle" ∧ (parseMethodDescriptor yX12_pull.desc).map (fun d => d.parameters.length) = some 1 := ⟨rfl, by decide +kernel, by decide +kernel, by decide +kernel⟩
theorem pd_X6_bearing : yX6_bearing.cls = RX6 ∧ yX6_bearing.cls ≠ "java/lang/invoke/MethodHandle" ∧ yX6_bearing.cls ≠ "java/lang/invoke/VarHandle" ∧ (parseMethodDescriptor yX6_bearing.desc).map (fun d => d.parameters.length) = some 2 := ⟨rfl, by decide +kernel, by decide +kernel, by decide +kernel⟩
theorem pd_L_bearing : yL_bearing.cls = RL ∧ yL_bearing.cls ≠ "java/lang/invoke/MethodHandle" ∧ yL_bearing.cls ≠ "java/lang/invoke/VarHandle" ∧ (parseMethodDescriptor yL_bearing.desc).map (fun d => d.parameters.length) = some 4 := ⟨rfl, by decide +kernel, by decide +kernel, by decide +kernel⟩
theorem pd_X12_bearing : yX12_bearing.cls = RX12 ∧ yX12_bearing.cls ≠ "java/lang/invoke/MethodHandle" ∧ yX12_bearing.cls ≠ "java/lang/invoke/VarHandle" ∧ (parseMethodDescriptor yX12_bearing.desc).map (fun d => d.parameters.length) = some 2 := ⟨rfl, by decide +kernel, by decide +kernel, by decide +kernel⟩
theorem pd_X6_isBalanced : yX6_isBalanced.cls = RX6 ∧ yX6_isBalanced.cls ≠ "java/lang/invoke/MethodHandle" ∧ yX6_isBalanced.cls ≠ "java/lang/invoke/VarHandle" ∧ (parseMethodDescriptor yX6_isBalanced.desc).map (fun d => d.parameters.length) = some 1 := ⟨rfl, by decide +kernel, by decide +kernel, by decide +kernel⟩
theorem pd_L_isBalanced : yL_isBalanced.cls = RL ∧ yL_isBalanced.cls ≠ "java/lang/invoke/MethodHandle" ∧ yL_isBalanced.cls ≠ "java/lang/invoke/VarHandle" ∧ (parseMethodDescriptor yL_isBalanced.desc).map (fun d => d.parameters.length) = some 3 := ⟨rfl, by decide +kernel, by decide +kernel, by decide +kernel⟩
theorem pd_X12_refuses : yX12_refuses.cls = RX12 ∧ yX12_refuses.cls ≠ "java/lang/invoke/MethodHandle" ∧ yX12_refuses.cls ≠ "java/lang/invoke/VarHandle" ∧ (parseMethodDescriptor yX12_refuses.desc).map (fun d => d.parameters.length) = some 1 := ⟨rfl, by decide +kernel, by decide +kernel, by decide +kernel⟩
theorem pd_X12_isBalanced : yX12_isBalanced.cls = RX12 ∧ yX12_isBalanced.cls ≠ "java/lang/invoke/MethodHandle" ∧ yX12_isBalanced.cls ≠ "java/lang/invoke/VarHandle" ∧ (parseMethodDescriptor yX12_isBalanced.desc).map (fun d => d.parameters.length) = some 1 := ⟨rfl, by decide +kernel, by decide +kernel, by decide +kernel⟩
theorem pd_X6_checkStanding : yX6_checkStanding.cls = RX6 ∧ yX6_checkStanding.cls ≠ "java/lang/invoke/MethodHandle" ∧ yX6_checkStanding.cls ≠ "java/lang/invoke/VarHandle" ∧ (parseMethodDescriptor yX6_checkStanding.desc).map (fun d => d.parameters.length) = some 0 := ⟨rfl, by decide +kernel, by decide +kernel, by decide +kernel⟩
theorem pd_X1_holdsAlong : yX1_holdsAlong.cls = RX1 ∧ yX1_holdsAlong.cls ≠ "java/lang/invoke/MethodHandle" ∧ yX1_holdsAlong.cls ≠ "java/lang/invoke/VarHandle" ∧ (parseMethodDescriptor yX1_holdsAlong.desc).map (fun d => d.parameters.length) = some 3 := ⟨rfl, by decide +kernel, by decide +kernel, by decide +kernel⟩
theorem pd_X1_holdsAt : yX1_holdsAt.cls = RX1 ∧ yX1_holdsAt.cls ≠ "java/lang/invoke/MethodHandle" ∧ yX1_holdsAt.cls ≠ "java/lang/invoke/VarHandle" ∧ (parseMethodDescriptor yX1_holdsAt.desc).map (fun d => d.parameters.length) = some 2 := ⟨rfl, by decide +kernel, by decide +kernel, by decide +kernel⟩
theorem pd_X12_stands : yX12_stands.cls = RX12 ∧ yX12_stands.cls ≠ "java/lang/invoke/MethodHandle" ∧ yX12_stands.cls ≠ "java/lang/invoke/VarHandle" ∧ (parseMethodDescriptor yX12_stands.desc).map (fun d => d.parameters.length) = some 0 := ⟨rfl, by decide +kernel, by decide +kernel, by decide +kernel⟩
theorem pd_X12_restOf : yX12_restOf.cls = RX12 ∧ yX12_restOf.cls ≠ "java/lang/invoke/MethodHandle" ∧ yX12_restOf.cls ≠ "java/lang/invoke/VarHandle" ∧ (parseMethodDescriptor yX12_restOf.desc).map (fun d => d.parameters.length) = some 2 := ⟨rfl, by decide +kernel, by decide +kernel, by decide +kernel⟩
theorem pd_X12_tells : yX12_tells.cls = RX12 ∧ yX12_tells.cls ≠ "java/lang/invoke/MethodHandle" ∧ yX12_tells.cls ≠ "java/lang/invoke/VarHandle" ∧ (parseMethodDescriptor yX12_tells.desc).map (fun d => d.parameters.length) = some 1 := ⟨rfl, by decide +kernel, by decide +kernel, by decide +kernel⟩
theorem pd_X6_weakest : yX6_weakest.cls = RX6 ∧ yX6_weakest.cls ≠ "java/lang/invoke/MethodHandle" ∧ yX6_weakest.cls ≠ "java/lang/invoke/VarHandle" ∧ (parseMethodDescriptor yX6_weakest.desc).map (fun d => d.parameters.length) = some 0 := ⟨rfl, by decide +kernel, by decide +kernel, by decide +kernel⟩
theorem pd_L_weakest : yL_weakest.cls = RL ∧ yL_weakest.cls ≠ "java/lang/invoke/MethodHandle" ∧ yL_weakest.cls ≠ "java/lang/invoke/VarHandle" ∧ (parseMethodDescriptor yL_weakest.desc).map (fun d => d.parameters.length) = some 2 := ⟨rfl, by decide +kernel, by decide +kernel, by decide +kernel⟩
theorem pd_X12_weakest : yX12_weakest.cls = RX12 ∧ yX12_weakest.cls ≠ "java/lang/invoke/MethodHandle" ∧ yX12_weakest.cls ≠ "java/lang/invoke/VarHandle" ∧ (parseMethodDescriptor yX12_weakest.desc).map (fun d => d.parameters.length) = some 0 := ⟨rfl, by decide +kernel, by decide +kernel, by decide +kernel⟩
theorem pd_X6_joint : yX6_joint.cls = RX6 ∧ yX6_joint.cls ≠ "java/lang/invoke/MethodHandle" ∧ yX6_joint.cls ≠ "java/lang/invoke/VarHandle" ∧ (parseMethodDescriptor yX6_joint.desc).map (fun d => d.parameters.length) = some 5 := ⟨rfl, by decide +kernel, by decide +kernel, by decide +kernel⟩
theorem pd_L_joint : yL_joint.cls = RL ∧ yL_joint.cls ≠ "java/lang/invoke/MethodHandle" ∧ yL_joint.cls ≠ "java/lang/invoke/VarHandle" ∧ (parseMethodDescriptor yL_joint.desc).map (fun d => d.parameters.length) = some 7 := ⟨rfl, by decide +kernel, by decide +kernel, by decide +kernel⟩
theorem pd_X12_joint : yX12_joint.cls = RX12 ∧ yX12_joint.cls ≠ "java/lang/invoke/MethodHandle" ∧ yX12_joint.cls ≠ "java/lang/invoke/VarHandle" ∧ (parseMethodDescriptor yX12_joint.desc).map (fun d => d.parameters.length) = some 5 := ⟨rfl, by decide +kernel, by decide +kernel, by decide +kernel⟩
theorem pd_X6_checkJoint : yX6_checkJoint.cls = RX6 ∧ yX6_checkJoint.cls ≠ "java/lang/invoke/MethodHandle" ∧ yX6_checkJoint.cls ≠ "java/lang/invoke/VarHandle" ∧ (parseMethodDescriptor yX6_checkJoint.desc).map (fun d => d.parameters.length) = some 1 := ⟨rfl, by decide +kernel, by decide +kernel, by decide +kernel⟩
theorem pd_X6_isRight : yX6_isRight.cls = RX6 ∧ yX6_isRight.cls ≠ "java/lang/invoke/MethodHandle" ∧ yX6_isRight.cls ≠ "java/lang/invoke/VarHandle" ∧ (parseMethodDescriptor yX6_isRight.desc).map (fun d => d.parameters.length) = some 1 := ⟨rfl, by decide +kernel, by decide +kernel, by decide +kernel⟩
theorem pd_L_isRight : yL_isRight.cls = RL ∧ yL_isRight.cls ≠ "java/lang/invoke/MethodHandle" ∧ yL_isRight.cls ≠ "java/lang/invoke/VarHandle" ∧ (parseMethodDescriptor yL_isRight.desc).map (fun d => d.parameters.length) = some 3 := ⟨rfl, by decide +kernel, by decide +kernel, by decide +kernel⟩
theorem pd_X12_isJoint : yX12_isJoint.cls = RX12 ∧ yX12_isJoint.cls ≠ "java/lang/invoke/MethodHandle" ∧ yX12_isJoint.cls ≠ "java/lang/invoke/VarHandle" ∧ (parseMethodDescriptor yX12_isJoint.desc).map (fun d => d.parameters.length) = some 1 := ⟨rfl, by decide +kernel, by decide +kernel, by decide +kernel⟩
theorem pd_X12_isRight : yX12_isRight.cls = RX12 ∧ yX12_isRight.cls ≠ "java/lang/invoke/MethodHandle" ∧ yX12_isRight.cls ≠ "java/lang/invoke/VarHandle" ∧ (parseMethodDescriptor yX12_isRight.desc).map (fun d => d.parameters.length) = some 1 := ⟨rfl, by decide +kernel, by decide +kernel, by decide +kernel⟩
theorem pd_X6_misread : yX6_misread.cls = RX6 ∧ yX6_misread.cls ≠ "java/lang/invoke/MethodHandle" ∧ yX6_misread.cls ≠ "java/lang/invoke/VarHandle" ∧ (parseMethodDescriptor yX6_misread.desc).map (fun d => d.parameters.length) = some 1 := ⟨rfl, by decide +kernel, by decide +kernel, by decide +kernel⟩
theorem pd_L_misread : yL_misread.cls = RL ∧ yL_misread.cls ≠ "java/lang/invoke/MethodHandle" ∧ yL_misread.cls ≠ "java/lang/invoke/VarHandle" ∧ (parseMethodDescriptor yL_misread.desc).map (fun d => d.parameters.length) = some 3 := ⟨rfl, by decide +kernel, by decide +kernel, by decide +kernel⟩
theorem pd_X12_misread : yX12_misread.cls = RX12 ∧ yX12_misread.cls ≠ "java/lang/invoke/MethodHandle" ∧ yX12_misread.cls ≠ "java/lang/invoke/VarHandle" ∧ (parseMethodDescriptor yX12_misread.desc).map (fun d => d.parameters.length) = some 1 := ⟨rfl, by decide +kernel, by decide +kernel, by decide +kernel⟩
theorem pd_X6_clashes : yX6_clashes.cls = RX6 ∧ yX6_clashes.cls ≠ "java/lang/invoke/MethodHandle" ∧ yX6_clashes.cls ≠ "java/lang/invoke/VarHandle" ∧ (parseMethodDescriptor yX6_clashes.desc).map (fun d => d.parameters.length) = some 0 := ⟨rfl, by decide +kernel, by decide +kernel, by decide +kernel⟩
theorem pd_X12_clashes : yX12_clashes.cls = RX12 ∧ yX12_clashes.cls ≠ "java/lang/invoke/MethodHandle" ∧ yX12_clashes.cls ≠ "java/lang/invoke/VarHandle" ∧ (parseMethodDescriptor yX12_clashes.desc).map (fun d => d.parameters.length) = some 0 := ⟨rfl, by decide +kernel, by decide +kernel, by decide +kernel⟩
theorem pd_X6_cutAt : yX6_cutAt.cls = RX6 ∧ yX6_cutAt.cls ≠ "java/lang/invoke/MethodHandle" ∧ yX6_cutAt.cls ≠ "java/lang/invoke/VarHandle" ∧ (parseMethodDescriptor yX6_cutAt.desc).map (fun d => d.parameters.length) = some 2 := ⟨rfl, by decide +kernel, by decide +kernel, by decide +kernel⟩
theorem pd_L_cutAt : yL_cutAt.cls = RL ∧ yL_cutAt.cls ≠ "java/lang/invoke/MethodHandle" ∧ yL_cutAt.cls ≠ "java/lang/invoke/VarHandle" ∧ (parseMethodDescriptor yL_cutAt.desc).map (fun d => d.parameters.length) = some 4 := ⟨rfl, by decide +kernel, by decide +kernel, by decide +kernel⟩
theorem pd_X12_cutAt : yX12_cutAt.cls = RX12 ∧ yX12_cutAt.cls ≠ "java/lang/invoke/MethodHandle" ∧ yX12_cutAt.cls ≠ "java/lang/invoke/VarHandle" ∧ (parseMethodDescriptor yX12_cutAt.desc).map (fun d => d.parameters.length) = some 2 := ⟨rfl, by decide +kernel, by decide +kernel, by decide +kernel⟩
theorem pd_X6_dry : yX6_dry.cls = RX6 ∧ yX6_dry.cls ≠ "java/lang/invoke/MethodHandle" ∧ yX6_dry.cls ≠ "java/lang/invoke/VarHandle" ∧ (parseMethodDescriptor yX6_dry.desc).map (fun d => d.parameters.length) = some 2 := ⟨rfl, by decide +kernel, by decide +kernel, by decide +kernel⟩
theorem pd_L_dry : yL_dry.cls = RL ∧ yL_dry.cls ≠ "java/lang/invoke/MethodHandle" ∧ yL_dry.cls ≠ "java/lang/invoke/VarHandle" ∧ (parseMethodDescriptor yL_dry.desc).map (fun d => d.parameters.length) = some 4 := ⟨rfl, by decide +kernel, by decide +kernel, by decide +kernel⟩
theorem pd_X12_dry : yX12_dry.cls = RX12 ∧ yX12_dry.cls ≠ "java/lang/invoke/MethodHandle" ∧ yX12_dry.cls ≠ "java/lang/invoke/VarHandle" ∧ (parseMethodDescriptor yX12_dry.desc).map (fun d => d.parameters.length) = some 2 := ⟨rfl, by decide +kernel, by decide +kernel, by decide +kernel⟩
theorem pd_X6_gap : yX6_gap.cls = RX6 ∧ yX6_gap.cls ≠ "java/lang/invoke/MethodHandle" ∧ yX6_gap.cls ≠ "java/lang/invoke/VarHandle" ∧ (parseMethodDescriptor yX6_gap.desc).map (fun d => d.parameters.length) = some 1 := ⟨rfl, by decide +kernel, by decide +kernel, by decide +kernel⟩
theorem pd_L_gap : yL_gap.cls = RL ∧ yL_gap.cls ≠ "java/lang/invoke/MethodHandle" ∧ yL_gap.cls ≠ "java/lang/invoke/VarHandle" ∧ (parseMethodDescriptor yL_gap.desc).map (fun d => d.parameters.length) = some 3 := ⟨rfl, by decide +kernel, by decide +kernel, by decide +kernel⟩
theorem pd_X12_gap : yX12_gap.cls = RX12 ∧ yX12_gap.cls ≠ "java/lang/invoke/MethodHandle" ∧ yX12_gap.cls ≠ "java/lang/invoke/VarHandle" ∧ (parseMethodDescriptor yX12_gap.desc).map (fun d => d.parameters.length) = some 1 := ⟨rfl, by decide +kernel, by decide +kernel, by decide +kernel⟩
theorem pd_X6_widest : yX6_widest.cls = RX6 ∧ yX6_widest.cls ≠ "java/lang/invoke/MethodHandle" ∧ yX6_widest.cls ≠ "java/lang/invoke/VarHandle" ∧ (parseMethodDescriptor yX6_widest.desc).map (fun d => d.parameters.length) = some 0 := ⟨rfl, by decide +kernel, by decide +kernel, by decide +kernel⟩
theorem pd_L_widest : yL_widest.cls = RL ∧ yL_widest.cls ≠ "java/lang/invoke/MethodHandle" ∧ yL_widest.cls ≠ "java/lang/invoke/VarHandle" ∧ (parseMethodDescriptor yL_widest.desc).map (fun d => d.parameters.length) = some 2 := ⟨rfl, by decide +kernel, by decide +kernel, by decide +kernel⟩
theorem pd_X12_widest : yX12_widest.cls = RX12 ∧ yX12_widest.cls ≠ "java/lang/invoke/MethodHandle" ∧ yX12_widest.cls ≠ "java/lang/invoke/VarHandle" ∧ (parseMethodDescriptor yX12_widest.desc).map (fun d => d.parameters.length) = some 0 := ⟨rfl, by decide +kernel, by decide +kernel, by decide +kernel⟩
theorem pd_X6_stick : yX6_stick.cls = RX6 ∧ yX6_stick.cls ≠ "java/lang/invoke/MethodHandle" ∧ yX6_stick.cls ≠ "java/lang/invoke/VarHandle" ∧ (parseMethodDescriptor yX6_stick.desc).map (fun d => d.parameters.length) = some 3 := ⟨rfl, by decide +kernel, by decide +kernel, by decide +kernel⟩
theorem pd_L_stick : yL_stick.cls = RL ∧ yL_stick.cls ≠ "java/lang/invoke/MethodHandle" ∧ yL_stick.cls ≠ "java/lang/invoke/VarHandle" ∧ (parseMethodDescriptor yL_stick.desc).map (fun d => d.parameters.length) = some 5 := ⟨rfl, by decide +kernel, by decide +kernel, by decide +kernel⟩
theorem pd_X12_stick : yX12_stick.cls = RX12 ∧ yX12_stick.cls ≠ "java/lang/invoke/MethodHandle" ∧ yX12_stick.cls ≠ "java/lang/invoke/VarHandle" ∧ (parseMethodDescriptor yX12_stick.desc).map (fun d => d.parameters.length) = some 3 := ⟨rfl, by decide +kernel, by decide +kernel, by decide +kernel⟩
theorem pd_X6_isSection : yX6_isSection.cls = RX6 ∧ yX6_isSection.cls ≠ "java/lang/invoke/MethodHandle" ∧ yX6_isSection.cls ≠ "java/lang/invoke/VarHandle" ∧ (parseMethodDescriptor yX6_isSection.desc).map (fun d => d.parameters.length) = some 2 := ⟨rfl, by decide +kernel, by decide +kernel, by decide +kernel⟩
theorem pd_X0_add : yX0_add.cls = RX0 ∧ yX0_add.cls ≠ "java/lang/invoke/MethodHandle" ∧ yX0_add.cls ≠ "java/lang/invoke/VarHandle" ∧ (parseMethodDescriptor yX0_add.desc).map (fun d => d.parameters.length) = some 3 := ⟨rfl, by decide +kernel, by decide +kernel, by decide +kernel⟩
theorem pd_X10_init : yX10_init.cls = RX10 ∧ yX10_init.cls ≠ "java/lang/invoke/MethodHandle" ∧ yX10_init.cls ≠ "java/lang/invoke/VarHandle" ∧ (parseMethodDescriptor yX10_init.desc).map (fun d => d.parameters.length) = some 3 := ⟨rfl, by decide +kernel, by decide +kernel, by decide +kernel⟩
theorem pd_X6_piece : yX6_piece.cls = RX6 ∧ yX6_piece.cls ≠ "java/lang/invoke/MethodHandle" ∧ yX6_piece.cls ≠ "java/lang/invoke/VarHandle" ∧ (parseMethodDescriptor yX6_piece.desc).map (fun d => d.parameters.length) = some 1 := ⟨rfl, by decide +kernel, by decide +kernel, by decide +kernel⟩
theorem pd_L_piece : yL_piece.cls = RL ∧ yL_piece.cls ≠ "java/lang/invoke/MethodHandle" ∧ yL_piece.cls ≠ "java/lang/invoke/VarHandle" ∧ (parseMethodDescriptor yL_piece.desc).map (fun d => d.parameters.length) = some 3 := ⟨rfl, by decide +kernel, by decide +kernel, by decide +kernel⟩
theorem pd_X12_piece : yX12_piece.cls = RX12 ∧ yX12_piece.cls ≠ "java/lang/invoke/MethodHandle" ∧ yX12_piece.cls ≠ "java/lang/invoke/VarHandle" ∧ (parseMethodDescriptor yX12_piece.desc).map (fun d => d.parameters.length) = some 1 := ⟨rfl, by decide +kernel, by decide +kernel, by decide +kernel⟩
theorem pd_X6_stickOf : yX6_stickOf.cls = RX6 ∧ yX6_stickOf.cls ≠ "java/lang/invoke/MethodHandle" ∧ yX6_stickOf.cls ≠ "java/lang/invoke/VarHandle" ∧ (parseMethodDescriptor yX6_stickOf.desc).map (fun d => d.parameters.length) = some 1 := ⟨rfl, by decide +kernel, by decide +kernel, by decide +kernel⟩
theorem pd_L_stickOf : yL_stickOf.cls = RL ∧ yL_stickOf.cls ≠ "java/lang/invoke/MethodHandle" ∧ yL_stickOf.cls ≠ "java/lang/invoke/VarHandle" ∧ (parseMethodDescriptor yL_stickOf.desc).map (fun d => d.parameters.length) = some 3 := ⟨rfl, by decide +kernel, by decide +kernel, by decide +kernel⟩
theorem pd_X12_stickOf : yX12_stickOf.cls = RX12 ∧ yX12_stickOf.cls ≠ "java/lang/invoke/MethodHandle" ∧ yX12_stickOf.cls ≠ "java/lang/invoke/VarHandle" ∧ (parseMethodDescriptor yX12_stickOf.desc).map (fun d => d.parameters.length) = some 1 := ⟨rfl, by decide +kernel, by decide +kernel, by decide +kernel⟩
theorem pd_X0_measure : yX0_measure.cls = RX0 ∧ yX0_measure.cls ≠ "java/lang/invoke/MethodHandle" ∧ yX0_measure.cls ≠ "java/lang/invoke/VarHandle" ∧ (parseMethodDescriptor yX0_measure.desc).map (fun d => d.parameters.length) = some 2 := ⟨rfl, by decide +kernel, by decide +kernel, by decide +kernel⟩
theorem pd_X0_choose : yX0_choose.cls = RX0 ∧ yX0_choose.cls ≠ "java/lang/invoke/MethodHandle" ∧ yX0_choose.cls ≠ "java/lang/invoke/VarHandle" ∧ (parseMethodDescriptor yX0_choose.desc).map (fun d => d.parameters.length) = some 1 := ⟨rfl, by decide +kernel, by decide +kernel, by decide +kernel⟩
theorem pd_X0_find : yX0_find.cls = RX0 ∧ yX0_find.cls ≠ "java/lang/invoke/MethodHandle" ∧ yX0_find.cls ≠ "java/lang/invoke/VarHandle" ∧ (parseMethodDescriptor yX0_find.desc).map (fun d => d.parameters.length) = some 2 := ⟨rfl, by decide +kernel, by decide +kernel, by decide +kernel⟩
theorem pd_X6_checkCut : yX6_checkCut.cls = RX6 ∧ yX6_checkCut.cls ≠ "java/lang/invoke/MethodHandle" ∧ yX6_checkCut.cls ≠ "java/lang/invoke/VarHandle" ∧ (parseMethodDescriptor yX6_checkCut.desc).map (fun d => d.parameters.length) = some 0 := ⟨rfl, by decide +kernel, by decide +kernel, by decide +kernel⟩
theorem pd_X6_wood : yX6_wood.cls = RX6 ∧ yX6_wood.cls ≠ "java/lang/invoke/MethodHandle" ∧ yX6_wood.cls ≠ "java/lang/invoke/VarHandle" ∧ (parseMethodDescriptor yX6_wood.desc).map (fun d => d.parameters.length) = some 0 := ⟨rfl, by decide +kernel, by decide +kernel, by decide +kernel⟩
theorem pd_L_wood : yL_wood.cls = RL ∧ yL_wood.cls ≠ "java/lang/invoke/MethodHandle" ∧ yL_wood.cls ≠ "java/lang/invoke/VarHandle" ∧ (parseMethodDescriptor yL_wood.desc).map (fun d => d.parameters.length) = some 2 := ⟨rfl, by decide +kernel, by decide +kernel, by decide +kernel⟩
theorem pd_X12_sums : yX12_sums.cls = RX12 ∧ yX12_sums.cls ≠ "java/lang/invoke/MethodHandle" ∧ yX12_sums.cls ≠ "java/lang/invoke/VarHandle" ∧ (parseMethodDescriptor yX12_sums.desc).map (fun d => d.parameters.length) = some 0 := ⟨rfl, by decide +kernel, by decide +kernel, by decide +kernel⟩
theorem pd_X12_areEnough : yX12_areEnough.cls = RX12 ∧ yX12_areEnough.cls ≠ "java/lang/invoke/MethodHandle" ∧ yX12_areEnough.cls ≠ "java/lang/invoke/VarHandle" ∧ (parseMethodDescriptor yX12_areEnough.desc).map (fun d => d.parameters.length) = some 1 := ⟨rfl, by decide +kernel, by decide +kernel, by decide +kernel⟩
theorem pd_X12_cuts : yX12_cuts.cls = RX12 ∧ yX12_cuts.cls ≠ "java/lang/invoke/MethodHandle" ∧ yX12_cuts.cls ≠ "java/lang/invoke/VarHandle" ∧ (parseMethodDescriptor yX12_cuts.desc).map (fun d => d.parameters.length) = some 2 := ⟨rfl, by decide +kernel, by decide +kernel, by decide +kernel⟩
theorem pd_X12_saws : yX12_saws.cls = RX12 ∧ yX12_saws.cls ≠ "java/lang/invoke/MethodHandle" ∧ yX12_saws.cls ≠ "java/lang/invoke/VarHandle" ∧ (parseMethodDescriptor yX12_saws.desc).map (fun d => d.parameters.length) = some 0 := ⟨rfl, by decide +kernel, by decide +kernel, by decide +kernel⟩
theorem pd_X12_areCut : yX12_areCut.cls = RX12 ∧ yX12_areCut.cls ≠ "java/lang/invoke/MethodHandle" ∧ yX12_areCut.cls ≠ "java/lang/invoke/VarHandle" ∧ (parseMethodDescriptor yX12_areCut.desc).map (fun d => d.parameters.length) = some 0 := ⟨rfl, by decide +kernel, by decide +kernel, by decide +kernel⟩
theorem pd_X12_wood : yX12_wood.cls = RX12 ∧ yX12_wood.cls ≠ "java/lang/invoke/MethodHandle" ∧ yX12_wood.cls ≠ "java/lang/invoke/VarHandle" ∧ (parseMethodDescriptor yX12_wood.desc).map (fun d => d.parameters.length) = some 0 := ⟨rfl, by decide +kernel, by decide +kernel, by decide +kernel⟩
theorem pd_X6_waste : yX6_waste.cls = RX6 ∧ yX6_waste.cls ≠ "java/lang/invoke/MethodHandle" ∧ yX6_waste.cls ≠ "java/lang/invoke/VarHandle" ∧ (parseMethodDescriptor yX6_waste.desc).map (fun d => d.parameters.length) = some 1 := ⟨rfl, by decide +kernel, by decide +kernel, by decide +kernel⟩
theorem pd_L_waste : yL_waste.cls = RL ∧ yL_waste.cls ≠ "java/lang/invoke/MethodHandle" ∧ yL_waste.cls ≠ "java/lang/invoke/VarHandle" ∧ (parseMethodDescriptor yL_waste.desc).map (fun d => d.parameters.length) = some 3 := ⟨rfl, by decide +kernel, by decide +kernel, by decide +kernel⟩
theorem pd_X12_waste : yX12_waste.cls = RX12 ∧ yX12_waste.cls ≠ "java/lang/invoke/MethodHandle" ∧ yX12_waste.cls ≠ "java/lang/invoke/VarHandle" ∧ (parseMethodDescriptor yX12_waste.desc).map (fun d => d.parameters.length) = some 1 := ⟨rfl, by decide +kernel, by decide +kernel, by decide +kernel⟩
theorem pd_X6_setProps : yX6_setProps.cls = RX6 ∧ yX6_setProps.cls ≠ "java/lang/invoke/MethodHandle" ∧ yX6_setProps.cls ≠ "java/lang/invoke/VarHandle" ∧ (parseMethodDescriptor yX6_setProps.desc).map (fun d => d.parameters.length) = some 1 := ⟨rfl, by decide +kernel, by decide +kernel, by decide +kernel⟩
theorem pd_L_setProps : yL_setProps.cls = RL ∧ yL_setProps.cls ≠ "java/lang/invoke/MethodHandle" ∧ yL_setProps.cls ≠ "java/lang/invoke/VarHandle" ∧ (parseMethodDescriptor yL_setProps.desc).map (fun d => d.parameters.length) = some 3 := ⟨rfl, by decide +kernel, by decide +kernel, by decide +kernel⟩
theorem pd_X12_setProps : yX12_setProps.cls = RX12 ∧ yX12_setProps.cls ≠ "java/lang/invoke/MethodHandle" ∧ yX12_setProps.cls ≠ "java/lang/invoke/VarHandle" ∧ (parseMethodDescriptor yX12_setProps.desc).map (fun d => d.parameters.length) = some 1 := ⟨rfl, by decide +kernel, by decide +kernel, by decide +kernel⟩
theorem pd_X4_gather : yX4_gather.cls = RX4 ∧ yX4_gather.cls ≠ "java/lang/invoke/MethodHandle" ∧ yX4_gather.cls ≠ "java/lang/invoke/VarHandle" ∧ (parseMethodDescriptor yX4_gather.desc).map (fun d => d.parameters.length) = some 2 := ⟨rfl, by decide +kernel, by decide +kernel, by decide +kernel⟩
theorem pd_X4_goForward : yX4_goForward.cls = RX4 ∧ yX4_goForward.cls ≠ "java/lang/invoke/MethodHandle" ∧ yX4_goForward.cls ≠ "java/lang/invoke/VarHandle" ∧ (parseMethodDescriptor yX4_goForward.desc).map (fun d => d.parameters.length) = some 1 := ⟨rfl, by decide +kernel, by decide +kernel, by decide +kernel⟩
theorem pd_X4_goBackward : yX4_goBackward.cls = RX4 ∧ yX4_goBackward.cls ≠ "java/lang/invoke/MethodHandle" ∧ yX4_goBackward.cls ≠ "java/lang/invoke/VarHandle" ∧ (parseMethodDescriptor yX4_goBackward.desc).map (fun d => d.parameters.length) = some 1 := ⟨rfl, by decide +kernel, by decide +kernel, by decide +kernel⟩
theorem pd_X4_findOrder : yX4_findOrder.cls = RX4 ∧ yX4_findOrder.cls ≠ "java/lang/invoke/MethodHandle" ∧ yX4_findOrder.cls ≠ "java/lang/invoke/VarHandle" ∧ (parseMethodDescriptor yX4_findOrder.desc).map (fun d => d.parameters.length) = some 1 := ⟨rfl, by decide +kernel, by decide +kernel, by decide +kernel⟩
theorem pd_X4_find : yX4_find.cls = RX4 ∧ yX4_find.cls ≠ "java/lang/invoke/MethodHandle" ∧ yX4_find.cls ≠ "java/lang/invoke/VarHandle" ∧ (parseMethodDescriptor yX4_find.desc).map (fun d => d.parameters.length) = some 2 := ⟨rfl, by decide +kernel, by decide +kernel, by decide +kernel⟩
theorem pd_X4_orderCount : yX4_orderCount.cls = RX4 ∧ yX4_orderCount.cls ≠ "java/lang/invoke/MethodHandle" ∧ yX4_orderCount.cls ≠ "java/lang/invoke/VarHandle" ∧ (parseMethodDescriptor yX4_orderCount.desc).map (fun d => d.parameters.length) = some 0 := ⟨rfl, by decide +kernel, by decide +kernel, by decide +kernel⟩
theorem pd_X6_checkPlaceInOrder : yX6_checkPlaceInOrder.cls = RX6 ∧ yX6_checkPlaceInOrder.cls ≠ "java/lang/invoke/MethodHandle" ∧ yX6_checkPlaceInOrder.cls ≠ "java/lang/invoke/VarHandle" ∧ (parseMethodDescriptor yX6_checkPlaceInOrder.desc).map (fun d => d.parameters.length) = some 1 := ⟨rfl, by decide +kernel, by decide +kernel, by decide +kernel⟩
theorem pd_X6_raised : yX6_raised.cls = RX6 ∧ yX6_raised.cls ≠ "java/lang/invoke/MethodHandle" ∧ yX6_raised.cls ≠ "java/lang/invoke/VarHandle" ∧ (parseMethodDescriptor yX6_raised.desc).map (fun d => d.parameters.length) = some 1 := ⟨rfl, by decide +kernel, by decide +kernel, by decide +kernel⟩
theorem pd_L_raised : yL_raised.cls = RL ∧ yL_raised.cls ≠ "java/lang/invoke/MethodHandle" ∧ yL_raised.cls ≠ "java/lang/invoke/VarHandle" ∧ (parseMethodDescriptor yL_raised.desc).map (fun d => d.parameters.length) = some 3 := ⟨rfl, by decide +kernel, by decide +kernel, by decide +kernel⟩
theorem pd_X12_raises : yX12_raises.cls = RX12 ∧ yX12_raises.cls ≠ "java/lang/invoke/MethodHandle" ∧ yX12_raises.cls ≠ "java/lang/invoke/VarHandle" ∧ (parseMethodDescriptor yX12_raises.desc).map (fun d => d.parameters.length) = some 0 := ⟨rfl, by decide +kernel, by decide +kernel, by decide +kernel⟩
theorem pd_X12_hasOrder : yX12_hasOrder.cls = RX12 ∧ yX12_hasOrder.cls ≠ "java/lang/invoke/MethodHandle" ∧ yX12_hasOrder.cls ≠ "java/lang/invoke/VarHandle" ∧ (parseMethodDescriptor yX12_hasOrder.desc).map (fun d => d.parameters.length) = some 0 := ⟨rfl, by decide +kernel, by decide +kernel, by decide +kernel⟩
theorem pd_X12_raised : yX12_raised.cls = RX12 ∧ yX12_raised.cls ≠ "java/lang/invoke/MethodHandle" ∧ yX12_raised.cls ≠ "java/lang/invoke/VarHandle" ∧ (parseMethodDescriptor yX12_raised.desc).map (fun d => d.parameters.length) = some 1 := ⟨rfl, by decide +kernel, by decide +kernel, by decide +kernel⟩
theorem pd_X6_canRaise : yX6_canRaise.cls = RX6 ∧ yX6_canRaise.cls ≠ "java/lang/invoke/MethodHandle" ∧ yX6_canRaise.cls ≠ "java/lang/invoke/VarHandle" ∧ (parseMethodDescriptor yX6_canRaise.desc).map (fun d => d.parameters.length) = some 0 := ⟨rfl, by decide +kernel, by decide +kernel, by decide +kernel⟩
theorem pd_X12_canRaise : yX12_canRaise.cls = RX12 ∧ yX12_canRaise.cls ≠ "java/lang/invoke/MethodHandle" ∧ yX12_canRaise.cls ≠ "java/lang/invoke/VarHandle" ∧ (parseMethodDescriptor yX12_canRaise.desc).map (fun d => d.parameters.length) = some 0 := ⟨rfl, by decide +kernel, by decide +kernel, by decide +kernel⟩
theorem pd_X6_canTakeAway : yX6_canTakeAway.cls = RX6 ∧ yX6_canTakeAway.cls ≠ "java/lang/invoke/MethodHandle" ∧ yX6_canTakeAway.cls ≠ "java/lang/invoke/VarHandle" ∧ (parseMethodDescriptor yX6_canTakeAway.desc).map (fun d => d.parameters.length) = some 0 := ⟨rfl, by decide +kernel, by decide +kernel, by decide +kernel⟩
theorem pd_X12_isTakenAway : yX12_isTakenAway.cls = RX12 ∧ yX12_isTakenAway.cls ≠ "java/lang/invoke/MethodHandle" ∧ yX12_isTakenAway.cls ≠ "java/lang/invoke/VarHandle" ∧ (parseMethodDescriptor yX12_isTakenAway.desc).map (fun d => d.parameters.length) = some 1 := ⟨rfl, by decide +kernel, by decide +kernel, by decide +kernel⟩
theorem pd_X12_canTakeAway : yX12_canTakeAway.cls = RX12 ∧ yX12_canTakeAway.cls ≠ "java/lang/invoke/MethodHandle" ∧ yX12_canTakeAway.cls ≠ "java/lang/invoke/VarHandle" ∧ (parseMethodDescriptor yX12_canTakeAway.desc).map (fun d => d.parameters.length) = some 0 := ⟨rfl, by decide +kernel, by decide +kernel, by decide +kernel⟩
theorem pd_X6_orders : yX6_orders.cls = RX6 ∧ yX6_orders.cls ≠ "java/lang/invoke/MethodHandle" ∧ yX6_orders.cls ≠ "java/lang/invoke/VarHandle" ∧ (parseMethodDescriptor yX6_orders.desc).map (fun d => d.parameters.length) = some 0 := ⟨rfl, by decide +kernel, by decide +kernel, by decide +kernel⟩
theorem pd_X12_orders : yX12_orders.cls = RX12 ∧ yX12_orders.cls ≠ "java/lang/invoke/MethodHandle" ∧ yX12_orders.cls ≠ "java/lang/invoke/VarHandle" ∧ (parseMethodDescriptor yX12_orders.desc).map (fun d => d.parameters.length) = some 0 := ⟨rfl, by decide +kernel, by decide +kernel, by decide +kernel⟩
theorem pd_X6_props : yX6_props.cls = RX6 ∧ yX6_props.cls ≠ "java/lang/invoke/MethodHandle" ∧ yX6_props.cls ≠ "java/lang/invoke/VarHandle" ∧ (parseMethodDescriptor yX6_props.desc).map (fun d => d.parameters.length) = some 1 := ⟨rfl, by decide +kernel, by decide +kernel, by decide +kernel⟩
theorem pd_L_props : yL_props.cls = RL ∧ yL_props.cls ≠ "java/lang/invoke/MethodHandle" ∧ yL_props.cls ≠ "java/lang/invoke/VarHandle" ∧ (parseMethodDescriptor yL_props.desc).map (fun d => d.parameters.length) = some 3 := ⟨rfl, by decide +kernel, by decide +kernel, by decide +kernel⟩
theorem pd_X12_props : yX12_props.cls = RX12 ∧ yX12_props.cls ≠ "java/lang/invoke/MethodHandle" ∧ yX12_props.cls ≠ "java/lang/invoke/VarHandle" ∧ (parseMethodDescriptor yX12_props.desc).map (fun d => d.parameters.length) = some 1 := ⟨rfl, by decide +kernel, by decide +kernel, by decide +kernel⟩
theorem pd_X4_lowestStuck : yX4_lowestStuck.cls = RX4 ∧ yX4_lowestStuck.cls ≠ "java/lang/invoke/MethodHandle" ∧ yX4_lowestStuck.cls ≠ "java/lang/invoke/VarHandle" ∧ (parseMethodDescriptor yX4_lowestStuck.desc).map (fun d => d.parameters.length) = some 0 := ⟨rfl, by decide +kernel, by decide +kernel, by decide +kernel⟩
theorem pd_X6_stuck : yX6_stuck.cls = RX6 ∧ yX6_stuck.cls ≠ "java/lang/invoke/MethodHandle" ∧ yX6_stuck.cls ≠ "java/lang/invoke/VarHandle" ∧ (parseMethodDescriptor yX6_stuck.desc).map (fun d => d.parameters.length) = some 0 := ⟨rfl, by decide +kernel, by decide +kernel, by decide +kernel⟩
theorem pd_L_stuck : yL_stuck.cls = RL ∧ yL_stuck.cls ≠ "java/lang/invoke/MethodHandle" ∧ yL_stuck.cls ≠ "java/lang/invoke/VarHandle" ∧ (parseMethodDescriptor yL_stuck.desc).map (fun d => d.parameters.length) = some 2 := ⟨rfl, by decide +kernel, by decide +kernel, by decide +kernel⟩
theorem pd_X12_stuck : yX12_stuck.cls = RX12 ∧ yX12_stuck.cls ≠ "java/lang/invoke/MethodHandle" ∧ yX12_stuck.cls ≠ "java/lang/invoke/VarHandle" ∧ (parseMethodDescriptor yX12_stuck.desc).map (fun d => d.parameters.length) = some 0 := ⟨rfl, by decide +kernel, by decide +kernel, by decide +kernel⟩
theorem pd_X6_allForce : yX6_allForce.cls = RX6 ∧ yX6_allForce.cls ≠ "java/lang/invoke/MethodHandle" ∧ yX6_allForce.cls ≠ "java/lang/invoke/VarHandle" ∧ (parseMethodDescriptor yX6_allForce.desc).map (fun d => d.parameters.length) = some 0 := ⟨rfl, by decide +kernel, by decide +kernel, by decide +kernel⟩
theorem pd_L_allForce : yL_allForce.cls = RL ∧ yL_allForce.cls ≠ "java/lang/invoke/MethodHandle" ∧ yL_allForce.cls ≠ "java/lang/invoke/VarHandle" ∧ (parseMethodDescriptor yL_allForce.desc).map (fun d => d.parameters.length) = some 2 := ⟨rfl, by decide +kernel, by decide +kernel, by decide +kernel⟩
theorem pd_X12_tellLong : yX12_tellLong.cls = RX12 ∧ yX12_tellLong.cls ≠ "java/lang/invoke/MethodHandle" ∧ yX12_tellLong.cls ≠ "java/lang/invoke/VarHandle" ∧ (parseMethodDescriptor yX12_tellLong.desc).map (fun d => d.parameters.length) = some 1 := ⟨rfl, by decide +kernel, by decide +kernel, by decide +kernel⟩
theorem pd_X12_allForce : yX12_allForce.cls = RX12 ∧ yX12_allForce.cls ≠ "java/lang/invoke/MethodHandle" ∧ yX12_allForce.cls ≠ "java/lang/invoke/VarHandle" ∧ (parseMethodDescriptor yX12_allForce.desc).map (fun d => d.parameters.length) = some 0 := ⟨rfl, by decide +kernel, by decide +kernel, by decide +kernel⟩
theorem pd_X6_rightShare : yX6_rightShare.cls = RX6 ∧ yX6_rightShare.cls ≠ "java/lang/invoke/MethodHandle" ∧ yX6_rightShare.cls ≠ "java/lang/invoke/VarHandle" ∧ (parseMethodDescriptor yX6_rightShare.desc).map (fun d => d.parameters.length) = some 0 := ⟨rfl, by decide +kernel, by decide +kernel, by decide +kernel⟩
theorem pd_L_rightShare : yL_rightShare.cls = RL ∧ yL_rightShare.cls ≠ "java/lang/invoke/MethodHandle" ∧ yL_rightShare.cls ≠ "java/lang/invoke/VarHandle" ∧ (parseMethodDescriptor yL_rightShare.desc).map (fun d => d.parameters.length) = some 2 := ⟨rfl, by decide +kernel, by decide +kernel, by decide +kernel⟩
theorem pd_Jx4a65c_isEmpty_aae02 : yJx4a65c_isEmpty_aae02.cls = RJx4a65c ∧ yJx4a65c_isEmpty_aae02.cls ≠ "java/lang/invoke/MethodHandle" ∧ yJx4a65c_isEmpty_aae02.cls ≠ "java/lang/invoke/VarHandle" ∧ (parseMethodDescriptor yJx4a65c_isEmpty_aae02.desc).map (fun d => d.parameters.length) = some 0 := ⟨rfl, by decide +kernel, by decide +kernel, by decide +kernel⟩
theorem pd_X12_rightShare : yX12_rightShare.cls = RX12 ∧ yX12_rightShare.cls ≠ "java/lang/invoke/MethodHandle" ∧ yX12_rightShare.cls ≠ "java/lang/invoke/VarHandle" ∧ (parseMethodDescriptor yX12_rightShare.desc).map (fun d => d.parameters.length) = some 0 := ⟨rfl, by decide +kernel, by decide +kernel, by decide +kernel⟩
theorem pd_X6_meanPull : yX6_meanPull.cls = RX6 ∧ yX6_meanPull.cls ≠ "java/lang/invoke/MethodHandle" ∧ yX6_meanPull.cls ≠ "java/lang/invoke/VarHandle" ∧ (parseMethodDescriptor yX6_meanPull.desc).map (fun d => d.parameters.length) = some 0 := ⟨rfl, by decide +kernel, by decide +kernel, by decide +kernel⟩
theorem pd_L_meanPull : yL_meanPull.cls = RL ∧ yL_meanPull.cls ≠ "java/lang/invoke/MethodHandle" ∧ yL_meanPull.cls ≠ "java/lang/invoke/VarHandle" ∧ (parseMethodDescriptor yL_meanPull.desc).map (fun d => d.parameters.length) = some 2 := ⟨rfl, by decide +kernel, by decide +kernel, by decide +kernel⟩
theorem pd_X12_meanPull : yX12_meanPull.cls = RX12 ∧ yX12_meanPull.cls ≠ "java/lang/invoke/MethodHandle" ∧ yX12_meanPull.cls ≠ "java/lang/invoke/VarHandle" ∧ (parseMethodDescriptor yX12_meanPull.desc).map (fun d => d.parameters.length) = some 0 := ⟨rfl, by decide +kernel, by decide +kernel, by decide +kernel⟩
theorem pd_X6_isSound : yX6_isSound.cls = RX6 ∧ yX6_isSound.cls ≠ "java/lang/invoke/MethodHandle" ∧ yX6_isSound.cls ≠ "java/lang/invoke/VarHandle" ∧ (parseMethodDescriptor yX6_isSound.desc).map (fun d => d.parameters.length) = some 0 := ⟨rfl, by decide +kernel, by decide +kernel, by decide +kernel⟩
theorem pd_X12_isSound : yX12_isSound.cls = RX12 ∧ yX12_isSound.cls ≠ "java/lang/invoke/MethodHandle" ∧ yX12_isSound.cls ≠ "java/lang/invoke/VarHandle" ∧ (parseMethodDescriptor yX12_isSound.desc).map (fun d => d.parameters.length) = some 0 := ⟨rfl, by decide +kernel, by decide +kernel, by decide +kernel⟩
theorem pd_X6_init : yX6_init.cls = RX6 ∧ yX6_init.cls ≠ "java/lang/invoke/MethodHandle" ∧ yX6_init.cls ≠ "java/lang/invoke/VarHandle" ∧ (parseMethodDescriptor yX6_init.desc).map (fun d => d.parameters.length) = some 0 := ⟨rfl, by decide +kernel, by decide +kernel, by decide +kernel⟩
theorem pd_X12_init : yX12_init.cls = RX12 ∧ yX12_init.cls ≠ "java/lang/invoke/MethodHandle" ∧ yX12_init.cls ≠ "java/lang/invoke/VarHandle" ∧ (parseMethodDescriptor yX12_init.desc).map (fun d => d.parameters.length) = some 0 := ⟨rfl, by decide +kernel, by decide +kernel, by decide +kernel⟩
theorem xat_X6_60 : ∀ w ∈ vx_atS RX6 60 "java/lang/IllegalArgumentException" ["java/lang/RuntimeException", "java/lang/Exception"], w ∈ lw_tbl ∧ (goodWord w || nwWord w) = true := by decide +kernel
theorem xat_X6_232 : ∀ w ∈ vx_atS RX6 232 "java/lang/IndexOutOfBoundsException" ["java/lang/RuntimeException", "java/lang/Exception"], w ∈ lw_tbl ∧ (goodWord w || nwWord w) = true := by decide +kernel
theorem xat_X6_146 : ∀ w ∈ vx_atS RX6 146 "java/util/NoSuchElementException" ["java/lang/RuntimeException", "java/lang/Exception"], w ∈ lw_tbl ∧ (goodWord w || nwWord w) = true := by decide +kernel
theorem xat_X6_268 : ∀ w ∈ vx_atS RX6 268 "java/lang/ArithmeticException" ["java/lang/RuntimeException", "java/lang/Exception"], w ∈ lw_tbl ∧ (goodWord w || nwWord w) = true := by decide +kernel
theorem goS_X6_44 : GoodIn GW (va_wsS RX6 44 yX6_isWithin (.code yX6_isWithin cX6_isWithin 3 (some .boolean) :: GW)) := goS gw578 gw579 gw75 gw580
theorem goV_L_7 : GoodIn GW (wsV RL 7 RX6 yX6_node (.code yX6_node cX6_node 4 (some .int) :: GW)) := goV gw574 gw575 gw576 gw75 gw577
theorem goW_L_119 : GoodIn GW (va_wsS RL 119 yL_node (.codeWith yL_node cL_node 6 (some .int) [(0, 12, 15, 13), (0, 12, 19, 15)] :: GW)) := goSW gw569 gw570 gw74 gw571
theorem goS_X12_285 : GoodIn GW (va_wsS RX12 285 yX12_in (.code yX12_in cX12_in 4 (some .boolean) :: GW)) := goS gw1309 gw1310 gw82 gw1311
theorem goV_X12_289 : GoodIn GW (wsV RX12 289 RX12 yX12_fails (.code yX12_fails cX12_fails 2 (some .int) :: GW)) := goV gw1312 gw1314 gw29 gw82 gw1315
theorem goV_L_124 : GoodIn GW (wsV RL 124 RX12 yX12_node (.code yX12_node cX12_node 4 (some .int) :: GW)) := goV gw1305 gw1306 gw1307 gw82 gw1308
theorem goV_L_125 : GoodIn GW (wsV RL 125 RX12 yX12_thrown (.code yX12_thrown cX12_thrown 1 (some .int) :: GW)) := goV gw1301 gw1302 gw1303 gw82 gw1304
theorem goV_J0_492 : GoodIn GW (wsV RJ0 492 RJ0 yJ0_isLatin1_aae02 (.code yJ0_isLatin1_aae02 cJ0_isLatin1_aae02 1 (some .boolean) :: GW)) := goV gw590 gw591 gw592 gw86 gw593
theorem goV_J0_335 : GoodIn GW (wsV RJ0 335 RJ0 yJ0_coder_7d493 (.code yJ0_coder_7d493 cJ0_coder_7d493 1 (some .byte) :: GW)) := goV gw600 gw601 gw602 gw86 gw603
theorem goV_J0_505 : GoodIn GW (wsV RJ0 505 RJ0 yJ0_length_8abf5 (.code yJ0_length_8abf5 cJ0_length_8abf5 1 (some .int) :: GW)) := goV gw596 gw597 gw598 gw86 gw599
theorem goS_J1_88 : GoodIn GW (va_wsS RJ1 88 yJ1_canEncode_9a6ad (.code yJ1_canEncode_9a6ad cJ1_canEncode_9a6ad 1 (some .boolean) :: GW)) := goS gw607 gw608 gw87 gw609
theorem goS_J0_637 : GoodIn GW (va_wsS RJ0 637 yJ1_indexOf_4cfef (.code yJ1_indexOf_4cfef cJ1_indexOf_4cfef 4 (some .int) :: GW)) := goS gw604 gw605 gw87 gw606
theorem goV_J0_633 : GoodIn GW (wsV RJ0 633 RJ0 yJ0_indexOf_7cf53 (.code yJ0_indexOf_7cf53 cJ0_indexOf_7cf53 3 (some .int) :: GW)) := goV gw586 gw587 gw588 gw86 gw589
theorem goV_X6_50 : GoodIn GW (wsV RX6 50 RJ0 yJ0_indexOf_0f7a4 (.code yJ0_indexOf_0f7a4 cJ0_indexOf_0f7a4 2 (some .int) :: GW)) := goV gw582 gw583 gw584 gw86 gw585
theorem goS_J1_95 : GoodIn GW (va_wsS RJ1 95 yJ1_indexOfChar_4cfef (.code yJ1_indexOfChar_4cfef cJ1_indexOfChar_4cfef 6 (some .int) :: GW)) := goS gw616 gw617 gw87 gw618
theorem goV_X6_76 : GoodIn GW (wsV RX6 76 RX2 yX2_addNode (.code yX2_addNode cX2_addNode 5 (some .int) :: GW)) := goV gw756 gw757 gw758 gw76 gw759
theorem goV_X12_125 : GoodIn GW (wsV RX12 125 RJx4a65c yJx4a65c_size_8abf5 (.code yJx4a65c_size_8abf5 cJx4a65c_size_8abf5 1 (some .int) :: GW)) := goV gw1316 gw1317 gw1318 gw85 gw1319
theorem goV_Jx4a65c_69 : GoodIn GW (wsV RJx4a65c 69 RJx4a65c yJx4a65c_grow_92f84 (.code yJx4a65c_grow_92f84 cJx4a65c_grow_92f84 4 (some (.array (.object "java/lang/Object"))) :: GW)) := goV gw1360 gw1362 gw32 gw85 gw1363
theorem goV_Jx4a65c_129 : GoodIn GW (wsV RJx4a65c 129 RJx4a65c yJx4a65c_grow_d5877 (.code yJx4a65c_grow_d5877 cJx4a65c_grow_d5877 1 (some (.array (.object "java/lang/Object"))) :: GW)) := goV gw1356 gw1358 gw31 gw85 gw1359
theorem goV_Jx4a65c_131 : GoodIn GW (wsV RJx4a65c 131 RJx4a65c yJx4a65c_add_72be8 (.code yJx4a65c_add_72be8 cJx4a65c_add_72be8 4 none :: GW)) := goV gw1352 gw1354 gw30 gw85 gw1355
theorem goV_X12_295 : GoodIn GW (wsV RX12 295 RJx4a65c yJx4a65c_add_9ea2d (.code yJx4a65c_add_9ea2d cJx4a65c_add_9ea2d 2 (some .boolean) :: GW)) := goV gw1348 gw1349 gw1350 gw85 gw1351
theorem goV_X12_299 : GoodIn GW (wsV RX12 299 RX12 yX12_changes (.code yX12_changes cX12_changes 1 none :: GW)) := goV gw1412 gw1414 gw33 gw82 gw1415
theorem goV_X12_302 : GoodIn GW (wsV RX12 302 RX12 yX12_tell (.code yX12_tell cX12_tell 2 (some .int) :: GW)) := goV gw1416 gw1418 gw34 gw82 gw1419
theorem goV_X6_80 : GoodIn GW (wsV RX6 80 RX6 yX6_checkNode (.code yX6_checkNode cX6_checkNode 2 none :: GW)) := goV gw791 gw793 gw17 gw75 gw794
theorem goV_L_17 : GoodIn GW (wsV RL 17 RX6 yX6_member (.code yX6_member cX6_member 5 (some .int) :: GW)) := goV gw787 gw788 gw789 gw75 gw790
theorem goW_L_128 : GoodIn GW (va_wsS RL 128 yL_member (.codeWith yL_member cL_member 7 (some .int) [(0, 14, 17, 21), (0, 14, 21, 13), (0, 14, 25, 15)] :: GW)) := goSW gw760 gw761 gw74 gw762
theorem goV_X12_305 : GoodIn GW (wsV RX12 305 RX12 yX12_isNode (.code yX12_isNode cX12_isNode 2 (some .boolean) :: GW)) := goV gw1424 gw1426 gw35 gw82 gw1427
theorem goV_L_131 : GoodIn GW (wsV RL 131 RX12 yX12_member (.code yX12_member cX12_member 6 (some .int) :: GW)) := goV gw1420 gw1421 gw1422 gw82 gw1423
theorem goV_L_23 : GoodIn GW (wsV RL 23 RX6 yX6_load (.code yX6_load cX6_load 4 (some .int) :: GW)) := goV gw824 gw825 gw826 gw75 gw827
theorem goW_L_132 : GoodIn GW (va_wsS RL 132 yL_load (.codeWith yL_load cL_load 6 (some .int) [(0, 12, 15, 21), (0, 12, 19, 13)] :: GW)) := goSW gw821 gw822 gw74 gw823
theorem goV_L_135 : GoodIn GW (wsV RL 135 RX12 yX12_load (.code yX12_load cX12_load 4 (some .int) :: GW)) := goV gw1473 gw1474 gw1475 gw82 gw1476
theorem goV_X1_91 : GoodIn GW (wsV RX1 91 RX1 yX1_fillRows (.code yX1_fillRows cX1_fillRows 7 none :: GW)) := goV gw395 gw397 gw1 gw77 gw398
theorem goS_X1_119 : GoodIn GW (va_wsS RX1 119 yJ6_bitCount_0f7a4 (.code yJ6_bitCount_0f7a4 cJ6_bitCount_0f7a4 1 (some .int) :: GW)) := goS gw411 gw412 gw105 gw413
theorem goV_X1_94 : GoodIn GW (wsV RX1 94 RX1 yX1_findDeterminants (.code yX1_findDeterminants cX1_findDeterminants 4 none :: GW)) := goV gw407 gw409 gw2 gw77 gw410
theorem goV_X1_63 : GoodIn GW (wsV RX1 63 RX1 yX1_findPulls (.code yX1_findPulls cX1_findPulls 7 (some .char) :: GW)) := goV gw387 gw389 gw0 gw77 gw390
theorem goV_X1_71 : GoodIn GW (wsV RX1 71 RX1 yX1_findBearings (.code yX1_findBearings cX1_findBearings 6 none :: GW)) := goV gw439 gw441 gw6 gw77 gw442
theorem goV_X1_141 : GoodIn GW (wsV RX1 141 RX5 yX5_set (.code yX5_set cX5_set 4 none :: GW)) := goV gw447 gw448 gw449 gw78 gw450
theorem goV_X1_75 : GoodIn GW (wsV RX1 75 RX1 yX1_findAmounts (.code yX1_findAmounts cX1_findAmounts 8 none :: GW)) := goV gw443 gw445 gw7 gw77 gw446
theorem goV_X6_110 : GoodIn GW (wsV RX6 110 RX1 yX1_find (.code yX1_find cX1_find 2 none :: GW)) := goV gw383 gw384 gw385 gw77 gw386
theorem goV_L_136 : GoodIn GW (wsV RL 136 RX6 yX6_state (.code yX6_state cX6_state 1 (some .char) :: GW)) := goV gw379 gw380 gw381 gw75 gw382
theorem goV_X12_154 : GoodIn GW (wsV RX12 154 RX12 yX12_unknowns (.code yX12_unknowns cX12_unknowns 3 (some .int) :: GW)) := goV gw1485 gw1487 gw37 gw82 gw1488
theorem goV_X12_160 : GoodIn GW (wsV RX12 160 RX12 yX12_determinant (.code yX12_determinant cX12_determinant 6 (some .long) :: GW)) := goV gw1489 gw1491 gw38 gw82 gw1492
theorem goV_X12_166 : GoodIn GW (wsV RX12 166 RX12 yX12_reckons (.code yX12_reckons cX12_reckons 3 none :: GW)) := goV gw1481 gw1483 gw36 gw82 gw1484
theorem goV_L_140 : GoodIn GW (wsV RL 140 RX12 yX12_state (.code yX12_state cX12_state 1 (some .char) :: GW)) := goV gw1477 gw1478 gw1479 gw82 gw1480
theorem goV_X6_118 : GoodIn GW (wsV RX6 118 RX6 yX6_checkMember (.code yX6_checkMember cX6_checkMember 2 none :: GW)) := goV gw840 gw842 gw18 gw75 gw843
theorem goV_L_27 : GoodIn GW (wsV RL 27 RX6 yX6_force (.code yX6_force cX6_force 2 (some .long) :: GW)) := goV gw836 gw837 gw838 gw75 gw839
theorem goW_L_141 : GoodIn GW (va_wsS RL 141 yL_force (.codeWith yL_force cL_force 4 (some .int) [(0, 8, 11, 21), (0, 8, 14, 15)] :: GW)) := goSW gw833 gw834 gw74 gw835
theorem goV_X12_314 : GoodIn GW (wsV RX12 314 RX12 yX12_isMember (.code yX12_isMember cX12_isMember 2 (some .boolean) :: GW)) := goV gw1522 gw1524 gw45 gw82 gw1525
theorem goV_X12_317 : GoodIn GW (wsV RX12 317 RX12 yX12_failsLong (.code yX12_failsLong cX12_failsLong 2 (some .long) :: GW)) := goV gw1526 gw1528 gw46 gw82 gw1529
theorem goV_L_144 : GoodIn GW (wsV RL 144 RX12 yX12_force (.code yX12_force cX12_force 2 (some .long) :: GW)) := goV gw1518 gw1519 gw1520 gw82 gw1521
theorem goV_L_31 : GoodIn GW (wsV RL 31 RX6 yX6_pull (.code yX6_pull cX6_pull 2 (some .long) :: GW)) := goV gw853 gw854 gw855 gw75 gw856
theorem goW_L_145 : GoodIn GW (va_wsS RL 145 yL_pull (.codeWith yL_pull cL_pull 4 (some .int) [(0, 8, 11, 21), (0, 8, 14, 15)] :: GW)) := goSW gw850 gw851 gw74 gw852
theorem goV_L_147 : GoodIn GW (wsV RL 147 RX12 yX12_pull (.code yX12_pull cX12_pull 2 (some .long) :: GW)) := goV gw1580 gw1581 gw1582 gw82 gw1583
theorem goV_L_34 : GoodIn GW (wsV RL 34 RX6 yX6_bearing (.code yX6_bearing cX6_bearing 3 (some .long) :: GW)) := goV gw870 gw871 gw872 gw75 gw873
theorem goW_L_148 : GoodIn GW (va_wsS RL 148 yL_bearing (.codeWith yL_bearing cL_bearing 5 (some .int) [(0, 9, 12, 21), (0, 9, 16, 15)] :: GW)) := goSW gw867 gw868 gw74 gw869
theorem goV_L_151 : GoodIn GW (wsV RL 151 RX12 yX12_bearing (.code yX12_bearing cX12_bearing 3 (some .long) :: GW)) := goV gw1591 gw1592 gw1593 gw82 gw1594
theorem goV_L_38 : GoodIn GW (wsV RL 38 RX6 yX6_isBalanced (.code yX6_isBalanced cX6_isBalanced 2 (some .boolean) :: GW)) := goV gw878 gw879 gw880 gw75 gw881
theorem goW_L_152 : GoodIn GW (va_wsS RL 152 yL_isBalanced (.codeWith yL_isBalanced cL_isBalanced 4 (some .int) [(0, 16, 19, 13), (0, 16, 22, 15)] :: GW)) := goSW gw875 gw876 gw74 gw877
theorem goV_X12_336 : GoodIn GW (wsV RX12 336 RX12 yX12_refuses (.code yX12_refuses cX12_refuses 2 (some .boolean) :: GW)) := goV gw1603 gw1605 gw54 gw82 gw1606
theorem goV_L_154 : GoodIn GW (wsV RL 154 RX12 yX12_isBalanced (.code yX12_isBalanced cX12_isBalanced 2 (some .boolean) :: GW)) := goV gw1599 gw1600 gw1601 gw82 gw1602
theorem goV_X6_121 : GoodIn GW (wsV RX6 121 RX6 yX6_checkStanding (.code yX6_checkStanding cX6_checkStanding 1 none :: GW)) := goV gw845 gw847 gw19 gw75 gw848
theorem goV_X1_185 : GoodIn GW (wsV RX1 185 RX1 yX1_holdsAlong (.code yX1_holdsAlong cX1_holdsAlong 12 (some .boolean) :: GW)) := goV gw558 gw560 gw15 gw77 gw561
theorem goV_X6_138 : GoodIn GW (wsV RX6 138 RX1 yX1_holdsAt (.code yX1_holdsAt cX1_holdsAt 3 (some .boolean) :: GW)) := goV gw554 gw555 gw556 gw77 gw557
theorem goV_X12_320 : GoodIn GW (wsV RX12 320 RX12 yX12_stands (.code yX12_stands cX12_stands 1 (some .boolean) :: GW)) := goV gw1530 gw1532 gw47 gw82 gw1533
theorem goV_X12_339 : GoodIn GW (wsV RX12 339 RX12 yX12_restOf (.code yX12_restOf cX12_restOf 10 (some .long) :: GW)) := goV gw1607 gw1609 gw55 gw82 gw1610
theorem goV_X12_343 : GoodIn GW (wsV RX12 343 RX12 yX12_tells (.code yX12_tells cX12_tells 2 (some .boolean) :: GW)) := goV gw1611 gw1613 gw56 gw82 gw1614
theorem goV_L_42 : GoodIn GW (wsV RL 42 RX6 yX6_weakest (.code yX6_weakest cX6_weakest 3 (some .int) :: GW)) := goV gw887 gw888 gw889 gw75 gw890
theorem goW_L_155 : GoodIn GW (va_wsS RL 155 yL_weakest (.codeWith yL_weakest cL_weakest 3 (some .int) [(0, 8, 11, 15), (0, 8, 14, 46)] :: GW)) := goSW gw883 gw884 gw74 gw885
theorem goV_L_158 : GoodIn GW (wsV RL 158 RX12 yX12_weakest (.code yX12_weakest cX12_weakest 3 (some .int) :: GW)) := goV gw1615 gw1616 gw1617 gw82 gw1618
theorem goV_L_48 : GoodIn GW (wsV RL 48 RX6 yX6_joint (.code yX6_joint cX6_joint 6 (some .int) :: GW)) := goV gw912 gw913 gw914 gw75 gw915
theorem goW_L_159 : GoodIn GW (va_wsS RL 159 yL_joint (.codeWith yL_joint cL_joint 8 (some .int) [(0, 16, 19, 21), (0, 16, 23, 13), (0, 16, 27, 52), (0, 16, 31, 15)] :: GW)) := goSW gw908 gw909 gw74 gw910
theorem goV_L_162 : GoodIn GW (wsV RL 162 RX12 yX12_joint (.code yX12_joint cX12_joint 9 (some .int) :: GW)) := goV gw1619 gw1620 gw1621 gw82 gw1622
theorem goV_X6_179 : GoodIn GW (wsV RX6 179 RX6 yX6_checkJoint (.code yX6_checkJoint cX6_checkJoint 2 none :: GW)) := goV gw960 gw962 gw21 gw75 gw963
theorem goV_L_54 : GoodIn GW (wsV RL 54 RX6 yX6_isRight (.code yX6_isRight cX6_isRight 2 (some .boolean) :: GW)) := goV gw956 gw957 gw958 gw75 gw959
theorem goW_L_163 : GoodIn GW (va_wsS RL 163 yL_isRight (.codeWith yL_isRight cL_isRight 4 (some .int) [(0, 16, 19, 21)] :: GW)) := goSW gw953 gw954 gw74 gw955
theorem goV_X12_363 : GoodIn GW (wsV RX12 363 RX12 yX12_isJoint (.code yX12_isJoint cX12_isJoint 2 (some .boolean) :: GW)) := goV gw1661 gw1663 gw57 gw82 gw1664
theorem goV_L_165 : GoodIn GW (wsV RL 165 RX12 yX12_isRight (.code yX12_isRight cX12_isRight 2 (some .boolean) :: GW)) := goV gw1657 gw1658 gw1659 gw82 gw1660
theorem goV_L_57 : GoodIn GW (wsV RL 57 RX6 yX6_misread (.code yX6_misread cX6_misread 2 (some .int) :: GW)) := goV gw973 gw974 gw975 gw75 gw976
theorem goW_L_166 : GoodIn GW (va_wsS RL 166 yL_misread (.codeWith yL_misread cL_misread 4 (some .int) [(0, 9, 12, 21)] :: GW)) := goSW gw970 gw971 gw74 gw972
theorem goV_L_168 : GoodIn GW (wsV RL 168 RX12 yX12_misread (.code yX12_misread cX12_misread 2 (some .int) :: GW)) := goV gw1670 gw1671 gw1672 gw82 gw1673
theorem goV_L_169 : GoodIn GW (wsV RL 169 RX6 yX6_clashes (.code yX6_clashes cX6_clashes 4 (some .int) :: GW)) := goV gw477 gw478 gw479 gw75 gw480
theorem goV_L_172 : GoodIn GW (wsV RL 172 RX12 yX12_clashes (.code yX12_clashes cX12_clashes 4 (some .int) :: GW)) := goV gw1678 gw1679 gw1680 gw82 gw1681
theorem goV_L_61 : GoodIn GW (wsV RL 61 RX6 yX6_cutAt (.code yX6_cutAt cX6_cutAt 4 (some .int) :: GW)) := goV gw981 gw982 gw983 gw75 gw984
theorem goW_L_173 : GoodIn GW (va_wsS RL 173 yL_cutAt (.codeWith yL_cutAt cL_cutAt 5 (some .int) [(0, 10, 13, 21), (0, 10, 17, 13)] :: GW)) := goSW gw978 gw979 gw74 gw980
theorem goV_L_176 : GoodIn GW (wsV RL 176 RX12 yX12_cutAt (.code yX12_cutAt cX12_cutAt 4 (some .int) :: GW)) := goV gw1682 gw1683 gw1684 gw82 gw1685
theorem goV_L_65 : GoodIn GW (wsV RL 65 RX6 yX6_dry (.code yX6_dry cX6_dry 4 (some .int) :: GW)) := goV gw993 gw994 gw995 gw75 gw996
theorem goW_L_177 : GoodIn GW (va_wsS RL 177 yL_dry (.codeWith yL_dry cL_dry 5 (some .int) [(0, 10, 13, 21), (0, 10, 17, 13)] :: GW)) := goSW gw990 gw991 gw74 gw992
theorem goV_L_179 : GoodIn GW (wsV RL 179 RX12 yX12_dry (.code yX12_dry cX12_dry 4 (some .int) :: GW)) := goV gw1686 gw1687 gw1688 gw82 gw1689
theorem goV_L_68 : GoodIn GW (wsV RL 68 RX6 yX6_gap (.code yX6_gap cX6_gap 2 (some .int) :: GW)) := goV gw1000 gw1001 gw1002 gw75 gw1003
theorem goW_L_180 : GoodIn GW (va_wsS RL 180 yL_gap (.codeWith yL_gap cL_gap 4 (some .int) [(0, 9, 12, 21)] :: GW)) := goSW gw997 gw998 gw74 gw999
theorem goV_L_182 : GoodIn GW (wsV RL 182 RX12 yX12_gap (.code yX12_gap cX12_gap 2 (some .int) :: GW)) := goV gw1690 gw1691 gw1692 gw82 gw1693
theorem goV_L_71 : GoodIn GW (wsV RL 71 RX6 yX6_widest (.code yX6_widest cX6_widest 3 (some .int) :: GW)) := goV gw1011 gw1012 gw1013 gw75 gw1014
theorem goW_L_183 : GoodIn GW (va_wsS RL 183 yL_widest (.codeWith yL_widest cL_widest 3 (some .int) [(0, 8, 11, 46)] :: GW)) := goSW gw1008 gw1009 gw74 gw1010
theorem goV_L_185 : GoodIn GW (wsV RL 185 RX12 yX12_widest (.code yX12_widest cX12_widest 3 (some .int) :: GW)) := goV gw1698 gw1699 gw1700 gw82 gw1701
theorem goV_L_74 : GoodIn GW (wsV RL 74 RX6 yX6_stick (.code yX6_stick cX6_stick 4 (some .int) :: GW)) := goV gw1019 gw1020 gw1021 gw75 gw1022
theorem goW_L_186 : GoodIn GW (va_wsS RL 186 yL_stick (.codeWith yL_stick cL_stick 6 (some .int) [(0, 12, 15, 13), (0, 12, 19, 15)] :: GW)) := goSW gw1016 gw1017 gw74 gw1018
theorem goV_L_188 : GoodIn GW (wsV RL 188 RX12 yX12_stick (.code yX12_stick cX12_stick 4 (some .int) :: GW)) := goV gw1702 gw1703 gw1704 gw82 gw1705
theorem goS_X6_88 : GoodIn GW (va_wsS RX6 88 yX6_isSection (.code yX6_isSection cX6_isSection 2 (some .boolean) :: GW)) := goS gw812 gw813 gw75 gw814
theorem goV_X6_213 : GoodIn GW (wsV RX6 213 RX0 yX0_add (.code yX0_add cX0_add 5 (some .int) :: GW)) := goV gw1025 gw1026 gw1027 gw80 gw1028
theorem goV_L_77 : GoodIn GW (wsV RL 77 RX6 yX6_piece (.code yX6_piece cX6_piece 2 (some .int) :: GW)) := goV gw1032 gw1033 gw1034 gw75 gw1035
theorem goW_L_189 : GoodIn GW (va_wsS RL 189 yL_piece (.codeWith yL_piece cL_piece 4 (some .int) [(0, 9, 12, 21)] :: GW)) := goSW gw1029 gw1030 gw74 gw1031
theorem goV_L_191 : GoodIn GW (wsV RL 191 RX12 yX12_piece (.code yX12_piece cX12_piece 2 (some .int) :: GW)) := goV gw1725 gw1726 gw1727 gw82 gw1728
theorem goV_L_80 : GoodIn GW (wsV RL 80 RX6 yX6_stickOf (.code yX6_stickOf cX6_stickOf 2 (some .int) :: GW)) := goV gw1048 gw1049 gw1050 gw75 gw1051
theorem goW_L_192 : GoodIn GW (va_wsS RL 192 yL_stickOf (.codeWith yL_stickOf cL_stickOf 4 (some .int) [(0, 9, 12, 21), (0, 9, 15, 46)] :: GW)) := goSW gw1045 gw1046 gw74 gw1047
theorem goV_L_194 : GoodIn GW (wsV RL 194 RX12 yX12_stickOf (.code yX12_stickOf cX12_stickOf 2 (some .int) :: GW)) := goV gw1733 gw1734 gw1735 gw82 gw1736
theorem goV_X0_56 : GoodIn GW (wsV RX0 56 RX0 yX0_measure (.code yX0_measure cX0_measure 8 none :: GW)) := goV gw1060 gw1062 gw24 gw80 gw1063
theorem goV_X0_70 : GoodIn GW (wsV RX0 70 RX0 yX0_choose (.code yX0_choose cX0_choose 5 none :: GW)) := goV gw1079 gw1081 gw27 gw80 gw1082
theorem goV_X6_290 : GoodIn GW (wsV RX6 290 RX0 yX0_find (.code yX0_find cX0_find 5 none :: GW)) := goV gw1056 gw1057 gw1058 gw80 gw1059
theorem goV_X6_219 : GoodIn GW (wsV RX6 219 RX6 yX6_checkCut (.code yX6_checkCut cX6_checkCut 1 none :: GW)) := goV gw1052 gw1054 gw23 gw75 gw1055
theorem goV_L_83 : GoodIn GW (wsV RL 83 RX6 yX6_wood (.code yX6_wood cX6_wood 1 (some .int) :: GW)) := goV gw1087 gw1088 gw1089 gw75 gw1090
theorem goW_L_195 : GoodIn GW (va_wsS RL 195 yL_wood (.codeWith yL_wood cL_wood 3 (some .int) [(0, 8, 11, 46)] :: GW)) := goSW gw1084 gw1085 gw74 gw1086
theorem goV_X12_271 : GoodIn GW (wsV RX12 271 RX12 yX12_sums (.code yX12_sums cX12_sums 4 none :: GW)) := goV gw1745 gw1747 gw63 gw82 gw1748
theorem goV_X12_274 : GoodIn GW (wsV RX12 274 RX12 yX12_areEnough (.code yX12_areEnough cX12_areEnough 5 (some .boolean) :: GW)) := goV gw1754 gw1756 gw64 gw82 gw1757
theorem goV_X12_249 : GoodIn GW (wsV RX12 249 RX12 yX12_cuts (.code yX12_cuts cX12_cuts 8 (some .boolean) :: GW)) := goV gw1762 gw1764 gw66 gw82 gw1765
theorem goV_X12_282 : GoodIn GW (wsV RX12 282 RX12 yX12_saws (.code yX12_saws cX12_saws 4 none :: GW)) := goV gw1741 gw1743 gw62 gw82 gw1744
theorem goV_X12_389 : GoodIn GW (wsV RX12 389 RX12 yX12_areCut (.code yX12_areCut cX12_areCut 1 (some .boolean) :: GW)) := goV gw1737 gw1739 gw61 gw82 gw1740
theorem goV_L_197 : GoodIn GW (wsV RL 197 RX12 yX12_wood (.code yX12_wood cX12_wood 1 (some .int) :: GW)) := goV gw1770 gw1771 gw1772 gw82 gw1773
theorem goV_L_86 : GoodIn GW (wsV RL 86 RX6 yX6_waste (.code yX6_waste cX6_waste 2 (some .int) :: GW)) := goV gw1094 gw1095 gw1096 gw75 gw1097
theorem goW_L_198 : GoodIn GW (va_wsS RL 198 yL_waste (.codeWith yL_waste cL_waste 4 (some .int) [(0, 9, 12, 21), (0, 9, 15, 46)] :: GW)) := goSW gw1091 gw1092 gw74 gw1093
theorem goV_L_200 : GoodIn GW (wsV RL 200 RX12 yX12_waste (.code yX12_waste cX12_waste 4 (some .int) :: GW)) := goV gw1774 gw1775 gw1776 gw82 gw1777
theorem goV_L_89 : GoodIn GW (wsV RL 89 RX6 yX6_setProps (.code yX6_setProps cX6_setProps 3 (some .int) :: GW)) := goV gw1106 gw1107 gw1108 gw75 gw1109
theorem goW_L_201 : GoodIn GW (va_wsS RL 201 yL_setProps (.codeWith yL_setProps cL_setProps 4 (some .int) [(0, 9, 12, 13)] :: GW)) := goSW gw1103 gw1104 gw74 gw1105
theorem goV_L_203 : GoodIn GW (wsV RL 203 RX12 yX12_setProps (.code yX12_setProps cX12_setProps 3 (some .int) :: GW)) := goV gw1778 gw1779 gw1780 gw82 gw1781
theorem goV_X4_46 : GoodIn GW (wsV RX4 46 RX4 yX4_gather (.code yX4_gather cX4_gather 6 none :: GW)) := goV gw497 gw499 gw9 gw81 gw500
theorem goV_X4_50 : GoodIn GW (wsV RX4 50 RX4 yX4_goForward (.code yX4_goForward cX4_goForward 6 none :: GW)) := goV gw513 gw515 gw10 gw81 gw516
theorem goV_X4_54 : GoodIn GW (wsV RX4 54 RX4 yX4_goBackward (.code yX4_goBackward cX4_goBackward 6 none :: GW)) := goV gw526 gw528 gw12 gw81 gw529
theorem goV_X4_57 : GoodIn GW (wsV RX4 57 RX4 yX4_findOrder (.code yX4_findOrder cX4_findOrder 5 none :: GW)) := goV gw530 gw532 gw13 gw81 gw533
theorem goV_X6_247 : GoodIn GW (wsV RX6 247 RX4 yX4_find (.code yX4_find cX4_find 3 none :: GW)) := goV gw493 gw494 gw495 gw81 gw496
theorem goV_X6_250 : GoodIn GW (wsV RX6 250 RX4 yX4_orderCount (.code yX4_orderCount cX4_orderCount 1 (some .int) :: GW)) := goV gw538 gw539 gw540 gw81 gw541
theorem goV_X6_241 : GoodIn GW (wsV RX6 241 RX6 yX6_checkPlaceInOrder (.code yX6_checkPlaceInOrder cX6_checkPlaceInOrder 2 none :: GW)) := goV gw1118 gw1120 gw28 gw75 gw1121
theorem goV_L_92 : GoodIn GW (wsV RL 92 RX6 yX6_raised (.code yX6_raised cX6_raised 2 (some .int) :: GW)) := goV gw1114 gw1115 gw1116 gw75 gw1117
theorem goW_L_204 : GoodIn GW (va_wsS RL 204 yL_raised (.codeWith yL_raised cL_raised 4 (some .int) [(0, 9, 12, 46), (0, 9, 15, 21)] :: GW)) := goSW gw1111 gw1112 gw74 gw1113
theorem goV_X12_392 : GoodIn GW (wsV RX12 392 RX12 yX12_raises (.code yX12_raises cX12_raises 5 none :: GW)) := goV gw1790 gw1792 gw69 gw82 gw1793
theorem goV_X12_395 : GoodIn GW (wsV RX12 395 RX12 yX12_hasOrder (.code yX12_hasOrder cX12_hasOrder 1 (some .boolean) :: GW)) := goV gw1786 gw1788 gw68 gw82 gw1789
theorem goV_L_206 : GoodIn GW (wsV RL 206 RX12 yX12_raised (.code yX12_raised cX12_raised 2 (some .int) :: GW)) := goV gw1782 gw1783 gw1784 gw82 gw1785
theorem goV_L_207 : GoodIn GW (wsV RL 207 RX6 yX6_canRaise (.code yX6_canRaise cX6_canRaise 1 (some .boolean) :: GW)) := goV gw489 gw490 gw491 gw75 gw492
theorem goV_L_211 : GoodIn GW (wsV RL 211 RX12 yX12_canRaise (.code yX12_canRaise cX12_canRaise 1 (some .boolean) :: GW)) := goV gw1810 gw1811 gw1812 gw82 gw1813
theorem goV_L_212 : GoodIn GW (wsV RL 212 RX6 yX6_canTakeAway (.code yX6_canTakeAway cX6_canTakeAway 1 (some .boolean) :: GW)) := goV gw542 gw543 gw544 gw75 gw545
theorem goV_X12_398 : GoodIn GW (wsV RX12 398 RX12 yX12_isTakenAway (.code yX12_isTakenAway cX12_isTakenAway 5 (some .boolean) :: GW)) := goV gw1818 gw1820 gw73 gw82 gw1821
theorem goV_L_215 : GoodIn GW (wsV RL 215 RX12 yX12_canTakeAway (.code yX12_canTakeAway cX12_canTakeAway 1 (some .boolean) :: GW)) := goV gw1814 gw1815 gw1816 gw82 gw1817
theorem goV_L_216 : GoodIn GW (wsV RL 216 RX6 yX6_orders (.code yX6_orders cX6_orders 1 (some .int) :: GW)) := goV gw546 gw547 gw548 gw75 gw549
theorem goV_L_219 : GoodIn GW (wsV RL 219 RX12 yX12_orders (.code yX12_orders cX12_orders 1 (some .int) :: GW)) := goV gw1822 gw1823 gw1824 gw82 gw1825
theorem goV_L_95 : GoodIn GW (wsV RL 95 RX6 yX6_props (.code yX6_props cX6_props 4 (some .int) :: GW)) := goV gw1127 gw1128 gw1129 gw75 gw1130
theorem goW_L_220 : GoodIn GW (va_wsS RL 220 yL_props (.codeWith yL_props cL_props 4 (some .int) [(0, 9, 12, 46), (0, 9, 15, 21)] :: GW)) := goSW gw1124 gw1125 gw74 gw1126
theorem goV_L_222 : GoodIn GW (wsV RL 222 RX12 yX12_props (.code yX12_props cX12_props 4 (some .int) :: GW)) := goV gw1826 gw1827 gw1828 gw82 gw1829
theorem goV_X6_261 : GoodIn GW (wsV RX6 261 RX4 yX4_lowestStuck (.code yX4_lowestStuck cX4_lowestStuck 3 (some .int) :: GW)) := goV gw1139 gw1140 gw1141 gw81 gw1142
theorem goV_L_98 : GoodIn GW (wsV RL 98 RX6 yX6_stuck (.code yX6_stuck cX6_stuck 2 (some .int) :: GW)) := goV gw1135 gw1136 gw1137 gw75 gw1138
theorem goW_L_223 : GoodIn GW (va_wsS RL 223 yL_stuck (.codeWith yL_stuck cL_stuck 3 (some .int) [(0, 8, 11, 46)] :: GW)) := goSW gw1132 gw1133 gw74 gw1134
theorem goV_L_225 : GoodIn GW (wsV RL 225 RX12 yX12_stuck (.code yX12_stuck cX12_stuck 3 (some .int) :: GW)) := goV gw1830 gw1831 gw1832 gw82 gw1833
theorem goV_L_101 : GoodIn GW (wsV RL 101 RX6 yX6_allForce (.code yX6_allForce cX6_allForce 4 (some .long) :: GW)) := goV gw1147 gw1148 gw1149 gw75 gw1150
theorem goW_L_226 : GoodIn GW (va_wsS RL 226 yL_allForce (.codeWith yL_allForce cL_allForce 3 (some .int) [(0, 7, 10, 15)] :: GW)) := goSW gw1144 gw1145 gw74 gw1146
theorem goV_X12_326 : GoodIn GW (wsV RX12 326 RX12 yX12_tellLong (.code yX12_tellLong cX12_tellLong 3 (some .long) :: GW)) := goV gw1576 gw1578 gw51 gw82 gw1579
theorem goV_L_228 : GoodIn GW (wsV RL 228 RX12 yX12_allForce (.code yX12_allForce cX12_allForce 4 (some .long) :: GW)) := goV gw1834 gw1835 gw1836 gw82 gw1837
theorem goV_L_105 : GoodIn GW (wsV RL 105 RX6 yX6_rightShare (.code yX6_rightShare cX6_rightShare 3 (some .float) :: GW)) := goV gw1168 gw1169 gw1170 gw75 gw1171
theorem goW_L_229 : GoodIn GW (va_wsS RL 229 yL_rightShare (.codeWith yL_rightShare cL_rightShare 3 (some .int) [(0, 8, 11, 109)] :: GW)) := goSW gw1151 gw1152 gw74 gw1153
theorem goV_X12_401 : GoodIn GW (wsV RX12 401 RJx4a65c yJx4a65c_isEmpty_aae02 (.code yJx4a65c_isEmpty_aae02 cJx4a65c_isEmpty_aae02 1 (some .boolean) :: GW)) := goV gw1842 gw1843 gw1844 gw85 gw1845
theorem goV_L_232 : GoodIn GW (wsV RL 232 RX12 yX12_rightShare (.code yX12_rightShare cX12_rightShare 3 (some .float) :: GW)) := goV gw1838 gw1839 gw1840 gw82 gw1841
theorem goV_L_111 : GoodIn GW (wsV RL 111 RX6 yX6_meanPull (.code yX6_meanPull cX6_meanPull 1 (some .double) :: GW)) := goV gw1177 gw1178 gw1179 gw75 gw1180
theorem goW_L_233 : GoodIn GW (va_wsS RL 233 yL_meanPull (.codeWith yL_meanPull cL_meanPull 3 (some .int) [(0, 7, 10, 15), (0, 7, 13, 109)] :: GW)) := goSW gw1174 gw1175 gw74 gw1176
theorem goV_L_235 : GoodIn GW (wsV RL 235 RX12 yX12_meanPull (.code yX12_meanPull cX12_meanPull 4 (some .double) :: GW)) := goV gw1846 gw1847 gw1848 gw82 gw1849
theorem goV_X6_273 : GoodIn GW (wsV RX6 273 RX6 yX6_canRaise (.code yX6_canRaise cX6_canRaise 1 (some .boolean) :: GW)) := goV gw567 gw490 gw491 gw75 gw492
theorem goV_X6_277 : GoodIn GW (wsV RX6 277 RX6 yX6_canTakeAway (.code yX6_canTakeAway cX6_canTakeAway 1 (some .boolean) :: GW)) := goV gw568 gw543 gw544 gw75 gw545
theorem goV_L_236 : GoodIn GW (wsV RL 236 RX6 yX6_isSound (.code yX6_isSound cX6_isSound 2 (some .boolean) :: GW)) := goV gw550 gw551 gw552 gw75 gw553
theorem goV_L_239 : GoodIn GW (wsV RL 239 RX12 yX12_isSound (.code yX12_isSound cX12_isSound 1 (some .boolean) :: GW)) := goV gw1850 gw1851 gw1852 gw82 gw1853
