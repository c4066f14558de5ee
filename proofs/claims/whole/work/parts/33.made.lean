variable {ad : Nat → Nat} {D : va_G} {cA : Nat → ClassId} {h0 hA : Nat} {l : Launch}
theorem dX0_init_0 : decode cX0_init 0 = .ok (.aload_n 0, 1) := by decide +kernel
theorem dX0_init_1 : decode cX0_init 1 = .ok (.invokespecial 3, 3) := by decide +kernel
theorem dX0_init_4 : decode cX0_init 4 = .ok (.aload_n 0, 1) := by decide +kernel
theorem dX0_init_5 : decode cX0_init 5 = .ok (.iconst 4, 1) := by decide +kernel
theorem dX0_init_6 : decode cX0_init 6 = .ok (.newarray .int, 2) := by decide +kernel
theorem dX0_init_8 : decode cX0_init 8 = .ok (.putfield 9, 3) := by decide +kernel
theorem dX0_init_11 : decode cX0_init 11 = .ok (.aload_n 0, 1) := by decide +kernel
theorem dX0_init_12 : decode cX0_init 12 = .ok (.iload_n 1, 1) := by decide +kernel
theorem dX0_init_13 : decode cX0_init 13 = .ok (.putfield 15, 3) := by decide +kernel
theorem dX0_init_16 : decode cX0_init 16 = .ok (.return_, 1) := by decide +kernel
theorem dX1_init_0 : decode cX1_init 0 = .ok (.aload_n 0, 1) := by decide +kernel
theorem dX1_init_1 : decode cX1_init 1 = .ok (.invokespecial 3, 3) := by decide +kernel
theorem dX1_init_4 : decode cX1_init 4 = .ok (.aload_n 0, 1) := by decide +kernel
theorem dX1_init_5 : decode cX1_init 5 = .ok (.bipush 20, 2) := by decide +kernel
theorem dX1_init_7 : decode cX1_init 7 = .ok (.newarray .int, 2) := by decide +kernel
theorem dX1_init_9 : decode cX1_init 9 = .ok (.putfield 9, 3) := by decide +kernel
theorem dX1_init_12 : decode cX1_init 12 = .ok (.return_, 1) := by decide +kernel
theorem dX2_init_0 : decode cX2_init 0 = .ok (.aload_n 0, 1) := by decide +kernel
theorem dX2_init_1 : decode cX2_init 1 = .ok (.invokespecial 3, 3) := by decide +kernel
theorem dX2_init_4 : decode cX2_init 4 = .ok (.aload_n 0, 1) := by decide +kernel
theorem dX2_init_5 : decode cX2_init 5 = .ok (.new 9, 3) := by decide +kernel
theorem dX2_init_8 : decode cX2_init 8 = .ok (.dup, 1) := by decide +kernel
theorem dX2_init_9 : decode cX2_init 9 = .ok (.invokespecial 11, 3) := by decide +kernel
theorem dX2_init_12 : decode cX2_init 12 = .ok (.putfield 12, 3) := by decide +kernel
theorem dX2_init_15 : decode cX2_init 15 = .ok (.return_, 1) := by decide +kernel
theorem dX3_init_0 : decode cX3_init 0 = .ok (.aload_n 0, 1) := by decide +kernel
theorem dX3_init_1 : decode cX3_init 1 = .ok (.invokespecial 3, 3) := by decide +kernel
theorem dX3_init_4 : decode cX3_init 4 = .ok (.aload_n 0, 1) := by decide +kernel
theorem dX3_init_5 : decode cX3_init 5 = .ok (.bipush 6, 2) := by decide +kernel
theorem dX3_init_7 : decode cX3_init 7 = .ok (.newarray .int, 2) := by decide +kernel
theorem dX3_init_9 : decode cX3_init 9 = .ok (.putfield 9, 3) := by decide +kernel
theorem dX3_init_12 : decode cX3_init 12 = .ok (.iconst 0, 1) := by decide +kernel
theorem dX3_init_13 : decode cX3_init 13 = .ok (.istore_n 1, 1) := by decide +kernel
theorem dX3_init_14 : decode cX3_init 14 = .ok (.iload_n 1, 1) := by decide +kernel
theorem dX3_init_15 : decode cX3_init 15 = .ok (.bipush 6, 2) := by decide +kernel
theorem dX3_init_17 : decode cX3_init 17 = .ok (.if_icmp .ge 17, 3) := by decide +kernel
theorem dX3_init_20 : decode cX3_init 20 = .ok (.aload_n 0, 1) := by decide +kernel
theorem dX3_init_21 : decode cX3_init 21 = .ok (.getfield 9, 3) := by decide +kernel
theorem dX3_init_24 : decode cX3_init 24 = .ok (.iload_n 1, 1) := by decide +kernel
theorem dX3_init_25 : decode cX3_init 25 = .ok (.bipush 10, 2) := by decide +kernel
theorem dX3_init_27 : decode cX3_init 27 = .ok (.iastore, 1) := by decide +kernel
theorem dX3_init_28 : decode cX3_init 28 = .ok (.iinc 1 1, 3) := by decide +kernel
theorem dX3_init_31 : decode cX3_init 31 = .ok (.goto (-17), 3) := by decide +kernel
theorem dX3_init_34 : decode cX3_init 34 = .ok (.return_, 1) := by decide +kernel
theorem dX4_init_0 : decode cX4_init 0 = .ok (.aload_n 0, 1) := by decide +kernel
theorem dX4_init_1 : decode cX4_init 1 = .ok (.invokespecial 3, 3) := by decide +kernel
theorem dX4_init_4 : decode cX4_init 4 = .ok (.aload_n 0, 1) := by decide +kernel
theorem dX4_init_5 : decode cX4_init 5 = .ok (.bipush 10, 2) := by decide +kernel
theorem dX4_init_7 : decode cX4_init 7 = .ok (.newarray .int, 2) := by decide +kernel
theorem dX4_init_9 : decode cX4_init 9 = .ok (.putfield 9, 3) := by decide +kernel
theorem dX4_init_12 : decode cX4_init 12 = .ok (.aload_n 0, 1) := by decide +kernel
theorem dX4_init_13 : decode cX4_init 13 = .ok (.bipush 10, 2) := by decide +kernel
theorem dX4_init_15 : decode cX4_init 15 = .ok (.newarray .int, 2) := by decide +kernel
theorem dX4_init_17 : decode cX4_init 17 = .ok (.putfield 15, 3) := by decide +kernel
theorem dX4_init_20 : decode cX4_init 20 = .ok (.aload_n 0, 1) := by decide +kernel
theorem dX4_init_21 : decode cX4_init 21 = .ok (.bipush 10, 2) := by decide +kernel
theorem dX4_init_23 : decode cX4_init 23 = .ok (.newarray .int, 2) := by decide +kernel
theorem dX4_init_25 : decode cX4_init 25 = .ok (.putfield 18, 3) := by decide +kernel
theorem dX4_init_28 : decode cX4_init 28 = .ok (.aload_n 0, 1) := by decide +kernel
theorem dX4_init_29 : decode cX4_init 29 = .ok (.bipush 100, 2) := by decide +kernel
theorem dX4_init_31 : decode cX4_init 31 = .ok (.newarray .int, 2) := by decide +kernel
theorem dX4_init_33 : decode cX4_init 33 = .ok (.putfield 21, 3) := by decide +kernel
theorem dX4_init_36 : decode cX4_init 36 = .ok (.aload_n 0, 1) := by decide +kernel
theorem dX4_init_37 : decode cX4_init 37 = .ok (.bipush 6, 2) := by decide +kernel
theorem dX4_init_39 : decode cX4_init 39 = .ok (.newarray .int, 2) := by decide +kernel
theorem dX4_init_41 : decode cX4_init 41 = .ok (.putfield 24, 3) := by decide +kernel
theorem dX4_init_44 : decode cX4_init 44 = .ok (.aload_n 0, 1) := by decide +kernel
theorem dX4_init_45 : decode cX4_init 45 = .ok (.invokevirtual 27, 3) := by decide +kernel
theorem dX4_init_48 : decode cX4_init 48 = .ok (.return_, 1) := by decide +kernel
theorem dX5_init_0 : decode cX5_init 0 = .ok (.aload_n 0, 1) := by decide +kernel
theorem dX5_init_1 : decode cX5_init 1 = .ok (.invokespecial 3, 3) := by decide +kernel
theorem dX5_init_4 : decode cX5_init 4 = .ok (.aload_n 0, 1) := by decide +kernel
theorem dX5_init_5 : decode cX5_init 5 = .ok (.bipush 100, 2) := by decide +kernel
theorem dX5_init_7 : decode cX5_init 7 = .ok (.newarray .int, 2) := by decide +kernel
theorem dX5_init_9 : decode cX5_init 9 = .ok (.putfield 9, 3) := by decide +kernel
theorem dX5_init_12 : decode cX5_init 12 = .ok (.return_, 1) := by decide +kernel
theorem dX6_init_0 : decode cX6_init 0 = .ok (.aload_n 0, 1) := by decide +kernel
theorem dX6_init_1 : decode cX6_init 1 = .ok (.invokespecial 3, 3) := by decide +kernel
theorem dX6_init_4 : decode cX6_init 4 = .ok (.aload_n 0, 1) := by decide +kernel
theorem dX6_init_5 : decode cX6_init 5 = .ok (.bipush 8, 2) := by decide +kernel
theorem dX6_init_7 : decode cX6_init 7 = .ok (.newarray .int, 2) := by decide +kernel
theorem dX6_init_9 : decode cX6_init 9 = .ok (.putfield 9, 3) := by decide +kernel
theorem dX6_init_12 : decode cX6_init 12 = .ok (.aload_n 0, 1) := by decide +kernel
theorem dX6_init_13 : decode cX6_init 13 = .ok (.bipush 8, 2) := by decide +kernel
theorem dX6_init_15 : decode cX6_init 15 = .ok (.newarray .int, 2) := by decide +kernel
theorem dX6_init_17 : decode cX6_init 17 = .ok (.putfield 15, 3) := by decide +kernel
theorem dX6_init_20 : decode cX6_init 20 = .ok (.aload_n 0, 1) := by decide +kernel
theorem dX6_init_21 : decode cX6_init 21 = .ok (.iload_n 1, 1) := by decide +kernel
theorem dX6_init_22 : decode cX6_init 22 = .ok (.bipush 8, 2) := by decide +kernel
theorem dX6_init_24 : decode cX6_init 24 = .ok (.invokestatic 18, 3) := by decide +kernel
theorem dX6_init_27 : decode cX6_init 27 = .ok (.putfield 24, 3) := by decide +kernel
theorem dX6_init_30 : decode cX6_init 30 = .ok (.return_, 1) := by decide +kernel
theorem dX7_init_0 : decode cX7_init 0 = .ok (.aload_n 0, 1) := by decide +kernel
theorem dX7_init_1 : decode cX7_init 1 = .ok (.invokespecial 3, 3) := by decide +kernel
theorem dX7_init_4 : decode cX7_init 4 = .ok (.aload_n 0, 1) := by decide +kernel
theorem dX7_init_5 : decode cX7_init 5 = .ok (.new 9, 3) := by decide +kernel
theorem dX7_init_8 : decode cX7_init 8 = .ok (.dup, 1) := by decide +kernel
theorem dX7_init_9 : decode cX7_init 9 = .ok (.invokespecial 11, 3) := by decide +kernel
theorem dX7_init_12 : decode cX7_init 12 = .ok (.putfield 12, 3) := by decide +kernel
theorem dX7_init_15 : decode cX7_init 15 = .ok (.aload_n 0, 1) := by decide +kernel
theorem dX7_init_16 : decode cX7_init 16 = .ok (.bipush 6, 2) := by decide +kernel
theorem dX7_init_18 : decode cX7_init 18 = .ok (.anewarray 18, 3) := by decide +kernel
theorem dX7_init_21 : decode cX7_init 21 = .ok (.putfield 20, 3) := by decide +kernel
theorem dX7_init_24 : decode cX7_init 24 = .ok (.aload_n 0, 1) := by decide +kernel
theorem dX7_init_25 : decode cX7_init 25 = .ok (.new 24, 3) := by decide +kernel
theorem dX7_init_28 : decode cX7_init 28 = .ok (.dup, 1) := by decide +kernel
theorem dX7_init_29 : decode cX7_init 29 = .ok (.iconst 4, 1) := by decide +kernel
theorem dX7_init_30 : decode cX7_init 30 = .ok (.invokespecial 26, 3) := by decide +kernel
theorem dX7_init_33 : decode cX7_init 33 = .ok (.putfield 29, 3) := by decide +kernel
theorem dX7_init_36 : decode cX7_init 36 = .ok (.aload_n 0, 1) := by decide +kernel
theorem dX7_init_37 : decode cX7_init 37 = .ok (.new 24, 3) := by decide +kernel
theorem dX7_init_40 : decode cX7_init 40 = .ok (.dup, 1) := by decide +kernel
theorem dX7_init_41 : decode cX7_init 41 = .ok (.bipush 8, 2) := by decide +kernel
theorem dX7_init_43 : decode cX7_init 43 = .ok (.invokespecial 26, 3) := by decide +kernel
theorem dX7_init_46 : decode cX7_init 46 = .ok (.putfield 33, 3) := by decide +kernel
theorem dX7_init_49 : decode cX7_init 49 = .ok (.aload_n 0, 1) := by decide +kernel
theorem dX7_init_50 : decode cX7_init 50 = .ok (.new 24, 3) := by decide +kernel
theorem dX7_init_53 : decode cX7_init 53 = .ok (.dup, 1) := by decide +kernel
theorem dX7_init_54 : decode cX7_init 54 = .ok (.bipush 8, 2) := by decide +kernel
theorem dX7_init_56 : decode cX7_init 56 = .ok (.invokespecial 26, 3) := by decide +kernel
theorem dX7_init_59 : decode cX7_init 59 = .ok (.putfield 36, 3) := by decide +kernel
theorem dX7_init_62 : decode cX7_init 62 = .ok (.aload_n 0, 1) := by decide +kernel
theorem dX7_init_63 : decode cX7_init 63 = .ok (.new 39, 3) := by decide +kernel
theorem dX7_init_66 : decode cX7_init 66 = .ok (.dup, 1) := by decide +kernel
theorem dX7_init_67 : decode cX7_init 67 = .ok (.invokespecial 41, 3) := by decide +kernel
theorem dX7_init_70 : decode cX7_init 70 = .ok (.putfield 42, 3) := by decide +kernel
theorem dX7_init_73 : decode cX7_init 73 = .ok (.aload_n 0, 1) := by decide +kernel
theorem dX7_init_74 : decode cX7_init 74 = .ok (.sipush 200, 3) := by decide +kernel
theorem dX7_init_77 : decode cX7_init 77 = .ok (.putfield 46, 3) := by decide +kernel
theorem dX7_init_80 : decode cX7_init 80 = .ok (.aload_n 0, 1) := by decide +kernel
theorem dX7_init_81 : decode cX7_init 81 = .ok (.iconst (-1), 1) := by decide +kernel
theorem dX7_init_82 : decode cX7_init 82 = .ok (.putfield 50, 3) := by decide +kernel
theorem dX7_init_85 : decode cX7_init 85 = .ok (.iconst 0, 1) := by decide +kernel
theorem dX7_init_86 : decode cX7_init 86 = .ok (.istore_n 1, 1) := by decide +kernel
theorem dX7_init_87 : decode cX7_init 87 = .ok (.iload_n 1, 1) := by decide +kernel
theorem dX7_init_88 : decode cX7_init 88 = .ok (.bipush 6, 2) := by decide +kernel
theorem dX7_init_90 : decode cX7_init 90 = .ok (.if_icmp .ge 23, 3) := by decide +kernel
theorem dX7_init_93 : decode cX7_init 93 = .ok (.aload_n 0, 1) := by decide +kernel
theorem dX7_init_94 : decode cX7_init 94 = .ok (.getfield 20, 3) := by decide +kernel
theorem dX7_init_97 : decode cX7_init 97 = .ok (.iload_n 1, 1) := by decide +kernel
theorem dX7_init_98 : decode cX7_init 98 = .ok (.new 18, 3) := by decide +kernel
theorem dX7_init_101 : decode cX7_init 101 = .ok (.dup, 1) := by decide +kernel
theorem dX7_init_102 : decode cX7_init 102 = .ok (.iload_n 1, 1) := by decide +kernel
theorem dX7_init_103 : decode cX7_init 103 = .ok (.invokespecial 53, 3) := by decide +kernel
theorem dX7_init_106 : decode cX7_init 106 = .ok (.aastore, 1) := by decide +kernel
theorem dX7_init_107 : decode cX7_init 107 = .ok (.iinc 1 1, 3) := by decide +kernel
theorem dX7_init_110 : decode cX7_init 110 = .ok (.goto (-23), 3) := by decide +kernel
theorem dX7_init_113 : decode cX7_init 113 = .ok (.return_, 1) := by decide +kernel
theorem dX8_init_0 : decode cX8_init 0 = .ok (.aload_n 0, 1) := by decide +kernel
theorem dX8_init_1 : decode cX8_init 1 = .ok (.invokespecial 3, 3) := by decide +kernel
theorem dX8_init_4 : decode cX8_init 4 = .ok (.aload_n 0, 1) := by decide +kernel
theorem dX8_init_5 : decode cX8_init 5 = .ok (.bipush 60, 2) := by decide +kernel
theorem dX8_init_7 : decode cX8_init 7 = .ok (.newarray .long, 2) := by decide +kernel
theorem dX8_init_9 : decode cX8_init 9 = .ok (.putfield 9, 3) := by decide +kernel
theorem dX8_init_12 : decode cX8_init 12 = .ok (.aload_n 0, 1) := by decide +kernel
theorem dX8_init_13 : decode cX8_init 13 = .ok (.iconst (-1), 1) := by decide +kernel
theorem dX8_init_14 : decode cX8_init 14 = .ok (.putfield 15, 3) := by decide +kernel
theorem dX8_init_17 : decode cX8_init 17 = .ok (.return_, 1) := by decide +kernel
theorem dX9_init_0 : decode cX9_init 0 = .ok (.aload_n 0, 1) := by decide +kernel
theorem dX9_init_1 : decode cX9_init 1 = .ok (.invokespecial 3, 3) := by decide +kernel
theorem dX9_init_4 : decode cX9_init 4 = .ok (.aload_n 0, 1) := by decide +kernel
theorem dX9_init_5 : decode cX9_init 5 = .ok (.new 9, 3) := by decide +kernel
theorem dX9_init_8 : decode cX9_init 8 = .ok (.dup, 1) := by decide +kernel
theorem dX9_init_9 : decode cX9_init 9 = .ok (.invokespecial 11, 3) := by decide +kernel
theorem dX9_init_12 : decode cX9_init 12 = .ok (.putfield 12, 3) := by decide +kernel
theorem dX9_init_15 : decode cX9_init 15 = .ok (.aload_n 0, 1) := by decide +kernel
theorem dX9_init_16 : decode cX9_init 16 = .ok (.new 9, 3) := by decide +kernel
theorem dX9_init_19 : decode cX9_init 19 = .ok (.dup, 1) := by decide +kernel
theorem dX9_init_20 : decode cX9_init 20 = .ok (.invokespecial 11, 3) := by decide +kernel
theorem dX9_init_23 : decode cX9_init 23 = .ok (.putfield 18, 3) := by decide +kernel
theorem dX9_init_26 : decode cX9_init 26 = .ok (.aload_n 0, 1) := by decide +kernel
theorem dX9_init_27 : decode cX9_init 27 = .ok (.new 21, 3) := by decide +kernel
theorem dX9_init_30 : decode cX9_init 30 = .ok (.dup, 1) := by decide +kernel
theorem dX9_init_31 : decode cX9_init 31 = .ok (.invokespecial 23, 3) := by decide +kernel
theorem dX9_init_34 : decode cX9_init 34 = .ok (.putfield 24, 3) := by decide +kernel
theorem dX9_init_37 : decode cX9_init 37 = .ok (.aload_n 0, 1) := by decide +kernel
theorem dX9_init_38 : decode cX9_init 38 = .ok (.new 28, 3) := by decide +kernel
theorem dX9_init_41 : decode cX9_init 41 = .ok (.dup, 1) := by decide +kernel
theorem dX9_init_42 : decode cX9_init 42 = .ok (.invokespecial 30, 3) := by decide +kernel
theorem dX9_init_45 : decode cX9_init 45 = .ok (.putfield 31, 3) := by decide +kernel
theorem dX9_init_48 : decode cX9_init 48 = .ok (.aload_n 0, 1) := by decide +kernel
theorem dX9_init_49 : decode cX9_init 49 = .ok (.bipush 6, 2) := by decide +kernel
theorem dX9_init_51 : decode cX9_init 51 = .ok (.anewarray 35, 3) := by decide +kernel
theorem dX9_init_54 : decode cX9_init 54 = .ok (.putfield 37, 3) := by decide +kernel
theorem dX9_init_57 : decode cX9_init 57 = .ok (.aload_n 0, 1) := by decide +kernel
theorem dX9_init_58 : decode cX9_init 58 = .ok (.bipush 6, 2) := by decide +kernel
theorem dX9_init_60 : decode cX9_init 60 = .ok (.anewarray 41, 3) := by decide +kernel
theorem dX9_init_63 : decode cX9_init 63 = .ok (.putfield 43, 3) := by decide +kernel
theorem dX9_init_66 : decode cX9_init 66 = .ok (.aload_n 0, 1) := by decide +kernel
theorem dX9_init_67 : decode cX9_init 67 = .ok (.new 47, 3) := by decide +kernel
theorem dX9_init_70 : decode cX9_init 70 = .ok (.dup, 1) := by decide +kernel
theorem dX9_init_71 : decode cX9_init 71 = .ok (.invokespecial 49, 3) := by decide +kernel
theorem dX9_init_74 : decode cX9_init 74 = .ok (.putfield 50, 3) := by decide +kernel
theorem dX9_init_77 : decode cX9_init 77 = .ok (.iconst 0, 1) := by decide +kernel
theorem dX9_init_78 : decode cX9_init 78 = .ok (.istore_n 1, 1) := by decide +kernel
theorem dX9_init_79 : decode cX9_init 79 = .ok (.iload_n 1, 1) := by decide +kernel
theorem dX9_init_80 : decode cX9_init 80 = .ok (.bipush 6, 2) := by decide +kernel
theorem dX9_init_82 : decode cX9_init 82 = .ok (.if_icmp .ge 22, 3) := by decide +kernel
theorem dX9_init_85 : decode cX9_init 85 = .ok (.aload_n 0, 1) := by decide +kernel
theorem dX9_init_86 : decode cX9_init 86 = .ok (.getfield 37, 3) := by decide +kernel
theorem dX9_init_89 : decode cX9_init 89 = .ok (.iload_n 1, 1) := by decide +kernel
theorem dX9_init_90 : decode cX9_init 90 = .ok (.new 35, 3) := by decide +kernel
theorem dX9_init_93 : decode cX9_init 93 = .ok (.dup, 1) := by decide +kernel
theorem dX9_init_94 : decode cX9_init 94 = .ok (.invokespecial 54, 3) := by decide +kernel
theorem dX9_init_97 : decode cX9_init 97 = .ok (.aastore, 1) := by decide +kernel
theorem dX9_init_98 : decode cX9_init 98 = .ok (.iinc 1 1, 3) := by decide +kernel
theorem dX9_init_101 : decode cX9_init 101 = .ok (.goto (-22), 3) := by decide +kernel
theorem dX9_init_104 : decode cX9_init 104 = .ok (.iconst 0, 1) := by decide +kernel
theorem dX9_init_105 : decode cX9_init 105 = .ok (.istore_n 1, 1) := by decide +kernel
theorem dX9_init_106 : decode cX9_init 106 = .ok (.iload_n 1, 1) := by decide +kernel
theorem dX9_init_107 : decode cX9_init 107 = .ok (.bipush 6, 2) := by decide +kernel
theorem dX9_init_109 : decode cX9_init 109 = .ok (.if_icmp .ge 22, 3) := by decide +kernel
theorem dX9_init_112 : decode cX9_init 112 = .ok (.aload_n 0, 1) := by decide +kernel
theorem dX9_init_113 : decode cX9_init 113 = .ok (.getfield 43, 3) := by decide +kernel
theorem dX9_init_116 : decode cX9_init 116 = .ok (.iload_n 1, 1) := by decide +kernel
theorem dX9_init_117 : decode cX9_init 117 = .ok (.new 41, 3) := by decide +kernel
theorem dX9_init_120 : decode cX9_init 120 = .ok (.dup, 1) := by decide +kernel
theorem dX9_init_121 : decode cX9_init 121 = .ok (.invokespecial 55, 3) := by decide +kernel
theorem dX9_init_124 : decode cX9_init 124 = .ok (.aastore, 1) := by decide +kernel
theorem dX9_init_125 : decode cX9_init 125 = .ok (.iinc 1 1, 3) := by decide +kernel
theorem dX9_init_128 : decode cX9_init 128 = .ok (.goto (-22), 3) := by decide +kernel
theorem dX9_init_131 : decode cX9_init 131 = .ok (.return_, 1) := by decide +kernel
def x_U1 : x_M := x_sI (x_sI (x_sI (x_sI (x_sI (x_sI (x_sR x_U0 101 0 102) 102 ((0 : Int32)).toNatClampNeg (10 : Int32)) 102 ((1 : Int32)).toNatClampNeg (10 : Int32)) 102 ((2 : Int32)).toNatClampNeg (10 : Int32)) 102 ((3 : Int32)).toNatClampNeg (10 : Int32)) 102 ((4 : Int32)).toNatClampNeg (10 : Int32)) 102 ((5 : Int32)).toNatClampNeg (10 : Int32)
set_option maxRecDepth 100000 in
theorem k_X3_init_101 (hR : x_R (XC ad D cA) x_ixA h0 hA) : x_Ct (XC ad D cA) x_Z0 x_ixA h0 hA l yX3_init cX3_init 2 1 1 6 4 5 [vR 101] x_U0 x_U1 := by
  refine c_enter hR (by decide +kernel) (Nat.le_of_ble_eq_true rfl) (fun p e s m args below meth c hC hin hr hlk => ?_)
  refine s_lv (lv' := [(0, vR 101)]) [0] rfl ?_
  refine s_aload_n (hC.C 0 0 (Nat.le_of_ble_eq_true rfl) (Nat.le_of_ble_eq_true rfl)) 0 dX3_init_0 rfl ?_
  refine c_init hC (by decide) qo_X3_3 qo_inst qo_code (by decide) (Nat.le_of_ble_eq_true rfl) dX3_init_1 ?_
  refine s_aload_n (hC.C 0 0 (Nat.le_of_ble_eq_true rfl) (Nat.le_of_ble_eq_true rfl)) 0 dX3_init_4 rfl ?_
  refine s_bipush (hC.C 0 0 (Nat.le_of_ble_eq_true rfl) (Nat.le_of_ble_eq_true rfl)) dX3_init_5 (v := 6) (by decide) ?_
  refine c_newI hC ix_102 kd_102 (by decide) ln_102 (by decide +kernel) qa_int (by decide) (by decide) ⟨Nat.le_of_ble_eq_true rfl, Nat.le_of_ble_eq_true rfl⟩ dX3_init_7 ?_
  refine c_putR hC xc3 (by decide) hin rfl qp_X3_9 (x_stgk ix_101 (by decide) kd_101) dX3_init_9 ?_
  refine s_iconst (hC.C 1 6 (Nat.le_of_ble_eq_true rfl) (Nat.le_of_ble_eq_true rfl)) dX3_init_12 (v := 0) (by decide) ?_
  refine s_istore_n (hC.C 1 6 (Nat.le_of_ble_eq_true rfl) (Nat.le_of_ble_eq_true rfl)) dX3_init_13 (by decide) (lv' := [(1, vI (0 : Int32)), (0, vR 101)]) rfl ?_
  refine s_iload_n (hC.C 1 6 (Nat.le_of_ble_eq_true rfl) (Nat.le_of_ble_eq_true rfl)) 0 dX3_init_14 rfl ?_
  refine s_bipush (hC.C 1 6 (Nat.le_of_ble_eq_true rfl) (Nat.le_of_ble_eq_true rfl)) dX3_init_15 (v := 6) (by decide) ?_
  refine c_ge_f (hC.C 1 6 (Nat.le_of_ble_eq_true rfl) (Nat.le_of_ble_eq_true rfl)) dX3_init_17 (tgt := 34) (by decide) (by decide) ?_
  refine s_aload_n (hC.C 1 6 (Nat.le_of_ble_eq_true rfl) (Nat.le_of_ble_eq_true rfl)) 1 dX3_init_20 rfl ?_
  refine c_getR hC xc3 (by decide) rfl qp_X3_9 (x_stgk ix_101 (by decide) kd_101) (w := 102) (by decide +kernel) dX3_init_21 ?_
  refine s_iload_n (hC.C 1 6 (Nat.le_of_ble_eq_true rfl) (Nat.le_of_ble_eq_true rfl)) 0 dX3_init_24 rfl ?_
  refine s_bipush (hC.C 1 6 (Nat.le_of_ble_eq_true rfl) (Nat.le_of_ble_eq_true rfl)) dX3_init_25 (v := 10) (by decide) ?_
  refine c_iast hC (x_stgk ix_102 (by decide) kd_102) (by rw [show x_ln (XC ad D cA) 102 = 6 from ln_102]; decide) dX3_init_27 ?_
  refine s_iinc (hC.C 1 6 (Nat.le_of_ble_eq_true rfl) (Nat.le_of_ble_eq_true rfl)) 0 dX3_init_28 rfl (w := 1) (by decide) (by decide) (lv' := [(1, vI (1 : Int32)), (0, vR 101)]) rfl ?_
  refine s_goto (hC.C 1 6 (Nat.le_of_ble_eq_true rfl) (Nat.le_of_ble_eq_true rfl)) dX3_init_31 (tgt := 14) (by decide) ?_
  refine s_iload_n (hC.C 1 6 (Nat.le_of_ble_eq_true rfl) (Nat.le_of_ble_eq_true rfl)) 0 dX3_init_14 rfl ?_
  refine s_bipush (hC.C 1 6 (Nat.le_of_ble_eq_true rfl) (Nat.le_of_ble_eq_true rfl)) dX3_init_15 (v := 6) (by decide) ?_
  refine c_ge_f (hC.C 1 6 (Nat.le_of_ble_eq_true rfl) (Nat.le_of_ble_eq_true rfl)) dX3_init_17 (tgt := 34) (by decide) (by decide) ?_
  refine s_aload_n (hC.C 1 6 (Nat.le_of_ble_eq_true rfl) (Nat.le_of_ble_eq_true rfl)) 1 dX3_init_20 rfl ?_
  refine c_getR hC xc3 (by decide) rfl qp_X3_9 (x_stgk ix_101 (by decide) kd_101) (w := 102) (by decide +kernel) dX3_init_21 ?_
  refine s_iload_n (hC.C 1 6 (Nat.le_of_ble_eq_true rfl) (Nat.le_of_ble_eq_true rfl)) 0 dX3_init_24 rfl ?_
  refine s_bipush (hC.C 1 6 (Nat.le_of_ble_eq_true rfl) (Nat.le_of_ble_eq_true rfl)) dX3_init_25 (v := 10) (by decide) ?_
  refine c_iast hC (x_stgk ix_102 (by decide) kd_102) (by rw [show x_ln (XC ad D cA) 102 = 6 from ln_102]; decide) dX3_init_27 ?_
  refine s_iinc (hC.C 1 6 (Nat.le_of_ble_eq_true rfl) (Nat.le_of_ble_eq_true rfl)) 0 dX3_init_28 rfl (w := 1) (by decide) (by decide) (lv' := [(1, vI (2 : Int32)), (0, vR 101)]) rfl ?_
  refine s_goto (hC.C 1 6 (Nat.le_of_ble_eq_true rfl) (Nat.le_of_ble_eq_true rfl)) dX3_init_31 (tgt := 14) (by decide) ?_
  refine s_iload_n (hC.C 1 6 (Nat.le_of_ble_eq_true rfl) (Nat.le_of_ble_eq_true rfl)) 0 dX3_init_14 rfl ?_
  refine s_bipush (hC.C 1 6 (Nat.le_of_ble_eq_true rfl) (Nat.le_of_ble_eq_true rfl)) dX3_init_15 (v := 6) (by decide) ?_
  refine c_ge_f (hC.C 1 6 (Nat.le_of_ble_eq_true rfl) (Nat.le_of_ble_eq_true rfl)) dX3_init_17 (tgt := 34) (by decide) (by decide) ?_
  refine s_aload_n (hC.C 1 6 (Nat.le_of_ble_eq_true rfl) (Nat.le_of_ble_eq_true rfl)) 1 dX3_init_20 rfl ?_
  refine c_getR hC xc3 (by decide) rfl qp_X3_9 (x_stgk ix_101 (by decide) kd_101) (w := 102) (by decide +kernel) dX3_init_21 ?_
  refine s_iload_n (hC.C 1 6 (Nat.le_of_ble_eq_true rfl) (Nat.le_of_ble_eq_true rfl)) 0 dX3_init_24 rfl ?_
  refine s_bipush (hC.C 1 6 (Nat.le_of_ble_eq_true rfl) (Nat.le_of_ble_eq_true rfl)) dX3_init_25 (v := 10) (by decide) ?_
  refine c_iast hC (x_stgk ix_102 (by decide) kd_102) (by rw [show x_ln (XC ad D cA) 102 = 6 from ln_102]; decide) dX3_init_27 ?_
  refine s_iinc (hC.C 1 6 (Nat.le_of_ble_eq_true rfl) (Nat.le_of_ble_eq_true rfl)) 0 dX3_init_28 rfl (w := 1) (by decide) (by decide) (lv' := [(1, vI (3 : Int32)), (0, vR 101)]) rfl ?_
  refine s_goto (hC.C 1 6 (Nat.le_of_ble_eq_true rfl) (Nat.le_of_ble_eq_true rfl)) dX3_init_31 (tgt := 14) (by decide) ?_
  refine s_iload_n (hC.C 1 6 (Nat.le_of_ble_eq_true rfl) (Nat.le_of_ble_eq_true rfl)) 0 dX3_init_14 rfl ?_
  refine s_bipush (hC.C 1 6 (Nat.le_of_ble_eq_true rfl) (Nat.le_of_ble_eq_true rfl)) dX3_init_15 (v := 6) (by decide) ?_
  refine c_ge_f (hC.C 1 6 (Nat.le_of_ble_eq_true rfl) (Nat.le_of_ble_eq_true rfl)) dX3_init_17 (tgt := 34) (by decide) (by decide) ?_
  refine s_aload_n (hC.C 1 6 (Nat.le_of_ble_eq_true rfl) (Nat.le_of_ble_eq_true rfl)) 1 dX3_init_20 rfl ?_
  refine c_getR hC xc3 (by decide) rfl qp_X3_9 (x_stgk ix_101 (by decide) kd_101) (w := 102) (by decide +kernel) dX3_init_21 ?_
  refine s_iload_n (hC.C 1 6 (Nat.le_of_ble_eq_true rfl) (Nat.le_of_ble_eq_true rfl)) 0 dX3_init_24 rfl ?_
  refine s_bipush (hC.C 1 6 (Nat.le_of_ble_eq_true rfl) (Nat.le_of_ble_eq_true rfl)) dX3_init_25 (v := 10) (by decide) ?_
  refine c_iast hC (x_stgk ix_102 (by decide) kd_102) (by rw [show x_ln (XC ad D cA) 102 = 6 from ln_102]; decide) dX3_init_27 ?_
  refine s_iinc (hC.C 1 6 (Nat.le_of_ble_eq_true rfl) (Nat.le_of_ble_eq_true rfl)) 0 dX3_init_28 rfl (w := 1) (by decide) (by decide) (lv' := [(1, vI (4 : Int32)), (0, vR 101)]) rfl ?_
  refine s_goto (hC.C 1 6 (Nat.le_of_ble_eq_true rfl) (Nat.le_of_ble_eq_true rfl)) dX3_init_31 (tgt := 14) (by decide) ?_
  refine s_iload_n (hC.C 1 6 (Nat.le_of_ble_eq_true rfl) (Nat.le_of_ble_eq_true rfl)) 0 dX3_init_14 rfl ?_
  refine s_bipush (hC.C 1 6 (Nat.le_of_ble_eq_true rfl) (Nat.le_of_ble_eq_true rfl)) dX3_init_15 (v := 6) (by decide) ?_
  refine c_ge_f (hC.C 1 6 (Nat.le_of_ble_eq_true rfl) (Nat.le_of_ble_eq_true rfl)) dX3_init_17 (tgt := 34) (by decide) (by decide) ?_
  refine s_aload_n (hC.C 1 6 (Nat.le_of_ble_eq_true rfl) (Nat.le_of_ble_eq_true rfl)) 1 dX3_init_20 rfl ?_
  refine c_getR hC xc3 (by decide) rfl qp_X3_9 (x_stgk ix_101 (by decide) kd_101) (w := 102) (by decide +kernel) dX3_init_21 ?_
  refine s_iload_n (hC.C 1 6 (Nat.le_of_ble_eq_true rfl) (Nat.le_of_ble_eq_true rfl)) 0 dX3_init_24 rfl ?_
  refine s_bipush (hC.C 1 6 (Nat.le_of_ble_eq_true rfl) (Nat.le_of_ble_eq_true rfl)) dX3_init_25 (v := 10) (by decide) ?_
  refine c_iast hC (x_stgk ix_102 (by decide) kd_102) (by rw [show x_ln (XC ad D cA) 102 = 6 from ln_102]; decide) dX3_init_27 ?_
  refine s_iinc (hC.C 1 6 (Nat.le_of_ble_eq_true rfl) (Nat.le_of_ble_eq_true rfl)) 0 dX3_init_28 rfl (w := 1) (by decide) (by decide) (lv' := [(1, vI (5 : Int32)), (0, vR 101)]) rfl ?_
  refine s_goto (hC.C 1 6 (Nat.le_of_ble_eq_true rfl) (Nat.le_of_ble_eq_true rfl)) dX3_init_31 (tgt := 14) (by decide) ?_
  refine s_iload_n (hC.C 1 6 (Nat.le_of_ble_eq_true rfl) (Nat.le_of_ble_eq_true rfl)) 0 dX3_init_14 rfl ?_
  refine s_bipush (hC.C 1 6 (Nat.le_of_ble_eq_true rfl) (Nat.le_of_ble_eq_true rfl)) dX3_init_15 (v := 6) (by decide) ?_
  refine c_ge_f (hC.C 1 6 (Nat.le_of_ble_eq_true rfl) (Nat.le_of_ble_eq_true rfl)) dX3_init_17 (tgt := 34) (by decide) (by decide) ?_
  refine s_aload_n (hC.C 1 6 (Nat.le_of_ble_eq_true rfl) (Nat.le_of_ble_eq_true rfl)) 1 dX3_init_20 rfl ?_
  refine c_getR hC xc3 (by decide) rfl qp_X3_9 (x_stgk ix_101 (by decide) kd_101) (w := 102) (by decide +kernel) dX3_init_21 ?_
  refine s_iload_n (hC.C 1 6 (Nat.le_of_ble_eq_true rfl) (Nat.le_of_ble_eq_true rfl)) 0 dX3_init_24 rfl ?_
  refine s_bipush (hC.C 1 6 (Nat.le_of_ble_eq_true rfl) (Nat.le_of_ble_eq_true rfl)) dX3_init_25 (v := 10) (by decide) ?_
  refine c_iast hC (x_stgk ix_102 (by decide) kd_102) (by rw [show x_ln (XC ad D cA) 102 = 6 from ln_102]; decide) dX3_init_27 ?_
  refine s_iinc (hC.C 1 6 (Nat.le_of_ble_eq_true rfl) (Nat.le_of_ble_eq_true rfl)) 0 dX3_init_28 rfl (w := 1) (by decide) (by decide) (lv' := [(1, vI (6 : Int32)), (0, vR 101)]) rfl ?_
  refine s_goto (hC.C 1 6 (Nat.le_of_ble_eq_true rfl) (Nat.le_of_ble_eq_true rfl)) dX3_init_31 (tgt := 14) (by decide) ?_
  refine s_iload_n (hC.C 1 6 (Nat.le_of_ble_eq_true rfl) (Nat.le_of_ble_eq_true rfl)) 0 dX3_init_14 rfl ?_
  refine s_bipush (hC.C 1 6 (Nat.le_of_ble_eq_true rfl) (Nat.le_of_ble_eq_true rfl)) dX3_init_15 (v := 6) (by decide) ?_
  refine c_ge_t (hC.C 1 6 (Nat.le_of_ble_eq_true rfl) (Nat.le_of_ble_eq_true rfl)) dX3_init_17 (tgt := 34) (by decide) (by decide) ?_
  exact c_ret hC hr hlk dX3_init_34
def x_U2 : x_M := x_sR (x_sR x_U1 100 0 101) 100 1 103
def x_U3 : x_M := x_sI (x_sR (x_sR x_U2 116 0 117) 116 1 118) 116 2 (if (8 : Int32) < (4 : Int32) then (8 : Int32) else (4 : Int32))
set_option maxRecDepth 100000 in
theorem k_X6_init_116 (hR : x_R (XC ad D cA) x_ixA h0 hA) : x_Ct (XC ad D cA) x_Z0 x_ixA h0 hA l yX6_init cX6_init 2 1 2 16 7 9 [vR 116, vI (4 : Int32)] x_U2 x_U3 := by
  refine c_enter hR (by decide +kernel) (Nat.le_of_ble_eq_true rfl) (fun p e s m args below meth c hC hin hr hlk => ?_)
  refine s_lv (lv' := [(0, vR 116), (1, vI (4 : Int32))]) [0, 1] rfl ?_
  refine s_aload_n (hC.C 0 0 (Nat.le_of_ble_eq_true rfl) (Nat.le_of_ble_eq_true rfl)) 0 dX6_init_0 rfl ?_
  refine c_init hC (by decide) qo_X6_3 qo_inst qo_code (by decide) (Nat.le_of_ble_eq_true rfl) dX6_init_1 ?_
  refine s_aload_n (hC.C 0 0 (Nat.le_of_ble_eq_true rfl) (Nat.le_of_ble_eq_true rfl)) 0 dX6_init_4 rfl ?_
  refine s_bipush (hC.C 0 0 (Nat.le_of_ble_eq_true rfl) (Nat.le_of_ble_eq_true rfl)) dX6_init_5 (v := 8) (by decide) ?_
  refine c_newI hC ix_117 kd_117 (by decide) ln_117 (by decide +kernel) qa_int (by decide) (by decide) ⟨Nat.le_of_ble_eq_true rfl, Nat.le_of_ble_eq_true rfl⟩ dX6_init_7 ?_
  refine c_putR hC xc6 (by decide) hin rfl qp_X6_9 (x_stgk ix_116 (by decide) kd_116) dX6_init_9 ?_
  refine s_aload_n (hC.C 1 8 (Nat.le_of_ble_eq_true rfl) (Nat.le_of_ble_eq_true rfl)) 0 dX6_init_12 rfl ?_
  refine s_bipush (hC.C 1 8 (Nat.le_of_ble_eq_true rfl) (Nat.le_of_ble_eq_true rfl)) dX6_init_13 (v := 8) (by decide) ?_
  refine c_newI hC ix_118 kd_118 (by decide) ln_118 (by decide +kernel) qa_int (by decide) (by decide) ⟨Nat.le_of_ble_eq_true rfl, Nat.le_of_ble_eq_true rfl⟩ dX6_init_15 ?_
  refine c_putR hC xc6 (by decide) hin rfl qp_X6_15 (x_stgk ix_116 (by decide) kd_116) dX6_init_17 ?_
  refine s_aload_n (hC.C 2 16 (Nat.le_of_ble_eq_true rfl) (Nat.le_of_ble_eq_true rfl)) 0 dX6_init_20 rfl ?_
  refine s_iload_n (hC.C 2 16 (Nat.le_of_ble_eq_true rfl) (Nat.le_of_ble_eq_true rfl)) 1 dX6_init_21 rfl ?_
  refine s_bipush (hC.C 2 16 (Nat.le_of_ble_eq_true rfl) (Nat.le_of_ble_eq_true rfl)) dX6_init_22 (v := 8) (by decide) ?_
  refine s_min (hC.C 2 16 (Nat.le_of_ble_eq_true rfl) (Nat.le_of_ble_eq_true rfl)) dX6_init_24 qm_X6_18 qt_Math_min qc_Math qd_Math_min (by decide) (Nat.le_of_ble_eq_true rfl) ?_
  refine c_putI hC xc6 (by decide) hin rfl qp_X6_24 (x_stgk ix_116 (by decide) kd_116) dX6_init_27 ?_
  exact c_ret hC hr hlk dX6_init_30
def x_U4 : x_M := x_sR x_U3 100 2 116
def x_U5 : x_M := x_sI (x_sR (x_sR x_U4 119 0 120) 119 1 121) 119 2 (if (8 : Int32) < (8 : Int32) then (8 : Int32) else (8 : Int32))
set_option maxRecDepth 100000 in
theorem k_X6_init_119 (hR : x_R (XC ad D cA) x_ixA h0 hA) : x_Ct (XC ad D cA) x_Z0 x_ixA h0 hA l yX6_init cX6_init 2 1 2 16 10 12 [vR 119, vI (8 : Int32)] x_U4 x_U5 := by
  refine c_enter hR (by decide +kernel) (Nat.le_of_ble_eq_true rfl) (fun p e s m args below meth c hC hin hr hlk => ?_)
  refine s_lv (lv' := [(0, vR 119), (1, vI (8 : Int32))]) [0, 1] rfl ?_
  refine s_aload_n (hC.C 0 0 (Nat.le_of_ble_eq_true rfl) (Nat.le_of_ble_eq_true rfl)) 0 dX6_init_0 rfl ?_
  refine c_init hC (by decide) qo_X6_3 qo_inst qo_code (by decide) (Nat.le_of_ble_eq_true rfl) dX6_init_1 ?_
  refine s_aload_n (hC.C 0 0 (Nat.le_of_ble_eq_true rfl) (Nat.le_of_ble_eq_true rfl)) 0 dX6_init_4 rfl ?_
  refine s_bipush (hC.C 0 0 (Nat.le_of_ble_eq_true rfl) (Nat.le_of_ble_eq_true rfl)) dX6_init_5 (v := 8) (by decide) ?_
  refine c_newI hC ix_120 kd_120 (by decide) ln_120 (by decide +kernel) qa_int (by decide) (by decide) ⟨Nat.le_of_ble_eq_true rfl, Nat.le_of_ble_eq_true rfl⟩ dX6_init_7 ?_
  refine c_putR hC xc6 (by decide) hin rfl qp_X6_9 (x_stgk ix_119 (by decide) kd_119) dX6_init_9 ?_
  refine s_aload_n (hC.C 1 8 (Nat.le_of_ble_eq_true rfl) (Nat.le_of_ble_eq_true rfl)) 0 dX6_init_12 rfl ?_
  refine s_bipush (hC.C 1 8 (Nat.le_of_ble_eq_true rfl) (Nat.le_of_ble_eq_true rfl)) dX6_init_13 (v := 8) (by decide) ?_
  refine c_newI hC ix_121 kd_121 (by decide) ln_121 (by decide +kernel) qa_int (by decide) (by decide) ⟨Nat.le_of_ble_eq_true rfl, Nat.le_of_ble_eq_true rfl⟩ dX6_init_15 ?_
  refine c_putR hC xc6 (by decide) hin rfl qp_X6_15 (x_stgk ix_119 (by decide) kd_119) dX6_init_17 ?_
  refine s_aload_n (hC.C 2 16 (Nat.le_of_ble_eq_true rfl) (Nat.le_of_ble_eq_true rfl)) 0 dX6_init_20 rfl ?_
  refine s_iload_n (hC.C 2 16 (Nat.le_of_ble_eq_true rfl) (Nat.le_of_ble_eq_true rfl)) 1 dX6_init_21 rfl ?_
  refine s_bipush (hC.C 2 16 (Nat.le_of_ble_eq_true rfl) (Nat.le_of_ble_eq_true rfl)) dX6_init_22 (v := 8) (by decide) ?_
  refine s_min (hC.C 2 16 (Nat.le_of_ble_eq_true rfl) (Nat.le_of_ble_eq_true rfl)) dX6_init_24 qm_X6_18 qt_Math_min qc_Math qd_Math_min (by decide) (Nat.le_of_ble_eq_true rfl) ?_
  refine c_putI hC xc6 (by decide) hin rfl qp_X6_24 (x_stgk ix_119 (by decide) kd_119) dX6_init_27 ?_
  exact c_ret hC hr hlk dX6_init_30
def x_U6 : x_M := x_sR x_U5 100 3 119
def x_U7 : x_M := x_sI (x_sR (x_sR x_U6 122 0 123) 122 1 124) 122 2 (if (8 : Int32) < (8 : Int32) then (8 : Int32) else (8 : Int32))
set_option maxRecDepth 100000 in
theorem k_X6_init_122 (hR : x_R (XC ad D cA) x_ixA h0 hA) : x_Ct (XC ad D cA) x_Z0 x_ixA h0 hA l yX6_init cX6_init 2 1 2 16 13 15 [vR 122, vI (8 : Int32)] x_U6 x_U7 := by
  refine c_enter hR (by decide +kernel) (Nat.le_of_ble_eq_true rfl) (fun p e s m args below meth c hC hin hr hlk => ?_)
  refine s_lv (lv' := [(0, vR 122), (1, vI (8 : Int32))]) [0, 1] rfl ?_
  refine s_aload_n (hC.C 0 0 (Nat.le_of_ble_eq_true rfl) (Nat.le_of_ble_eq_true rfl)) 0 dX6_init_0 rfl ?_
  refine c_init hC (by decide) qo_X6_3 qo_inst qo_code (by decide) (Nat.le_of_ble_eq_true rfl) dX6_init_1 ?_
  refine s_aload_n (hC.C 0 0 (Nat.le_of_ble_eq_true rfl) (Nat.le_of_ble_eq_true rfl)) 0 dX6_init_4 rfl ?_
  refine s_bipush (hC.C 0 0 (Nat.le_of_ble_eq_true rfl) (Nat.le_of_ble_eq_true rfl)) dX6_init_5 (v := 8) (by decide) ?_
  refine c_newI hC ix_123 kd_123 (by decide) ln_123 (by decide +kernel) qa_int (by decide) (by decide) ⟨Nat.le_of_ble_eq_true rfl, Nat.le_of_ble_eq_true rfl⟩ dX6_init_7 ?_
  refine c_putR hC xc6 (by decide) hin rfl qp_X6_9 (x_stgk ix_122 (by decide) kd_122) dX6_init_9 ?_
  refine s_aload_n (hC.C 1 8 (Nat.le_of_ble_eq_true rfl) (Nat.le_of_ble_eq_true rfl)) 0 dX6_init_12 rfl ?_
  refine s_bipush (hC.C 1 8 (Nat.le_of_ble_eq_true rfl) (Nat.le_of_ble_eq_true rfl)) dX6_init_13 (v := 8) (by decide) ?_
  refine c_newI hC ix_124 kd_124 (by decide) ln_124 (by decide +kernel) qa_int (by decide) (by decide) ⟨Nat.le_of_ble_eq_true rfl, Nat.le_of_ble_eq_true rfl⟩ dX6_init_15 ?_
  refine c_putR hC xc6 (by decide) hin rfl qp_X6_15 (x_stgk ix_122 (by decide) kd_122) dX6_init_17 ?_
  refine s_aload_n (hC.C 2 16 (Nat.le_of_ble_eq_true rfl) (Nat.le_of_ble_eq_true rfl)) 0 dX6_init_20 rfl ?_
  refine s_iload_n (hC.C 2 16 (Nat.le_of_ble_eq_true rfl) (Nat.le_of_ble_eq_true rfl)) 1 dX6_init_21 rfl ?_
  refine s_bipush (hC.C 2 16 (Nat.le_of_ble_eq_true rfl) (Nat.le_of_ble_eq_true rfl)) dX6_init_22 (v := 8) (by decide) ?_
  refine s_min (hC.C 2 16 (Nat.le_of_ble_eq_true rfl) (Nat.le_of_ble_eq_true rfl)) dX6_init_24 qm_X6_18 qt_Math_min qc_Math qd_Math_min (by decide) (Nat.le_of_ble_eq_true rfl) ?_
  refine c_putI hC xc6 (by decide) hin rfl qp_X6_24 (x_stgk ix_122 (by decide) kd_122) dX6_init_27 ?_
  exact c_ret hC hr hlk dX6_init_30
def x_U8 : x_M := x_sR x_U7 100 4 122
def x_U9 : x_M := x_sR (x_sR (x_sR (x_sR (x_sR x_U8 125 0 126) 125 1 127) 125 2 128) 125 3 129) 125 4 130
def x_U10 : x_M := x_sI (x_sI (x_sI (x_sI (x_sI x_U9 125 5 (0 : Int32)) 125 6 (0 : Int32)) 125 7 (50 : Int32)) 125 8 (5 : Int32)) 125 9 (0 : Int32)
set_option maxRecDepth 100000 in
theorem k_X4_clear_125 (hR : x_R (XC ad D cA) x_ixA h0 hA) : x_Ct (XC ad D cA) x_Z0 x_ixA h0 hA l yX4_clear cX4_clear 1 1 0 0 21 21 [vR 125] x_U9 x_U10 := by
  refine c_enter hR (by decide +kernel) (Nat.le_of_ble_eq_true rfl) (fun p e s m args below meth c hC hin hr hlk => ?_)
  refine s_lv (lv' := [(0, vR 125)]) [0] rfl ?_
  refine s_aload_n (hC.C 0 0 (Nat.le_of_ble_eq_true rfl) (Nat.le_of_ble_eq_true rfl)) 0 dX4_clear_0 rfl ?_
  refine s_iconst (hC.C 0 0 (Nat.le_of_ble_eq_true rfl) (Nat.le_of_ble_eq_true rfl)) dX4_clear_1 (v := 0) (by decide) ?_
  refine c_putI2 hC xc4 (by decide) rfl rfl qp_X4_30 (x_stgk ix_125 (by decide) kd_125) dX4_clear_2 ?_
  refine s_aload_n (hC.C 0 0 (Nat.le_of_ble_eq_true rfl) (Nat.le_of_ble_eq_true rfl)) 0 dX4_clear_5 rfl ?_
  refine s_iconst (hC.C 0 0 (Nat.le_of_ble_eq_true rfl) (Nat.le_of_ble_eq_true rfl)) dX4_clear_6 (v := 0) (by decide) ?_
  refine c_putI2 hC xc4 (by decide) rfl rfl qp_X4_34 (x_stgk ix_125 (by decide) kd_125) dX4_clear_7 ?_
  refine s_aload_n (hC.C 0 0 (Nat.le_of_ble_eq_true rfl) (Nat.le_of_ble_eq_true rfl)) 0 dX4_clear_10 rfl ?_
  refine s_bipush (hC.C 0 0 (Nat.le_of_ble_eq_true rfl) (Nat.le_of_ble_eq_true rfl)) dX4_clear_11 (v := 50) (by decide) ?_
  refine c_putI2 hC xc4 (by decide) rfl rfl qp_X4_37 (x_stgk ix_125 (by decide) kd_125) dX4_clear_13 ?_
  refine s_aload_n (hC.C 0 0 (Nat.le_of_ble_eq_true rfl) (Nat.le_of_ble_eq_true rfl)) 0 dX4_clear_16 rfl ?_
  refine s_iconst (hC.C 0 0 (Nat.le_of_ble_eq_true rfl) (Nat.le_of_ble_eq_true rfl)) dX4_clear_17 (v := 5) (by decide) ?_
  refine c_putI2 hC xc4 (by decide) rfl rfl qp_X4_40 (x_stgk ix_125 (by decide) kd_125) dX4_clear_18 ?_
  refine s_aload_n (hC.C 0 0 (Nat.le_of_ble_eq_true rfl) (Nat.le_of_ble_eq_true rfl)) 0 dX4_clear_21 rfl ?_
  refine s_iconst (hC.C 0 0 (Nat.le_of_ble_eq_true rfl) (Nat.le_of_ble_eq_true rfl)) dX4_clear_22 (v := 0) (by decide) ?_
  refine c_putI2 hC xc4 (by decide) rfl rfl qp_X4_43 (x_stgk ix_125 (by decide) kd_125) dX4_clear_23 ?_
  exact c_ret hC hr hlk dX4_clear_26
set_option maxRecDepth 100000 in
theorem k_X4_init_125 (hR : x_R (XC ad D cA) x_ixA h0 hA) : x_Ct (XC ad D cA) x_Z0 x_ixA h0 hA l yX4_init cX4_init 1 2 5 136 16 21 [vR 125] x_U8 x_U10 := by
  refine c_enter hR (by decide +kernel) (Nat.le_of_ble_eq_true rfl) (fun p e s m args below meth c hC hin hr hlk => ?_)
  refine s_lv (lv' := [(0, vR 125)]) [0] rfl ?_
  refine s_aload_n (hC.C 0 0 (Nat.le_of_ble_eq_true rfl) (Nat.le_of_ble_eq_true rfl)) 0 dX4_init_0 rfl ?_
  refine c_init hC (by decide) qo_X4_3 qo_inst qo_code (by decide) (Nat.le_of_ble_eq_true rfl) dX4_init_1 ?_
  refine s_aload_n (hC.C 0 0 (Nat.le_of_ble_eq_true rfl) (Nat.le_of_ble_eq_true rfl)) 0 dX4_init_4 rfl ?_
  refine s_bipush (hC.C 0 0 (Nat.le_of_ble_eq_true rfl) (Nat.le_of_ble_eq_true rfl)) dX4_init_5 (v := 10) (by decide) ?_
  refine c_newI hC ix_126 kd_126 (by decide) ln_126 (by decide +kernel) qa_int (by decide) (by decide) ⟨Nat.le_of_ble_eq_true rfl, Nat.le_of_ble_eq_true rfl⟩ dX4_init_7 ?_
  refine c_putR hC xc4 (by decide) hin rfl qp_X4_9 (x_stgk ix_125 (by decide) kd_125) dX4_init_9 ?_
  refine s_aload_n (hC.C 1 10 (Nat.le_of_ble_eq_true rfl) (Nat.le_of_ble_eq_true rfl)) 0 dX4_init_12 rfl ?_
  refine s_bipush (hC.C 1 10 (Nat.le_of_ble_eq_true rfl) (Nat.le_of_ble_eq_true rfl)) dX4_init_13 (v := 10) (by decide) ?_
  refine c_newI hC ix_127 kd_127 (by decide) ln_127 (by decide +kernel) qa_int (by decide) (by decide) ⟨Nat.le_of_ble_eq_true rfl, Nat.le_of_ble_eq_true rfl⟩ dX4_init_15 ?_
  refine c_putR hC xc4 (by decide) hin rfl qp_X4_15 (x_stgk ix_125 (by decide) kd_125) dX4_init_17 ?_
  refine s_aload_n (hC.C 2 20 (Nat.le_of_ble_eq_true rfl) (Nat.le_of_ble_eq_true rfl)) 0 dX4_init_20 rfl ?_
  refine s_bipush (hC.C 2 20 (Nat.le_of_ble_eq_true rfl) (Nat.le_of_ble_eq_true rfl)) dX4_init_21 (v := 10) (by decide) ?_
  refine c_newI hC ix_128 kd_128 (by decide) ln_128 (by decide +kernel) qa_int (by decide) (by decide) ⟨Nat.le_of_ble_eq_true rfl, Nat.le_of_ble_eq_true rfl⟩ dX4_init_23 ?_
  refine c_putR hC xc4 (by decide) hin rfl qp_X4_18 (x_stgk ix_125 (by decide) kd_125) dX4_init_25 ?_
  refine s_aload_n (hC.C 3 30 (Nat.le_of_ble_eq_true rfl) (Nat.le_of_ble_eq_true rfl)) 0 dX4_init_28 rfl ?_
  refine s_bipush (hC.C 3 30 (Nat.le_of_ble_eq_true rfl) (Nat.le_of_ble_eq_true rfl)) dX4_init_29 (v := 100) (by decide) ?_
  refine c_newI hC ix_129 kd_129 (by decide) ln_129 (by decide +kernel) qa_int (by decide) (by decide) ⟨Nat.le_of_ble_eq_true rfl, Nat.le_of_ble_eq_true rfl⟩ dX4_init_31 ?_
  refine c_putR hC xc4 (by decide) hin rfl qp_X4_21 (x_stgk ix_125 (by decide) kd_125) dX4_init_33 ?_
  refine s_aload_n (hC.C 4 130 (Nat.le_of_ble_eq_true rfl) (Nat.le_of_ble_eq_true rfl)) 0 dX4_init_36 rfl ?_
  refine s_bipush (hC.C 4 130 (Nat.le_of_ble_eq_true rfl) (Nat.le_of_ble_eq_true rfl)) dX4_init_37 (v := 6) (by decide) ?_
  refine c_newI hC ix_130 kd_130 (by decide) ln_130 (by decide +kernel) qa_int (by decide) (by decide) ⟨Nat.le_of_ble_eq_true rfl, Nat.le_of_ble_eq_true rfl⟩ dX4_init_39 ?_
  refine c_putR hC xc4 (by decide) hin rfl qp_X4_24 (x_stgk ix_125 (by decide) kd_125) dX4_init_41 ?_
  refine s_aload_n (hC.C 5 136 (Nat.le_of_ble_eq_true rfl) (Nat.le_of_ble_eq_true rfl)) 0 dX4_init_44 rfl ?_
  refine c_callV hC (x := 125) (avs := []) (st := []) (nest := false) xc4 (x_stgk ix_125 (by decide) kd_125) (k_X4_clear_125 hR) dX4_init_45 qm_X4_27 qi_X4_clear qs_X4_clear qc_X4 qd_X4_clear qh_X4_clear (by decide) ⟨Nat.le_of_ble_eq_true rfl, Nat.le_of_ble_eq_true rfl⟩ (Nat.le_of_ble_eq_true rfl) ?_
  exact c_ret hC hr hlk dX4_init_48
def x_U11 : x_M := x_sI (x_sI (x_sR x_U10 100 5 125) 100 7 (200 : Int32)) 100 11 (-1 : Int32)
def x_U12 : x_M := x_sI (x_sR x_U11 104 1 110) 104 0 (0 : Int32)
set_option maxRecDepth 100000 in
theorem k_X0_init_104 (hR : x_R (XC ad D cA) x_ixA h0 hA) : x_Ct (XC ad D cA) x_Z0 x_ixA h0 hA l yX0_init cX0_init 2 1 1 4 22 23 [vR 104, vI (0 : Int32)] x_U11 x_U12 := by
  refine c_enter hR (by decide +kernel) (Nat.le_of_ble_eq_true rfl) (fun p e s m args below meth c hC hin hr hlk => ?_)
  refine s_lv (lv' := [(0, vR 104), (1, vI (0 : Int32))]) [0, 1] rfl ?_
  refine s_aload_n (hC.C 0 0 (Nat.le_of_ble_eq_true rfl) (Nat.le_of_ble_eq_true rfl)) 0 dX0_init_0 rfl ?_
  refine c_init hC (by decide) qo_X0_3 qo_inst qo_code (by decide) (Nat.le_of_ble_eq_true rfl) dX0_init_1 ?_
  refine s_aload_n (hC.C 0 0 (Nat.le_of_ble_eq_true rfl) (Nat.le_of_ble_eq_true rfl)) 0 dX0_init_4 rfl ?_
  refine s_iconst (hC.C 0 0 (Nat.le_of_ble_eq_true rfl) (Nat.le_of_ble_eq_true rfl)) dX0_init_5 (v := 4) (by decide) ?_
  refine c_newI hC ix_110 kd_110 (by decide) ln_110 (by decide +kernel) qa_int (by decide) (by decide) ⟨Nat.le_of_ble_eq_true rfl, Nat.le_of_ble_eq_true rfl⟩ dX0_init_6 ?_
  refine c_putR hC xc0 (by decide) hin rfl qp_X0_9 (x_stgk ix_104 (by decide) kd_104) dX0_init_8 ?_
  refine s_aload_n (hC.C 1 4 (Nat.le_of_ble_eq_true rfl) (Nat.le_of_ble_eq_true rfl)) 0 dX0_init_11 rfl ?_
  refine s_iload_n (hC.C 1 4 (Nat.le_of_ble_eq_true rfl) (Nat.le_of_ble_eq_true rfl)) 1 dX0_init_12 rfl ?_
  refine c_putI hC xc0 (by decide) hin rfl qp_X0_15 (x_stgk ix_104 (by decide) kd_104) dX0_init_13 ?_
  exact c_ret hC hr hlk dX0_init_16
def x_U13 : x_M := x_sR x_U12 103 ((0 : Int32)).toNatClampNeg 104
def x_U14 : x_M := x_sI (x_sR x_U13 105 1 111) 105 0 (1 : Int32)
set_option maxRecDepth 100000 in
theorem k_X0_init_105 (hR : x_R (XC ad D cA) x_ixA h0 hA) : x_Ct (XC ad D cA) x_Z0 x_ixA h0 hA l yX0_init cX0_init 2 1 1 4 24 25 [vR 105, vI (1 : Int32)] x_U13 x_U14 := by
  refine c_enter hR (by decide +kernel) (Nat.le_of_ble_eq_true rfl) (fun p e s m args below meth c hC hin hr hlk => ?_)
  refine s_lv (lv' := [(0, vR 105), (1, vI (1 : Int32))]) [0, 1] rfl ?_
  refine s_aload_n (hC.C 0 0 (Nat.le_of_ble_eq_true rfl) (Nat.le_of_ble_eq_true rfl)) 0 dX0_init_0 rfl ?_
  refine c_init hC (by decide) qo_X0_3 qo_inst qo_code (by decide) (Nat.le_of_ble_eq_true rfl) dX0_init_1 ?_
  refine s_aload_n (hC.C 0 0 (Nat.le_of_ble_eq_true rfl) (Nat.le_of_ble_eq_true rfl)) 0 dX0_init_4 rfl ?_
  refine s_iconst (hC.C 0 0 (Nat.le_of_ble_eq_true rfl) (Nat.le_of_ble_eq_true rfl)) dX0_init_5 (v := 4) (by decide) ?_
  refine c_newI hC ix_111 kd_111 (by decide) ln_111 (by decide +kernel) qa_int (by decide) (by decide) ⟨Nat.le_of_ble_eq_true rfl, Nat.le_of_ble_eq_true rfl⟩ dX0_init_6 ?_
  refine c_putR hC xc0 (by decide) hin rfl qp_X0_9 (x_stgk ix_105 (by decide) kd_105) dX0_init_8 ?_
  refine s_aload_n (hC.C 1 4 (Nat.le_of_ble_eq_true rfl) (Nat.le_of_ble_eq_true rfl)) 0 dX0_init_11 rfl ?_
  refine s_iload_n (hC.C 1 4 (Nat.le_of_ble_eq_true rfl) (Nat.le_of_ble_eq_true rfl)) 1 dX0_init_12 rfl ?_
  refine c_putI hC xc0 (by decide) hin rfl qp_X0_15 (x_stgk ix_105 (by decide) kd_105) dX0_init_13 ?_
  exact c_ret hC hr hlk dX0_init_16
def x_U15 : x_M := x_sR x_U14 103 ((1 : Int32)).toNatClampNeg 105
def x_U16 : x_M := x_sI (x_sR x_U15 106 1 112) 106 0 (2 : Int32)
set_option maxRecDepth 100000 in
theorem k_X0_init_106 (hR : x_R (XC ad D cA) x_ixA h0 hA) : x_Ct (XC ad D cA) x_Z0 x_ixA h0 hA l yX0_init cX0_init 2 1 1 4 26 27 [vR 106, vI (2 : Int32)] x_U15 x_U16 := by
  refine c_enter hR (by decide +kernel) (Nat.le_of_ble_eq_true rfl) (fun p e s m args below meth c hC hin hr hlk => ?_)
  refine s_lv (lv' := [(0, vR 106), (1, vI (2 : Int32))]) [0, 1] rfl ?_
  refine s_aload_n (hC.C 0 0 (Nat.le_of_ble_eq_true rfl) (Nat.le_of_ble_eq_true rfl)) 0 dX0_init_0 rfl ?_
  refine c_init hC (by decide) qo_X0_3 qo_inst qo_code (by decide) (Nat.le_of_ble_eq_true rfl) dX0_init_1 ?_
  refine s_aload_n (hC.C 0 0 (Nat.le_of_ble_eq_true rfl) (Nat.le_of_ble_eq_true rfl)) 0 dX0_init_4 rfl ?_
  refine s_iconst (hC.C 0 0 (Nat.le_of_ble_eq_true rfl) (Nat.le_of_ble_eq_true rfl)) dX0_init_5 (v := 4) (by decide) ?_
  refine c_newI hC ix_112 kd_112 (by decide) ln_112 (by decide +kernel) qa_int (by decide) (by decide) ⟨Nat.le_of_ble_eq_true rfl, Nat.le_of_ble_eq_true rfl⟩ dX0_init_6 ?_
  refine c_putR hC xc0 (by decide) hin rfl qp_X0_9 (x_stgk ix_106 (by decide) kd_106) dX0_init_8 ?_
  refine s_aload_n (hC.C 1 4 (Nat.le_of_ble_eq_true rfl) (Nat.le_of_ble_eq_true rfl)) 0 dX0_init_11 rfl ?_
  refine s_iload_n (hC.C 1 4 (Nat.le_of_ble_eq_true rfl) (Nat.le_of_ble_eq_true rfl)) 1 dX0_init_12 rfl ?_
  refine c_putI hC xc0 (by decide) hin rfl qp_X0_15 (x_stgk ix_106 (by decide) kd_106) dX0_init_13 ?_
  exact c_ret hC hr hlk dX0_init_16
def x_U17 : x_M := x_sR x_U16 103 ((2 : Int32)).toNatClampNeg 106
def x_U18 : x_M := x_sI (x_sR x_U17 107 1 113) 107 0 (3 : Int32)
set_option maxRecDepth 100000 in
theorem k_X0_init_107 (hR : x_R (XC ad D cA) x_ixA h0 hA) : x_Ct (XC ad D cA) x_Z0 x_ixA h0 hA l yX0_init cX0_init 2 1 1 4 28 29 [vR 107, vI (3 : Int32)] x_U17 x_U18 := by
  refine c_enter hR (by decide +kernel) (Nat.le_of_ble_eq_true rfl) (fun p e s m args below meth c hC hin hr hlk => ?_)
  refine s_lv (lv' := [(0, vR 107), (1, vI (3 : Int32))]) [0, 1] rfl ?_
  refine s_aload_n (hC.C 0 0 (Nat.le_of_ble_eq_true rfl) (Nat.le_of_ble_eq_true rfl)) 0 dX0_init_0 rfl ?_
  refine c_init hC (by decide) qo_X0_3 qo_inst qo_code (by decide) (Nat.le_of_ble_eq_true rfl) dX0_init_1 ?_
  refine s_aload_n (hC.C 0 0 (Nat.le_of_ble_eq_true rfl) (Nat.le_of_ble_eq_true rfl)) 0 dX0_init_4 rfl ?_
  refine s_iconst (hC.C 0 0 (Nat.le_of_ble_eq_true rfl) (Nat.le_of_ble_eq_true rfl)) dX0_init_5 (v := 4) (by decide) ?_
  refine c_newI hC ix_113 kd_113 (by decide) ln_113 (by decide +kernel) qa_int (by decide) (by decide) ⟨Nat.le_of_ble_eq_true rfl, Nat.le_of_ble_eq_true rfl⟩ dX0_init_6 ?_
  refine c_putR hC xc0 (by decide) hin rfl qp_X0_9 (x_stgk ix_107 (by decide) kd_107) dX0_init_8 ?_
  refine s_aload_n (hC.C 1 4 (Nat.le_of_ble_eq_true rfl) (Nat.le_of_ble_eq_true rfl)) 0 dX0_init_11 rfl ?_
  refine s_iload_n (hC.C 1 4 (Nat.le_of_ble_eq_true rfl) (Nat.le_of_ble_eq_true rfl)) 1 dX0_init_12 rfl ?_
  refine c_putI hC xc0 (by decide) hin rfl qp_X0_15 (x_stgk ix_107 (by decide) kd_107) dX0_init_13 ?_
  exact c_ret hC hr hlk dX0_init_16
def x_U19 : x_M := x_sR x_U18 103 ((3 : Int32)).toNatClampNeg 107
def x_U20 : x_M := x_sI (x_sR x_U19 108 1 114) 108 0 (4 : Int32)
set_option maxRecDepth 100000 in
theorem k_X0_init_108 (hR : x_R (XC ad D cA) x_ixA h0 hA) : x_Ct (XC ad D cA) x_Z0 x_ixA h0 hA l yX0_init cX0_init 2 1 1 4 30 31 [vR 108, vI (4 : Int32)] x_U19 x_U20 := by
  refine c_enter hR (by decide +kernel) (Nat.le_of_ble_eq_true rfl) (fun p e s m args below meth c hC hin hr hlk => ?_)
  refine s_lv (lv' := [(0, vR 108), (1, vI (4 : Int32))]) [0, 1] rfl ?_
  refine s_aload_n (hC.C 0 0 (Nat.le_of_ble_eq_true rfl) (Nat.le_of_ble_eq_true rfl)) 0 dX0_init_0 rfl ?_
  refine c_init hC (by decide) qo_X0_3 qo_inst qo_code (by decide) (Nat.le_of_ble_eq_true rfl) dX0_init_1 ?_
  refine s_aload_n (hC.C 0 0 (Nat.le_of_ble_eq_true rfl) (Nat.le_of_ble_eq_true rfl)) 0 dX0_init_4 rfl ?_
  refine s_iconst (hC.C 0 0 (Nat.le_of_ble_eq_true rfl) (Nat.le_of_ble_eq_true rfl)) dX0_init_5 (v := 4) (by decide) ?_
  refine c_newI hC ix_114 kd_114 (by decide) ln_114 (by decide +kernel) qa_int (by decide) (by decide) ⟨Nat.le_of_ble_eq_true rfl, Nat.le_of_ble_eq_true rfl⟩ dX0_init_6 ?_
  refine c_putR hC xc0 (by decide) hin rfl qp_X0_9 (x_stgk ix_108 (by decide) kd_108) dX0_init_8 ?_
  refine s_aload_n (hC.C 1 4 (Nat.le_of_ble_eq_true rfl) (Nat.le_of_ble_eq_true rfl)) 0 dX0_init_11 rfl ?_
  refine s_iload_n (hC.C 1 4 (Nat.le_of_ble_eq_true rfl) (Nat.le_of_ble_eq_true rfl)) 1 dX0_init_12 rfl ?_
  refine c_putI hC xc0 (by decide) hin rfl qp_X0_15 (x_stgk ix_108 (by decide) kd_108) dX0_init_13 ?_
  exact c_ret hC hr hlk dX0_init_16
def x_U21 : x_M := x_sR x_U20 103 ((4 : Int32)).toNatClampNeg 108
def x_U22 : x_M := x_sI (x_sR x_U21 109 1 115) 109 0 (5 : Int32)
set_option maxRecDepth 100000 in
theorem k_X0_init_109 (hR : x_R (XC ad D cA) x_ixA h0 hA) : x_Ct (XC ad D cA) x_Z0 x_ixA h0 hA l yX0_init cX0_init 2 1 1 4 32 33 [vR 109, vI (5 : Int32)] x_U21 x_U22 := by
  refine c_enter hR (by decide +kernel) (Nat.le_of_ble_eq_true rfl) (fun p e s m args below meth c hC hin hr hlk => ?_)
  refine s_lv (lv' := [(0, vR 109), (1, vI (5 : Int32))]) [0, 1] rfl ?_
  refine s_aload_n (hC.C 0 0 (Nat.le_of_ble_eq_true rfl) (Nat.le_of_ble_eq_true rfl)) 0 dX0_init_0 rfl ?_
  refine c_init hC (by decide) qo_X0_3 qo_inst qo_code (by decide) (Nat.le_of_ble_eq_true rfl) dX0_init_1 ?_
  refine s_aload_n (hC.C 0 0 (Nat.le_of_ble_eq_true rfl) (Nat.le_of_ble_eq_true rfl)) 0 dX0_init_4 rfl ?_
  refine s_iconst (hC.C 0 0 (Nat.le_of_ble_eq_true rfl) (Nat.le_of_ble_eq_true rfl)) dX0_init_5 (v := 4) (by decide) ?_
  refine c_newI hC ix_115 kd_115 (by decide) ln_115 (by decide +kernel) qa_int (by decide) (by decide) ⟨Nat.le_of_ble_eq_true rfl, Nat.le_of_ble_eq_true rfl⟩ dX0_init_6 ?_
  refine c_putR hC xc0 (by decide) hin rfl qp_X0_9 (x_stgk ix_109 (by decide) kd_109) dX0_init_8 ?_
  refine s_aload_n (hC.C 1 4 (Nat.le_of_ble_eq_true rfl) (Nat.le_of_ble_eq_true rfl)) 0 dX0_init_11 rfl ?_
  refine s_iload_n (hC.C 1 4 (Nat.le_of_ble_eq_true rfl) (Nat.le_of_ble_eq_true rfl)) 1 dX0_init_12 rfl ?_
  refine c_putI hC xc0 (by decide) hin rfl qp_X0_15 (x_stgk ix_109 (by decide) kd_109) dX0_init_13 ?_
  exact c_ret hC hr hlk dX0_init_16
def x_U23 : x_M := x_sR x_U22 103 ((5 : Int32)).toNatClampNeg 109
set_option maxRecDepth 100000 in
theorem k_X7_init_100 (hR : x_R (XC ad D cA) x_ixA h0 hA) : x_Ct (XC ad D cA) x_Z0 x_ixA h0 hA l yX7_init cX7_init 2 3 30 303 3 33 [vR 100] x_U0 x_U23 := by
  refine c_enter hR (by decide +kernel) (Nat.le_of_ble_eq_true rfl) (fun p e s m args below meth c hC hin hr hlk => ?_)
  refine s_lv (lv' := [(0, vR 100)]) [0] rfl ?_
  refine s_aload_n (hC.C 0 0 (Nat.le_of_ble_eq_true rfl) (Nat.le_of_ble_eq_true rfl)) 0 dX7_init_0 rfl ?_
  refine c_init hC (by decide) qo_X7_3 qo_inst qo_code (by decide) (Nat.le_of_ble_eq_true rfl) dX7_init_1 ?_
  refine s_aload_n (hC.C 0 0 (Nat.le_of_ble_eq_true rfl) (Nat.le_of_ble_eq_true rfl)) 0 dX7_init_4 rfl ?_
  refine c_newD hC xc3 ix_101 kd_101 (by decide) (by decide +kernel) qn_X7_9 qz_X3 qc_X3 ⟨Nat.le_of_ble_eq_true rfl, Nat.le_of_ble_eq_true rfl⟩ dX7_init_5 ?_
  refine s_dupR (hC.C 1 1 (Nat.le_of_ble_eq_true rfl) (Nat.le_of_ble_eq_true rfl)) dX7_init_8 ?_
  refine c_call hC (x := 101) (avs := []) (st := [vR 101, vR 100]) (nest := false) (by decide) (k_X3_init_101 hR) dX7_init_9 rfl qm_X7_11 qi_X3_init qc_X3 qd_X3_init qh_X3_init (by decide) ⟨Nat.le_of_ble_eq_true rfl, Nat.le_of_ble_eq_true rfl⟩ (Nat.le_of_ble_eq_true rfl) ?_
  refine c_putR hC xc7 (by decide) hin rfl qp_X7_12 (x_stgk ix_100 (by decide) kd_100) dX7_init_12 ?_
  refine s_aload_n (hC.C 2 7 (Nat.le_of_ble_eq_true rfl) (Nat.le_of_ble_eq_true rfl)) 0 dX7_init_15 rfl ?_
  refine s_bipush (hC.C 2 7 (Nat.le_of_ble_eq_true rfl) (Nat.le_of_ble_eq_true rfl)) dX7_init_16 (v := 6) (by decide) ?_
  refine c_newA hC ix_103 (kd := 23) kd_103 (Or.inl ⟨rfl, rfl⟩) (by decide) ln_103 (by decide +kernel) qn_X7_18 (by decide) (by decide) ⟨Nat.le_of_ble_eq_true rfl, Nat.le_of_ble_eq_true rfl⟩ dX7_init_18 ?_
  refine c_putR hC xc7 (by decide) hin rfl qp_X7_20 (x_stgk ix_100 (by decide) kd_100) dX7_init_21 ?_
  refine s_aload_n (hC.C 3 13 (Nat.le_of_ble_eq_true rfl) (Nat.le_of_ble_eq_true rfl)) 0 dX7_init_24 rfl ?_
  refine c_newD hC xc6 ix_116 kd_116 (by decide) (by decide +kernel) qn_X7_24 qz_X6 qc_X6 ⟨Nat.le_of_ble_eq_true rfl, Nat.le_of_ble_eq_true rfl⟩ dX7_init_25 ?_
  refine s_dupR (hC.C 4 17 (Nat.le_of_ble_eq_true rfl) (Nat.le_of_ble_eq_true rfl)) dX7_init_28 ?_
  refine s_iconst (hC.C 4 17 (Nat.le_of_ble_eq_true rfl) (Nat.le_of_ble_eq_true rfl)) dX7_init_29 (v := 4) (by decide) ?_
  refine c_call hC (x := 116) (avs := [vI (4 : Int32)]) (st := [vR 116, vR 100]) (nest := false) (by decide) (k_X6_init_116 hR) dX7_init_30 rfl qm_X7_26 qi_X6_init qc_X6 qd_X6_init qh_X6_init (by decide) ⟨Nat.le_of_ble_eq_true rfl, Nat.le_of_ble_eq_true rfl⟩ (Nat.le_of_ble_eq_true rfl) ?_
  refine c_putR hC xc7 (by decide) hin rfl qp_X7_29 (x_stgk ix_100 (by decide) kd_100) dX7_init_33 ?_
  refine s_aload_n (hC.C 6 33 (Nat.le_of_ble_eq_true rfl) (Nat.le_of_ble_eq_true rfl)) 0 dX7_init_36 rfl ?_
  refine c_newD hC xc6 ix_119 kd_119 (by decide) (by decide +kernel) qn_X7_24 qz_X6 qc_X6 ⟨Nat.le_of_ble_eq_true rfl, Nat.le_of_ble_eq_true rfl⟩ dX7_init_37 ?_
  refine s_dupR (hC.C 7 37 (Nat.le_of_ble_eq_true rfl) (Nat.le_of_ble_eq_true rfl)) dX7_init_40 ?_
  refine s_bipush (hC.C 7 37 (Nat.le_of_ble_eq_true rfl) (Nat.le_of_ble_eq_true rfl)) dX7_init_41 (v := 8) (by decide) ?_
  refine c_call hC (x := 119) (avs := [vI (8 : Int32)]) (st := [vR 119, vR 100]) (nest := false) (by decide) (k_X6_init_119 hR) dX7_init_43 rfl qm_X7_26 qi_X6_init qc_X6 qd_X6_init qh_X6_init (by decide) ⟨Nat.le_of_ble_eq_true rfl, Nat.le_of_ble_eq_true rfl⟩ (Nat.le_of_ble_eq_true rfl) ?_
  refine c_putR hC xc7 (by decide) hin rfl qp_X7_33 (x_stgk ix_100 (by decide) kd_100) dX7_init_46 ?_
  refine s_aload_n (hC.C 9 53 (Nat.le_of_ble_eq_true rfl) (Nat.le_of_ble_eq_true rfl)) 0 dX7_init_49 rfl ?_
  refine c_newD hC xc6 ix_122 kd_122 (by decide) (by decide +kernel) qn_X7_24 qz_X6 qc_X6 ⟨Nat.le_of_ble_eq_true rfl, Nat.le_of_ble_eq_true rfl⟩ dX7_init_50 ?_
  refine s_dupR (hC.C 10 57 (Nat.le_of_ble_eq_true rfl) (Nat.le_of_ble_eq_true rfl)) dX7_init_53 ?_
  refine s_bipush (hC.C 10 57 (Nat.le_of_ble_eq_true rfl) (Nat.le_of_ble_eq_true rfl)) dX7_init_54 (v := 8) (by decide) ?_
  refine c_call hC (x := 122) (avs := [vI (8 : Int32)]) (st := [vR 122, vR 100]) (nest := false) (by decide) (k_X6_init_122 hR) dX7_init_56 rfl qm_X7_26 qi_X6_init qc_X6 qd_X6_init qh_X6_init (by decide) ⟨Nat.le_of_ble_eq_true rfl, Nat.le_of_ble_eq_true rfl⟩ (Nat.le_of_ble_eq_true rfl) ?_
  refine c_putR hC xc7 (by decide) hin rfl qp_X7_36 (x_stgk ix_100 (by decide) kd_100) dX7_init_59 ?_
  refine s_aload_n (hC.C 12 73 (Nat.le_of_ble_eq_true rfl) (Nat.le_of_ble_eq_true rfl)) 0 dX7_init_62 rfl ?_
  refine c_newD hC xc4 ix_125 kd_125 (by decide) (by decide +kernel) qn_X7_39 qz_X4 qc_X4 ⟨Nat.le_of_ble_eq_true rfl, Nat.le_of_ble_eq_true rfl⟩ dX7_init_63 ?_
  refine s_dupR (hC.C 13 83 (Nat.le_of_ble_eq_true rfl) (Nat.le_of_ble_eq_true rfl)) dX7_init_66 ?_
  refine c_call hC (x := 125) (avs := []) (st := [vR 125, vR 100]) (nest := false) (by decide) (k_X4_init_125 hR) dX7_init_67 rfl qm_X7_41 qi_X4_init qc_X4 qd_X4_init qh_X4_init (by decide) ⟨Nat.le_of_ble_eq_true rfl, Nat.le_of_ble_eq_true rfl⟩ (Nat.le_of_ble_eq_true rfl) ?_
  refine c_putR hC xc7 (by decide) hin rfl qp_X7_42 (x_stgk ix_100 (by decide) kd_100) dX7_init_70 ?_
  refine s_aload_n (hC.C 18 219 (Nat.le_of_ble_eq_true rfl) (Nat.le_of_ble_eq_true rfl)) 0 dX7_init_73 rfl ?_
  refine s_sipush (hC.C 18 219 (Nat.le_of_ble_eq_true rfl) (Nat.le_of_ble_eq_true rfl)) dX7_init_74 (v := 200) (by decide) ?_
  refine c_putI hC xc7 (by decide) hin rfl qp_X7_46 (x_stgk ix_100 (by decide) kd_100) dX7_init_77 ?_
  refine s_aload_n (hC.C 18 219 (Nat.le_of_ble_eq_true rfl) (Nat.le_of_ble_eq_true rfl)) 0 dX7_init_80 rfl ?_
  refine s_iconst (hC.C 18 219 (Nat.le_of_ble_eq_true rfl) (Nat.le_of_ble_eq_true rfl)) dX7_init_81 (v := -1) (by decide) ?_
  refine c_putI hC xc7 (by decide) hin rfl qp_X7_50 (x_stgk ix_100 (by decide) kd_100) dX7_init_82 ?_
  refine s_iconst (hC.C 18 219 (Nat.le_of_ble_eq_true rfl) (Nat.le_of_ble_eq_true rfl)) dX7_init_85 (v := 0) (by decide) ?_
  refine s_istore_n (hC.C 18 219 (Nat.le_of_ble_eq_true rfl) (Nat.le_of_ble_eq_true rfl)) dX7_init_86 (by decide) (lv' := [(1, vI (0 : Int32)), (0, vR 100)]) rfl ?_
  refine s_iload_n (hC.C 18 219 (Nat.le_of_ble_eq_true rfl) (Nat.le_of_ble_eq_true rfl)) 0 dX7_init_87 rfl ?_
  refine s_bipush (hC.C 18 219 (Nat.le_of_ble_eq_true rfl) (Nat.le_of_ble_eq_true rfl)) dX7_init_88 (v := 6) (by decide) ?_
  refine c_ge_f (hC.C 18 219 (Nat.le_of_ble_eq_true rfl) (Nat.le_of_ble_eq_true rfl)) dX7_init_90 (tgt := 113) (by decide) (by decide) ?_
  refine s_aload_n (hC.C 18 219 (Nat.le_of_ble_eq_true rfl) (Nat.le_of_ble_eq_true rfl)) 1 dX7_init_93 rfl ?_
  refine c_getR hC xc7 (by decide) rfl qp_X7_20 (x_stgk ix_100 (by decide) kd_100) (w := 103) (by decide +kernel) dX7_init_94 ?_
  refine s_iload_n (hC.C 18 219 (Nat.le_of_ble_eq_true rfl) (Nat.le_of_ble_eq_true rfl)) 0 dX7_init_97 rfl ?_
  refine c_newD hC xc0 ix_104 kd_104 (by decide) (by decide +kernel) qn_X7_18 qz_X0 qc_X0 ⟨Nat.le_of_ble_eq_true rfl, Nat.le_of_ble_eq_true rfl⟩ dX7_init_98 ?_
  refine s_dupR (hC.C 19 229 (Nat.le_of_ble_eq_true rfl) (Nat.le_of_ble_eq_true rfl)) dX7_init_101 ?_
  refine s_iload_n (hC.C 19 229 (Nat.le_of_ble_eq_true rfl) (Nat.le_of_ble_eq_true rfl)) 0 dX7_init_102 rfl ?_
  refine c_call hC (x := 104) (avs := [vI (0 : Int32)]) (st := [vR 104, vI (0 : Int32), vR 103]) (nest := false) (by decide) (k_X0_init_104 hR) dX7_init_103 rfl qm_X7_53 qi_X0_init qc_X0 qd_X0_init qh_X0_init (by decide) ⟨Nat.le_of_ble_eq_true rfl, Nat.le_of_ble_eq_true rfl⟩ (Nat.le_of_ble_eq_true rfl) ?_
  refine c_aast hC xc0 (kd := 23) (x_stgk ix_103 (by decide) kd_103) (Or.inl ⟨rfl, rfl⟩) (x_stgk ix_104 (by decide) kd_104) (by rw [show x_ln (XC ad D cA) 103 = 6 from ln_103]; decide) dX7_init_106 ?_
  refine s_iinc (hC.C 20 233 (Nat.le_of_ble_eq_true rfl) (Nat.le_of_ble_eq_true rfl)) 0 dX7_init_107 rfl (w := 1) (by decide) (by decide) (lv' := [(1, vI (1 : Int32)), (0, vR 100)]) rfl ?_
  refine s_goto (hC.C 20 233 (Nat.le_of_ble_eq_true rfl) (Nat.le_of_ble_eq_true rfl)) dX7_init_110 (tgt := 87) (by decide) ?_
  refine s_iload_n (hC.C 20 233 (Nat.le_of_ble_eq_true rfl) (Nat.le_of_ble_eq_true rfl)) 0 dX7_init_87 rfl ?_
  refine s_bipush (hC.C 20 233 (Nat.le_of_ble_eq_true rfl) (Nat.le_of_ble_eq_true rfl)) dX7_init_88 (v := 6) (by decide) ?_
  refine c_ge_f (hC.C 20 233 (Nat.le_of_ble_eq_true rfl) (Nat.le_of_ble_eq_true rfl)) dX7_init_90 (tgt := 113) (by decide) (by decide) ?_
  refine s_aload_n (hC.C 20 233 (Nat.le_of_ble_eq_true rfl) (Nat.le_of_ble_eq_true rfl)) 1 dX7_init_93 rfl ?_
  refine c_getR hC xc7 (by decide) rfl qp_X7_20 (x_stgk ix_100 (by decide) kd_100) (w := 103) (by decide +kernel) dX7_init_94 ?_
  refine s_iload_n (hC.C 20 233 (Nat.le_of_ble_eq_true rfl) (Nat.le_of_ble_eq_true rfl)) 0 dX7_init_97 rfl ?_
  refine c_newD hC xc0 ix_105 kd_105 (by decide) (by decide +kernel) qn_X7_18 qz_X0 qc_X0 ⟨Nat.le_of_ble_eq_true rfl, Nat.le_of_ble_eq_true rfl⟩ dX7_init_98 ?_
  refine s_dupR (hC.C 21 243 (Nat.le_of_ble_eq_true rfl) (Nat.le_of_ble_eq_true rfl)) dX7_init_101 ?_
  refine s_iload_n (hC.C 21 243 (Nat.le_of_ble_eq_true rfl) (Nat.le_of_ble_eq_true rfl)) 0 dX7_init_102 rfl ?_
  refine c_call hC (x := 105) (avs := [vI (1 : Int32)]) (st := [vR 105, vI (1 : Int32), vR 103]) (nest := false) (by decide) (k_X0_init_105 hR) dX7_init_103 rfl qm_X7_53 qi_X0_init qc_X0 qd_X0_init qh_X0_init (by decide) ⟨Nat.le_of_ble_eq_true rfl, Nat.le_of_ble_eq_true rfl⟩ (Nat.le_of_ble_eq_true rfl) ?_
  refine c_aast hC xc0 (kd := 23) (x_stgk ix_103 (by decide) kd_103) (Or.inl ⟨rfl, rfl⟩) (x_stgk ix_105 (by decide) kd_105) (by rw [show x_ln (XC ad D cA) 103 = 6 from ln_103]; decide) dX7_init_106 ?_
  refine s_iinc (hC.C 22 247 (Nat.le_of_ble_eq_true rfl) (Nat.le_of_ble_eq_true rfl)) 0 dX7_init_107 rfl (w := 1) (by decide) (by decide) (lv' := [(1, vI (2 : Int32)), (0, vR 100)]) rfl ?_
  refine s_goto (hC.C 22 247 (Nat.le_of_ble_eq_true rfl) (Nat.le_of_ble_eq_true rfl)) dX7_init_110 (tgt := 87) (by decide) ?_
  refine s_iload_n (hC.C 22 247 (Nat.le_of_ble_eq_true rfl) (Nat.le_of_ble_eq_true rfl)) 0 dX7_init_87 rfl ?_
  refine s_bipush (hC.C 22 247 (Nat.le_of_ble_eq_true rfl) (Nat.le_of_ble_eq_true rfl)) dX7_init_88 (v := 6) (by decide) ?_
  refine c_ge_f (hC.C 22 247 (Nat.le_of_ble_eq_true rfl) (Nat.le_of_ble_eq_true rfl)) dX7_init_90 (tgt := 113) (by decide) (by decide) ?_
  refine s_aload_n (hC.C 22 247 (Nat.le_of_ble_eq_true rfl) (Nat.le_of_ble_eq_true rfl)) 1 dX7_init_93 rfl ?_
  refine c_getR hC xc7 (by decide) rfl qp_X7_20 (x_stgk ix_100 (by decide) kd_100) (w := 103) (by decide +kernel) dX7_init_94 ?_
  refine s_iload_n (hC.C 22 247 (Nat.le_of_ble_eq_true rfl) (Nat.le_of_ble_eq_true rfl)) 0 dX7_init_97 rfl ?_
  refine c_newD hC xc0 ix_106 kd_106 (by decide) (by decide +kernel) qn_X7_18 qz_X0 qc_X0 ⟨Nat.le_of_ble_eq_true rfl, Nat.le_of_ble_eq_true rfl⟩ dX7_init_98 ?_
  refine s_dupR (hC.C 23 257 (Nat.le_of_ble_eq_true rfl) (Nat.le_of_ble_eq_true rfl)) dX7_init_101 ?_
  refine s_iload_n (hC.C 23 257 (Nat.le_of_ble_eq_true rfl) (Nat.le_of_ble_eq_true rfl)) 0 dX7_init_102 rfl ?_
  refine c_call hC (x := 106) (avs := [vI (2 : Int32)]) (st := [vR 106, vI (2 : Int32), vR 103]) (nest := false) (by decide) (k_X0_init_106 hR) dX7_init_103 rfl qm_X7_53 qi_X0_init qc_X0 qd_X0_init qh_X0_init (by decide) ⟨Nat.le_of_ble_eq_true rfl, Nat.le_of_ble_eq_true rfl⟩ (Nat.le_of_ble_eq_true rfl) ?_
  refine c_aast hC xc0 (kd := 23) (x_stgk ix_103 (by decide) kd_103) (Or.inl ⟨rfl, rfl⟩) (x_stgk ix_106 (by decide) kd_106) (by rw [show x_ln (XC ad D cA) 103 = 6 from ln_103]; decide) dX7_init_106 ?_
  refine s_iinc (hC.C 24 261 (Nat.le_of_ble_eq_true rfl) (Nat.le_of_ble_eq_true rfl)) 0 dX7_init_107 rfl (w := 1) (by decide) (by decide) (lv' := [(1, vI (3 : Int32)), (0, vR 100)]) rfl ?_
  refine s_goto (hC.C 24 261 (Nat.le_of_ble_eq_true rfl) (Nat.le_of_ble_eq_true rfl)) dX7_init_110 (tgt := 87) (by decide) ?_
  refine s_iload_n (hC.C 24 261 (Nat.le_of_ble_eq_true rfl) (Nat.le_of_ble_eq_true rfl)) 0 dX7_init_87 rfl ?_
  refine s_bipush (hC.C 24 261 (Nat.le_of_ble_eq_true rfl) (Nat.le_of_ble_eq_true rfl)) dX7_init_88 (v := 6) (by decide) ?_
  refine c_ge_f (hC.C 24 261 (Nat.le_of_ble_eq_true rfl) (Nat.le_of_ble_eq_true rfl)) dX7_init_90 (tgt := 113) (by decide) (by decide) ?_
  refine s_aload_n (hC.C 24 261 (Nat.le_of_ble_eq_true rfl) (Nat.le_of_ble_eq_true rfl)) 1 dX7_init_93 rfl ?_
  refine c_getR hC xc7 (by decide) rfl qp_X7_20 (x_stgk ix_100 (by decide) kd_100) (w := 103) (by decide +kernel) dX7_init_94 ?_
  refine s_iload_n (hC.C 24 261 (Nat.le_of_ble_eq_true rfl) (Nat.le_of_ble_eq_true rfl)) 0 dX7_init_97 rfl ?_
  refine c_newD hC xc0 ix_107 kd_107 (by decide) (by decide +kernel) qn_X7_18 qz_X0 qc_X0 ⟨Nat.le_of_ble_eq_true rfl, Nat.le_of_ble_eq_true rfl⟩ dX7_init_98 ?_
  refine s_dupR (hC.C 25 271 (Nat.le_of_ble_eq_true rfl) (Nat.le_of_ble_eq_true rfl)) dX7_init_101 ?_
  refine s_iload_n (hC.C 25 271 (Nat.le_of_ble_eq_true rfl) (Nat.le_of_ble_eq_true rfl)) 0 dX7_init_102 rfl ?_
  refine c_call hC (x := 107) (avs := [vI (3 : Int32)]) (st := [vR 107, vI (3 : Int32), vR 103]) (nest := false) (by decide) (k_X0_init_107 hR) dX7_init_103 rfl qm_X7_53 qi_X0_init qc_X0 qd_X0_init qh_X0_init (by decide) ⟨Nat.le_of_ble_eq_true rfl, Nat.le_of_ble_eq_true rfl⟩ (Nat.le_of_ble_eq_true rfl) ?_
  refine c_aast hC xc0 (kd := 23) (x_stgk ix_103 (by decide) kd_103) (Or.inl ⟨rfl, rfl⟩) (x_stgk ix_107 (by decide) kd_107) (by rw [show x_ln (XC ad D cA) 103 = 6 from ln_103]; decide) dX7_init_106 ?_
  refine s_iinc (hC.C 26 275 (Nat.le_of_ble_eq_true rfl) (Nat.le_of_ble_eq_true rfl)) 0 dX7_init_107 rfl (w := 1) (by decide) (by decide) (lv' := [(1, vI (4 : Int32)), (0, vR 100)]) rfl ?_
  refine s_goto (hC.C 26 275 (Nat.le_of_ble_eq_true rfl) (Nat.le_of_ble_eq_true rfl)) dX7_init_110 (tgt := 87) (by decide) ?_
  refine s_iload_n (hC.C 26 275 (Nat.le_of_ble_eq_true rfl) (Nat.le_of_ble_eq_true rfl)) 0 dX7_init_87 rfl ?_
  refine s_bipush (hC.C 26 275 (Nat.le_of_ble_eq_true rfl) (Nat.le_of_ble_eq_true rfl)) dX7_init_88 (v := 6) (by decide) ?_
  refine c_ge_f (hC.C 26 275 (Nat.le_of_ble_eq_true rfl) (Nat.le_of_ble_eq_true rfl)) dX7_init_90 (tgt := 113) (by decide) (by decide) ?_
  refine s_aload_n (hC.C 26 275 (Nat.le_of_ble_eq_true rfl) (Nat.le_of_ble_eq_true rfl)) 1 dX7_init_93 rfl ?_
  refine c_getR hC xc7 (by decide) rfl qp_X7_20 (x_stgk ix_100 (by decide) kd_100) (w := 103) (by decide +kernel) dX7_init_94 ?_
  refine s_iload_n (hC.C 26 275 (Nat.le_of_ble_eq_true rfl) (Nat.le_of_ble_eq_true rfl)) 0 dX7_init_97 rfl ?_
  refine c_newD hC xc0 ix_108 kd_108 (by decide) (by decide +kernel) qn_X7_18 qz_X0 qc_X0 ⟨Nat.le_of_ble_eq_true rfl, Nat.le_of_ble_eq_true rfl⟩ dX7_init_98 ?_
  refine s_dupR (hC.C 27 285 (Nat.le_of_ble_eq_true rfl) (Nat.le_of_ble_eq_true rfl)) dX7_init_101 ?_
  refine s_iload_n (hC.C 27 285 (Nat.le_of_ble_eq_true rfl) (Nat.le_of_ble_eq_true rfl)) 0 dX7_init_102 rfl ?_
  refine c_call hC (x := 108) (avs := [vI (4 : Int32)]) (st := [vR 108, vI (4 : Int32), vR 103]) (nest := false) (by decide) (k_X0_init_108 hR) dX7_init_103 rfl qm_X7_53 qi_X0_init qc_X0 qd_X0_init qh_X0_init (by decide) ⟨Nat.le_of_ble_eq_true rfl, Nat.le_of_ble_eq_true rfl⟩ (Nat.le_of_ble_eq_true rfl) ?_
  refine c_aast hC xc0 (kd := 23) (x_stgk ix_103 (by decide) kd_103) (Or.inl ⟨rfl, rfl⟩) (x_stgk ix_108 (by decide) kd_108) (by rw [show x_ln (XC ad D cA) 103 = 6 from ln_103]; decide) dX7_init_106 ?_
  refine s_iinc (hC.C 28 289 (Nat.le_of_ble_eq_true rfl) (Nat.le_of_ble_eq_true rfl)) 0 dX7_init_107 rfl (w := 1) (by decide) (by decide) (lv' := [(1, vI (5 : Int32)), (0, vR 100)]) rfl ?_
  refine s_goto (hC.C 28 289 (Nat.le_of_ble_eq_true rfl) (Nat.le_of_ble_eq_true rfl)) dX7_init_110 (tgt := 87) (by decide) ?_
  refine s_iload_n (hC.C 28 289 (Nat.le_of_ble_eq_true rfl) (Nat.le_of_ble_eq_true rfl)) 0 dX7_init_87 rfl ?_
  refine s_bipush (hC.C 28 289 (Nat.le_of_ble_eq_true rfl) (Nat.le_of_ble_eq_true rfl)) dX7_init_88 (v := 6) (by decide) ?_
  refine c_ge_f (hC.C 28 289 (Nat.le_of_ble_eq_true rfl) (Nat.le_of_ble_eq_true rfl)) dX7_init_90 (tgt := 113) (by decide) (by decide) ?_
  refine s_aload_n (hC.C 28 289 (Nat.le_of_ble_eq_true rfl) (Nat.le_of_ble_eq_true rfl)) 1 dX7_init_93 rfl ?_
  refine c_getR hC xc7 (by decide) rfl qp_X7_20 (x_stgk ix_100 (by decide) kd_100) (w := 103) (by decide +kernel) dX7_init_94 ?_
  refine s_iload_n (hC.C 28 289 (Nat.le_of_ble_eq_true rfl) (Nat.le_of_ble_eq_true rfl)) 0 dX7_init_97 rfl ?_
  refine c_newD hC xc0 ix_109 kd_109 (by decide) (by decide +kernel) qn_X7_18 qz_X0 qc_X0 ⟨Nat.le_of_ble_eq_true rfl, Nat.le_of_ble_eq_true rfl⟩ dX7_init_98 ?_
  refine s_dupR (hC.C 29 299 (Nat.le_of_ble_eq_true rfl) (Nat.le_of_ble_eq_true rfl)) dX7_init_101 ?_
  refine s_iload_n (hC.C 29 299 (Nat.le_of_ble_eq_true rfl) (Nat.le_of_ble_eq_true rfl)) 0 dX7_init_102 rfl ?_
  refine c_call hC (x := 109) (avs := [vI (5 : Int32)]) (st := [vR 109, vI (5 : Int32), vR 103]) (nest := false) (by decide) (k_X0_init_109 hR) dX7_init_103 rfl qm_X7_53 qi_X0_init qc_X0 qd_X0_init qh_X0_init (by decide) ⟨Nat.le_of_ble_eq_true rfl, Nat.le_of_ble_eq_true rfl⟩ (Nat.le_of_ble_eq_true rfl) ?_
  refine c_aast hC xc0 (kd := 23) (x_stgk ix_103 (by decide) kd_103) (Or.inl ⟨rfl, rfl⟩) (x_stgk ix_109 (by decide) kd_109) (by rw [show x_ln (XC ad D cA) 103 = 6 from ln_103]; decide) dX7_init_106 ?_
  refine s_iinc (hC.C 30 303 (Nat.le_of_ble_eq_true rfl) (Nat.le_of_ble_eq_true rfl)) 0 dX7_init_107 rfl (w := 1) (by decide) (by decide) (lv' := [(1, vI (6 : Int32)), (0, vR 100)]) rfl ?_
  refine s_goto (hC.C 30 303 (Nat.le_of_ble_eq_true rfl) (Nat.le_of_ble_eq_true rfl)) dX7_init_110 (tgt := 87) (by decide) ?_
  refine s_iload_n (hC.C 30 303 (Nat.le_of_ble_eq_true rfl) (Nat.le_of_ble_eq_true rfl)) 0 dX7_init_87 rfl ?_
  refine s_bipush (hC.C 30 303 (Nat.le_of_ble_eq_true rfl) (Nat.le_of_ble_eq_true rfl)) dX7_init_88 (v := 6) (by decide) ?_
  refine c_ge_t (hC.C 30 303 (Nat.le_of_ble_eq_true rfl) (Nat.le_of_ble_eq_true rfl)) dX7_init_90 (tgt := 113) (by decide) (by decide) ?_
  exact c_ret hC hr hlk dX7_init_113
def x_U24 : x_M := x_sR x_U23 1 0 100
def x_U25 : x_M := x_sI (x_sI (x_sI (x_sI (x_sI (x_sI (x_sR x_U24 201 0 202) 202 ((0 : Int32)).toNatClampNeg (10 : Int32)) 202 ((1 : Int32)).toNatClampNeg (10 : Int32)) 202 ((2 : Int32)).toNatClampNeg (10 : Int32)) 202 ((3 : Int32)).toNatClampNeg (10 : Int32)) 202 ((4 : Int32)).toNatClampNeg (10 : Int32)) 202 ((5 : Int32)).toNatClampNeg (10 : Int32)
set_option maxRecDepth 100000 in
theorem k_X3_init_201 (hR : x_R (XC ad D cA) x_ixA h0 hA) : x_Ct (XC ad D cA) x_Z0 x_ixA h0 hA l yX3_init cX3_init 2 1 1 6 35 36 [vR 201] x_U24 x_U25 := by
  refine c_enter hR (by decide +kernel) (Nat.le_of_ble_eq_true rfl) (fun p e s m args below meth c hC hin hr hlk => ?_)
  refine s_lv (lv' := [(0, vR 201)]) [0] rfl ?_
  refine s_aload_n (hC.C 0 0 (Nat.le_of_ble_eq_true rfl) (Nat.le_of_ble_eq_true rfl)) 0 dX3_init_0 rfl ?_
  refine c_init hC (by decide) qo_X3_3 qo_inst qo_code (by decide) (Nat.le_of_ble_eq_true rfl) dX3_init_1 ?_
  refine s_aload_n (hC.C 0 0 (Nat.le_of_ble_eq_true rfl) (Nat.le_of_ble_eq_true rfl)) 0 dX3_init_4 rfl ?_
  refine s_bipush (hC.C 0 0 (Nat.le_of_ble_eq_true rfl) (Nat.le_of_ble_eq_true rfl)) dX3_init_5 (v := 6) (by decide) ?_
  refine c_newI hC ix_202 kd_202 (by decide) ln_202 (by decide +kernel) qa_int (by decide) (by decide) ⟨Nat.le_of_ble_eq_true rfl, Nat.le_of_ble_eq_true rfl⟩ dX3_init_7 ?_
  refine c_putR hC xc3 (by decide) hin rfl qp_X3_9 (x_stgk ix_201 (by decide) kd_201) dX3_init_9 ?_
  refine s_iconst (hC.C 1 6 (Nat.le_of_ble_eq_true rfl) (Nat.le_of_ble_eq_true rfl)) dX3_init_12 (v := 0) (by decide) ?_
  refine s_istore_n (hC.C 1 6 (Nat.le_of_ble_eq_true rfl) (Nat.le_of_ble_eq_true rfl)) dX3_init_13 (by decide) (lv' := [(1, vI (0 : Int32)), (0, vR 201)]) rfl ?_
  refine s_iload_n (hC.C 1 6 (Nat.le_of_ble_eq_true rfl) (Nat.le_of_ble_eq_true rfl)) 0 dX3_init_14 rfl ?_
  refine s_bipush (hC.C 1 6 (Nat.le_of_ble_eq_true rfl) (Nat.le_of_ble_eq_true rfl)) dX3_init_15 (v := 6) (by decide) ?_
  refine c_ge_f (hC.C 1 6 (Nat.le_of_ble_eq_true rfl) (Nat.le_of_ble_eq_true rfl)) dX3_init_17 (tgt := 34) (by decide) (by decide) ?_
  refine s_aload_n (hC.C 1 6 (Nat.le_of_ble_eq_true rfl) (Nat.le_of_ble_eq_true rfl)) 1 dX3_init_20 rfl ?_
  refine c_getR hC xc3 (by decide) rfl qp_X3_9 (x_stgk ix_201 (by decide) kd_201) (w := 202) (by decide +kernel) dX3_init_21 ?_
  refine s_iload_n (hC.C 1 6 (Nat.le_of_ble_eq_true rfl) (Nat.le_of_ble_eq_true rfl)) 0 dX3_init_24 rfl ?_
  refine s_bipush (hC.C 1 6 (Nat.le_of_ble_eq_true rfl) (Nat.le_of_ble_eq_true rfl)) dX3_init_25 (v := 10) (by decide) ?_
  refine c_iast hC (x_stgk ix_202 (by decide) kd_202) (by rw [show x_ln (XC ad D cA) 202 = 6 from ln_202]; decide) dX3_init_27 ?_
  refine s_iinc (hC.C 1 6 (Nat.le_of_ble_eq_true rfl) (Nat.le_of_ble_eq_true rfl)) 0 dX3_init_28 rfl (w := 1) (by decide) (by decide) (lv' := [(1, vI (1 : Int32)), (0, vR 201)]) rfl ?_
  refine s_goto (hC.C 1 6 (Nat.le_of_ble_eq_true rfl) (Nat.le_of_ble_eq_true rfl)) dX3_init_31 (tgt := 14) (by decide) ?_
  refine s_iload_n (hC.C 1 6 (Nat.le_of_ble_eq_true rfl) (Nat.le_of_ble_eq_true rfl)) 0 dX3_init_14 rfl ?_
  refine s_bipush (hC.C 1 6 (Nat.le_of_ble_eq_true rfl) (Nat.le_of_ble_eq_true rfl)) dX3_init_15 (v := 6) (by decide) ?_
  refine c_ge_f (hC.C 1 6 (Nat.le_of_ble_eq_true rfl) (Nat.le_of_ble_eq_true rfl)) dX3_init_17 (tgt := 34) (by decide) (by decide) ?_
  refine s_aload_n (hC.C 1 6 (Nat.le_of_ble_eq_true rfl) (Nat.le_of_ble_eq_true rfl)) 1 dX3_init_20 rfl ?_
  refine c_getR hC xc3 (by decide) rfl qp_X3_9 (x_stgk ix_201 (by decide) kd_201) (w := 202) (by decide +kernel) dX3_init_21 ?_
  refine s_iload_n (hC.C 1 6 (Nat.le_of_ble_eq_true rfl) (Nat.le_of_ble_eq_true rfl)) 0 dX3_init_24 rfl ?_
  refine s_bipush (hC.C 1 6 (Nat.le_of_ble_eq_true rfl) (Nat.le_of_ble_eq_true rfl)) dX3_init_25 (v := 10) (by decide) ?_
  refine c_iast hC (x_stgk ix_202 (by decide) kd_202) (by rw [show x_ln (XC ad D cA) 202 = 6 from ln_202]; decide) dX3_init_27 ?_
  refine s_iinc (hC.C 1 6 (Nat.le_of_ble_eq_true rfl) (Nat.le_of_ble_eq_true rfl)) 0 dX3_init_28 rfl (w := 1) (by decide) (by decide) (lv' := [(1, vI (2 : Int32)), (0, vR 201)]) rfl ?_
  refine s_goto (hC.C 1 6 (Nat.le_of_ble_eq_true rfl) (Nat.le_of_ble_eq_true rfl)) dX3_init_31 (tgt := 14) (by decide) ?_
  refine s_iload_n (hC.C 1 6 (Nat.le_of_ble_eq_true rfl) (Nat.le_of_ble_eq_true rfl)) 0 dX3_init_14 rfl ?_
  refine s_bipush (hC.C 1 6 (Nat.le_of_ble_eq_true rfl) (Nat.le_of_ble_eq_true rfl)) dX3_init_15 (v := 6) (by decide) ?_
  refine c_ge_f (hC.C 1 6 (Nat.le_of_ble_eq_true rfl) (Nat.le_of_ble_eq_true rfl)) dX3_init_17 (tgt := 34) (by decide) (by decide) ?_
  refine s_aload_n (hC.C 1 6 (Nat.le_of_ble_eq_true rfl) (Nat.le_of_ble_eq_true rfl)) 1 dX3_init_20 rfl ?_
  refine c_getR hC xc3 (by decide) rfl qp_X3_9 (x_stgk ix_201 (by decide) kd_201) (w := 202) (by decide +kernel) dX3_init_21 ?_
  refine s_iload_n (hC.C 1 6 (Nat.le_of_ble_eq_true rfl) (Nat.le_of_ble_eq_true rfl)) 0 dX3_init_24 rfl ?_
  refine s_bipush (hC.C 1 6 (Nat.le_of_ble_eq_true rfl) (Nat.le_of_ble_eq_true rfl)) dX3_init_25 (v := 10) (by decide) ?_
  refine c_iast hC (x_stgk ix_202 (by decide) kd_202) (by rw [show x_ln (XC ad D cA) 202 = 6 from ln_202]; decide) dX3_init_27 ?_
  refine s_iinc (hC.C 1 6 (Nat.le_of_ble_eq_true rfl) (Nat.le_of_ble_eq_true rfl)) 0 dX3_init_28 rfl (w := 1) (by decide) (by decide) (lv' := [(1, vI (3 : Int32)), (0, vR 201)]) rfl ?_
  refine s_goto (hC.C 1 6 (Nat.le_of_ble_eq_true rfl) (Nat.le_of_ble_eq_true rfl)) dX3_init_31 (tgt := 14) (by decide) ?_
  refine s_iload_n (hC.C 1 6 (Nat.le_of_ble_eq_true rfl) (Nat.le_of_ble_eq_true rfl)) 0 dX3_init_14 rfl ?_
  refine s_bipush (hC.C 1 6 (Nat.le_of_ble_eq_true rfl) (Nat.le_of_ble_eq_true rfl)) dX3_init_15 (v := 6) (by decide) ?_
  refine c_ge_f (hC.C 1 6 (Nat.le_of_ble_eq_true rfl) (Nat.le_of_ble_eq_true rfl)) dX3_init_17 (tgt := 34) (by decide) (by decide) ?_
  refine s_aload_n (hC.C 1 6 (Nat.le_of_ble_eq_true rfl) (Nat.le_of_ble_eq_true rfl)) 1 dX3_init_20 rfl ?_
  refine c_getR hC xc3 (by decide) rfl qp_X3_9 (x_stgk ix_201 (by decide) kd_201) (w := 202) (by decide +kernel) dX3_init_21 ?_
  refine s_iload_n (hC.C 1 6 (Nat.le_of_ble_eq_true rfl) (Nat.le_of_ble_eq_true rfl)) 0 dX3_init_24 rfl ?_
  refine s_bipush (hC.C 1 6 (Nat.le_of_ble_eq_true rfl) (Nat.le_of_ble_eq_true rfl)) dX3_init_25 (v := 10) (by decide) ?_
  refine c_iast hC (x_stgk ix_202 (by decide) kd_202) (by rw [show x_ln (XC ad D cA) 202 = 6 from ln_202]; decide) dX3_init_27 ?_
  refine s_iinc (hC.C 1 6 (Nat.le_of_ble_eq_true rfl) (Nat.le_of_ble_eq_true rfl)) 0 dX3_init_28 rfl (w := 1) (by decide) (by decide) (lv' := [(1, vI (4 : Int32)), (0, vR 201)]) rfl ?_
  refine s_goto (hC.C 1 6 (Nat.le_of_ble_eq_true rfl) (Nat.le_of_ble_eq_true rfl)) dX3_init_31 (tgt := 14) (by decide) ?_
  refine s_iload_n (hC.C 1 6 (Nat.le_of_ble_eq_true rfl) (Nat.le_of_ble_eq_true rfl)) 0 dX3_init_14 rfl ?_
  refine s_bipush (hC.C 1 6 (Nat.le_of_ble_eq_true rfl) (Nat.le_of_ble_eq_true rfl)) dX3_init_15 (v := 6) (by decide) ?_
  refine c_ge_f (hC.C 1 6 (Nat.le_of_ble_eq_true rfl) (Nat.le_of_ble_eq_true rfl)) dX3_init_17 (tgt := 34) (by decide) (by decide) ?_
  refine s_aload_n (hC.C 1 6 (Nat.le_of_ble_eq_true rfl) (Nat.le_of_ble_eq_true rfl)) 1 dX3_init_20 rfl ?_
  refine c_getR hC xc3 (by decide) rfl qp_X3_9 (x_stgk ix_201 (by decide) kd_201) (w := 202) (by decide +kernel) dX3_init_21 ?_
  refine s_iload_n (hC.C 1 6 (Nat.le_of_ble_eq_true rfl) (Nat.le_of_ble_eq_true rfl)) 0 dX3_init_24 rfl ?_
  refine s_bipush (hC.C 1 6 (Nat.le_of_ble_eq_true rfl) (Nat.le_of_ble_eq_true rfl)) dX3_init_25 (v := 10) (by decide) ?_
  refine c_iast hC (x_stgk ix_202 (by decide) kd_202) (by rw [show x_ln (XC ad D cA) 202 = 6 from ln_202]; decide) dX3_init_27 ?_
  refine s_iinc (hC.C 1 6 (Nat.le_of_ble_eq_true rfl) (Nat.le_of_ble_eq_true rfl)) 0 dX3_init_28 rfl (w := 1) (by decide) (by decide) (lv' := [(1, vI (5 : Int32)), (0, vR 201)]) rfl ?_
  refine s_goto (hC.C 1 6 (Nat.le_of_ble_eq_true rfl) (Nat.le_of_ble_eq_true rfl)) dX3_init_31 (tgt := 14) (by decide) ?_
  refine s_iload_n (hC.C 1 6 (Nat.le_of_ble_eq_true rfl) (Nat.le_of_ble_eq_true rfl)) 0 dX3_init_14 rfl ?_
  refine s_bipush (hC.C 1 6 (Nat.le_of_ble_eq_true rfl) (Nat.le_of_ble_eq_true rfl)) dX3_init_15 (v := 6) (by decide) ?_
  refine c_ge_f (hC.C 1 6 (Nat.le_of_ble_eq_true rfl) (Nat.le_of_ble_eq_true rfl)) dX3_init_17 (tgt := 34) (by decide) (by decide) ?_
  refine s_aload_n (hC.C 1 6 (Nat.le_of_ble_eq_true rfl) (Nat.le_of_ble_eq_true rfl)) 1 dX3_init_20 rfl ?_
  refine c_getR hC xc3 (by decide) rfl qp_X3_9 (x_stgk ix_201 (by decide) kd_201) (w := 202) (by decide +kernel) dX3_init_21 ?_
  refine s_iload_n (hC.C 1 6 (Nat.le_of_ble_eq_true rfl) (Nat.le_of_ble_eq_true rfl)) 0 dX3_init_24 rfl ?_
  refine s_bipush (hC.C 1 6 (Nat.le_of_ble_eq_true rfl) (Nat.le_of_ble_eq_true rfl)) dX3_init_25 (v := 10) (by decide) ?_
  refine c_iast hC (x_stgk ix_202 (by decide) kd_202) (by rw [show x_ln (XC ad D cA) 202 = 6 from ln_202]; decide) dX3_init_27 ?_
  refine s_iinc (hC.C 1 6 (Nat.le_of_ble_eq_true rfl) (Nat.le_of_ble_eq_true rfl)) 0 dX3_init_28 rfl (w := 1) (by decide) (by decide) (lv' := [(1, vI (6 : Int32)), (0, vR 201)]) rfl ?_
  refine s_goto (hC.C 1 6 (Nat.le_of_ble_eq_true rfl) (Nat.le_of_ble_eq_true rfl)) dX3_init_31 (tgt := 14) (by decide) ?_
  refine s_iload_n (hC.C 1 6 (Nat.le_of_ble_eq_true rfl) (Nat.le_of_ble_eq_true rfl)) 0 dX3_init_14 rfl ?_
  refine s_bipush (hC.C 1 6 (Nat.le_of_ble_eq_true rfl) (Nat.le_of_ble_eq_true rfl)) dX3_init_15 (v := 6) (by decide) ?_
  refine c_ge_t (hC.C 1 6 (Nat.le_of_ble_eq_true rfl) (Nat.le_of_ble_eq_true rfl)) dX3_init_17 (tgt := 34) (by decide) (by decide) ?_
  exact c_ret hC hr hlk dX3_init_34
def x_U26 : x_M := x_sR (x_sR x_U25 200 0 201) 200 1 203
def x_U27 : x_M := x_sI (x_sR (x_sR x_U26 216 0 217) 216 1 218) 216 2 (if (8 : Int32) < (4 : Int32) then (8 : Int32) else (4 : Int32))
set_option maxRecDepth 100000 in
theorem k_X6_init_216 (hR : x_R (XC ad D cA) x_ixA h0 hA) : x_Ct (XC ad D cA) x_Z0 x_ixA h0 hA l yX6_init cX6_init 2 1 2 16 38 40 [vR 216, vI (4 : Int32)] x_U26 x_U27 := by
  refine c_enter hR (by decide +kernel) (Nat.le_of_ble_eq_true rfl) (fun p e s m args below meth c hC hin hr hlk => ?_)
  refine s_lv (lv' := [(0, vR 216), (1, vI (4 : Int32))]) [0, 1] rfl ?_
  refine s_aload_n (hC.C 0 0 (Nat.le_of_ble_eq_true rfl) (Nat.le_of_ble_eq_true rfl)) 0 dX6_init_0 rfl ?_
  refine c_init hC (by decide) qo_X6_3 qo_inst qo_code (by decide) (Nat.le_of_ble_eq_true rfl) dX6_init_1 ?_
  refine s_aload_n (hC.C 0 0 (Nat.le_of_ble_eq_true rfl) (Nat.le_of_ble_eq_true rfl)) 0 dX6_init_4 rfl ?_
  refine s_bipush (hC.C 0 0 (Nat.le_of_ble_eq_true rfl) (Nat.le_of_ble_eq_true rfl)) dX6_init_5 (v := 8) (by decide) ?_
  refine c_newI hC ix_217 kd_217 (by decide) ln_217 (by decide +kernel) qa_int (by decide) (by decide) ⟨Nat.le_of_ble_eq_true rfl, Nat.le_of_ble_eq_true rfl⟩ dX6_init_7 ?_
  refine c_putR hC xc6 (by decide) hin rfl qp_X6_9 (x_stgk ix_216 (by decide) kd_216) dX6_init_9 ?_
  refine s_aload_n (hC.C 1 8 (Nat.le_of_ble_eq_true rfl) (Nat.le_of_ble_eq_true rfl)) 0 dX6_init_12 rfl ?_
  refine s_bipush (hC.C 1 8 (Nat.le_of_ble_eq_true rfl) (Nat.le_of_ble_eq_true rfl)) dX6_init_13 (v := 8) (by decide) ?_
  refine c_newI hC ix_218 kd_218 (by decide) ln_218 (by decide +kernel) qa_int (by decide) (by decide) ⟨Nat.le_of_ble_eq_true rfl, Nat.le_of_ble_eq_true rfl⟩ dX6_init_15 ?_
  refine c_putR hC xc6 (by decide) hin rfl qp_X6_15 (x_stgk ix_216 (by decide) kd_216) dX6_init_17 ?_
  refine s_aload_n (hC.C 2 16 (Nat.le_of_ble_eq_true rfl) (Nat.le_of_ble_eq_true rfl)) 0 dX6_init_20 rfl ?_
  refine s_iload_n (hC.C 2 16 (Nat.le_of_ble_eq_true rfl) (Nat.le_of_ble_eq_true rfl)) 1 dX6_init_21 rfl ?_
  refine s_bipush (hC.C 2 16 (Nat.le_of_ble_eq_true rfl) (Nat.le_of_ble_eq_true rfl)) dX6_init_22 (v := 8) (by decide) ?_
  refine s_min (hC.C 2 16 (Nat.le_of_ble_eq_true rfl) (Nat.le_of_ble_eq_true rfl)) dX6_init_24 qm_X6_18 qt_Math_min qc_Math qd_Math_min (by decide) (Nat.le_of_ble_eq_true rfl) ?_
  refine c_putI hC xc6 (by decide) hin rfl qp_X6_24 (x_stgk ix_216 (by decide) kd_216) dX6_init_27 ?_
  exact c_ret hC hr hlk dX6_init_30
def x_U28 : x_M := x_sR x_U27 200 2 216
def x_U29 : x_M := x_sI (x_sR (x_sR x_U28 219 0 220) 219 1 221) 219 2 (if (8 : Int32) < (8 : Int32) then (8 : Int32) else (8 : Int32))
set_option maxRecDepth 100000 in
theorem k_X6_init_219 (hR : x_R (XC ad D cA) x_ixA h0 hA) : x_Ct (XC ad D cA) x_Z0 x_ixA h0 hA l yX6_init cX6_init 2 1 2 16 41 43 [vR 219, vI (8 : Int32)] x_U28 x_U29 := by
  refine c_enter hR (by decide +kernel) (Nat.le_of_ble_eq_true rfl) (fun p e s m args below meth c hC hin hr hlk => ?_)
  refine s_lv (lv' := [(0, vR 219), (1, vI (8 : Int32))]) [0, 1] rfl ?_
  refine s_aload_n (hC.C 0 0 (Nat.le_of_ble_eq_true rfl) (Nat.le_of_ble_eq_true rfl)) 0 dX6_init_0 rfl ?_
  refine c_init hC (by decide) qo_X6_3 qo_inst qo_code (by decide) (Nat.le_of_ble_eq_true rfl) dX6_init_1 ?_
  refine s_aload_n (hC.C 0 0 (Nat.le_of_ble_eq_true rfl) (Nat.le_of_ble_eq_true rfl)) 0 dX6_init_4 rfl ?_
  refine s_bipush (hC.C 0 0 (Nat.le_of_ble_eq_true rfl) (Nat.le_of_ble_eq_true rfl)) dX6_init_5 (v := 8) (by decide) ?_
  refine c_newI hC ix_220 kd_220 (by decide) ln_220 (by decide +kernel) qa_int (by decide) (by decide) ⟨Nat.le_of_ble_eq_true rfl, Nat.le_of_ble_eq_true rfl⟩ dX6_init_7 ?_
  refine c_putR hC xc6 (by decide) hin rfl qp_X6_9 (x_stgk ix_219 (by decide) kd_219) dX6_init_9 ?_
  refine s_aload_n (hC.C 1 8 (Nat.le_of_ble_eq_true rfl) (Nat.le_of_ble_eq_true rfl)) 0 dX6_init_12 rfl ?_
  refine s_bipush (hC.C 1 8 (Nat.le_of_ble_eq_true rfl) (Nat.le_of_ble_eq_true rfl)) dX6_init_13 (v := 8) (by decide) ?_
  refine c_newI hC ix_221 kd_221 (by decide) ln_221 (by decide +kernel) qa_int (by decide) (by decide) ⟨Nat.le_of_ble_eq_true rfl, Nat.le_of_ble_eq_true rfl⟩ dX6_init_15 ?_
  refine c_putR hC xc6 (by decide) hin rfl qp_X6_15 (x_stgk ix_219 (by decide) kd_219) dX6_init_17 ?_
  refine s_aload_n (hC.C 2 16 (Nat.le_of_ble_eq_true rfl) (Nat.le_of_ble_eq_true rfl)) 0 dX6_init_20 rfl ?_
  refine s_iload_n (hC.C 2 16 (Nat.le_of_ble_eq_true rfl) (Nat.le_of_ble_eq_true rfl)) 1 dX6_init_21 rfl ?_
  refine s_bipush (hC.C 2 16 (Nat.le_of_ble_eq_true rfl) (Nat.le_of_ble_eq_true rfl)) dX6_init_22 (v := 8) (by decide) ?_
  refine s_min (hC.C 2 16 (Nat.le_of_ble_eq_true rfl) (Nat.le_of_ble_eq_true rfl)) dX6_init_24 qm_X6_18 qt_Math_min qc_Math qd_Math_min (by decide) (Nat.le_of_ble_eq_true rfl) ?_
  refine c_putI hC xc6 (by decide) hin rfl qp_X6_24 (x_stgk ix_219 (by decide) kd_219) dX6_init_27 ?_
  exact c_ret hC hr hlk dX6_init_30
def x_U30 : x_M := x_sR x_U29 200 3 219
def x_U31 : x_M := x_sI (x_sR (x_sR x_U30 222 0 223) 222 1 224) 222 2 (if (8 : Int32) < (8 : Int32) then (8 : Int32) else (8 : Int32))
set_option maxRecDepth 100000 in
theorem k_X6_init_222 (hR : x_R (XC ad D cA) x_ixA h0 hA) : x_Ct (XC ad D cA) x_Z0 x_ixA h0 hA l yX6_init cX6_init 2 1 2 16 44 46 [vR 222, vI (8 : Int32)] x_U30 x_U31 := by
  refine c_enter hR (by decide +kernel) (Nat.le_of_ble_eq_true rfl) (fun p e s m args below meth c hC hin hr hlk => ?_)
  refine s_lv (lv' := [(0, vR 222), (1, vI (8 : Int32))]) [0, 1] rfl ?_
  refine s_aload_n (hC.C 0 0 (Nat.le_of_ble_eq_true rfl) (Nat.le_of_ble_eq_true rfl)) 0 dX6_init_0 rfl ?_
  refine c_init hC (by decide) qo_X6_3 qo_inst qo_code (by decide) (Nat.le_of_ble_eq_true rfl) dX6_init_1 ?_
  refine s_aload_n (hC.C 0 0 (Nat.le_of_ble_eq_true rfl) (Nat.le_of_ble_eq_true rfl)) 0 dX6_init_4 rfl ?_
  refine s_bipush (hC.C 0 0 (Nat.le_of_ble_eq_true rfl) (Nat.le_of_ble_eq_true rfl)) dX6_init_5 (v := 8) (by decide) ?_
  refine c_newI hC ix_223 kd_223 (by decide) ln_223 (by decide +kernel) qa_int (by decide) (by decide) ⟨Nat.le_of_ble_eq_true rfl, Nat.le_of_ble_eq_true rfl⟩ dX6_init_7 ?_
  refine c_putR hC xc6 (by decide) hin rfl qp_X6_9 (x_stgk ix_222 (by decide) kd_222) dX6_init_9 ?_
  refine s_aload_n (hC.C 1 8 (Nat.le_of_ble_eq_true rfl) (Nat.le_of_ble_eq_true rfl)) 0 dX6_init_12 rfl ?_
  refine s_bipush (hC.C 1 8 (Nat.le_of_ble_eq_true rfl) (Nat.le_of_ble_eq_true rfl)) dX6_init_13 (v := 8) (by decide) ?_
  refine c_newI hC ix_224 kd_224 (by decide) ln_224 (by decide +kernel) qa_int (by decide) (by decide) ⟨Nat.le_of_ble_eq_true rfl, Nat.le_of_ble_eq_true rfl⟩ dX6_init_15 ?_
  refine c_putR hC xc6 (by decide) hin rfl qp_X6_15 (x_stgk ix_222 (by decide) kd_222) dX6_init_17 ?_
  refine s_aload_n (hC.C 2 16 (Nat.le_of_ble_eq_true rfl) (Nat.le_of_ble_eq_true rfl)) 0 dX6_init_20 rfl ?_
  refine s_iload_n (hC.C 2 16 (Nat.le_of_ble_eq_true rfl) (Nat.le_of_ble_eq_true rfl)) 1 dX6_init_21 rfl ?_
  refine s_bipush (hC.C 2 16 (Nat.le_of_ble_eq_true rfl) (Nat.le_of_ble_eq_true rfl)) dX6_init_22 (v := 8) (by decide) ?_
  refine s_min (hC.C 2 16 (Nat.le_of_ble_eq_true rfl) (Nat.le_of_ble_eq_true rfl)) dX6_init_24 qm_X6_18 qt_Math_min qc_Math qd_Math_min (by decide) (Nat.le_of_ble_eq_true rfl) ?_
  refine c_putI hC xc6 (by decide) hin rfl qp_X6_24 (x_stgk ix_222 (by decide) kd_222) dX6_init_27 ?_
  exact c_ret hC hr hlk dX6_init_30
def x_U32 : x_M := x_sR x_U31 200 4 222
def x_U33 : x_M := x_sR (x_sR (x_sR (x_sR (x_sR x_U32 225 0 226) 225 1 227) 225 2 228) 225 3 229) 225 4 230
def x_U34 : x_M := x_sI (x_sI (x_sI (x_sI (x_sI x_U33 225 5 (0 : Int32)) 225 6 (0 : Int32)) 225 7 (50 : Int32)) 225 8 (5 : Int32)) 225 9 (0 : Int32)
set_option maxRecDepth 100000 in
theorem k_X4_clear_225 (hR : x_R (XC ad D cA) x_ixA h0 hA) : x_Ct (XC ad D cA) x_Z0 x_ixA h0 hA l yX4_clear cX4_clear 1 1 0 0 52 52 [vR 225] x_U33 x_U34 := by
  refine c_enter hR (by decide +kernel) (Nat.le_of_ble_eq_true rfl) (fun p e s m args below meth c hC hin hr hlk => ?_)
  refine s_lv (lv' := [(0, vR 225)]) [0] rfl ?_
  refine s_aload_n (hC.C 0 0 (Nat.le_of_ble_eq_true rfl) (Nat.le_of_ble_eq_true rfl)) 0 dX4_clear_0 rfl ?_
  refine s_iconst (hC.C 0 0 (Nat.le_of_ble_eq_true rfl) (Nat.le_of_ble_eq_true rfl)) dX4_clear_1 (v := 0) (by decide) ?_
  refine c_putI2 hC xc4 (by decide) rfl rfl qp_X4_30 (x_stgk ix_225 (by decide) kd_225) dX4_clear_2 ?_
  refine s_aload_n (hC.C 0 0 (Nat.le_of_ble_eq_true rfl) (Nat.le_of_ble_eq_true rfl)) 0 dX4_clear_5 rfl ?_
  refine s_iconst (hC.C 0 0 (Nat.le_of_ble_eq_true rfl) (Nat.le_of_ble_eq_true rfl)) dX4_clear_6 (v := 0) (by decide) ?_
  refine c_putI2 hC xc4 (by decide) rfl rfl qp_X4_34 (x_stgk ix_225 (by decide) kd_225) dX4_clear_7 ?_
  refine s_aload_n (hC.C 0 0 (Nat.le_of_ble_eq_true rfl) (Nat.le_of_ble_eq_true rfl)) 0 dX4_clear_10 rfl ?_
  refine s_bipush (hC.C 0 0 (Nat.le_of_ble_eq_true rfl) (Nat.le_of_ble_eq_true rfl)) dX4_clear_11 (v := 50) (by decide) ?_
  refine c_putI2 hC xc4 (by decide) rfl rfl qp_X4_37 (x_stgk ix_225 (by decide) kd_225) dX4_clear_13 ?_
  refine s_aload_n (hC.C 0 0 (Nat.le_of_ble_eq_true rfl) (Nat.le_of_ble_eq_true rfl)) 0 dX4_clear_16 rfl ?_
  refine s_iconst (hC.C 0 0 (Nat.le_of_ble_eq_true rfl) (Nat.le_of_ble_eq_true rfl)) dX4_clear_17 (v := 5) (by decide) ?_
  refine c_putI2 hC xc4 (by decide) rfl rfl qp_X4_40 (x_stgk ix_225 (by decide) kd_225) dX4_clear_18 ?_
  refine s_aload_n (hC.C 0 0 (Nat.le_of_ble_eq_true rfl) (Nat.le_of_ble_eq_true rfl)) 0 dX4_clear_21 rfl ?_
  refine s_iconst (hC.C 0 0 (Nat.le_of_ble_eq_true rfl) (Nat.le_of_ble_eq_true rfl)) dX4_clear_22 (v := 0) (by decide) ?_
  refine c_putI2 hC xc4 (by decide) rfl rfl qp_X4_43 (x_stgk ix_225 (by decide) kd_225) dX4_clear_23 ?_
  exact c_ret hC hr hlk dX4_clear_26
set_option maxRecDepth 100000 in
theorem k_X4_init_225 (hR : x_R (XC ad D cA) x_ixA h0 hA) : x_Ct (XC ad D cA) x_Z0 x_ixA h0 hA l yX4_init cX4_init 1 2 5 136 47 52 [vR 225] x_U32 x_U34 := by
  refine c_enter hR (by decide +kernel) (Nat.le_of_ble_eq_true rfl) (fun p e s m args below meth c hC hin hr hlk => ?_)
  refine s_lv (lv' := [(0, vR 225)]) [0] rfl ?_
  refine s_aload_n (hC.C 0 0 (Nat.le_of_ble_eq_true rfl) (Nat.le_of_ble_eq_true rfl)) 0 dX4_init_0 rfl ?_
  refine c_init hC (by decide) qo_X4_3 qo_inst qo_code (by decide) (Nat.le_of_ble_eq_true rfl) dX4_init_1 ?_
  refine s_aload_n (hC.C 0 0 (Nat.le_of_ble_eq_true rfl) (Nat.le_of_ble_eq_true rfl)) 0 dX4_init_4 rfl ?_
  refine s_bipush (hC.C 0 0 (Nat.le_of_ble_eq_true rfl) (Nat.le_of_ble_eq_true rfl)) dX4_init_5 (v := 10) (by decide) ?_
  refine c_newI hC ix_226 kd_226 (by decide) ln_226 (by decide +kernel) qa_int (by decide) (by decide) ⟨Nat.le_of_ble_eq_true rfl, Nat.le_of_ble_eq_true rfl⟩ dX4_init_7 ?_
  refine c_putR hC xc4 (by decide) hin rfl qp_X4_9 (x_stgk ix_225 (by decide) kd_225) dX4_init_9 ?_
  refine s_aload_n (hC.C 1 10 (Nat.le_of_ble_eq_true rfl) (Nat.le_of_ble_eq_true rfl)) 0 dX4_init_12 rfl ?_
  refine s_bipush (hC.C 1 10 (Nat.le_of_ble_eq_true rfl) (Nat.le_of_ble_eq_true rfl)) dX4_init_13 (v := 10) (by decide) ?_
  refine c_newI hC ix_227 kd_227 (by decide) ln_227 (by decide +kernel) qa_int (by decide) (by decide) ⟨Nat.le_of_ble_eq_true rfl, Nat.le_of_ble_eq_true rfl⟩ dX4_init_15 ?_
  refine c_putR hC xc4 (by decide) hin rfl qp_X4_15 (x_stgk ix_225 (by decide) kd_225) dX4_init_17 ?_
  refine s_aload_n (hC.C 2 20 (Nat.le_of_ble_eq_true rfl) (Nat.le_of_ble_eq_true rfl)) 0 dX4_init_20 rfl ?_
  refine s_bipush (hC.C 2 20 (Nat.le_of_ble_eq_true rfl) (Nat.le_of_ble_eq_true rfl)) dX4_init_21 (v := 10) (by decide) ?_
  refine c_newI hC ix_228 kd_228 (by decide) ln_228 (by decide +kernel) qa_int (by decide) (by decide) ⟨Nat.le_of_ble_eq_true rfl, Nat.le_of_ble_eq_true rfl⟩ dX4_init_23 ?_
  refine c_putR hC xc4 (by decide) hin rfl qp_X4_18 (x_stgk ix_225 (by decide) kd_225) dX4_init_25 ?_
  refine s_aload_n (hC.C 3 30 (Nat.le_of_ble_eq_true rfl) (Nat.le_of_ble_eq_true rfl)) 0 dX4_init_28 rfl ?_
  refine s_bipush (hC.C 3 30 (Nat.le_of_ble_eq_true rfl) (Nat.le_of_ble_eq_true rfl)) dX4_init_29 (v := 100) (by decide) ?_
  refine c_newI hC ix_229 kd_229 (by decide) ln_229 (by decide +kernel) qa_int (by decide) (by decide) ⟨Nat.le_of_ble_eq_true rfl, Nat.le_of_ble_eq_true rfl⟩ dX4_init_31 ?_
  refine c_putR hC xc4 (by decide) hin rfl qp_X4_21 (x_stgk ix_225 (by decide) kd_225) dX4_init_33 ?_
  refine s_aload_n (hC.C 4 130 (Nat.le_of_ble_eq_true rfl) (Nat.le_of_ble_eq_true rfl)) 0 dX4_init_36 rfl ?_
  refine s_bipush (hC.C 4 130 (Nat.le_of_ble_eq_true rfl) (Nat.le_of_ble_eq_true rfl)) dX4_init_37 (v := 6) (by decide) ?_
  refine c_newI hC ix_230 kd_230 (by decide) ln_230 (by decide +kernel) qa_int (by decide) (by decide) ⟨Nat.le_of_ble_eq_true rfl, Nat.le_of_ble_eq_true rfl⟩ dX4_init_39 ?_
  refine c_putR hC xc4 (by decide) hin rfl qp_X4_24 (x_stgk ix_225 (by decide) kd_225) dX4_init_41 ?_
  refine s_aload_n (hC.C 5 136 (Nat.le_of_ble_eq_true rfl) (Nat.le_of_ble_eq_true rfl)) 0 dX4_init_44 rfl ?_
  refine c_callV hC (x := 225) (avs := []) (st := []) (nest := false) xc4 (x_stgk ix_225 (by decide) kd_225) (k_X4_clear_225 hR) dX4_init_45 qm_X4_27 qi_X4_clear qs_X4_clear qc_X4 qd_X4_clear qh_X4_clear (by decide) ⟨Nat.le_of_ble_eq_true rfl, Nat.le_of_ble_eq_true rfl⟩ (Nat.le_of_ble_eq_true rfl) ?_
  exact c_ret hC hr hlk dX4_init_48
def x_U35 : x_M := x_sI (x_sI (x_sR x_U34 200 5 225) 200 7 (200 : Int32)) 200 11 (-1 : Int32)
def x_U36 : x_M := x_sI (x_sR x_U35 204 1 210) 204 0 (0 : Int32)
set_option maxRecDepth 100000 in
theorem k_X0_init_204 (hR : x_R (XC ad D cA) x_ixA h0 hA) : x_Ct (XC ad D cA) x_Z0 x_ixA h0 hA l yX0_init cX0_init 2 1 1 4 53 54 [vR 204, vI (0 : Int32)] x_U35 x_U36 := by
  refine c_enter hR (by decide +kernel) (Nat.le_of_ble_eq_true rfl) (fun p e s m args below meth c hC hin hr hlk => ?_)
  refine s_lv (lv' := [(0, vR 204), (1, vI (0 : Int32))]) [0, 1] rfl ?_
  refine s_aload_n (hC.C 0 0 (Nat.le_of_ble_eq_true rfl) (Nat.le_of_ble_eq_true rfl)) 0 dX0_init_0 rfl ?_
  refine c_init hC (by decide) qo_X0_3 qo_inst qo_code (by decide) (Nat.le_of_ble_eq_true rfl) dX0_init_1 ?_
  refine s_aload_n (hC.C 0 0 (Nat.le_of_ble_eq_true rfl) (Nat.le_of_ble_eq_true rfl)) 0 dX0_init_4 rfl ?_
  refine s_iconst (hC.C 0 0 (Nat.le_of_ble_eq_true rfl) (Nat.le_of_ble_eq_true rfl)) dX0_init_5 (v := 4) (by decide) ?_
  refine c_newI hC ix_210 kd_210 (by decide) ln_210 (by decide +kernel) qa_int (by decide) (by decide) ⟨Nat.le_of_ble_eq_true rfl, Nat.le_of_ble_eq_true rfl⟩ dX0_init_6 ?_
  refine c_putR hC xc0 (by decide) hin rfl qp_X0_9 (x_stgk ix_204 (by decide) kd_204) dX0_init_8 ?_
  refine s_aload_n (hC.C 1 4 (Nat.le_of_ble_eq_true rfl) (Nat.le_of_ble_eq_true rfl)) 0 dX0_init_11 rfl ?_
  refine s_iload_n (hC.C 1 4 (Nat.le_of_ble_eq_true rfl) (Nat.le_of_ble_eq_true rfl)) 1 dX0_init_12 rfl ?_
  refine c_putI hC xc0 (by decide) hin rfl qp_X0_15 (x_stgk ix_204 (by decide) kd_204) dX0_init_13 ?_
  exact c_ret hC hr hlk dX0_init_16
def x_U37 : x_M := x_sR x_U36 203 ((0 : Int32)).toNatClampNeg 204
def x_U38 : x_M := x_sI (x_sR x_U37 205 1 211) 205 0 (1 : Int32)
set_option maxRecDepth 100000 in
theorem k_X0_init_205 (hR : x_R (XC ad D cA) x_ixA h0 hA) : x_Ct (XC ad D cA) x_Z0 x_ixA h0 hA l yX0_init cX0_init 2 1 1 4 55 56 [vR 205, vI (1 : Int32)] x_U37 x_U38 := by
  refine c_enter hR (by decide +kernel) (Nat.le_of_ble_eq_true rfl) (fun p e s m args below meth c hC hin hr hlk => ?_)
  refine s_lv (lv' := [(0, vR 205), (1, vI (1 : Int32))]) [0, 1] rfl ?_
  refine s_aload_n (hC.C 0 0 (Nat.le_of_ble_eq_true rfl) (Nat.le_of_ble_eq_true rfl)) 0 dX0_init_0 rfl ?_
  refine c_init hC (by decide) qo_X0_3 qo_inst qo_code (by decide) (Nat.le_of_ble_eq_true rfl) dX0_init_1 ?_
  refine s_aload_n (hC.C 0 0 (Nat.le_of_ble_eq_true rfl) (Nat.le_of_ble_eq_true rfl)) 0 dX0_init_4 rfl ?_
  refine s_iconst (hC.C 0 0 (Nat.le_of_ble_eq_true rfl) (Nat.le_of_ble_eq_true rfl)) dX0_init_5 (v := 4) (by decide) ?_
  refine c_newI hC ix_211 kd_211 (by decide) ln_211 (by decide +kernel) qa_int (by decide) (by decide) ⟨Nat.le_of_ble_eq_true rfl, Nat.le_of_ble_eq_true rfl⟩ dX0_init_6 ?_
  refine c_putR hC xc0 (by decide) hin rfl qp_X0_9 (x_stgk ix_205 (by decide) kd_205) dX0_init_8 ?_
  refine s_aload_n (hC.C 1 4 (Nat.le_of_ble_eq_true rfl) (Nat.le_of_ble_eq_true rfl)) 0 dX0_init_11 rfl ?_
  refine s_iload_n (hC.C 1 4 (Nat.le_of_ble_eq_true rfl) (Nat.le_of_ble_eq_true rfl)) 1 dX0_init_12 rfl ?_
  refine c_putI hC xc0 (by decide) hin rfl qp_X0_15 (x_stgk ix_205 (by decide) kd_205) dX0_init_13 ?_
  exact c_ret hC hr hlk dX0_init_16
def x_U39 : x_M := x_sR x_U38 203 ((1 : Int32)).toNatClampNeg 205
def x_U40 : x_M := x_sI (x_sR x_U39 206 1 212) 206 0 (2 : Int32)
set_option maxRecDepth 100000 in
theorem k_X0_init_206 (hR : x_R (XC ad D cA) x_ixA h0 hA) : x_Ct (XC ad D cA) x_Z0 x_ixA h0 hA l yX0_init cX0_init 2 1 1 4 57 58 [vR 206, vI (2 : Int32)] x_U39 x_U40 := by
  refine c_enter hR (by decide +kernel) (Nat.le_of_ble_eq_true rfl) (fun p e s m args below meth c hC hin hr hlk => ?_)
  refine s_lv (lv' := [(0, vR 206), (1, vI (2 : Int32))]) [0, 1] rfl ?_
  refine s_aload_n (hC.C 0 0 (Nat.le_of_ble_eq_true rfl) (Nat.le_of_ble_eq_true rfl)) 0 dX0_init_0 rfl ?_
  refine c_init hC (by decide) qo_X0_3 qo_inst qo_code (by decide) (Nat.le_of_ble_eq_true rfl) dX0_init_1 ?_
  refine s_aload_n (hC.C 0 0 (Nat.le_of_ble_eq_true rfl) (Nat.le_of_ble_eq_true rfl)) 0 dX0_init_4 rfl ?_
  refine s_iconst (hC.C 0 0 (Nat.le_of_ble_eq_true rfl) (Nat.le_of_ble_eq_true rfl)) dX0_init_5 (v := 4) (by decide) ?_
  refine c_newI hC ix_212 kd_212 (by decide) ln_212 (by decide +kernel) qa_int (by decide) (by decide) ⟨Nat.le_of_ble_eq_true rfl, Nat.le_of_ble_eq_true rfl⟩ dX0_init_6 ?_
  refine c_putR hC xc0 (by decide) hin rfl qp_X0_9 (x_stgk ix_206 (by decide) kd_206) dX0_init_8 ?_
  refine s_aload_n (hC.C 1 4 (Nat.le_of_ble_eq_true rfl) (Nat.le_of_ble_eq_true rfl)) 0 dX0_init_11 rfl ?_
  refine s_iload_n (hC.C 1 4 (Nat.le_of_ble_eq_true rfl) (Nat.le_of_ble_eq_true rfl)) 1 dX0_init_12 rfl ?_
  refine c_putI hC xc0 (by decide) hin rfl qp_X0_15 (x_stgk ix_206 (by decide) kd_206) dX0_init_13 ?_
  exact c_ret hC hr hlk dX0_init_16
def x_U41 : x_M := x_sR x_U40 203 ((2 : Int32)).toNatClampNeg 206
def x_U42 : x_M := x_sI (x_sR x_U41 207 1 213) 207 0 (3 : Int32)
set_option maxRecDepth 100000 in
theorem k_X0_init_207 (hR : x_R (XC ad D cA) x_ixA h0 hA) : x_Ct (XC ad D cA) x_Z0 x_ixA h0 hA l yX0_init cX0_init 2 1 1 4 59 60 [vR 207, vI (3 : Int32)] x_U41 x_U42 := by
  refine c_enter hR (by decide +kernel) (Nat.le_of_ble_eq_true rfl) (fun p e s m args below meth c hC hin hr hlk => ?_)
  refine s_lv (lv' := [(0, vR 207), (1, vI (3 : Int32))]) [0, 1] rfl ?_
  refine s_aload_n (hC.C 0 0 (Nat.le_of_ble_eq_true rfl) (Nat.le_of_ble_eq_true rfl)) 0 dX0_init_0 rfl ?_
  refine c_init hC (by decide) qo_X0_3 qo_inst qo_code (by decide) (Nat.le_of_ble_eq_true rfl) dX0_init_1 ?_
  refine s_aload_n (hC.C 0 0 (Nat.le_of_ble_eq_true rfl) (Nat.le_of_ble_eq_true rfl)) 0 dX0_init_4 rfl ?_
  refine s_iconst (hC.C 0 0 (Nat.le_of_ble_eq_true rfl) (Nat.le_of_ble_eq_true rfl)) dX0_init_5 (v := 4) (by decide) ?_
  refine c_newI hC ix_213 kd_213 (by decide) ln_213 (by decide +kernel) qa_int (by decide) (by decide) ⟨Nat.le_of_ble_eq_true rfl, Nat.le_of_ble_eq_true rfl⟩ dX0_init_6 ?_
  refine c_putR hC xc0 (by decide) hin rfl qp_X0_9 (x_stgk ix_207 (by decide) kd_207) dX0_init_8 ?_
  refine s_aload_n (hC.C 1 4 (Nat.le_of_ble_eq_true rfl) (Nat.le_of_ble_eq_true rfl)) 0 dX0_init_11 rfl ?_
  refine s_iload_n (hC.C 1 4 (Nat.le_of_ble_eq_true rfl) (Nat.le_of_ble_eq_true rfl)) 1 dX0_init_12 rfl ?_
  refine c_putI hC xc0 (by decide) hin rfl qp_X0_15 (x_stgk ix_207 (by decide) kd_207) dX0_init_13 ?_
  exact c_ret hC hr hlk dX0_init_16
def x_U43 : x_M := x_sR x_U42 203 ((3 : Int32)).toNatClampNeg 207
def x_U44 : x_M := x_sI (x_sR x_U43 208 1 214) 208 0 (4 : Int32)
set_option maxRecDepth 100000 in
theorem k_X0_init_208 (hR : x_R (XC ad D cA) x_ixA h0 hA) : x_Ct (XC ad D cA) x_Z0 x_ixA h0 hA l yX0_init cX0_init 2 1 1 4 61 62 [vR 208, vI (4 : Int32)] x_U43 x_U44 := by
  refine c_enter hR (by decide +kernel) (Nat.le_of_ble_eq_true rfl) (fun p e s m args below meth c hC hin hr hlk => ?_)
  refine s_lv (lv' := [(0, vR 208), (1, vI (4 : Int32))]) [0, 1] rfl ?_
  refine s_aload_n (hC.C 0 0 (Nat.le_of_ble_eq_true rfl) (Nat.le_of_ble_eq_true rfl)) 0 dX0_init_0 rfl ?_
  refine c_init hC (by decide) qo_X0_3 qo_inst qo_code (by decide) (Nat.le_of_ble_eq_true rfl) dX0_init_1 ?_
  refine s_aload_n (hC.C 0 0 (Nat.le_of_ble_eq_true rfl) (Nat.le_of_ble_eq_true rfl)) 0 dX0_init_4 rfl ?_
  refine s_iconst (hC.C 0 0 (Nat.le_of_ble_eq_true rfl) (Nat.le_of_ble_eq_true rfl)) dX0_init_5 (v := 4) (by decide) ?_
  refine c_newI hC ix_214 kd_214 (by decide) ln_214 (by decide +kernel) qa_int (by decide) (by decide) ⟨Nat.le_of_ble_eq_true rfl, Nat.le_of_ble_eq_true rfl⟩ dX0_init_6 ?_
  refine c_putR hC xc0 (by decide) hin rfl qp_X0_9 (x_stgk ix_208 (by decide) kd_208) dX0_init_8 ?_
  refine s_aload_n (hC.C 1 4 (Nat.le_of_ble_eq_true rfl) (Nat.le_of_ble_eq_true rfl)) 0 dX0_init_11 rfl ?_
  refine s_iload_n (hC.C 1 4 (Nat.le_of_ble_eq_true rfl) (Nat.le_of_ble_eq_true rfl)) 1 dX0_init_12 rfl ?_
  refine c_putI hC xc0 (by decide) hin rfl qp_X0_15 (x_stgk ix_208 (by decide) kd_208) dX0_init_13 ?_
  exact c_ret hC hr hlk dX0_init_16
def x_U45 : x_M := x_sR x_U44 203 ((4 : Int32)).toNatClampNeg 208
def x_U46 : x_M := x_sI (x_sR x_U45 209 1 215) 209 0 (5 : Int32)
set_option maxRecDepth 100000 in
theorem k_X0_init_209 (hR : x_R (XC ad D cA) x_ixA h0 hA) : x_Ct (XC ad D cA) x_Z0 x_ixA h0 hA l yX0_init cX0_init 2 1 1 4 63 64 [vR 209, vI (5 : Int32)] x_U45 x_U46 := by
  refine c_enter hR (by decide +kernel) (Nat.le_of_ble_eq_true rfl) (fun p e s m args below meth c hC hin hr hlk => ?_)
  refine s_lv (lv' := [(0, vR 209), (1, vI (5 : Int32))]) [0, 1] rfl ?_
  refine s_aload_n (hC.C 0 0 (Nat.le_of_ble_eq_true rfl) (Nat.le_of_ble_eq_true rfl)) 0 dX0_init_0 rfl ?_
  refine c_init hC (by decide) qo_X0_3 qo_inst qo_code (by decide) (Nat.le_of_ble_eq_true rfl) dX0_init_1 ?_
  refine s_aload_n (hC.C 0 0 (Nat.le_of_ble_eq_true rfl) (Nat.le_of_ble_eq_true rfl)) 0 dX0_init_4 rfl ?_
  refine s_iconst (hC.C 0 0 (Nat.le_of_ble_eq_true rfl) (Nat.le_of_ble_eq_true rfl)) dX0_init_5 (v := 4) (by decide) ?_
  refine c_newI hC ix_215 kd_215 (by decide) ln_215 (by decide +kernel) qa_int (by decide) (by decide) ⟨Nat.le_of_ble_eq_true rfl, Nat.le_of_ble_eq_true rfl⟩ dX0_init_6 ?_
  refine c_putR hC xc0 (by decide) hin rfl qp_X0_9 (x_stgk ix_209 (by decide) kd_209) dX0_init_8 ?_
  refine s_aload_n (hC.C 1 4 (Nat.le_of_ble_eq_true rfl) (Nat.le_of_ble_eq_true rfl)) 0 dX0_init_11 rfl ?_
  refine s_iload_n (hC.C 1 4 (Nat.le_of_ble_eq_true rfl) (Nat.le_of_ble_eq_true rfl)) 1 dX0_init_12 rfl ?_
  refine c_putI hC xc0 (by decide) hin rfl qp_X0_15 (x_stgk ix_209 (by decide) kd_209) dX0_init_13 ?_
  exact c_ret hC hr hlk dX0_init_16
def x_U47 : x_M := x_sR x_U46 203 ((5 : Int32)).toNatClampNeg 209
set_option maxRecDepth 100000 in
theorem k_X7_init_200 (hR : x_R (XC ad D cA) x_ixA h0 hA) : x_Ct (XC ad D cA) x_Z0 x_ixA h0 hA l yX7_init cX7_init 2 3 30 303 34 64 [vR 200] x_U24 x_U47 := by
  refine c_enter hR (by decide +kernel) (Nat.le_of_ble_eq_true rfl) (fun p e s m args below meth c hC hin hr hlk => ?_)
  refine s_lv (lv' := [(0, vR 200)]) [0] rfl ?_
  refine s_aload_n (hC.C 0 0 (Nat.le_of_ble_eq_true rfl) (Nat.le_of_ble_eq_true rfl)) 0 dX7_init_0 rfl ?_
  refine c_init hC (by decide) qo_X7_3 qo_inst qo_code (by decide) (Nat.le_of_ble_eq_true rfl) dX7_init_1 ?_
  refine s_aload_n (hC.C 0 0 (Nat.le_of_ble_eq_true rfl) (Nat.le_of_ble_eq_true rfl)) 0 dX7_init_4 rfl ?_
  refine c_newD hC xc3 ix_201 kd_201 (by decide) (by decide +kernel) qn_X7_9 qz_X3 qc_X3 ⟨Nat.le_of_ble_eq_true rfl, Nat.le_of_ble_eq_true rfl⟩ dX7_init_5 ?_
  refine s_dupR (hC.C 1 1 (Nat.le_of_ble_eq_true rfl) (Nat.le_of_ble_eq_true rfl)) dX7_init_8 ?_
  refine c_call hC (x := 201) (avs := []) (st := [vR 201, vR 200]) (nest := false) (by decide) (k_X3_init_201 hR) dX7_init_9 rfl qm_X7_11 qi_X3_init qc_X3 qd_X3_init qh_X3_init (by decide) ⟨Nat.le_of_ble_eq_true rfl, Nat.le_of_ble_eq_true rfl⟩ (Nat.le_of_ble_eq_true rfl) ?_
  refine c_putR hC xc7 (by decide) hin rfl qp_X7_12 (x_stgk ix_200 (by decide) kd_200) dX7_init_12 ?_
  refine s_aload_n (hC.C 2 7 (Nat.le_of_ble_eq_true rfl) (Nat.le_of_ble_eq_true rfl)) 0 dX7_init_15 rfl ?_
  refine s_bipush (hC.C 2 7 (Nat.le_of_ble_eq_true rfl) (Nat.le_of_ble_eq_true rfl)) dX7_init_16 (v := 6) (by decide) ?_
  refine c_newA hC ix_203 (kd := 23) kd_203 (Or.inl ⟨rfl, rfl⟩) (by decide) ln_203 (by decide +kernel) qn_X7_18 (by decide) (by decide) ⟨Nat.le_of_ble_eq_true rfl, Nat.le_of_ble_eq_true rfl⟩ dX7_init_18 ?_
  refine c_putR hC xc7 (by decide) hin rfl qp_X7_20 (x_stgk ix_200 (by decide) kd_200) dX7_init_21 ?_
  refine s_aload_n (hC.C 3 13 (Nat.le_of_ble_eq_true rfl) (Nat.le_of_ble_eq_true rfl)) 0 dX7_init_24 rfl ?_
  refine c_newD hC xc6 ix_216 kd_216 (by decide) (by decide +kernel) qn_X7_24 qz_X6 qc_X6 ⟨Nat.le_of_ble_eq_true rfl, Nat.le_of_ble_eq_true rfl⟩ dX7_init_25 ?_
  refine s_dupR (hC.C 4 17 (Nat.le_of_ble_eq_true rfl) (Nat.le_of_ble_eq_true rfl)) dX7_init_28 ?_
  refine s_iconst (hC.C 4 17 (Nat.le_of_ble_eq_true rfl) (Nat.le_of_ble_eq_true rfl)) dX7_init_29 (v := 4) (by decide) ?_
  refine c_call hC (x := 216) (avs := [vI (4 : Int32)]) (st := [vR 216, vR 200]) (nest := false) (by decide) (k_X6_init_216 hR) dX7_init_30 rfl qm_X7_26 qi_X6_init qc_X6 qd_X6_init qh_X6_init (by decide) ⟨Nat.le_of_ble_eq_true rfl, Nat.le_of_ble_eq_true rfl⟩ (Nat.le_of_ble_eq_true rfl) ?_
  refine c_putR hC xc7 (by decide) hin rfl qp_X7_29 (x_stgk ix_200 (by decide) kd_200) dX7_init_33 ?_
  refine s_aload_n (hC.C 6 33 (Nat.le_of_ble_eq_true rfl) (Nat.le_of_ble_eq_true rfl)) 0 dX7_init_36 rfl ?_
  refine c_newD hC xc6 ix_219 kd_219 (by decide) (by decide +kernel) qn_X7_24 qz_X6 qc_X6 ⟨Nat.le_of_ble_eq_true rfl, Nat.le_of_ble_eq_true rfl⟩ dX7_init_37 ?_
  refine s_dupR (hC.C 7 37 (Nat.le_of_ble_eq_true rfl) (Nat.le_of_ble_eq_true rfl)) dX7_init_40 ?_
  refine s_bipush (hC.C 7 37 (Nat.le_of_ble_eq_true rfl) (Nat.le_of_ble_eq_true rfl)) dX7_init_41 (v := 8) (by decide) ?_
  refine c_call hC (x := 219) (avs := [vI (8 : Int32)]) (st := [vR 219, vR 200]) (nest := false) (by decide) (k_X6_init_219 hR) dX7_init_43 rfl qm_X7_26 qi_X6_init qc_X6 qd_X6_init qh_X6_init (by decide) ⟨Nat.le_of_ble_eq_true rfl, Nat.le_of_ble_eq_true rfl⟩ (Nat.le_of_ble_eq_true rfl) ?_
  refine c_putR hC xc7 (by decide) hin rfl qp_X7_33 (x_stgk ix_200 (by decide) kd_200) dX7_init_46 ?_
  refine s_aload_n (hC.C 9 53 (Nat.le_of_ble_eq_true rfl) (Nat.le_of_ble_eq_true rfl)) 0 dX7_init_49 rfl ?_
  refine c_newD hC xc6 ix_222 kd_222 (by decide) (by decide +kernel) qn_X7_24 qz_X6 qc_X6 ⟨Nat.le_of_ble_eq_true rfl, Nat.le_of_ble_eq_true rfl⟩ dX7_init_50 ?_
  refine s_dupR (hC.C 10 57 (Nat.le_of_ble_eq_true rfl) (Nat.le_of_ble_eq_true rfl)) dX7_init_53 ?_
  refine s_bipush (hC.C 10 57 (Nat.le_of_ble_eq_true rfl) (Nat.le_of_ble_eq_true rfl)) dX7_init_54 (v := 8) (by decide) ?_
  refine c_call hC (x := 222) (avs := [vI (8 : Int32)]) (st := [vR 222, vR 200]) (nest := false) (by decide) (k_X6_init_222 hR) dX7_init_56 rfl qm_X7_26 qi_X6_init qc_X6 qd_X6_init qh_X6_init (by decide) ⟨Nat.le_of_ble_eq_true rfl, Nat.le_of_ble_eq_true rfl⟩ (Nat.le_of_ble_eq_true rfl) ?_
  refine c_putR hC xc7 (by decide) hin rfl qp_X7_36 (x_stgk ix_200 (by decide) kd_200) dX7_init_59 ?_
  refine s_aload_n (hC.C 12 73 (Nat.le_of_ble_eq_true rfl) (Nat.le_of_ble_eq_true rfl)) 0 dX7_init_62 rfl ?_
  refine c_newD hC xc4 ix_225 kd_225 (by decide) (by decide +kernel) qn_X7_39 qz_X4 qc_X4 ⟨Nat.le_of_ble_eq_true rfl, Nat.le_of_ble_eq_true rfl⟩ dX7_init_63 ?_
  refine s_dupR (hC.C 13 83 (Nat.le_of_ble_eq_true rfl) (Nat.le_of_ble_eq_true rfl)) dX7_init_66 ?_
  refine c_call hC (x := 225) (avs := []) (st := [vR 225, vR 200]) (nest := false) (by decide) (k_X4_init_225 hR) dX7_init_67 rfl qm_X7_41 qi_X4_init qc_X4 qd_X4_init qh_X4_init (by decide) ⟨Nat.le_of_ble_eq_true rfl, Nat.le_of_ble_eq_true rfl⟩ (Nat.le_of_ble_eq_true rfl) ?_
  refine c_putR hC xc7 (by decide) hin rfl qp_X7_42 (x_stgk ix_200 (by decide) kd_200) dX7_init_70 ?_
  refine s_aload_n (hC.C 18 219 (Nat.le_of_ble_eq_true rfl) (Nat.le_of_ble_eq_true rfl)) 0 dX7_init_73 rfl ?_
  refine s_sipush (hC.C 18 219 (Nat.le_of_ble_eq_true rfl) (Nat.le_of_ble_eq_true rfl)) dX7_init_74 (v := 200) (by decide) ?_
  refine c_putI hC xc7 (by decide) hin rfl qp_X7_46 (x_stgk ix_200 (by decide) kd_200) dX7_init_77 ?_
  refine s_aload_n (hC.C 18 219 (Nat.le_of_ble_eq_true rfl) (Nat.le_of_ble_eq_true rfl)) 0 dX7_init_80 rfl ?_
  refine s_iconst (hC.C 18 219 (Nat.le_of_ble_eq_true rfl) (Nat.le_of_ble_eq_true rfl)) dX7_init_81 (v := -1) (by decide) ?_
  refine c_putI hC xc7 (by decide) hin rfl qp_X7_50 (x_stgk ix_200 (by decide) kd_200) dX7_init_82 ?_
  refine s_iconst (hC.C 18 219 (Nat.le_of_ble_eq_true rfl) (Nat.le_of_ble_eq_true rfl)) dX7_init_85 (v := 0) (by decide) ?_
  refine s_istore_n (hC.C 18 219 (Nat.le_of_ble_eq_true rfl) (Nat.le_of_ble_eq_true rfl)) dX7_init_86 (by decide) (lv' := [(1, vI (0 : Int32)), (0, vR 200)]) rfl ?_
  refine s_iload_n (hC.C 18 219 (Nat.le_of_ble_eq_true rfl) (Nat.le_of_ble_eq_true rfl)) 0 dX7_init_87 rfl ?_
  refine s_bipush (hC.C 18 219 (Nat.le_of_ble_eq_true rfl) (Nat.le_of_ble_eq_true rfl)) dX7_init_88 (v := 6) (by decide) ?_
  refine c_ge_f (hC.C 18 219 (Nat.le_of_ble_eq_true rfl) (Nat.le_of_ble_eq_true rfl)) dX7_init_90 (tgt := 113) (by decide) (by decide) ?_
  refine s_aload_n (hC.C 18 219 (Nat.le_of_ble_eq_true rfl) (Nat.le_of_ble_eq_true rfl)) 1 dX7_init_93 rfl ?_
  refine c_getR hC xc7 (by decide) rfl qp_X7_20 (x_stgk ix_200 (by decide) kd_200) (w := 203) (by decide +kernel) dX7_init_94 ?_
  refine s_iload_n (hC.C 18 219 (Nat.le_of_ble_eq_true rfl) (Nat.le_of_ble_eq_true rfl)) 0 dX7_init_97 rfl ?_
  refine c_newD hC xc0 ix_204 kd_204 (by decide) (by decide +kernel) qn_X7_18 qz_X0 qc_X0 ⟨Nat.le_of_ble_eq_true rfl, Nat.le_of_ble_eq_true rfl⟩ dX7_init_98 ?_
  refine s_dupR (hC.C 19 229 (Nat.le_of_ble_eq_true rfl) (Nat.le_of_ble_eq_true rfl)) dX7_init_101 ?_
  refine s_iload_n (hC.C 19 229 (Nat.le_of_ble_eq_true rfl) (Nat.le_of_ble_eq_true rfl)) 0 dX7_init_102 rfl ?_
  refine c_call hC (x := 204) (avs := [vI (0 : Int32)]) (st := [vR 204, vI (0 : Int32), vR 203]) (nest := false) (by decide) (k_X0_init_204 hR) dX7_init_103 rfl qm_X7_53 qi_X0_init qc_X0 qd_X0_init qh_X0_init (by decide) ⟨Nat.le_of_ble_eq_true rfl, Nat.le_of_ble_eq_true rfl⟩ (Nat.le_of_ble_eq_true rfl) ?_
  refine c_aast hC xc0 (kd := 23) (x_stgk ix_203 (by decide) kd_203) (Or.inl ⟨rfl, rfl⟩) (x_stgk ix_204 (by decide) kd_204) (by rw [show x_ln (XC ad D cA) 203 = 6 from ln_203]; decide) dX7_init_106 ?_
  refine s_iinc (hC.C 20 233 (Nat.le_of_ble_eq_true rfl) (Nat.le_of_ble_eq_true rfl)) 0 dX7_init_107 rfl (w := 1) (by decide) (by decide) (lv' := [(1, vI (1 : Int32)), (0, vR 200)]) rfl ?_
  refine s_goto (hC.C 20 233 (Nat.le_of_ble_eq_true rfl) (Nat.le_of_ble_eq_true rfl)) dX7_init_110 (tgt := 87) (by decide) ?_
  refine s_iload_n (hC.C 20 233 (Nat.le_of_ble_eq_true rfl) (Nat.le_of_ble_eq_true rfl)) 0 dX7_init_87 rfl ?_
  refine s_bipush (hC.C 20 233 (Nat.le_of_ble_eq_true rfl) (Nat.le_of_ble_eq_true rfl)) dX7_init_88 (v := 6) (by decide) ?_
  refine c_ge_f (hC.C 20 233 (Nat.le_of_ble_eq_true rfl) (Nat.le_of_ble_eq_true rfl)) dX7_init_90 (tgt := 113) (by decide) (by decide) ?_
  refine s_aload_n (hC.C 20 233 (Nat.le_of_ble_eq_true rfl) (Nat.le_of_ble_eq_true rfl)) 1 dX7_init_93 rfl ?_
  refine c_getR hC xc7 (by decide) rfl qp_X7_20 (x_stgk ix_200 (by decide) kd_200) (w := 203) (by decide +kernel) dX7_init_94 ?_
  refine s_iload_n (hC.C 20 233 (Nat.le_of_ble_eq_true rfl) (Nat.le_of_ble_eq_true rfl)) 0 dX7_init_97 rfl ?_
  refine c_newD hC xc0 ix_205 kd_205 (by decide) (by decide +kernel) qn_X7_18 qz_X0 qc_X0 ⟨Nat.le_of_ble_eq_true rfl, Nat.le_of_ble_eq_true rfl⟩ dX7_init_98 ?_
  refine s_dupR (hC.C 21 243 (Nat.le_of_ble_eq_true rfl) (Nat.le_of_ble_eq_true rfl)) dX7_init_101 ?_
  refine s_iload_n (hC.C 21 243 (Nat.le_of_ble_eq_true rfl) (Nat.le_of_ble_eq_true rfl)) 0 dX7_init_102 rfl ?_
  refine c_call hC (x := 205) (avs := [vI (1 : Int32)]) (st := [vR 205, vI (1 : Int32), vR 203]) (nest := false) (by decide) (k_X0_init_205 hR) dX7_init_103 rfl qm_X7_53 qi_X0_init qc_X0 qd_X0_init qh_X0_init (by decide) ⟨Nat.le_of_ble_eq_true rfl, Nat.le_of_ble_eq_true rfl⟩ (Nat.le_of_ble_eq_true rfl) ?_
  refine c_aast hC xc0 (kd := 23) (x_stgk ix_203 (by decide) kd_203) (Or.inl ⟨rfl, rfl⟩) (x_stgk ix_205 (by decide) kd_205) (by rw [show x_ln (XC ad D cA) 203 = 6 from ln_203]; decide) dX7_init_106 ?_
  refine s_iinc (hC.C 22 247 (Nat.le_of_ble_eq_true rfl) (Nat.le_of_ble_eq_true rfl)) 0 dX7_init_107 rfl (w := 1) (by decide) (by decide) (lv' := [(1, vI (2 : Int32)), (0, vR 200)]) rfl ?_
  refine s_goto (hC.C 22 247 (Nat.le_of_ble_eq_true rfl) (Nat.le_of_ble_eq_true rfl)) dX7_init_110 (tgt := 87) (by decide) ?_
  refine s_iload_n (hC.C 22 247 (Nat.le_of_ble_eq_true rfl) (Nat.le_of_ble_eq_true rfl)) 0 dX7_init_87 rfl ?_
  refine s_bipush (hC.C 22 247 (Nat.le_of_ble_eq_true rfl) (Nat.le_of_ble_eq_true rfl)) dX7_init_88 (v := 6) (by decide) ?_
  refine c_ge_f (hC.C 22 247 (Nat.le_of_ble_eq_true rfl) (Nat.le_of_ble_eq_true rfl)) dX7_init_90 (tgt := 113) (by decide) (by decide) ?_
  refine s_aload_n (hC.C 22 247 (Nat.le_of_ble_eq_true rfl) (Nat.le_of_ble_eq_true rfl)) 1 dX7_init_93 rfl ?_
  refine c_getR hC xc7 (by decide) rfl qp_X7_20 (x_stgk ix_200 (by decide) kd_200) (w := 203) (by decide +kernel) dX7_init_94 ?_
  refine s_iload_n (hC.C 22 247 (Nat.le_of_ble_eq_true rfl) (Nat.le_of_ble_eq_true rfl)) 0 dX7_init_97 rfl ?_
  refine c_newD hC xc0 ix_206 kd_206 (by decide) (by decide +kernel) qn_X7_18 qz_X0 qc_X0 ⟨Nat.le_of_ble_eq_true rfl, Nat.le_of_ble_eq_true rfl⟩ dX7_init_98 ?_
  refine s_dupR (hC.C 23 257 (Nat.le_of_ble_eq_true rfl) (Nat.le_of_ble_eq_true rfl)) dX7_init_101 ?_
  refine s_iload_n (hC.C 23 257 (Nat.le_of_ble_eq_true rfl) (Nat.le_of_ble_eq_true rfl)) 0 dX7_init_102 rfl ?_
  refine c_call hC (x := 206) (avs := [vI (2 : Int32)]) (st := [vR 206, vI (2 : Int32), vR 203]) (nest := false) (by decide) (k_X0_init_206 hR) dX7_init_103 rfl qm_X7_53 qi_X0_init qc_X0 qd_X0_init qh_X0_init (by decide) ⟨Nat.le_of_ble_eq_true rfl, Nat.le_of_ble_eq_true rfl⟩ (Nat.le_of_ble_eq_true rfl) ?_
  refine c_aast hC xc0 (kd := 23) (x_stgk ix_203 (by decide) kd_203) (Or.inl ⟨rfl, rfl⟩) (x_stgk ix_206 (by decide) kd_206) (by rw [show x_ln (XC ad D cA) 203 = 6 from ln_203]; decide) dX7_init_106 ?_
  refine s_iinc (hC.C 24 261 (Nat.le_of_ble_eq_true rfl) (Nat.le_of_ble_eq_true rfl)) 0 dX7_init_107 rfl (w := 1) (by decide) (by decide) (lv' := [(1, vI (3 : Int32)), (0, vR 200)]) rfl ?_
  refine s_goto (hC.C 24 261 (Nat.le_of_ble_eq_true rfl) (Nat.le_of_ble_eq_true rfl)) dX7_init_110 (tgt := 87) (by decide) ?_
  refine s_iload_n (hC.C 24 261 (Nat.le_of_ble_eq_true rfl) (Nat.le_of_ble_eq_true rfl)) 0 dX7_init_87 rfl ?_
  refine s_bipush (hC.C 24 261 (Nat.le_of_ble_eq_true rfl) (Nat.le_of_ble_eq_true rfl)) dX7_init_88 (v := 6) (by decide) ?_
  refine c_ge_f (hC.C 24 261 (Nat.le_of_ble_eq_true rfl) (Nat.le_of_ble_eq_true rfl)) dX7_init_90 (tgt := 113) (by decide) (by decide) ?_
  refine s_aload_n (hC.C 24 261 (Nat.le_of_ble_eq_true rfl) (Nat.le_of_ble_eq_true rfl)) 1 dX7_init_93 rfl ?_
  refine c_getR hC xc7 (by decide) rfl qp_X7_20 (x_stgk ix_200 (by decide) kd_200) (w := 203) (by decide +kernel) dX7_init_94 ?_
  refine s_iload_n (hC.C 24 261 (Nat.le_of_ble_eq_true rfl) (Nat.le_of_ble_eq_true rfl)) 0 dX7_init_97 rfl ?_
  refine c_newD hC xc0 ix_207 kd_207 (by decide) (by decide +kernel) qn_X7_18 qz_X0 qc_X0 ⟨Nat.le_of_ble_eq_true rfl, Nat.le_of_ble_eq_true rfl⟩ dX7_init_98 ?_
  refine s_dupR (hC.C 25 271 (Nat.le_of_ble_eq_true rfl) (Nat.le_of_ble_eq_true rfl)) dX7_init_101 ?_
  refine s_iload_n (hC.C 25 271 (Nat.le_of_ble_eq_true rfl) (Nat.le_of_ble_eq_true rfl)) 0 dX7_init_102 rfl ?_
  refine c_call hC (x := 207) (avs := [vI (3 : Int32)]) (st := [vR 207, vI (3 : Int32), vR 203]) (nest := false) (by decide) (k_X0_init_207 hR) dX7_init_103 rfl qm_X7_53 qi_X0_init qc_X0 qd_X0_init qh_X0_init (by decide) ⟨Nat.le_of_ble_eq_true rfl, Nat.le_of_ble_eq_true rfl⟩ (Nat.le_of_ble_eq_true rfl) ?_
  refine c_aast hC xc0 (kd := 23) (x_stgk ix_203 (by decide) kd_203) (Or.inl ⟨rfl, rfl⟩) (x_stgk ix_207 (by decide) kd_207) (by rw [show x_ln (XC ad D cA) 203 = 6 from ln_203]; decide) dX7_init_106 ?_
  refine s_iinc (hC.C 26 275 (Nat.le_of_ble_eq_true rfl) (Nat.le_of_ble_eq_true rfl)) 0 dX7_init_107 rfl (w := 1) (by decide) (by decide) (lv' := [(1, vI (4 : Int32)), (0, vR 200)]) rfl ?_
  refine s_goto (hC.C 26 275 (Nat.le_of_ble_eq_true rfl) (Nat.le_of_ble_eq_true rfl)) dX7_init_110 (tgt := 87) (by decide) ?_
  refine s_iload_n (hC.C 26 275 (Nat.le_of_ble_eq_true rfl) (Nat.le_of_ble_eq_true rfl)) 0 dX7_init_87 rfl ?_
  refine s_bipush (hC.C 26 275 (Nat.le_of_ble_eq_true rfl) (Nat.le_of_ble_eq_true rfl)) dX7_init_88 (v := 6) (by decide) ?_
  refine c_ge_f (hC.C 26 275 (Nat.le_of_ble_eq_true rfl) (Nat.le_of_ble_eq_true rfl)) dX7_init_90 (tgt := 113) (by decide) (by decide) ?_
  refine s_aload_n (hC.C 26 275 (Nat.le_of_ble_eq_true rfl) (Nat.le_of_ble_eq_true rfl)) 1 dX7_init_93 rfl ?_
  refine c_getR hC xc7 (by decide) rfl qp_X7_20 (x_stgk ix_200 (by decide) kd_200) (w := 203) (by decide +kernel) dX7_init_94 ?_
  refine s_iload_n (hC.C 26 275 (Nat.le_of_ble_eq_true rfl) (Nat.le_of_ble_eq_true rfl)) 0 dX7_init_97 rfl ?_
  refine c_newD hC xc0 ix_208 kd_208 (by decide) (by decide +kernel) qn_X7_18 qz_X0 qc_X0 ⟨Nat.le_of_ble_eq_true rfl, Nat.le_of_ble_eq_true rfl⟩ dX7_init_98 ?_
  refine s_dupR (hC.C 27 285 (Nat.le_of_ble_eq_true rfl) (Nat.le_of_ble_eq_true rfl)) dX7_init_101 ?_
  refine s_iload_n (hC.C 27 285 (Nat.le_of_ble_eq_true rfl) (Nat.le_of_ble_eq_true rfl)) 0 dX7_init_102 rfl ?_
  refine c_call hC (x := 208) (avs := [vI (4 : Int32)]) (st := [vR 208, vI (4 : Int32), vR 203]) (nest := false) (by decide) (k_X0_init_208 hR) dX7_init_103 rfl qm_X7_53 qi_X0_init qc_X0 qd_X0_init qh_X0_init (by decide) ⟨Nat.le_of_ble_eq_true rfl, Nat.le_of_ble_eq_true rfl⟩ (Nat.le_of_ble_eq_true rfl) ?_
  refine c_aast hC xc0 (kd := 23) (x_stgk ix_203 (by decide) kd_203) (Or.inl ⟨rfl, rfl⟩) (x_stgk ix_208 (by decide) kd_208) (by rw [show x_ln (XC ad D cA) 203 = 6 from ln_203]; decide) dX7_init_106 ?_
  refine s_iinc (hC.C 28 289 (Nat.le_of_ble_eq_true rfl) (Nat.le_of_ble_eq_true rfl)) 0 dX7_init_107 rfl (w := 1) (by decide) (by decide) (lv' := [(1, vI (5 : Int32)), (0, vR 200)]) rfl ?_
  refine s_goto (hC.C 28 289 (Nat.le_of_ble_eq_true rfl) (Nat.le_of_ble_eq_true rfl)) dX7_init_110 (tgt := 87) (by decide) ?_
  refine s_iload_n (hC.C 28 289 (Nat.le_of_ble_eq_true rfl) (Nat.le_of_ble_eq_true rfl)) 0 dX7_init_87 rfl ?_
  refine s_bipush (hC.C 28 289 (Nat.le_of_ble_eq_true rfl) (Nat.le_of_ble_eq_true rfl)) dX7_init_88 (v := 6) (by decide) ?_
  refine c_ge_f (hC.C 28 289 (Nat.le_of_ble_eq_true rfl) (Nat.le_of_ble_eq_true rfl)) dX7_init_90 (tgt := 113) (by decide) (by decide) ?_
  refine s_aload_n (hC.C 28 289 (Nat.le_of_ble_eq_true rfl) (Nat.le_of_ble_eq_true rfl)) 1 dX7_init_93 rfl ?_
  refine c_getR hC xc7 (by decide) rfl qp_X7_20 (x_stgk ix_200 (by decide) kd_200) (w := 203) (by decide +kernel) dX7_init_94 ?_
  refine s_iload_n (hC.C 28 289 (Nat.le_of_ble_eq_true rfl) (Nat.le_of_ble_eq_true rfl)) 0 dX7_init_97 rfl ?_
  refine c_newD hC xc0 ix_209 kd_209 (by decide) (by decide +kernel) qn_X7_18 qz_X0 qc_X0 ⟨Nat.le_of_ble_eq_true rfl, Nat.le_of_ble_eq_true rfl⟩ dX7_init_98 ?_
  refine s_dupR (hC.C 29 299 (Nat.le_of_ble_eq_true rfl) (Nat.le_of_ble_eq_true rfl)) dX7_init_101 ?_
  refine s_iload_n (hC.C 29 299 (Nat.le_of_ble_eq_true rfl) (Nat.le_of_ble_eq_true rfl)) 0 dX7_init_102 rfl ?_
  refine c_call hC (x := 209) (avs := [vI (5 : Int32)]) (st := [vR 209, vI (5 : Int32), vR 203]) (nest := false) (by decide) (k_X0_init_209 hR) dX7_init_103 rfl qm_X7_53 qi_X0_init qc_X0 qd_X0_init qh_X0_init (by decide) ⟨Nat.le_of_ble_eq_true rfl, Nat.le_of_ble_eq_true rfl⟩ (Nat.le_of_ble_eq_true rfl) ?_
  refine c_aast hC xc0 (kd := 23) (x_stgk ix_203 (by decide) kd_203) (Or.inl ⟨rfl, rfl⟩) (x_stgk ix_209 (by decide) kd_209) (by rw [show x_ln (XC ad D cA) 203 = 6 from ln_203]; decide) dX7_init_106 ?_
  refine s_iinc (hC.C 30 303 (Nat.le_of_ble_eq_true rfl) (Nat.le_of_ble_eq_true rfl)) 0 dX7_init_107 rfl (w := 1) (by decide) (by decide) (lv' := [(1, vI (6 : Int32)), (0, vR 200)]) rfl ?_
  refine s_goto (hC.C 30 303 (Nat.le_of_ble_eq_true rfl) (Nat.le_of_ble_eq_true rfl)) dX7_init_110 (tgt := 87) (by decide) ?_
  refine s_iload_n (hC.C 30 303 (Nat.le_of_ble_eq_true rfl) (Nat.le_of_ble_eq_true rfl)) 0 dX7_init_87 rfl ?_
  refine s_bipush (hC.C 30 303 (Nat.le_of_ble_eq_true rfl) (Nat.le_of_ble_eq_true rfl)) dX7_init_88 (v := 6) (by decide) ?_
  refine c_ge_t (hC.C 30 303 (Nat.le_of_ble_eq_true rfl) (Nat.le_of_ble_eq_true rfl)) dX7_init_90 (tgt := 113) (by decide) (by decide) ?_
  exact c_ret hC hr hlk dX7_init_113
def x_U48 : x_M := x_sR x_U47 1 1 200
def x_U49 : x_M := x_sI (x_sI (x_sI (x_sI (x_sI (x_sI (x_sR x_U48 301 0 302) 302 ((0 : Int32)).toNatClampNeg (10 : Int32)) 302 ((1 : Int32)).toNatClampNeg (10 : Int32)) 302 ((2 : Int32)).toNatClampNeg (10 : Int32)) 302 ((3 : Int32)).toNatClampNeg (10 : Int32)) 302 ((4 : Int32)).toNatClampNeg (10 : Int32)) 302 ((5 : Int32)).toNatClampNeg (10 : Int32)
set_option maxRecDepth 100000 in
theorem k_X3_init_301 (hR : x_R (XC ad D cA) x_ixA h0 hA) : x_Ct (XC ad D cA) x_Z0 x_ixA h0 hA l yX3_init cX3_init 2 1 1 6 67 68 [vR 301] x_U48 x_U49 := by
  refine c_enter hR (by decide +kernel) (Nat.le_of_ble_eq_true rfl) (fun p e s m args below meth c hC hin hr hlk => ?_)
  refine s_lv (lv' := [(0, vR 301)]) [0] rfl ?_
  refine s_aload_n (hC.C 0 0 (Nat.le_of_ble_eq_true rfl) (Nat.le_of_ble_eq_true rfl)) 0 dX3_init_0 rfl ?_
  refine c_init hC (by decide) qo_X3_3 qo_inst qo_code (by decide) (Nat.le_of_ble_eq_true rfl) dX3_init_1 ?_
  refine s_aload_n (hC.C 0 0 (Nat.le_of_ble_eq_true rfl) (Nat.le_of_ble_eq_true rfl)) 0 dX3_init_4 rfl ?_
  refine s_bipush (hC.C 0 0 (Nat.le_of_ble_eq_true rfl) (Nat.le_of_ble_eq_true rfl)) dX3_init_5 (v := 6) (by decide) ?_
  refine c_newI hC ix_302 kd_302 (by decide) ln_302 (by decide +kernel) qa_int (by decide) (by decide) ⟨Nat.le_of_ble_eq_true rfl, Nat.le_of_ble_eq_true rfl⟩ dX3_init_7 ?_
  refine c_putR hC xc3 (by decide) hin rfl qp_X3_9 (x_stgk ix_301 (by decide) kd_301) dX3_init_9 ?_
  refine s_iconst (hC.C 1 6 (Nat.le_of_ble_eq_true rfl) (Nat.le_of_ble_eq_true rfl)) dX3_init_12 (v := 0) (by decide) ?_
  refine s_istore_n (hC.C 1 6 (Nat.le_of_ble_eq_true rfl) (Nat.le_of_ble_eq_true rfl)) dX3_init_13 (by decide) (lv' := [(1, vI (0 : Int32)), (0, vR 301)]) rfl ?_
  refine s_iload_n (hC.C 1 6 (Nat.le_of_ble_eq_true rfl) (Nat.le_of_ble_eq_true rfl)) 0 dX3_init_14 rfl ?_
  refine s_bipush (hC.C 1 6 (Nat.le_of_ble_eq_true rfl) (Nat.le_of_ble_eq_true rfl)) dX3_init_15 (v := 6) (by decide) ?_
  refine c_ge_f (hC.C 1 6 (Nat.le_of_ble_eq_true rfl) (Nat.le_of_ble_eq_true rfl)) dX3_init_17 (tgt := 34) (by decide) (by decide) ?_
  refine s_aload_n (hC.C 1 6 (Nat.le_of_ble_eq_true rfl) (Nat.le_of_ble_eq_true rfl)) 1 dX3_init_20 rfl ?_
  refine c_getR hC xc3 (by decide) rfl qp_X3_9 (x_stgk ix_301 (by decide) kd_301) (w := 302) (by decide +kernel) dX3_init_21 ?_
  refine s_iload_n (hC.C 1 6 (Nat.le_of_ble_eq_true rfl) (Nat.le_of_ble_eq_true rfl)) 0 dX3_init_24 rfl ?_
  refine s_bipush (hC.C 1 6 (Nat.le_of_ble_eq_true rfl) (Nat.le_of_ble_eq_true rfl)) dX3_init_25 (v := 10) (by decide) ?_
  refine c_iast hC (x_stgk ix_302 (by decide) kd_302) (by rw [show x_ln (XC ad D cA) 302 = 6 from ln_302]; decide) dX3_init_27 ?_
  refine s_iinc (hC.C 1 6 (Nat.le_of_ble_eq_true rfl) (Nat.le_of_ble_eq_true rfl)) 0 dX3_init_28 rfl (w := 1) (by decide) (by decide) (lv' := [(1, vI (1 : Int32)), (0, vR 301)]) rfl ?_
  refine s_goto (hC.C 1 6 (Nat.le_of_ble_eq_true rfl) (Nat.le_of_ble_eq_true rfl)) dX3_init_31 (tgt := 14) (by decide) ?_
  refine s_iload_n (hC.C 1 6 (Nat.le_of_ble_eq_true rfl) (Nat.le_of_ble_eq_true rfl)) 0 dX3_init_14 rfl ?_
  refine s_bipush (hC.C 1 6 (Nat.le_of_ble_eq_true rfl) (Nat.le_of_ble_eq_true rfl)) dX3_init_15 (v := 6) (by decide) ?_
  refine c_ge_f (hC.C 1 6 (Nat.le_of_ble_eq_true rfl) (Nat.le_of_ble_eq_true rfl)) dX3_init_17 (tgt := 34) (by decide) (by decide) ?_
  refine s_aload_n (hC.C 1 6 (Nat.le_of_ble_eq_true rfl) (Nat.le_of_ble_eq_true rfl)) 1 dX3_init_20 rfl ?_
  refine c_getR hC xc3 (by decide) rfl qp_X3_9 (x_stgk ix_301 (by decide) kd_301) (w := 302) (by decide +kernel) dX3_init_21 ?_
  refine s_iload_n (hC.C 1 6 (Nat.le_of_ble_eq_true rfl) (Nat.le_of_ble_eq_true rfl)) 0 dX3_init_24 rfl ?_
  refine s_bipush (hC.C 1 6 (Nat.le_of_ble_eq_true rfl) (Nat.le_of_ble_eq_true rfl)) dX3_init_25 (v := 10) (by decide) ?_
  refine c_iast hC (x_stgk ix_302 (by decide) kd_302) (by rw [show x_ln (XC ad D cA) 302 = 6 from ln_302]; decide) dX3_init_27 ?_
  refine s_iinc (hC.C 1 6 (Nat.le_of_ble_eq_true rfl) (Nat.le_of_ble_eq_true rfl)) 0 dX3_init_28 rfl (w := 1) (by decide) (by decide) (lv' := [(1, vI (2 : Int32)), (0, vR 301)]) rfl ?_
  refine s_goto (hC.C 1 6 (Nat.le_of_ble_eq_true rfl) (Nat.le_of_ble_eq_true rfl)) dX3_init_31 (tgt := 14) (by decide) ?_
  refine s_iload_n (hC.C 1 6 (Nat.le_of_ble_eq_true rfl) (Nat.le_of_ble_eq_true rfl)) 0 dX3_init_14 rfl ?_
  refine s_bipush (hC.C 1 6 (Nat.le_of_ble_eq_true rfl) (Nat.le_of_ble_eq_true rfl)) dX3_init_15 (v := 6) (by decide) ?_
  refine c_ge_f (hC.C 1 6 (Nat.le_of_ble_eq_true rfl) (Nat.le_of_ble_eq_true rfl)) dX3_init_17 (tgt := 34) (by decide) (by decide) ?_
  refine s_aload_n (hC.C 1 6 (Nat.le_of_ble_eq_true rfl) (Nat.le_of_ble_eq_true rfl)) 1 dX3_init_20 rfl ?_
  refine c_getR hC xc3 (by decide) rfl qp_X3_9 (x_stgk ix_301 (by decide) kd_301) (w := 302) (by decide +kernel) dX3_init_21 ?_
  refine s_iload_n (hC.C 1 6 (Nat.le_of_ble_eq_true rfl) (Nat.le_of_ble_eq_true rfl)) 0 dX3_init_24 rfl ?_
  refine s_bipush (hC.C 1 6 (Nat.le_of_ble_eq_true rfl) (Nat.le_of_ble_eq_true rfl)) dX3_init_25 (v := 10) (by decide) ?_
  refine c_iast hC (x_stgk ix_302 (by decide) kd_302) (by rw [show x_ln (XC ad D cA) 302 = 6 from ln_302]; decide) dX3_init_27 ?_
  refine s_iinc (hC.C 1 6 (Nat.le_of_ble_eq_true rfl) (Nat.le_of_ble_eq_true rfl)) 0 dX3_init_28 rfl (w := 1) (by decide) (by decide) (lv' := [(1, vI (3 : Int32)), (0, vR 301)]) rfl ?_
  refine s_goto (hC.C 1 6 (Nat.le_of_ble_eq_true rfl) (Nat.le_of_ble_eq_true rfl)) dX3_init_31 (tgt := 14) (by decide) ?_
  refine s_iload_n (hC.C 1 6 (Nat.le_of_ble_eq_true rfl) (Nat.le_of_ble_eq_true rfl)) 0 dX3_init_14 rfl ?_
  refine s_bipush (hC.C 1 6 (Nat.le_of_ble_eq_true rfl) (Nat.le_of_ble_eq_true rfl)) dX3_init_15 (v := 6) (by decide) ?_
  refine c_ge_f (hC.C 1 6 (Nat.le_of_ble_eq_true rfl) (Nat.le_of_ble_eq_true rfl)) dX3_init_17 (tgt := 34) (by decide) (by decide) ?_
  refine s_aload_n (hC.C 1 6 (Nat.le_of_ble_eq_true rfl) (Nat.le_of_ble_eq_true rfl)) 1 dX3_init_20 rfl ?_
  refine c_getR hC xc3 (by decide) rfl qp_X3_9 (x_stgk ix_301 (by decide) kd_301) (w := 302) (by decide +kernel) dX3_init_21 ?_
  refine s_iload_n (hC.C 1 6 (Nat.le_of_ble_eq_true rfl) (Nat.le_of_ble_eq_true rfl)) 0 dX3_init_24 rfl ?_
  refine s_bipush (hC.C 1 6 (Nat.le_of_ble_eq_true rfl) (Nat.le_of_ble_eq_true rfl)) dX3_init_25 (v := 10) (by decide) ?_
  refine c_iast hC (x_stgk ix_302 (by decide) kd_302) (by rw [show x_ln (XC ad D cA) 302 = 6 from ln_302]; decide) dX3_init_27 ?_
  refine s_iinc (hC.C 1 6 (Nat.le_of_ble_eq_true rfl) (Nat.le_of_ble_eq_true rfl)) 0 dX3_init_28 rfl (w := 1) (by decide) (by decide) (lv' := [(1, vI (4 : Int32)), (0, vR 301)]) rfl ?_
  refine s_goto (hC.C 1 6 (Nat.le_of_ble_eq_true rfl) (Nat.le_of_ble_eq_true rfl)) dX3_init_31 (tgt := 14) (by decide) ?_
  refine s_iload_n (hC.C 1 6 (Nat.le_of_ble_eq_true rfl) (Nat.le_of_ble_eq_true rfl)) 0 dX3_init_14 rfl ?_
  refine s_bipush (hC.C 1 6 (Nat.le_of_ble_eq_true rfl) (Nat.le_of_ble_eq_true rfl)) dX3_init_15 (v := 6) (by decide) ?_
  refine c_ge_f (hC.C 1 6 (Nat.le_of_ble_eq_true rfl) (Nat.le_of_ble_eq_true rfl)) dX3_init_17 (tgt := 34) (by decide) (by decide) ?_
  refine s_aload_n (hC.C 1 6 (Nat.le_of_ble_eq_true rfl) (Nat.le_of_ble_eq_true rfl)) 1 dX3_init_20 rfl ?_
  refine c_getR hC xc3 (by decide) rfl qp_X3_9 (x_stgk ix_301 (by decide) kd_301) (w := 302) (by decide +kernel) dX3_init_21 ?_
  refine s_iload_n (hC.C 1 6 (Nat.le_of_ble_eq_true rfl) (Nat.le_of_ble_eq_true rfl)) 0 dX3_init_24 rfl ?_
  refine s_bipush (hC.C 1 6 (Nat.le_of_ble_eq_true rfl) (Nat.le_of_ble_eq_true rfl)) dX3_init_25 (v := 10) (by decide) ?_
  refine c_iast hC (x_stgk ix_302 (by decide) kd_302) (by rw [show x_ln (XC ad D cA) 302 = 6 from ln_302]; decide) dX3_init_27 ?_
  refine s_iinc (hC.C 1 6 (Nat.le_of_ble_eq_true rfl) (Nat.le_of_ble_eq_true rfl)) 0 dX3_init_28 rfl (w := 1) (by decide) (by decide) (lv' := [(1, vI (5 : Int32)), (0, vR 301)]) rfl ?_
  refine s_goto (hC.C 1 6 (Nat.le_of_ble_eq_true rfl) (Nat.le_of_ble_eq_true rfl)) dX3_init_31 (tgt := 14) (by decide) ?_
  refine s_iload_n (hC.C 1 6 (Nat.le_of_ble_eq_true rfl) (Nat.le_of_ble_eq_true rfl)) 0 dX3_init_14 rfl ?_
  refine s_bipush (hC.C 1 6 (Nat.le_of_ble_eq_true rfl) (Nat.le_of_ble_eq_true rfl)) dX3_init_15 (v := 6) (by decide) ?_
  refine c_ge_f (hC.C 1 6 (Nat.le_of_ble_eq_true rfl) (Nat.le_of_ble_eq_true rfl)) dX3_init_17 (tgt := 34) (by decide) (by decide) ?_
  refine s_aload_n (hC.C 1 6 (Nat.le_of_ble_eq_true rfl) (Nat.le_of_ble_eq_true rfl)) 1 dX3_init_20 rfl ?_
  refine c_getR hC xc3 (by decide) rfl qp_X3_9 (x_stgk ix_301 (by decide) kd_301) (w := 302) (by decide +kernel) dX3_init_21 ?_
  refine s_iload_n (hC.C 1 6 (Nat.le_of_ble_eq_true rfl) (Nat.le_of_ble_eq_true rfl)) 0 dX3_init_24 rfl ?_
  refine s_bipush (hC.C 1 6 (Nat.le_of_ble_eq_true rfl) (Nat.le_of_ble_eq_true rfl)) dX3_init_25 (v := 10) (by decide) ?_
  refine c_iast hC (x_stgk ix_302 (by decide) kd_302) (by rw [show x_ln (XC ad D cA) 302 = 6 from ln_302]; decide) dX3_init_27 ?_
  refine s_iinc (hC.C 1 6 (Nat.le_of_ble_eq_true rfl) (Nat.le_of_ble_eq_true rfl)) 0 dX3_init_28 rfl (w := 1) (by decide) (by decide) (lv' := [(1, vI (6 : Int32)), (0, vR 301)]) rfl ?_
  refine s_goto (hC.C 1 6 (Nat.le_of_ble_eq_true rfl) (Nat.le_of_ble_eq_true rfl)) dX3_init_31 (tgt := 14) (by decide) ?_
  refine s_iload_n (hC.C 1 6 (Nat.le_of_ble_eq_true rfl) (Nat.le_of_ble_eq_true rfl)) 0 dX3_init_14 rfl ?_
  refine s_bipush (hC.C 1 6 (Nat.le_of_ble_eq_true rfl) (Nat.le_of_ble_eq_true rfl)) dX3_init_15 (v := 6) (by decide) ?_
  refine c_ge_t (hC.C 1 6 (Nat.le_of_ble_eq_true rfl) (Nat.le_of_ble_eq_true rfl)) dX3_init_17 (tgt := 34) (by decide) (by decide) ?_
  exact c_ret hC hr hlk dX3_init_34
def x_U50 : x_M := x_sR (x_sR x_U49 300 0 301) 300 1 303
def x_U51 : x_M := x_sI (x_sR (x_sR x_U50 316 0 317) 316 1 318) 316 2 (if (8 : Int32) < (4 : Int32) then (8 : Int32) else (4 : Int32))
set_option maxRecDepth 100000 in
theorem k_X6_init_316 (hR : x_R (XC ad D cA) x_ixA h0 hA) : x_Ct (XC ad D cA) x_Z0 x_ixA h0 hA l yX6_init cX6_init 2 1 2 16 70 72 [vR 316, vI (4 : Int32)] x_U50 x_U51 := by
  refine c_enter hR (by decide +kernel) (Nat.le_of_ble_eq_true rfl) (fun p e s m args below meth c hC hin hr hlk => ?_)
  refine s_lv (lv' := [(0, vR 316), (1, vI (4 : Int32))]) [0, 1] rfl ?_
  refine s_aload_n (hC.C 0 0 (Nat.le_of_ble_eq_true rfl) (Nat.le_of_ble_eq_true rfl)) 0 dX6_init_0 rfl ?_
  refine c_init hC (by decide) qo_X6_3 qo_inst qo_code (by decide) (Nat.le_of_ble_eq_true rfl) dX6_init_1 ?_
  refine s_aload_n (hC.C 0 0 (Nat.le_of_ble_eq_true rfl) (Nat.le_of_ble_eq_true rfl)) 0 dX6_init_4 rfl ?_
  refine s_bipush (hC.C 0 0 (Nat.le_of_ble_eq_true rfl) (Nat.le_of_ble_eq_true rfl)) dX6_init_5 (v := 8) (by decide) ?_
  refine c_newI hC ix_317 kd_317 (by decide) ln_317 (by decide +kernel) qa_int (by decide) (by decide) ⟨Nat.le_of_ble_eq_true rfl, Nat.le_of_ble_eq_true rfl⟩ dX6_init_7 ?_
  refine c_putR hC xc6 (by decide) hin rfl qp_X6_9 (x_stgk ix_316 (by decide) kd_316) dX6_init_9 ?_
  refine s_aload_n (hC.C 1 8 (Nat.le_of_ble_eq_true rfl) (Nat.le_of_ble_eq_true rfl)) 0 dX6_init_12 rfl ?_
  refine s_bipush (hC.C 1 8 (Nat.le_of_ble_eq_true rfl) (Nat.le_of_ble_eq_true rfl)) dX6_init_13 (v := 8) (by decide) ?_
  refine c_newI hC ix_318 kd_318 (by decide) ln_318 (by decide +kernel) qa_int (by decide) (by decide) ⟨Nat.le_of_ble_eq_true rfl, Nat.le_of_ble_eq_true rfl⟩ dX6_init_15 ?_
  refine c_putR hC xc6 (by decide) hin rfl qp_X6_15 (x_stgk ix_316 (by decide) kd_316) dX6_init_17 ?_
  refine s_aload_n (hC.C 2 16 (Nat.le_of_ble_eq_true rfl) (Nat.le_of_ble_eq_true rfl)) 0 dX6_init_20 rfl ?_
  refine s_iload_n (hC.C 2 16 (Nat.le_of_ble_eq_true rfl) (Nat.le_of_ble_eq_true rfl)) 1 dX6_init_21 rfl ?_
  refine s_bipush (hC.C 2 16 (Nat.le_of_ble_eq_true rfl) (Nat.le_of_ble_eq_true rfl)) dX6_init_22 (v := 8) (by decide) ?_
  refine s_min (hC.C 2 16 (Nat.le_of_ble_eq_true rfl) (Nat.le_of_ble_eq_true rfl)) dX6_init_24 qm_X6_18 qt_Math_min qc_Math qd_Math_min (by decide) (Nat.le_of_ble_eq_true rfl) ?_
  refine c_putI hC xc6 (by decide) hin rfl qp_X6_24 (x_stgk ix_316 (by decide) kd_316) dX6_init_27 ?_
  exact c_ret hC hr hlk dX6_init_30
def x_U52 : x_M := x_sR x_U51 300 2 316
def x_U53 : x_M := x_sI (x_sR (x_sR x_U52 319 0 320) 319 1 321) 319 2 (if (8 : Int32) < (8 : Int32) then (8 : Int32) else (8 : Int32))
set_option maxRecDepth 100000 in
theorem k_X6_init_319 (hR : x_R (XC ad D cA) x_ixA h0 hA) : x_Ct (XC ad D cA) x_Z0 x_ixA h0 hA l yX6_init cX6_init 2 1 2 16 73 75 [vR 319, vI (8 : Int32)] x_U52 x_U53 := by
  refine c_enter hR (by decide +kernel) (Nat.le_of_ble_eq_true rfl) (fun p e s m args below meth c hC hin hr hlk => ?_)
  refine s_lv (lv' := [(0, vR 319), (1, vI (8 : Int32))]) [0, 1] rfl ?_
  refine s_aload_n (hC.C 0 0 (Nat.le_of_ble_eq_true rfl) (Nat.le_of_ble_eq_true rfl)) 0 dX6_init_0 rfl ?_
  refine c_init hC (by decide) qo_X6_3 qo_inst qo_code (by decide) (Nat.le_of_ble_eq_true rfl) dX6_init_1 ?_
  refine s_aload_n (hC.C 0 0 (Nat.le_of_ble_eq_true rfl) (Nat.le_of_ble_eq_true rfl)) 0 dX6_init_4 rfl ?_
  refine s_bipush (hC.C 0 0 (Nat.le_of_ble_eq_true rfl) (Nat.le_of_ble_eq_true rfl)) dX6_init_5 (v := 8) (by decide) ?_
  refine c_newI hC ix_320 kd_320 (by decide) ln_320 (by decide +kernel) qa_int (by decide) (by decide) ⟨Nat.le_of_ble_eq_true rfl, Nat.le_of_ble_eq_true rfl⟩ dX6_init_7 ?_
  refine c_putR hC xc6 (by decide) hin rfl qp_X6_9 (x_stgk ix_319 (by decide) kd_319) dX6_init_9 ?_
  refine s_aload_n (hC.C 1 8 (Nat.le_of_ble_eq_true rfl) (Nat.le_of_ble_eq_true rfl)) 0 dX6_init_12 rfl ?_
  refine s_bipush (hC.C 1 8 (Nat.le_of_ble_eq_true rfl) (Nat.le_of_ble_eq_true rfl)) dX6_init_13 (v := 8) (by decide) ?_
  refine c_newI hC ix_321 kd_321 (by decide) ln_321 (by decide +kernel) qa_int (by decide) (by decide) ⟨Nat.le_of_ble_eq_true rfl, Nat.le_of_ble_eq_true rfl⟩ dX6_init_15 ?_
  refine c_putR hC xc6 (by decide) hin rfl qp_X6_15 (x_stgk ix_319 (by decide) kd_319) dX6_init_17 ?_
  refine s_aload_n (hC.C 2 16 (Nat.le_of_ble_eq_true rfl) (Nat.le_of_ble_eq_true rfl)) 0 dX6_init_20 rfl ?_
  refine s_iload_n (hC.C 2 16 (Nat.le_of_ble_eq_true rfl) (Nat.le_of_ble_eq_true rfl)) 1 dX6_init_21 rfl ?_
  refine s_bipush (hC.C 2 16 (Nat.le_of_ble_eq_true rfl) (Nat.le_of_ble_eq_true rfl)) dX6_init_22 (v := 8) (by decide) ?_
  refine s_min (hC.C 2 16 (Nat.le_of_ble_eq_true rfl) (Nat.le_of_ble_eq_true rfl)) dX6_init_24 qm_X6_18 qt_Math_min qc_Math qd_Math_min (by decide) (Nat.le_of_ble_eq_true rfl) ?_
  refine c_putI hC xc6 (by decide) hin rfl qp_X6_24 (x_stgk ix_319 (by decide) kd_319) dX6_init_27 ?_
  exact c_ret hC hr hlk dX6_init_30
def x_U54 : x_M := x_sR x_U53 300 3 319
def x_U55 : x_M := x_sI (x_sR (x_sR x_U54 322 0 323) 322 1 324) 322 2 (if (8 : Int32) < (8 : Int32) then (8 : Int32) else (8 : Int32))
set_option maxRecDepth 100000 in
theorem k_X6_init_322 (hR : x_R (XC ad D cA) x_ixA h0 hA) : x_Ct (XC ad D cA) x_Z0 x_ixA h0 hA l yX6_init cX6_init 2 1 2 16 76 78 [vR 322, vI (8 : Int32)] x_U54 x_U55 := by
  refine c_enter hR (by decide +kernel) (Nat.le_of_ble_eq_true rfl) (fun p e s m args below meth c hC hin hr hlk => ?_)
  refine s_lv (lv' := [(0, vR 322), (1, vI (8 : Int32))]) [0, 1] rfl ?_
  refine s_aload_n (hC.C 0 0 (Nat.le_of_ble_eq_true rfl) (Nat.le_of_ble_eq_true rfl)) 0 dX6_init_0 rfl ?_
  refine c_init hC (by decide) qo_X6_3 qo_inst qo_code (by decide) (Nat.le_of_ble_eq_true rfl) dX6_init_1 ?_
  refine s_aload_n (hC.C 0 0 (Nat.le_of_ble_eq_true rfl) (Nat.le_of_ble_eq_true rfl)) 0 dX6_init_4 rfl ?_
  refine s_bipush (hC.C 0 0 (Nat.le_of_ble_eq_true rfl) (Nat.le_of_ble_eq_true rfl)) dX6_init_5 (v := 8) (by decide) ?_
  refine c_newI hC ix_323 kd_323 (by decide) ln_323 (by decide +kernel) qa_int (by decide) (by decide) ⟨Nat.le_of_ble_eq_true rfl, Nat.le_of_ble_eq_true rfl⟩ dX6_init_7 ?_
  refine c_putR hC xc6 (by decide) hin rfl qp_X6_9 (x_stgk ix_322 (by decide) kd_322) dX6_init_9 ?_
  refine s_aload_n (hC.C 1 8 (Nat.le_of_ble_eq_true rfl) (Nat.le_of_ble_eq_true rfl)) 0 dX6_init_12 rfl ?_
  refine s_bipush (hC.C 1 8 (Nat.le_of_ble_eq_true rfl) (Nat.le_of_ble_eq_true rfl)) dX6_init_13 (v := 8) (by decide) ?_
  refine c_newI hC ix_324 kd_324 (by decide) ln_324 (by decide +kernel) qa_int (by decide) (by decide) ⟨Nat.le_of_ble_eq_true rfl, Nat.le_of_ble_eq_true rfl⟩ dX6_init_15 ?_
  refine c_putR hC xc6 (by decide) hin rfl qp_X6_15 (x_stgk ix_322 (by decide) kd_322) dX6_init_17 ?_
  refine s_aload_n (hC.C 2 16 (Nat.le_of_ble_eq_true rfl) (Nat.le_of_ble_eq_true rfl)) 0 dX6_init_20 rfl ?_
  refine s_iload_n (hC.C 2 16 (Nat.le_of_ble_eq_true rfl) (Nat.le_of_ble_eq_true rfl)) 1 dX6_init_21 rfl ?_
  refine s_bipush (hC.C 2 16 (Nat.le_of_ble_eq_true rfl) (Nat.le_of_ble_eq_true rfl)) dX6_init_22 (v := 8) (by decide) ?_
  refine s_min (hC.C 2 16 (Nat.le_of_ble_eq_true rfl) (Nat.le_of_ble_eq_true rfl)) dX6_init_24 qm_X6_18 qt_Math_min qc_Math qd_Math_min (by decide) (Nat.le_of_ble_eq_true rfl) ?_
  refine c_putI hC xc6 (by decide) hin rfl qp_X6_24 (x_stgk ix_322 (by decide) kd_322) dX6_init_27 ?_
  exact c_ret hC hr hlk dX6_init_30
def x_U56 : x_M := x_sR x_U55 300 4 322
def x_U57 : x_M := x_sR (x_sR (x_sR (x_sR (x_sR x_U56 325 0 326) 325 1 327) 325 2 328) 325 3 329) 325 4 330
def x_U58 : x_M := x_sI (x_sI (x_sI (x_sI (x_sI x_U57 325 5 (0 : Int32)) 325 6 (0 : Int32)) 325 7 (50 : Int32)) 325 8 (5 : Int32)) 325 9 (0 : Int32)
set_option maxRecDepth 100000 in
theorem k_X4_clear_325 (hR : x_R (XC ad D cA) x_ixA h0 hA) : x_Ct (XC ad D cA) x_Z0 x_ixA h0 hA l yX4_clear cX4_clear 1 1 0 0 84 84 [vR 325] x_U57 x_U58 := by
  refine c_enter hR (by decide +kernel) (Nat.le_of_ble_eq_true rfl) (fun p e s m args below meth c hC hin hr hlk => ?_)
  refine s_lv (lv' := [(0, vR 325)]) [0] rfl ?_
  refine s_aload_n (hC.C 0 0 (Nat.le_of_ble_eq_true rfl) (Nat.le_of_ble_eq_true rfl)) 0 dX4_clear_0 rfl ?_
  refine s_iconst (hC.C 0 0 (Nat.le_of_ble_eq_true rfl) (Nat.le_of_ble_eq_true rfl)) dX4_clear_1 (v := 0) (by decide) ?_
  refine c_putI2 hC xc4 (by decide) rfl rfl qp_X4_30 (x_stgk ix_325 (by decide) kd_325) dX4_clear_2 ?_
  refine s_aload_n (hC.C 0 0 (Nat.le_of_ble_eq_true rfl) (Nat.le_of_ble_eq_true rfl)) 0 dX4_clear_5 rfl ?_
  refine s_iconst (hC.C 0 0 (Nat.le_of_ble_eq_true rfl) (Nat.le_of_ble_eq_true rfl)) dX4_clear_6 (v := 0) (by decide) ?_
  refine c_putI2 hC xc4 (by decide) rfl rfl qp_X4_34 (x_stgk ix_325 (by decide) kd_325) dX4_clear_7 ?_
  refine s_aload_n (hC.C 0 0 (Nat.le_of_ble_eq_true rfl) (Nat.le_of_ble_eq_true rfl)) 0 dX4_clear_10 rfl ?_
  refine s_bipush (hC.C 0 0 (Nat.le_of_ble_eq_true rfl) (Nat.le_of_ble_eq_true rfl)) dX4_clear_11 (v := 50) (by decide) ?_
  refine c_putI2 hC xc4 (by decide) rfl rfl qp_X4_37 (x_stgk ix_325 (by decide) kd_325) dX4_clear_13 ?_
  refine s_aload_n (hC.C 0 0 (Nat.le_of_ble_eq_true rfl) (Nat.le_of_ble_eq_true rfl)) 0 dX4_clear_16 rfl ?_
  refine s_iconst (hC.C 0 0 (Nat.le_of_ble_eq_true rfl) (Nat.le_of_ble_eq_true rfl)) dX4_clear_17 (v := 5) (by decide) ?_
  refine c_putI2 hC xc4 (by decide) rfl rfl qp_X4_40 (x_stgk ix_325 (by decide) kd_325) dX4_clear_18 ?_
  refine s_aload_n (hC.C 0 0 (Nat.le_of_ble_eq_true rfl) (Nat.le_of_ble_eq_true rfl)) 0 dX4_clear_21 rfl ?_
  refine s_iconst (hC.C 0 0 (Nat.le_of_ble_eq_true rfl) (Nat.le_of_ble_eq_true rfl)) dX4_clear_22 (v := 0) (by decide) ?_
  refine c_putI2 hC xc4 (by decide) rfl rfl qp_X4_43 (x_stgk ix_325 (by decide) kd_325) dX4_clear_23 ?_
  exact c_ret hC hr hlk dX4_clear_26
set_option maxRecDepth 100000 in
theorem k_X4_init_325 (hR : x_R (XC ad D cA) x_ixA h0 hA) : x_Ct (XC ad D cA) x_Z0 x_ixA h0 hA l yX4_init cX4_init 1 2 5 136 79 84 [vR 325] x_U56 x_U58 := by
  refine c_enter hR (by decide +kernel) (Nat.le_of_ble_eq_true rfl) (fun p e s m args below meth c hC hin hr hlk => ?_)
  refine s_lv (lv' := [(0, vR 325)]) [0] rfl ?_
  refine s_aload_n (hC.C 0 0 (Nat.le_of_ble_eq_true rfl) (Nat.le_of_ble_eq_true rfl)) 0 dX4_init_0 rfl ?_
  refine c_init hC (by decide) qo_X4_3 qo_inst qo_code (by decide) (Nat.le_of_ble_eq_true rfl) dX4_init_1 ?_
  refine s_aload_n (hC.C 0 0 (Nat.le_of_ble_eq_true rfl) (Nat.le_of_ble_eq_true rfl)) 0 dX4_init_4 rfl ?_
  refine s_bipush (hC.C 0 0 (Nat.le_of_ble_eq_true rfl) (Nat.le_of_ble_eq_true rfl)) dX4_init_5 (v := 10) (by decide) ?_
  refine c_newI hC ix_326 kd_326 (by decide) ln_326 (by decide +kernel) qa_int (by decide) (by decide) ⟨Nat.le_of_ble_eq_true rfl, Nat.le_of_ble_eq_true rfl⟩ dX4_init_7 ?_
  refine c_putR hC xc4 (by decide) hin rfl qp_X4_9 (x_stgk ix_325 (by decide) kd_325) dX4_init_9 ?_
  refine s_aload_n (hC.C 1 10 (Nat.le_of_ble_eq_true rfl) (Nat.le_of_ble_eq_true rfl)) 0 dX4_init_12 rfl ?_
  refine s_bipush (hC.C 1 10 (Nat.le_of_ble_eq_true rfl) (Nat.le_of_ble_eq_true rfl)) dX4_init_13 (v := 10) (by decide) ?_
  refine c_newI hC ix_327 kd_327 (by decide) ln_327 (by decide +kernel) qa_int (by decide) (by decide) ⟨Nat.le_of_ble_eq_true rfl, Nat.le_of_ble_eq_true rfl⟩ dX4_init_15 ?_
  refine c_putR hC xc4 (by decide) hin rfl qp_X4_15 (x_stgk ix_325 (by decide) kd_325) dX4_init_17 ?_
  refine s_aload_n (hC.C 2 20 (Nat.le_of_ble_eq_true rfl) (Nat.le_of_ble_eq_true rfl)) 0 dX4_init_20 rfl ?_
  refine s_bipush (hC.C 2 20 (Nat.le_of_ble_eq_true rfl) (Nat.le_of_ble_eq_true rfl)) dX4_init_21 (v := 10) (by decide) ?_
  refine c_newI hC ix_328 kd_328 (by decide) ln_328 (by decide +kernel) qa_int (by decide) (by decide) ⟨Nat.le_of_ble_eq_true rfl, Nat.le_of_ble_eq_true rfl⟩ dX4_init_23 ?_
  refine c_putR hC xc4 (by decide) hin rfl qp_X4_18 (x_stgk ix_325 (by decide) kd_325) dX4_init_25 ?_
  refine s_aload_n (hC.C 3 30 (Nat.le_of_ble_eq_true rfl) (Nat.le_of_ble_eq_true rfl)) 0 dX4_init_28 rfl ?_
  refine s_bipush (hC.C 3 30 (Nat.le_of_ble_eq_true rfl) (Nat.le_of_ble_eq_true rfl)) dX4_init_29 (v := 100) (by decide) ?_
  refine c_newI hC ix_329 kd_329 (by decide) ln_329 (by decide +kernel) qa_int (by decide) (by decide) ⟨Nat.le_of_ble_eq_true rfl, Nat.le_of_ble_eq_true rfl⟩ dX4_init_31 ?_
  refine c_putR hC xc4 (by decide) hin rfl qp_X4_21 (x_stgk ix_325 (by decide) kd_325) dX4_init_33 ?_
  refine s_aload_n (hC.C 4 130 (Nat.le_of_ble_eq_true rfl) (Nat.le_of_ble_eq_true rfl)) 0 dX4_init_36 rfl ?_
  refine s_bipush (hC.C 4 130 (Nat.le_of_ble_eq_true rfl) (Nat.le_of_ble_eq_true rfl)) dX4_init_37 (v := 6) (by decide) ?_
  refine c_newI hC ix_330 kd_330 (by decide) ln_330 (by decide +kernel) qa_int (by decide) (by decide) ⟨Nat.le_of_ble_eq_true rfl, Nat.le_of_ble_eq_true rfl⟩ dX4_init_39 ?_
  refine c_putR hC xc4 (by decide) hin rfl qp_X4_24 (x_stgk ix_325 (by decide) kd_325) dX4_init_41 ?_
  refine s_aload_n (hC.C 5 136 (Nat.le_of_ble_eq_true rfl) (Nat.le_of_ble_eq_true rfl)) 0 dX4_init_44 rfl ?_
  refine c_callV hC (x := 325) (avs := []) (st := []) (nest := false) xc4 (x_stgk ix_325 (by decide) kd_325) (k_X4_clear_325 hR) dX4_init_45 qm_X4_27 qi_X4_clear qs_X4_clear qc_X4 qd_X4_clear qh_X4_clear (by decide) ⟨Nat.le_of_ble_eq_true rfl, Nat.le_of_ble_eq_true rfl⟩ (Nat.le_of_ble_eq_true rfl) ?_
  exact c_ret hC hr hlk dX4_init_48
def x_U59 : x_M := x_sI (x_sI (x_sR x_U58 300 5 325) 300 7 (200 : Int32)) 300 11 (-1 : Int32)
def x_U60 : x_M := x_sI (x_sR x_U59 304 1 310) 304 0 (0 : Int32)
set_option maxRecDepth 100000 in
theorem k_X0_init_304 (hR : x_R (XC ad D cA) x_ixA h0 hA) : x_Ct (XC ad D cA) x_Z0 x_ixA h0 hA l yX0_init cX0_init 2 1 1 4 85 86 [vR 304, vI (0 : Int32)] x_U59 x_U60 := by
  refine c_enter hR (by decide +kernel) (Nat.le_of_ble_eq_true rfl) (fun p e s m args below meth c hC hin hr hlk => ?_)
  refine s_lv (lv' := [(0, vR 304), (1, vI (0 : Int32))]) [0, 1] rfl ?_
  refine s_aload_n (hC.C 0 0 (Nat.le_of_ble_eq_true rfl) (Nat.le_of_ble_eq_true rfl)) 0 dX0_init_0 rfl ?_
  refine c_init hC (by decide) qo_X0_3 qo_inst qo_code (by decide) (Nat.le_of_ble_eq_true rfl) dX0_init_1 ?_
  refine s_aload_n (hC.C 0 0 (Nat.le_of_ble_eq_true rfl) (Nat.le_of_ble_eq_true rfl)) 0 dX0_init_4 rfl ?_
  refine s_iconst (hC.C 0 0 (Nat.le_of_ble_eq_true rfl) (Nat.le_of_ble_eq_true rfl)) dX0_init_5 (v := 4) (by decide) ?_
  refine c_newI hC ix_310 kd_310 (by decide) ln_310 (by decide +kernel) qa_int (by decide) (by decide) ⟨Nat.le_of_ble_eq_true rfl, Nat.le_of_ble_eq_true rfl⟩ dX0_init_6 ?_
  refine c_putR hC xc0 (by decide) hin rfl qp_X0_9 (x_stgk ix_304 (by decide) kd_304) dX0_init_8 ?_
  refine s_aload_n (hC.C 1 4 (Nat.le_of_ble_eq_true rfl) (Nat.le_of_ble_eq_true rfl)) 0 dX0_init_11 rfl ?_
  refine s_iload_n (hC.C 1 4 (Nat.le_of_ble_eq_true rfl) (Nat.le_of_ble_eq_true rfl)) 1 dX0_init_12 rfl ?_
  refine c_putI hC xc0 (by decide) hin rfl qp_X0_15 (x_stgk ix_304 (by decide) kd_304) dX0_init_13 ?_
  exact c_ret hC hr hlk dX0_init_16
def x_U61 : x_M := x_sR x_U60 303 ((0 : Int32)).toNatClampNeg 304
def x_U62 : x_M := x_sI (x_sR x_U61 305 1 311) 305 0 (1 : Int32)
set_option maxRecDepth 100000 in
theorem k_X0_init_305 (hR : x_R (XC ad D cA) x_ixA h0 hA) : x_Ct (XC ad D cA) x_Z0 x_ixA h0 hA l yX0_init cX0_init 2 1 1 4 87 88 [vR 305, vI (1 : Int32)] x_U61 x_U62 := by
  refine c_enter hR (by decide +kernel) (Nat.le_of_ble_eq_true rfl) (fun p e s m args below meth c hC hin hr hlk => ?_)
  refine s_lv (lv' := [(0, vR 305), (1, vI (1 : Int32))]) [0, 1] rfl ?_
  refine s_aload_n (hC.C 0 0 (Nat.le_of_ble_eq_true rfl) (Nat.le_of_ble_eq_true rfl)) 0 dX0_init_0 rfl ?_
  refine c_init hC (by decide) qo_X0_3 qo_inst qo_code (by decide) (Nat.le_of_ble_eq_true rfl) dX0_init_1 ?_
  refine s_aload_n (hC.C 0 0 (Nat.le_of_ble_eq_true rfl) (Nat.le_of_ble_eq_true rfl)) 0 dX0_init_4 rfl ?_
  refine s_iconst (hC.C 0 0 (Nat.le_of_ble_eq_true rfl) (Nat.le_of_ble_eq_true rfl)) dX0_init_5 (v := 4) (by decide) ?_
  refine c_newI hC ix_311 kd_311 (by decide) ln_311 (by decide +kernel) qa_int (by decide) (by decide) ⟨Nat.le_of_ble_eq_true rfl, Nat.le_of_ble_eq_true rfl⟩ dX0_init_6 ?_
  refine c_putR hC xc0 (by decide) hin rfl qp_X0_9 (x_stgk ix_305 (by decide) kd_305) dX0_init_8 ?_
  refine s_aload_n (hC.C 1 4 (Nat.le_of_ble_eq_true rfl) (Nat.le_of_ble_eq_true rfl)) 0 dX0_init_11 rfl ?_
  refine s_iload_n (hC.C 1 4 (Nat.le_of_ble_eq_true rfl) (Nat.le_of_ble_eq_true rfl)) 1 dX0_init_12 rfl ?_
  refine c_putI hC xc0 (by decide) hin rfl qp_X0_15 (x_stgk ix_305 (by decide) kd_305) dX0_init_13 ?_
  exact c_ret hC hr hlk dX0_init_16
def x_U63 : x_M := x_sR x_U62 303 ((1 : Int32)).toNatClampNeg 305
def x_U64 : x_M := x_sI (x_sR x_U63 306 1 312) 306 0 (2 : Int32)
set_option maxRecDepth 100000 in
theorem k_X0_init_306 (hR : x_R (XC ad D cA) x_ixA h0 hA) : x_Ct (XC ad D cA) x_Z0 x_ixA h0 hA l yX0_init cX0_init 2 1 1 4 89 90 [vR 306, vI (2 : Int32)] x_U63 x_U64 := by
  refine c_enter hR (by decide +kernel) (Nat.le_of_ble_eq_true rfl) (fun p e s m args below meth c hC hin hr hlk => ?_)
  refine s_lv (lv' := [(0, vR 306), (1, vI (2 : Int32))]) [0, 1] rfl ?_
  refine s_aload_n (hC.C 0 0 (Nat.le_of_ble_eq_true rfl) (Nat.le_of_ble_eq_true rfl)) 0 dX0_init_0 rfl ?_
  refine c_init hC (by decide) qo_X0_3 qo_inst qo_code (by decide) (Nat.le_of_ble_eq_true rfl) dX0_init_1 ?_
  refine s_aload_n (hC.C 0 0 (Nat.le_of_ble_eq_true rfl) (Nat.le_of_ble_eq_true rfl)) 0 dX0_init_4 rfl ?_
  refine s_iconst (hC.C 0 0 (Nat.le_of_ble_eq_true rfl) (Nat.le_of_ble_eq_true rfl)) dX0_init_5 (v := 4) (by decide) ?_
  refine c_newI hC ix_312 kd_312 (by decide) ln_312 (by decide +kernel) qa_int (by decide) (by decide) ⟨Nat.le_of_ble_eq_true rfl, Nat.le_of_ble_eq_true rfl⟩ dX0_init_6 ?_
  refine c_putR hC xc0 (by decide) hin rfl qp_X0_9 (x_stgk ix_306 (by decide) kd_306) dX0_init_8 ?_
  refine s_aload_n (hC.C 1 4 (Nat.le_of_ble_eq_true rfl) (Nat.le_of_ble_eq_true rfl)) 0 dX0_init_11 rfl ?_
  refine s_iload_n (hC.C 1 4 (Nat.le_of_ble_eq_true rfl) (Nat.le_of_ble_eq_true rfl)) 1 dX0_init_12 rfl ?_
  refine c_putI hC xc0 (by decide) hin rfl qp_X0_15 (x_stgk ix_306 (by decide) kd_306) dX0_init_13 ?_
  exact c_ret hC hr hlk dX0_init_16
def x_U65 : x_M := x_sR x_U64 303 ((2 : Int32)).toNatClampNeg 306
def x_U66 : x_M := x_sI (x_sR x_U65 307 1 313) 307 0 (3 : Int32)
set_option maxRecDepth 100000 in
theorem k_X0_init_307 (hR : x_R (XC ad D cA) x_ixA h0 hA) : x_Ct (XC ad D cA) x_Z0 x_ixA h0 hA l yX0_init cX0_init 2 1 1 4 91 92 [vR 307, vI (3 : Int32)] x_U65 x_U66 := by
  refine c_enter hR (by decide +kernel) (Nat.le_of_ble_eq_true rfl) (fun p e s m args below meth c hC hin hr hlk => ?_)
  refine s_lv (lv' := [(0, vR 307), (1, vI (3 : Int32))]) [0, 1] rfl ?_
  refine s_aload_n (hC.C 0 0 (Nat.le_of_ble_eq_true rfl) (Nat.le_of_ble_eq_true rfl)) 0 dX0_init_0 rfl ?_
  refine c_init hC (by decide) qo_X0_3 qo_inst qo_code (by decide) (Nat.le_of_ble_eq_true rfl) dX0_init_1 ?_
  refine s_aload_n (hC.C 0 0 (Nat.le_of_ble_eq_true rfl) (Nat.le_of_ble_eq_true rfl)) 0 dX0_init_4 rfl ?_
  refine s_iconst (hC.C 0 0 (Nat.le_of_ble_eq_true rfl) (Nat.le_of_ble_eq_true rfl)) dX0_init_5 (v := 4) (by decide) ?_
  refine c_newI hC ix_313 kd_313 (by decide) ln_313 (by decide +kernel) qa_int (by decide) (by decide) ⟨Nat.le_of_ble_eq_true rfl, Nat.le_of_ble_eq_true rfl⟩ dX0_init_6 ?_
  refine c_putR hC xc0 (by decide) hin rfl qp_X0_9 (x_stgk ix_307 (by decide) kd_307) dX0_init_8 ?_
  refine s_aload_n (hC.C 1 4 (Nat.le_of_ble_eq_true rfl) (Nat.le_of_ble_eq_true rfl)) 0 dX0_init_11 rfl ?_
  refine s_iload_n (hC.C 1 4 (Nat.le_of_ble_eq_true rfl) (Nat.le_of_ble_eq_true rfl)) 1 dX0_init_12 rfl ?_
  refine c_putI hC xc0 (by decide) hin rfl qp_X0_15 (x_stgk ix_307 (by decide) kd_307) dX0_init_13 ?_
  exact c_ret hC hr hlk dX0_init_16
def x_U67 : x_M := x_sR x_U66 303 ((3 : Int32)).toNatClampNeg 307
def x_U68 : x_M := x_sI (x_sR x_U67 308 1 314) 308 0 (4 : Int32)
set_option maxRecDepth 100000 in
theorem k_X0_init_308 (hR : x_R (XC ad D cA) x_ixA h0 hA) : x_Ct (XC ad D cA) x_Z0 x_ixA h0 hA l yX0_init cX0_init 2 1 1 4 93 94 [vR 308, vI (4 : Int32)] x_U67 x_U68 := by
  refine c_enter hR (by decide +kernel) (Nat.le_of_ble_eq_true rfl) (fun p e s m args below meth c hC hin hr hlk => ?_)
  refine s_lv (lv' := [(0, vR 308), (1, vI (4 : Int32))]) [0, 1] rfl ?_
  refine s_aload_n (hC.C 0 0 (Nat.le_of_ble_eq_true rfl) (Nat.le_of_ble_eq_true rfl)) 0 dX0_init_0 rfl ?_
  refine c_init hC (by decide) qo_X0_3 qo_inst qo_code (by decide) (Nat.le_of_ble_eq_true rfl) dX0_init_1 ?_
  refine s_aload_n (hC.C 0 0 (Nat.le_of_ble_eq_true rfl) (Nat.le_of_ble_eq_true rfl)) 0 dX0_init_4 rfl ?_
  refine s_iconst (hC.C 0 0 (Nat.le_of_ble_eq_true rfl) (Nat.le_of_ble_eq_true rfl)) dX0_init_5 (v := 4) (by decide) ?_
  refine c_newI hC ix_314 kd_314 (by decide) ln_314 (by decide +kernel) qa_int (by decide) (by decide) ⟨Nat.le_of_ble_eq_true rfl, Nat.le_of_ble_eq_true rfl⟩ dX0_init_6 ?_
  refine c_putR hC xc0 (by decide) hin rfl qp_X0_9 (x_stgk ix_308 (by decide) kd_308) dX0_init_8 ?_
  refine s_aload_n (hC.C 1 4 (Nat.le_of_ble_eq_true rfl) (Nat.le_of_ble_eq_true rfl)) 0 dX0_init_11 rfl ?_
  refine s_iload_n (hC.C 1 4 (Nat.le_of_ble_eq_true rfl) (Nat.le_of_ble_eq_true rfl)) 1 dX0_init_12 rfl ?_
  refine c_putI hC xc0 (by decide) hin rfl qp_X0_15 (x_stgk ix_308 (by decide) kd_308) dX0_init_13 ?_
  exact c_ret hC hr hlk dX0_init_16
def x_U69 : x_M := x_sR x_U68 303 ((4 : Int32)).toNatClampNeg 308
def x_U70 : x_M := x_sI (x_sR x_U69 309 1 315) 309 0 (5 : Int32)
set_option maxRecDepth 100000 in
theorem k_X0_init_309 (hR : x_R (XC ad D cA) x_ixA h0 hA) : x_Ct (XC ad D cA) x_Z0 x_ixA h0 hA l yX0_init cX0_init 2 1 1 4 95 96 [vR 309, vI (5 : Int32)] x_U69 x_U70 := by
  refine c_enter hR (by decide +kernel) (Nat.le_of_ble_eq_true rfl) (fun p e s m args below meth c hC hin hr hlk => ?_)
  refine s_lv (lv' := [(0, vR 309), (1, vI (5 : Int32))]) [0, 1] rfl ?_
  refine s_aload_n (hC.C 0 0 (Nat.le_of_ble_eq_true rfl) (Nat.le_of_ble_eq_true rfl)) 0 dX0_init_0 rfl ?_
  refine c_init hC (by decide) qo_X0_3 qo_inst qo_code (by decide) (Nat.le_of_ble_eq_true rfl) dX0_init_1 ?_
  refine s_aload_n (hC.C 0 0 (Nat.le_of_ble_eq_true rfl) (Nat.le_of_ble_eq_true rfl)) 0 dX0_init_4 rfl ?_
  refine s_iconst (hC.C 0 0 (Nat.le_of_ble_eq_true rfl) (Nat.le_of_ble_eq_true rfl)) dX0_init_5 (v := 4) (by decide) ?_
  refine c_newI hC ix_315 kd_315 (by decide) ln_315 (by decide +kernel) qa_int (by decide) (by decide) ⟨Nat.le_of_ble_eq_true rfl, Nat.le_of_ble_eq_true rfl⟩ dX0_init_6 ?_
  refine c_putR hC xc0 (by decide) hin rfl qp_X0_9 (x_stgk ix_309 (by decide) kd_309) dX0_init_8 ?_
  refine s_aload_n (hC.C 1 4 (Nat.le_of_ble_eq_true rfl) (Nat.le_of_ble_eq_true rfl)) 0 dX0_init_11 rfl ?_
  refine s_iload_n (hC.C 1 4 (Nat.le_of_ble_eq_true rfl) (Nat.le_of_ble_eq_true rfl)) 1 dX0_init_12 rfl ?_
  refine c_putI hC xc0 (by decide) hin rfl qp_X0_15 (x_stgk ix_309 (by decide) kd_309) dX0_init_13 ?_
  exact c_ret hC hr hlk dX0_init_16
def x_U71 : x_M := x_sR x_U70 303 ((5 : Int32)).toNatClampNeg 309
set_option maxRecDepth 100000 in
theorem k_X7_init_300 (hR : x_R (XC ad D cA) x_ixA h0 hA) : x_Ct (XC ad D cA) x_Z0 x_ixA h0 hA l yX7_init cX7_init 2 3 30 303 66 96 [vR 300] x_U48 x_U71 := by
  refine c_enter hR (by decide +kernel) (Nat.le_of_ble_eq_true rfl) (fun p e s m args below meth c hC hin hr hlk => ?_)
  refine s_lv (lv' := [(0, vR 300)]) [0] rfl ?_
  refine s_aload_n (hC.C 0 0 (Nat.le_of_ble_eq_true rfl) (Nat.le_of_ble_eq_true rfl)) 0 dX7_init_0 rfl ?_
  refine c_init hC (by decide) qo_X7_3 qo_inst qo_code (by decide) (Nat.le_of_ble_eq_true rfl) dX7_init_1 ?_
  refine s_aload_n (hC.C 0 0 (Nat.le_of_ble_eq_true rfl) (Nat.le_of_ble_eq_true rfl)) 0 dX7_init_4 rfl ?_
  refine c_newD hC xc3 ix_301 kd_301 (by decide) (by decide +kernel) qn_X7_9 qz_X3 qc_X3 ⟨Nat.le_of_ble_eq_true rfl, Nat.le_of_ble_eq_true rfl⟩ dX7_init_5 ?_
  refine s_dupR (hC.C 1 1 (Nat.le_of_ble_eq_true rfl) (Nat.le_of_ble_eq_true rfl)) dX7_init_8 ?_
  refine c_call hC (x := 301) (avs := []) (st := [vR 301, vR 300]) (nest := false) (by decide) (k_X3_init_301 hR) dX7_init_9 rfl qm_X7_11 qi_X3_init qc_X3 qd_X3_init qh_X3_init (by decide) ⟨Nat.le_of_ble_eq_true rfl, Nat.le_of_ble_eq_true rfl⟩ (Nat.le_of_ble_eq_true rfl) ?_
  refine c_putR hC xc7 (by decide) hin rfl qp_X7_12 (x_stgk ix_300 (by decide) kd_300) dX7_init_12 ?_
  refine s_aload_n (hC.C 2 7 (Nat.le_of_ble_eq_true rfl) (Nat.le_of_ble_eq_true rfl)) 0 dX7_init_15 rfl ?_
  refine s_bipush (hC.C 2 7 (Nat.le_of_ble_eq_true rfl) (Nat.le_of_ble_eq_true rfl)) dX7_init_16 (v := 6) (by decide) ?_
  refine c_newA hC ix_303 (kd := 23) kd_303 (Or.inl ⟨rfl, rfl⟩) (by decide) ln_303 (by decide +kernel) qn_X7_18 (by decide) (by decide) ⟨Nat.le_of_ble_eq_true rfl, Nat.le_of_ble_eq_true rfl⟩ dX7_init_18 ?_
  refine c_putR hC xc7 (by decide) hin rfl qp_X7_20 (x_stgk ix_300 (by decide) kd_300) dX7_init_21 ?_
  refine s_aload_n (hC.C 3 13 (Nat.le_of_ble_eq_true rfl) (Nat.le_of_ble_eq_true rfl)) 0 dX7_init_24 rfl ?_
  refine c_newD hC xc6 ix_316 kd_316 (by decide) (by decide +kernel) qn_X7_24 qz_X6 qc_X6 ⟨Nat.le_of_ble_eq_true rfl, Nat.le_of_ble_eq_true rfl⟩ dX7_init_25 ?_
  refine s_dupR (hC.C 4 17 (Nat.le_of_ble_eq_true rfl) (Nat.le_of_ble_eq_true rfl)) dX7_init_28 ?_
  refine s_iconst (hC.C 4 17 (Nat.le_of_ble_eq_true rfl) (Nat.le_of_ble_eq_true rfl)) dX7_init_29 (v := 4) (by decide) ?_
  refine c_call hC (x := 316) (avs := [vI (4 : Int32)]) (st := [vR 316, vR 300]) (nest := false) (by decide) (k_X6_init_316 hR) dX7_init_30 rfl qm_X7_26 qi_X6_init qc_X6 qd_X6_init qh_X6_init (by decide) ⟨Nat.le_of_ble_eq_true rfl, Nat.le_of_ble_eq_true rfl⟩ (Nat.le_of_ble_eq_true rfl) ?_
  refine c_putR hC xc7 (by decide) hin rfl qp_X7_29 (x_stgk ix_300 (by decide) kd_300) dX7_init_33 ?_
  refine s_aload_n (hC.C 6 33 (Nat.le_of_ble_eq_true rfl) (Nat.le_of_ble_eq_true rfl)) 0 dX7_init_36 rfl ?_
  refine c_newD hC xc6 ix_319 kd_319 (by decide) (by decide +kernel) qn_X7_24 qz_X6 qc_X6 ⟨Nat.le_of_ble_eq_true rfl, Nat.le_of_ble_eq_true rfl⟩ dX7_init_37 ?_
  refine s_dupR (hC.C 7 37 (Nat.le_of_ble_eq_true rfl) (Nat.le_of_ble_eq_true rfl)) dX7_init_40 ?_
  refine s_bipush (hC.C 7 37 (Nat.le_of_ble_eq_true rfl) (Nat.le_of_ble_eq_true rfl)) dX7_init_41 (v := 8) (by decide) ?_
  refine c_call hC (x := 319) (avs := [vI (8 : Int32)]) (st := [vR 319, vR 300]) (nest := false) (by decide) (k_X6_init_319 hR) dX7_init_43 rfl qm_X7_26 qi_X6_init qc_X6 qd_X6_init qh_X6_init (by decide) ⟨Nat.le_of_ble_eq_true rfl, Nat.le_of_ble_eq_true rfl⟩ (Nat.le_of_ble_eq_true rfl) ?_
  refine c_putR hC xc7 (by decide) hin rfl qp_X7_33 (x_stgk ix_300 (by decide) kd_300) dX7_init_46 ?_
  refine s_aload_n (hC.C 9 53 (Nat.le_of_ble_eq_true rfl) (Nat.le_of_ble_eq_true rfl)) 0 dX7_init_49 rfl ?_
  refine c_newD hC xc6 ix_322 kd_322 (by decide) (by decide +kernel) qn_X7_24 qz_X6 qc_X6 ⟨Nat.le_of_ble_eq_true rfl, Nat.le_of_ble_eq_true rfl⟩ dX7_init_50 ?_
  refine s_dupR (hC.C 10 57 (Nat.le_of_ble_eq_true rfl) (Nat.le_of_ble_eq_true rfl)) dX7_init_53 ?_
  refine s_bipush (hC.C 10 57 (Nat.le_of_ble_eq_true rfl) (Nat.le_of_ble_eq_true rfl)) dX7_init_54 (v := 8) (by decide) ?_
  refine c_call hC (x := 322) (avs := [vI (8 : Int32)]) (st := [vR 322, vR 300]) (nest := false) (by decide) (k_X6_init_322 hR) dX7_init_56 rfl qm_X7_26 qi_X6_init qc_X6 qd_X6_init qh_X6_init (by decide) ⟨Nat.le_of_ble_eq_true rfl, Nat.le_of_ble_eq_true rfl⟩ (Nat.le_of_ble_eq_true rfl) ?_
  refine c_putR hC xc7 (by decide) hin rfl qp_X7_36 (x_stgk ix_300 (by decide) kd_300) dX7_init_59 ?_
  refine s_aload_n (hC.C 12 73 (Nat.le_of_ble_eq_true rfl) (Nat.le_of_ble_eq_true rfl)) 0 dX7_init_62 rfl ?_
  refine c_newD hC xc4 ix_325 kd_325 (by decide) (by decide +kernel) qn_X7_39 qz_X4 qc_X4 ⟨Nat.le_of_ble_eq_true rfl, Nat.le_of_ble_eq_true rfl⟩ dX7_init_63 ?_
  refine s_dupR (hC.C 13 83 (Nat.le_of_ble_eq_true rfl) (Nat.le_of_ble_eq_true rfl)) dX7_init_66 ?_
  refine c_call hC (x := 325) (avs := []) (st := [vR 325, vR 300]) (nest := false) (by decide) (k_X4_init_325 hR) dX7_init_67 rfl qm_X7_41 qi_X4_init qc_X4 qd_X4_init qh_X4_init (by decide) ⟨Nat.le_of_ble_eq_true rfl, Nat.le_of_ble_eq_true rfl⟩ (Nat.le_of_ble_eq_true rfl) ?_
  refine c_putR hC xc7 (by decide) hin rfl qp_X7_42 (x_stgk ix_300 (by decide) kd_300) dX7_init_70 ?_
  refine s_aload_n (hC.C 18 219 (Nat.le_of_ble_eq_true rfl) (Nat.le_of_ble_eq_true rfl)) 0 dX7_init_73 rfl ?_
  refine s_sipush (hC.C 18 219 (Nat.le_of_ble_eq_true rfl) (Nat.le_of_ble_eq_true rfl)) dX7_init_74 (v := 200) (by decide) ?_
  refine c_putI hC xc7 (by decide) hin rfl qp_X7_46 (x_stgk ix_300 (by decide) kd_300) dX7_init_77 ?_
  refine s_aload_n (hC.C 18 219 (Nat.le_of_ble_eq_true rfl) (Nat.le_of_ble_eq_true rfl)) 0 dX7_init_80 rfl ?_
  refine s_iconst (hC.C 18 219 (Nat.le_of_ble_eq_true rfl) (Nat.le_of_ble_eq_true rfl)) dX7_init_81 (v := -1) (by decide) ?_
  refine c_putI hC xc7 (by decide) hin rfl qp_X7_50 (x_stgk ix_300 (by decide) kd_300) dX7_init_82 ?_
  refine s_iconst (hC.C 18 219 (Nat.le_of_ble_eq_true rfl) (Nat.le_of_ble_eq_true rfl)) dX7_init_85 (v := 0) (by decide) ?_
  refine s_istore_n (hC.C 18 219 (Nat.le_of_ble_eq_true rfl) (Nat.le_of_ble_eq_true rfl)) dX7_init_86 (by decide) (lv' := [(1, vI (0 : Int32)), (0, vR 300)]) rfl ?_
  refine s_iload_n (hC.C 18 219 (Nat.le_of_ble_eq_true rfl) (Nat.le_of_ble_eq_true rfl)) 0 dX7_init_87 rfl ?_
  refine s_bipush (hC.C 18 219 (Nat.le_of_ble_eq_true rfl) (Nat.le_of_ble_eq_true rfl)) dX7_init_88 (v := 6) (by decide) ?_
  refine c_ge_f (hC.C 18 219 (Nat.le_of_ble_eq_true rfl) (Nat.le_of_ble_eq_true rfl)) dX7_init_90 (tgt := 113) (by decide) (by decide) ?_
  refine s_aload_n (hC.C 18 219 (Nat.le_of_ble_eq_true rfl) (Nat.le_of_ble_eq_true rfl)) 1 dX7_init_93 rfl ?_
  refine c_getR hC xc7 (by decide) rfl qp_X7_20 (x_stgk ix_300 (by decide) kd_300) (w := 303) (by decide +kernel) dX7_init_94 ?_
  refine s_iload_n (hC.C 18 219 (Nat.le_of_ble_eq_true rfl) (Nat.le_of_ble_eq_true rfl)) 0 dX7_init_97 rfl ?_
  refine c_newD hC xc0 ix_304 kd_304 (by decide) (by decide +kernel) qn_X7_18 qz_X0 qc_X0 ⟨Nat.le_of_ble_eq_true rfl, Nat.le_of_ble_eq_true rfl⟩ dX7_init_98 ?_
  refine s_dupR (hC.C 19 229 (Nat.le_of_ble_eq_true rfl) (Nat.le_of_ble_eq_true rfl)) dX7_init_101 ?_
  refine s_iload_n (hC.C 19 229 (Nat.le_of_ble_eq_true rfl) (Nat.le_of_ble_eq_true rfl)) 0 dX7_init_102 rfl ?_
  refine c_call hC (x := 304) (avs := [vI (0 : Int32)]) (st := [vR 304, vI (0 : Int32), vR 303]) (nest := false) (by decide) (k_X0_init_304 hR) dX7_init_103 rfl qm_X7_53 qi_X0_init qc_X0 qd_X0_init qh_X0_init (by decide) ⟨Nat.le_of_ble_eq_true rfl, Nat.le_of_ble_eq_true rfl⟩ (Nat.le_of_ble_eq_true rfl) ?_
  refine c_aast hC xc0 (kd := 23) (x_stgk ix_303 (by decide) kd_303) (Or.inl ⟨rfl, rfl⟩) (x_stgk ix_304 (by decide) kd_304) (by rw [show x_ln (XC ad D cA) 303 = 6 from ln_303]; decide) dX7_init_106 ?_
  refine s_iinc (hC.C 20 233 (Nat.le_of_ble_eq_true rfl) (Nat.le_of_ble_eq_true rfl)) 0 dX7_init_107 rfl (w := 1) (by decide) (by decide) (lv' := [(1, vI (1 : Int32)), (0, vR 300)]) rfl ?_
  refine s_goto (hC.C 20 233 (Nat.le_of_ble_eq_true rfl) (Nat.le_of_ble_eq_true rfl)) dX7_init_110 (tgt := 87) (by decide) ?_
  refine s_iload_n (hC.C 20 233 (Nat.le_of_ble_eq_true rfl) (Nat.le_of_ble_eq_true rfl)) 0 dX7_init_87 rfl ?_
  refine s_bipush (hC.C 20 233 (Nat.le_of_ble_eq_true rfl) (Nat.le_of_ble_eq_true rfl)) dX7_init_88 (v := 6) (by decide) ?_
  refine c_ge_f (hC.C 20 233 (Nat.le_of_ble_eq_true rfl) (Nat.le_of_ble_eq_true rfl)) dX7_init_90 (tgt := 113) (by decide) (by decide) ?_
  refine s_aload_n (hC.C 20 233 (Nat.le_of_ble_eq_true rfl) (Nat.le_of_ble_eq_true rfl)) 1 dX7_init_93 rfl ?_
  refine c_getR hC xc7 (by decide) rfl qp_X7_20 (x_stgk ix_300 (by decide) kd_300) (w := 303) (by decide +kernel) dX7_init_94 ?_
  refine s_iload_n (hC.C 20 233 (Nat.le_of_ble_eq_true rfl) (Nat.le_of_ble_eq_true rfl)) 0 dX7_init_97 rfl ?_
  refine c_newD hC xc0 ix_305 kd_305 (by decide) (by decide +kernel) qn_X7_18 qz_X0 qc_X0 ⟨Nat.le_of_ble_eq_true rfl, Nat.le_of_ble_eq_true rfl⟩ dX7_init_98 ?_
  refine s_dupR (hC.C 21 243 (Nat.le_of_ble_eq_true rfl) (Nat.le_of_ble_eq_true rfl)) dX7_init_101 ?_
  refine s_iload_n (hC.C 21 243 (Nat.le_of_ble_eq_true rfl) (Nat.le_of_ble_eq_true rfl)) 0 dX7_init_102 rfl ?_
  refine c_call hC (x := 305) (avs := [vI (1 : Int32)]) (st := [vR 305, vI (1 : Int32), vR 303]) (nest := false) (by decide) (k_X0_init_305 hR) dX7_init_103 rfl qm_X7_53 qi_X0_init qc_X0 qd_X0_init qh_X0_init (by decide) ⟨Nat.le_of_ble_eq_true rfl, Nat.le_of_ble_eq_true rfl⟩ (Nat.le_of_ble_eq_true rfl) ?_
  refine c_aast hC xc0 (kd := 23) (x_stgk ix_303 (by decide) kd_303) (Or.inl ⟨rfl, rfl⟩) (x_stgk ix_305 (by decide) kd_305) (by rw [show x_ln (XC ad D cA) 303 = 6 from ln_303]; decide) dX7_init_106 ?_
  refine s_iinc (hC.C 22 247 (Nat.le_of_ble_eq_true rfl) (Nat.le_of_ble_eq_true rfl)) 0 dX7_init_107 rfl (w := 1) (by decide) (by decide) (lv' := [(1, vI (2 : Int32)), (0, vR 300)]) rfl ?_
  refine s_goto (hC.C 22 247 (Nat.le_of_ble_eq_true rfl) (Nat.le_of_ble_eq_true rfl)) dX7_init_110 (tgt := 87) (by decide) ?_
  refine s_iload_n (hC.C 22 247 (Nat.le_of_ble_eq_true rfl) (Nat.le_of_ble_eq_true rfl)) 0 dX7_init_87 rfl ?_
  refine s_bipush (hC.C 22 247 (Nat.le_of_ble_eq_true rfl) (Nat.le_of_ble_eq_true rfl)) dX7_init_88 (v := 6) (by decide) ?_
  refine c_ge_f (hC.C 22 247 (Nat.le_of_ble_eq_true rfl) (Nat.le_of_ble_eq_true rfl)) dX7_init_90 (tgt := 113) (by decide) (by decide) ?_
  refine s_aload_n (hC.C 22 247 (Nat.le_of_ble_eq_true rfl) (Nat.le_of_ble_eq_true rfl)) 1 dX7_init_93 rfl ?_
  refine c_getR hC xc7 (by decide) rfl qp_X7_20 (x_stgk ix_300 (by decide) kd_300) (w := 303) (by decide +kernel) dX7_init_94 ?_
  refine s_iload_n (hC.C 22 247 (Nat.le_of_ble_eq_true rfl) (Nat.le_of_ble_eq_true rfl)) 0 dX7_init_97 rfl ?_
  refine c_newD hC xc0 ix_306 kd_306 (by decide) (by decide +kernel) qn_X7_18 qz_X0 qc_X0 ⟨Nat.le_of_ble_eq_true rfl, Nat.le_of_ble_eq_true rfl⟩ dX7_init_98 ?_
  refine s_dupR (hC.C 23 257 (Nat.le_of_ble_eq_true rfl) (Nat.le_of_ble_eq_true rfl)) dX7_init_101 ?_
  refine s_iload_n (hC.C 23 257 (Nat.le_of_ble_eq_true rfl) (Nat.le_of_ble_eq_true rfl)) 0 dX7_init_102 rfl ?_
  refine c_call hC (x := 306) (avs := [vI (2 : Int32)]) (st := [vR 306, vI (2 : Int32), vR 303]) (nest := false) (by decide) (k_X0_init_306 hR) dX7_init_103 rfl qm_X7_53 qi_X0_init qc_X0 qd_X0_init qh_X0_init (by decide) ⟨Nat.le_of_ble_eq_true rfl, Nat.le_of_ble_eq_true rfl⟩ (Nat.le_of_ble_eq_true rfl) ?_
  refine c_aast hC xc0 (kd := 23) (x_stgk ix_303 (by decide) kd_303) (Or.inl ⟨rfl, rfl⟩) (x_stgk ix_306 (by decide) kd_306) (by rw [show x_ln (XC ad D cA) 303 = 6 from ln_303]; decide) dX7_init_106 ?_
  refine s_iinc (hC.C 24 261 (Nat.le_of_ble_eq_true rfl) (Nat.le_of_ble_eq_true rfl)) 0 dX7_init_107 rfl (w := 1) (by decide) (by decide) (lv' := [(1, vI (3 : Int32)), (0, vR 300)]) rfl ?_
  refine s_goto (hC.C 24 261 (Nat.le_of_ble_eq_true rfl) (Nat.le_of_ble_eq_true rfl)) dX7_init_110 (tgt := 87) (by decide) ?_
  refine s_iload_n (hC.C 24 261 (Nat.le_of_ble_eq_true rfl) (Nat.le_of_ble_eq_true rfl)) 0 dX7_init_87 rfl ?_
  refine s_bipush (hC.C 24 261 (Nat.le_of_ble_eq_true rfl) (Nat.le_of_ble_eq_true rfl)) dX7_init_88 (v := 6) (by decide) ?_
  refine c_ge_f (hC.C 24 261 (Nat.le_of_ble_eq_true rfl) (Nat.le_of_ble_eq_true rfl)) dX7_init_90 (tgt := 113) (by decide) (by decide) ?_
  refine s_aload_n (hC.C 24 261 (Nat.le_of_ble_eq_true rfl) (Nat.le_of_ble_eq_true rfl)) 1 dX7_init_93 rfl ?_
  refine c_getR hC xc7 (by decide) rfl qp_X7_20 (x_stgk ix_300 (by decide) kd_300) (w := 303) (by decide +kernel) dX7_init_94 ?_
  refine s_iload_n (hC.C 24 261 (Nat.le_of_ble_eq_true rfl) (Nat.le_of_ble_eq_true rfl)) 0 dX7_init_97 rfl ?_
  refine c_newD hC xc0 ix_307 kd_307 (by decide) (by decide +kernel) qn_X7_18 qz_X0 qc_X0 ⟨Nat.le_of_ble_eq_true rfl, Nat.le_of_ble_eq_true rfl⟩ dX7_init_98 ?_
  refine s_dupR (hC.C 25 271 (Nat.le_of_ble_eq_true rfl) (Nat.le_of_ble_eq_true rfl)) dX7_init_101 ?_
  refine s_iload_n (hC.C 25 271 (Nat.le_of_ble_eq_true rfl) (Nat.le_of_ble_eq_true rfl)) 0 dX7_init_102 rfl ?_
  refine c_call hC (x := 307) (avs := [vI (3 : Int32)]) (st := [vR 307, vI (3 : Int32), vR 303]) (nest := false) (by decide) (k_X0_init_307 hR) dX7_init_103 rfl qm_X7_53 qi_X0_init qc_X0 qd_X0_init qh_X0_init (by decide) ⟨Nat.le_of_ble_eq_true rfl, Nat.le_of_ble_eq_true rfl⟩ (Nat.le_of_ble_eq_true rfl) ?_
  refine c_aast hC xc0 (kd := 23) (x_stgk ix_303 (by decide) kd_303) (Or.inl ⟨rfl, rfl⟩) (x_stgk ix_307 (by decide) kd_307) (by rw [show x_ln (XC ad D cA) 303 = 6 from ln_303]; decide) dX7_init_106 ?_
  refine s_iinc (hC.C 26 275 (Nat.le_of_ble_eq_true rfl) (Nat.le_of_ble_eq_true rfl)) 0 dX7_init_107 rfl (w := 1) (by decide) (by decide) (lv' := [(1, vI (4 : Int32)), (0, vR 300)]) rfl ?_
  refine s_goto (hC.C 26 275 (Nat.le_of_ble_eq_true rfl) (Nat.le_of_ble_eq_true rfl)) dX7_init_110 (tgt := 87) (by decide) ?_
  refine s_iload_n (hC.C 26 275 (Nat.le_of_ble_eq_true rfl) (Nat.le_of_ble_eq_true rfl)) 0 dX7_init_87 rfl ?_
  refine s_bipush (hC.C 26 275 (Nat.le_of_ble_eq_true rfl) (Nat.le_of_ble_eq_true rfl)) dX7_init_88 (v := 6) (by decide) ?_
  refine c_ge_f (hC.C 26 275 (Nat.le_of_ble_eq_true rfl) (Nat.le_of_ble_eq_true rfl)) dX7_init_90 (tgt := 113) (by decide) (by decide) ?_
  refine s_aload_n (hC.C 26 275 (Nat.le_of_ble_eq_true rfl) (Nat.le_of_ble_eq_true rfl)) 1 dX7_init_93 rfl ?_
  refine c_getR hC xc7 (by decide) rfl qp_X7_20 (x_stgk ix_300 (by decide) kd_300) (w := 303) (by decide +kernel) dX7_init_94 ?_
  refine s_iload_n (hC.C 26 275 (Nat.le_of_ble_eq_true rfl) (Nat.le_of_ble_eq_true rfl)) 0 dX7_init_97 rfl ?_
  refine c_newD hC xc0 ix_308 kd_308 (by decide) (by decide +kernel) qn_X7_18 qz_X0 qc_X0 ⟨Nat.le_of_ble_eq_true rfl, Nat.le_of_ble_eq_true rfl⟩ dX7_init_98 ?_
  refine s_dupR (hC.C 27 285 (Nat.le_of_ble_eq_true rfl) (Nat.le_of_ble_eq_true rfl)) dX7_init_101 ?_
  refine s_iload_n (hC.C 27 285 (Nat.le_of_ble_eq_true rfl) (Nat.le_of_ble_eq_true rfl)) 0 dX7_init_102 rfl ?_
  refine c_call hC (x := 308) (avs := [vI (4 : Int32)]) (st := [vR 308, vI (4 : Int32), vR 303]) (nest := false) (by decide) (k_X0_init_308 hR) dX7_init_103 rfl qm_X7_53 qi_X0_init qc_X0 qd_X0_init qh_X0_init (by decide) ⟨Nat.le_of_ble_eq_true rfl, Nat.le_of_ble_eq_true rfl⟩ (Nat.le_of_ble_eq_true rfl) ?_
  refine c_aast hC xc0 (kd := 23) (x_stgk ix_303 (by decide) kd_303) (Or.inl ⟨rfl, rfl⟩) (x_stgk ix_308 (by decide) kd_308) (by rw [show x_ln (XC ad D cA) 303 = 6 from ln_303]; decide) dX7_init_106 ?_
  refine s_iinc (hC.C 28 289 (Nat.le_of_ble_eq_true rfl) (Nat.le_of_ble_eq_true rfl)) 0 dX7_init_107 rfl (w := 1) (by decide) (by decide) (lv' := [(1, vI (5 : Int32)), (0, vR 300)]) rfl ?_
  refine s_goto (hC.C 28 289 (Nat.le_of_ble_eq_true rfl) (Nat.le_of_ble_eq_true rfl)) dX7_init_110 (tgt := 87) (by decide) ?_
  refine s_iload_n (hC.C 28 289 (Nat.le_of_ble_eq_true rfl) (Nat.le_of_ble_eq_true rfl)) 0 dX7_init_87 rfl ?_
  refine s_bipush (hC.C 28 289 (Nat.le_of_ble_eq_true rfl) (Nat.le_of_ble_eq_true rfl)) dX7_init_88 (v := 6) (by decide) ?_
  refine c_ge_f (hC.C 28 289 (Nat.le_of_ble_eq_true rfl) (Nat.le_of_ble_eq_true rfl)) dX7_init_90 (tgt := 113) (by decide) (by decide) ?_
  refine s_aload_n (hC.C 28 289 (Nat.le_of_ble_eq_true rfl) (Nat.le_of_ble_eq_true rfl)) 1 dX7_init_93 rfl ?_
  refine c_getR hC xc7 (by decide) rfl qp_X7_20 (x_stgk ix_300 (by decide) kd_300) (w := 303) (by decide +kernel) dX7_init_94 ?_
  refine s_iload_n (hC.C 28 289 (Nat.le_of_ble_eq_true rfl) (Nat.le_of_ble_eq_true rfl)) 0 dX7_init_97 rfl ?_
  refine c_newD hC xc0 ix_309 kd_309 (by decide) (by decide +kernel) qn_X7_18 qz_X0 qc_X0 ⟨Nat.le_of_ble_eq_true rfl, Nat.le_of_ble_eq_true rfl⟩ dX7_init_98 ?_
  refine s_dupR (hC.C 29 299 (Nat.le_of_ble_eq_true rfl) (Nat.le_of_ble_eq_true rfl)) dX7_init_101 ?_
  refine s_iload_n (hC.C 29 299 (Nat.le_of_ble_eq_true rfl) (Nat.le_of_ble_eq_true rfl)) 0 dX7_init_102 rfl ?_
  refine c_call hC (x := 309) (avs := [vI (5 : Int32)]) (st := [vR 309, vI (5 : Int32), vR 303]) (nest := false) (by decide) (k_X0_init_309 hR) dX7_init_103 rfl qm_X7_53 qi_X0_init qc_X0 qd_X0_init qh_X0_init (by decide) ⟨Nat.le_of_ble_eq_true rfl, Nat.le_of_ble_eq_true rfl⟩ (Nat.le_of_ble_eq_true rfl) ?_
  refine c_aast hC xc0 (kd := 23) (x_stgk ix_303 (by decide) kd_303) (Or.inl ⟨rfl, rfl⟩) (x_stgk ix_309 (by decide) kd_309) (by rw [show x_ln (XC ad D cA) 303 = 6 from ln_303]; decide) dX7_init_106 ?_
  refine s_iinc (hC.C 30 303 (Nat.le_of_ble_eq_true rfl) (Nat.le_of_ble_eq_true rfl)) 0 dX7_init_107 rfl (w := 1) (by decide) (by decide) (lv' := [(1, vI (6 : Int32)), (0, vR 300)]) rfl ?_
  refine s_goto (hC.C 30 303 (Nat.le_of_ble_eq_true rfl) (Nat.le_of_ble_eq_true rfl)) dX7_init_110 (tgt := 87) (by decide) ?_
  refine s_iload_n (hC.C 30 303 (Nat.le_of_ble_eq_true rfl) (Nat.le_of_ble_eq_true rfl)) 0 dX7_init_87 rfl ?_
  refine s_bipush (hC.C 30 303 (Nat.le_of_ble_eq_true rfl) (Nat.le_of_ble_eq_true rfl)) dX7_init_88 (v := 6) (by decide) ?_
  refine c_ge_t (hC.C 30 303 (Nat.le_of_ble_eq_true rfl) (Nat.le_of_ble_eq_true rfl)) dX7_init_90 (tgt := 113) (by decide) (by decide) ?_
  exact c_ret hC hr hlk dX7_init_113
def x_U72 : x_M := x_sR x_U71 2 0 300
set_option maxRecDepth 100000 in
theorem k_X2_init_2 (hR : x_R (XC ad D cA) x_ixA h0 hA) : x_Ct (XC ad D cA) x_Z0 x_ixA h0 hA l yX2_init cX2_init 1 4 31 315 65 96 [vR 2] x_U48 x_U72 := by
  refine c_enter hR (by decide +kernel) (Nat.le_of_ble_eq_true rfl) (fun p e s m args below meth c hC hin hr hlk => ?_)
  refine s_lv (lv' := [(0, vR 2)]) [0] rfl ?_
  refine s_aload_n (hC.C 0 0 (Nat.le_of_ble_eq_true rfl) (Nat.le_of_ble_eq_true rfl)) 0 dX2_init_0 rfl ?_
  refine c_init hC (by decide) qo_X2_3 qo_inst qo_code (by decide) (Nat.le_of_ble_eq_true rfl) dX2_init_1 ?_
  refine s_aload_n (hC.C 0 0 (Nat.le_of_ble_eq_true rfl) (Nat.le_of_ble_eq_true rfl)) 0 dX2_init_4 rfl ?_
  refine c_newD hC xc7 ix_300 kd_300 (by decide) (by decide +kernel) qn_X2_9 qz_X7 qc_X7 ⟨Nat.le_of_ble_eq_true rfl, Nat.le_of_ble_eq_true rfl⟩ dX2_init_5 ?_
  refine s_dupR (hC.C 1 12 (Nat.le_of_ble_eq_true rfl) (Nat.le_of_ble_eq_true rfl)) dX2_init_8 ?_
  refine c_call hC (x := 300) (avs := []) (st := [vR 300, vR 2]) (nest := false) (by decide) (k_X7_init_300 hR) dX2_init_9 rfl qm_X2_11 qi_X7_init qc_X7 qd_X7_init qh_X7_init (by decide) ⟨Nat.le_of_ble_eq_true rfl, Nat.le_of_ble_eq_true rfl⟩ (Nat.le_of_ble_eq_true rfl) ?_
  refine c_putR hC xc2 (by decide) hin rfl qp_X2_12 (x_stgk ix_2 (by decide) kd_2) dX2_init_12 ?_
  exact c_ret hC hr hlk dX2_init_15
def x_U73 : x_M := x_sR x_U72 1 2 2
def x_U74 : x_M := x_sR x_U73 3 0 4
set_option maxRecDepth 100000 in
theorem k_X5_init_3 (hR : x_R (XC ad D cA) x_ixA h0 hA) : x_Ct (XC ad D cA) x_Z0 x_ixA h0 hA l yX5_init cX5_init 1 1 1 100 97 98 [vR 3] x_U73 x_U74 := by
  refine c_enter hR (by decide +kernel) (Nat.le_of_ble_eq_true rfl) (fun p e s m args below meth c hC hin hr hlk => ?_)
  refine s_lv (lv' := [(0, vR 3)]) [0] rfl ?_
  refine s_aload_n (hC.C 0 0 (Nat.le_of_ble_eq_true rfl) (Nat.le_of_ble_eq_true rfl)) 0 dX5_init_0 rfl ?_
  refine c_init hC (by decide) qo_X5_3 qo_inst qo_code (by decide) (Nat.le_of_ble_eq_true rfl) dX5_init_1 ?_
  refine s_aload_n (hC.C 0 0 (Nat.le_of_ble_eq_true rfl) (Nat.le_of_ble_eq_true rfl)) 0 dX5_init_4 rfl ?_
  refine s_bipush (hC.C 0 0 (Nat.le_of_ble_eq_true rfl) (Nat.le_of_ble_eq_true rfl)) dX5_init_5 (v := 100) (by decide) ?_
  refine c_newI hC ix_4 kd_4 (by decide) ln_4 (by decide +kernel) qa_int (by decide) (by decide) ⟨Nat.le_of_ble_eq_true rfl, Nat.le_of_ble_eq_true rfl⟩ dX5_init_7 ?_
  refine c_putR hC xc5 (by decide) hin rfl qp_X5_9 (x_stgk ix_3 (by decide) kd_3) dX5_init_9 ?_
  exact c_ret hC hr hlk dX5_init_12
def x_U75 : x_M := x_sR (x_sR (x_sR x_U74 1 3 3) 1 4 5) 1 5 6
def x_U76 : x_M := x_sR x_U75 7 0 8
set_option maxRecDepth 100000 in
theorem k_X1_init_7 (hR : x_R (XC ad D cA) x_ixA h0 hA) : x_Ct (XC ad D cA) x_Z0 x_ixA h0 hA l yX1_init cX1_init 1 1 1 20 101 102 [vR 7] x_U75 x_U76 := by
  refine c_enter hR (by decide +kernel) (Nat.le_of_ble_eq_true rfl) (fun p e s m args below meth c hC hin hr hlk => ?_)
  refine s_lv (lv' := [(0, vR 7)]) [0] rfl ?_
  refine s_aload_n (hC.C 0 0 (Nat.le_of_ble_eq_true rfl) (Nat.le_of_ble_eq_true rfl)) 0 dX1_init_0 rfl ?_
  refine c_init hC (by decide) qo_X1_3 qo_inst qo_code (by decide) (Nat.le_of_ble_eq_true rfl) dX1_init_1 ?_
  refine s_aload_n (hC.C 0 0 (Nat.le_of_ble_eq_true rfl) (Nat.le_of_ble_eq_true rfl)) 0 dX1_init_4 rfl ?_
  refine s_bipush (hC.C 0 0 (Nat.le_of_ble_eq_true rfl) (Nat.le_of_ble_eq_true rfl)) dX1_init_5 (v := 20) (by decide) ?_
  refine c_newI hC ix_8 kd_8 (by decide) ln_8 (by decide +kernel) qa_int (by decide) (by decide) ⟨Nat.le_of_ble_eq_true rfl, Nat.le_of_ble_eq_true rfl⟩ dX1_init_7 ?_
  refine c_putR hC xc1 (by decide) hin rfl qp_X1_9 (x_stgk ix_7 (by decide) kd_7) dX1_init_9 ?_
  exact c_ret hC hr hlk dX1_init_12
def x_U77 : x_M := x_sR x_U76 1 6 7
def x_U78 : x_M := x_sR (x_sR (x_sR (x_sR (x_sR x_U77 400 0 401) 400 1 402) 400 2 403) 400 3 404) 400 4 405
def x_U79 : x_M := x_sI (x_sI (x_sI (x_sI (x_sI x_U78 400 5 (0 : Int32)) 400 6 (0 : Int32)) 400 7 (50 : Int32)) 400 8 (5 : Int32)) 400 9 (0 : Int32)
set_option maxRecDepth 100000 in
theorem k_X4_clear_400 (hR : x_R (XC ad D cA) x_ixA h0 hA) : x_Ct (XC ad D cA) x_Z0 x_ixA h0 hA l yX4_clear cX4_clear 1 1 0 0 108 108 [vR 400] x_U78 x_U79 := by
  refine c_enter hR (by decide +kernel) (Nat.le_of_ble_eq_true rfl) (fun p e s m args below meth c hC hin hr hlk => ?_)
  refine s_lv (lv' := [(0, vR 400)]) [0] rfl ?_
  refine s_aload_n (hC.C 0 0 (Nat.le_of_ble_eq_true rfl) (Nat.le_of_ble_eq_true rfl)) 0 dX4_clear_0 rfl ?_
  refine s_iconst (hC.C 0 0 (Nat.le_of_ble_eq_true rfl) (Nat.le_of_ble_eq_true rfl)) dX4_clear_1 (v := 0) (by decide) ?_
  refine c_putI2 hC xc4 (by decide) rfl rfl qp_X4_30 (x_stgk ix_400 (by decide) kd_400) dX4_clear_2 ?_
  refine s_aload_n (hC.C 0 0 (Nat.le_of_ble_eq_true rfl) (Nat.le_of_ble_eq_true rfl)) 0 dX4_clear_5 rfl ?_
  refine s_iconst (hC.C 0 0 (Nat.le_of_ble_eq_true rfl) (Nat.le_of_ble_eq_true rfl)) dX4_clear_6 (v := 0) (by decide) ?_
  refine c_putI2 hC xc4 (by decide) rfl rfl qp_X4_34 (x_stgk ix_400 (by decide) kd_400) dX4_clear_7 ?_
  refine s_aload_n (hC.C 0 0 (Nat.le_of_ble_eq_true rfl) (Nat.le_of_ble_eq_true rfl)) 0 dX4_clear_10 rfl ?_
  refine s_bipush (hC.C 0 0 (Nat.le_of_ble_eq_true rfl) (Nat.le_of_ble_eq_true rfl)) dX4_clear_11 (v := 50) (by decide) ?_
  refine c_putI2 hC xc4 (by decide) rfl rfl qp_X4_37 (x_stgk ix_400 (by decide) kd_400) dX4_clear_13 ?_
  refine s_aload_n (hC.C 0 0 (Nat.le_of_ble_eq_true rfl) (Nat.le_of_ble_eq_true rfl)) 0 dX4_clear_16 rfl ?_
  refine s_iconst (hC.C 0 0 (Nat.le_of_ble_eq_true rfl) (Nat.le_of_ble_eq_true rfl)) dX4_clear_17 (v := 5) (by decide) ?_
  refine c_putI2 hC xc4 (by decide) rfl rfl qp_X4_40 (x_stgk ix_400 (by decide) kd_400) dX4_clear_18 ?_
  refine s_aload_n (hC.C 0 0 (Nat.le_of_ble_eq_true rfl) (Nat.le_of_ble_eq_true rfl)) 0 dX4_clear_21 rfl ?_
  refine s_iconst (hC.C 0 0 (Nat.le_of_ble_eq_true rfl) (Nat.le_of_ble_eq_true rfl)) dX4_clear_22 (v := 0) (by decide) ?_
  refine c_putI2 hC xc4 (by decide) rfl rfl qp_X4_43 (x_stgk ix_400 (by decide) kd_400) dX4_clear_23 ?_
  exact c_ret hC hr hlk dX4_clear_26
set_option maxRecDepth 100000 in
theorem k_X4_init_400 (hR : x_R (XC ad D cA) x_ixA h0 hA) : x_Ct (XC ad D cA) x_Z0 x_ixA h0 hA l yX4_init cX4_init 1 2 5 136 103 108 [vR 400] x_U77 x_U79 := by
  refine c_enter hR (by decide +kernel) (Nat.le_of_ble_eq_true rfl) (fun p e s m args below meth c hC hin hr hlk => ?_)
  refine s_lv (lv' := [(0, vR 400)]) [0] rfl ?_
  refine s_aload_n (hC.C 0 0 (Nat.le_of_ble_eq_true rfl) (Nat.le_of_ble_eq_true rfl)) 0 dX4_init_0 rfl ?_
  refine c_init hC (by decide) qo_X4_3 qo_inst qo_code (by decide) (Nat.le_of_ble_eq_true rfl) dX4_init_1 ?_
  refine s_aload_n (hC.C 0 0 (Nat.le_of_ble_eq_true rfl) (Nat.le_of_ble_eq_true rfl)) 0 dX4_init_4 rfl ?_
  refine s_bipush (hC.C 0 0 (Nat.le_of_ble_eq_true rfl) (Nat.le_of_ble_eq_true rfl)) dX4_init_5 (v := 10) (by decide) ?_
  refine c_newI hC ix_401 kd_401 (by decide) ln_401 (by decide +kernel) qa_int (by decide) (by decide) ⟨Nat.le_of_ble_eq_true rfl, Nat.le_of_ble_eq_true rfl⟩ dX4_init_7 ?_
  refine c_putR hC xc4 (by decide) hin rfl qp_X4_9 (x_stgk ix_400 (by decide) kd_400) dX4_init_9 ?_
  refine s_aload_n (hC.C 1 10 (Nat.le_of_ble_eq_true rfl) (Nat.le_of_ble_eq_true rfl)) 0 dX4_init_12 rfl ?_
  refine s_bipush (hC.C 1 10 (Nat.le_of_ble_eq_true rfl) (Nat.le_of_ble_eq_true rfl)) dX4_init_13 (v := 10) (by decide) ?_
  refine c_newI hC ix_402 kd_402 (by decide) ln_402 (by decide +kernel) qa_int (by decide) (by decide) ⟨Nat.le_of_ble_eq_true rfl, Nat.le_of_ble_eq_true rfl⟩ dX4_init_15 ?_
  refine c_putR hC xc4 (by decide) hin rfl qp_X4_15 (x_stgk ix_400 (by decide) kd_400) dX4_init_17 ?_
  refine s_aload_n (hC.C 2 20 (Nat.le_of_ble_eq_true rfl) (Nat.le_of_ble_eq_true rfl)) 0 dX4_init_20 rfl ?_
  refine s_bipush (hC.C 2 20 (Nat.le_of_ble_eq_true rfl) (Nat.le_of_ble_eq_true rfl)) dX4_init_21 (v := 10) (by decide) ?_
  refine c_newI hC ix_403 kd_403 (by decide) ln_403 (by decide +kernel) qa_int (by decide) (by decide) ⟨Nat.le_of_ble_eq_true rfl, Nat.le_of_ble_eq_true rfl⟩ dX4_init_23 ?_
  refine c_putR hC xc4 (by decide) hin rfl qp_X4_18 (x_stgk ix_400 (by decide) kd_400) dX4_init_25 ?_
  refine s_aload_n (hC.C 3 30 (Nat.le_of_ble_eq_true rfl) (Nat.le_of_ble_eq_true rfl)) 0 dX4_init_28 rfl ?_
  refine s_bipush (hC.C 3 30 (Nat.le_of_ble_eq_true rfl) (Nat.le_of_ble_eq_true rfl)) dX4_init_29 (v := 100) (by decide) ?_
  refine c_newI hC ix_404 kd_404 (by decide) ln_404 (by decide +kernel) qa_int (by decide) (by decide) ⟨Nat.le_of_ble_eq_true rfl, Nat.le_of_ble_eq_true rfl⟩ dX4_init_31 ?_
  refine c_putR hC xc4 (by decide) hin rfl qp_X4_21 (x_stgk ix_400 (by decide) kd_400) dX4_init_33 ?_
  refine s_aload_n (hC.C 4 130 (Nat.le_of_ble_eq_true rfl) (Nat.le_of_ble_eq_true rfl)) 0 dX4_init_36 rfl ?_
  refine s_bipush (hC.C 4 130 (Nat.le_of_ble_eq_true rfl) (Nat.le_of_ble_eq_true rfl)) dX4_init_37 (v := 6) (by decide) ?_
  refine c_newI hC ix_405 kd_405 (by decide) ln_405 (by decide +kernel) qa_int (by decide) (by decide) ⟨Nat.le_of_ble_eq_true rfl, Nat.le_of_ble_eq_true rfl⟩ dX4_init_39 ?_
  refine c_putR hC xc4 (by decide) hin rfl qp_X4_24 (x_stgk ix_400 (by decide) kd_400) dX4_init_41 ?_
  refine s_aload_n (hC.C 5 136 (Nat.le_of_ble_eq_true rfl) (Nat.le_of_ble_eq_true rfl)) 0 dX4_init_44 rfl ?_
  refine c_callV hC (x := 400) (avs := []) (st := []) (nest := false) xc4 (x_stgk ix_400 (by decide) kd_400) (k_X4_clear_400 hR) dX4_init_45 qm_X4_27 qi_X4_clear qs_X4_clear qc_X4 qd_X4_clear qh_X4_clear (by decide) ⟨Nat.le_of_ble_eq_true rfl, Nat.le_of_ble_eq_true rfl⟩ (Nat.le_of_ble_eq_true rfl) ?_
  exact c_ret hC hr hlk dX4_init_48
def x_U80 : x_M := x_sR x_U79 5 ((0 : Int32)).toNatClampNeg 400
def x_U81 : x_M := x_sR (x_sR (x_sR (x_sR (x_sR x_U80 410 0 411) 410 1 412) 410 2 413) 410 3 414) 410 4 415
def x_U82 : x_M := x_sI (x_sI (x_sI (x_sI (x_sI x_U81 410 5 (0 : Int32)) 410 6 (0 : Int32)) 410 7 (50 : Int32)) 410 8 (5 : Int32)) 410 9 (0 : Int32)
set_option maxRecDepth 100000 in
theorem k_X4_clear_410 (hR : x_R (XC ad D cA) x_ixA h0 hA) : x_Ct (XC ad D cA) x_Z0 x_ixA h0 hA l yX4_clear cX4_clear 1 1 0 0 114 114 [vR 410] x_U81 x_U82 := by
  refine c_enter hR (by decide +kernel) (Nat.le_of_ble_eq_true rfl) (fun p e s m args below meth c hC hin hr hlk => ?_)
  refine s_lv (lv' := [(0, vR 410)]) [0] rfl ?_
  refine s_aload_n (hC.C 0 0 (Nat.le_of_ble_eq_true rfl) (Nat.le_of_ble_eq_true rfl)) 0 dX4_clear_0 rfl ?_
  refine s_iconst (hC.C 0 0 (Nat.le_of_ble_eq_true rfl) (Nat.le_of_ble_eq_true rfl)) dX4_clear_1 (v := 0) (by decide) ?_
  refine c_putI2 hC xc4 (by decide) rfl rfl qp_X4_30 (x_stgk ix_410 (by decide) kd_410) dX4_clear_2 ?_
  refine s_aload_n (hC.C 0 0 (Nat.le_of_ble_eq_true rfl) (Nat.le_of_ble_eq_true rfl)) 0 dX4_clear_5 rfl ?_
  refine s_iconst (hC.C 0 0 (Nat.le_of_ble_eq_true rfl) (Nat.le_of_ble_eq_true rfl)) dX4_clear_6 (v := 0) (by decide) ?_
  refine c_putI2 hC xc4 (by decide) rfl rfl qp_X4_34 (x_stgk ix_410 (by decide) kd_410) dX4_clear_7 ?_
  refine s_aload_n (hC.C 0 0 (Nat.le_of_ble_eq_true rfl) (Nat.le_of_ble_eq_true rfl)) 0 dX4_clear_10 rfl ?_
  refine s_bipush (hC.C 0 0 (Nat.le_of_ble_eq_true rfl) (Nat.le_of_ble_eq_true rfl)) dX4_clear_11 (v := 50) (by decide) ?_
  refine c_putI2 hC xc4 (by decide) rfl rfl qp_X4_37 (x_stgk ix_410 (by decide) kd_410) dX4_clear_13 ?_
  refine s_aload_n (hC.C 0 0 (Nat.le_of_ble_eq_true rfl) (Nat.le_of_ble_eq_true rfl)) 0 dX4_clear_16 rfl ?_
  refine s_iconst (hC.C 0 0 (Nat.le_of_ble_eq_true rfl) (Nat.le_of_ble_eq_true rfl)) dX4_clear_17 (v := 5) (by decide) ?_
  refine c_putI2 hC xc4 (by decide) rfl rfl qp_X4_40 (x_stgk ix_410 (by decide) kd_410) dX4_clear_18 ?_
  refine s_aload_n (hC.C 0 0 (Nat.le_of_ble_eq_true rfl) (Nat.le_of_ble_eq_true rfl)) 0 dX4_clear_21 rfl ?_
  refine s_iconst (hC.C 0 0 (Nat.le_of_ble_eq_true rfl) (Nat.le_of_ble_eq_true rfl)) dX4_clear_22 (v := 0) (by decide) ?_
  refine c_putI2 hC xc4 (by decide) rfl rfl qp_X4_43 (x_stgk ix_410 (by decide) kd_410) dX4_clear_23 ?_
  exact c_ret hC hr hlk dX4_clear_26
set_option maxRecDepth 100000 in
theorem k_X4_init_410 (hR : x_R (XC ad D cA) x_ixA h0 hA) : x_Ct (XC ad D cA) x_Z0 x_ixA h0 hA l yX4_init cX4_init 1 2 5 136 109 114 [vR 410] x_U80 x_U82 := by
  refine c_enter hR (by decide +kernel) (Nat.le_of_ble_eq_true rfl) (fun p e s m args below meth c hC hin hr hlk => ?_)
  refine s_lv (lv' := [(0, vR 410)]) [0] rfl ?_
  refine s_aload_n (hC.C 0 0 (Nat.le_of_ble_eq_true rfl) (Nat.le_of_ble_eq_true rfl)) 0 dX4_init_0 rfl ?_
  refine c_init hC (by decide) qo_X4_3 qo_inst qo_code (by decide) (Nat.le_of_ble_eq_true rfl) dX4_init_1 ?_
  refine s_aload_n (hC.C 0 0 (Nat.le_of_ble_eq_true rfl) (Nat.le_of_ble_eq_true rfl)) 0 dX4_init_4 rfl ?_
  refine s_bipush (hC.C 0 0 (Nat.le_of_ble_eq_true rfl) (Nat.le_of_ble_eq_true rfl)) dX4_init_5 (v := 10) (by decide) ?_
  refine c_newI hC ix_411 kd_411 (by decide) ln_411 (by decide +kernel) qa_int (by decide) (by decide) ⟨Nat.le_of_ble_eq_true rfl, Nat.le_of_ble_eq_true rfl⟩ dX4_init_7 ?_
  refine c_putR hC xc4 (by decide) hin rfl qp_X4_9 (x_stgk ix_410 (by decide) kd_410) dX4_init_9 ?_
  refine s_aload_n (hC.C 1 10 (Nat.le_of_ble_eq_true rfl) (Nat.le_of_ble_eq_true rfl)) 0 dX4_init_12 rfl ?_
  refine s_bipush (hC.C 1 10 (Nat.le_of_ble_eq_true rfl) (Nat.le_of_ble_eq_true rfl)) dX4_init_13 (v := 10) (by decide) ?_
  refine c_newI hC ix_412 kd_412 (by decide) ln_412 (by decide +kernel) qa_int (by decide) (by decide) ⟨Nat.le_of_ble_eq_true rfl, Nat.le_of_ble_eq_true rfl⟩ dX4_init_15 ?_
  refine c_putR hC xc4 (by decide) hin rfl qp_X4_15 (x_stgk ix_410 (by decide) kd_410) dX4_init_17 ?_
  refine s_aload_n (hC.C 2 20 (Nat.le_of_ble_eq_true rfl) (Nat.le_of_ble_eq_true rfl)) 0 dX4_init_20 rfl ?_
  refine s_bipush (hC.C 2 20 (Nat.le_of_ble_eq_true rfl) (Nat.le_of_ble_eq_true rfl)) dX4_init_21 (v := 10) (by decide) ?_
  refine c_newI hC ix_413 kd_413 (by decide) ln_413 (by decide +kernel) qa_int (by decide) (by decide) ⟨Nat.le_of_ble_eq_true rfl, Nat.le_of_ble_eq_true rfl⟩ dX4_init_23 ?_
  refine c_putR hC xc4 (by decide) hin rfl qp_X4_18 (x_stgk ix_410 (by decide) kd_410) dX4_init_25 ?_
  refine s_aload_n (hC.C 3 30 (Nat.le_of_ble_eq_true rfl) (Nat.le_of_ble_eq_true rfl)) 0 dX4_init_28 rfl ?_
  refine s_bipush (hC.C 3 30 (Nat.le_of_ble_eq_true rfl) (Nat.le_of_ble_eq_true rfl)) dX4_init_29 (v := 100) (by decide) ?_
  refine c_newI hC ix_414 kd_414 (by decide) ln_414 (by decide +kernel) qa_int (by decide) (by decide) ⟨Nat.le_of_ble_eq_true rfl, Nat.le_of_ble_eq_true rfl⟩ dX4_init_31 ?_
  refine c_putR hC xc4 (by decide) hin rfl qp_X4_21 (x_stgk ix_410 (by decide) kd_410) dX4_init_33 ?_
  refine s_aload_n (hC.C 4 130 (Nat.le_of_ble_eq_true rfl) (Nat.le_of_ble_eq_true rfl)) 0 dX4_init_36 rfl ?_
  refine s_bipush (hC.C 4 130 (Nat.le_of_ble_eq_true rfl) (Nat.le_of_ble_eq_true rfl)) dX4_init_37 (v := 6) (by decide) ?_
  refine c_newI hC ix_415 kd_415 (by decide) ln_415 (by decide +kernel) qa_int (by decide) (by decide) ⟨Nat.le_of_ble_eq_true rfl, Nat.le_of_ble_eq_true rfl⟩ dX4_init_39 ?_
  refine c_putR hC xc4 (by decide) hin rfl qp_X4_24 (x_stgk ix_410 (by decide) kd_410) dX4_init_41 ?_
  refine s_aload_n (hC.C 5 136 (Nat.le_of_ble_eq_true rfl) (Nat.le_of_ble_eq_true rfl)) 0 dX4_init_44 rfl ?_
  refine c_callV hC (x := 410) (avs := []) (st := []) (nest := false) xc4 (x_stgk ix_410 (by decide) kd_410) (k_X4_clear_410 hR) dX4_init_45 qm_X4_27 qi_X4_clear qs_X4_clear qc_X4 qd_X4_clear qh_X4_clear (by decide) ⟨Nat.le_of_ble_eq_true rfl, Nat.le_of_ble_eq_true rfl⟩ (Nat.le_of_ble_eq_true rfl) ?_
  exact c_ret hC hr hlk dX4_init_48
def x_U83 : x_M := x_sR x_U82 5 ((1 : Int32)).toNatClampNeg 410
def x_U84 : x_M := x_sR (x_sR (x_sR (x_sR (x_sR x_U83 420 0 421) 420 1 422) 420 2 423) 420 3 424) 420 4 425
def x_U85 : x_M := x_sI (x_sI (x_sI (x_sI (x_sI x_U84 420 5 (0 : Int32)) 420 6 (0 : Int32)) 420 7 (50 : Int32)) 420 8 (5 : Int32)) 420 9 (0 : Int32)
set_option maxRecDepth 100000 in
theorem k_X4_clear_420 (hR : x_R (XC ad D cA) x_ixA h0 hA) : x_Ct (XC ad D cA) x_Z0 x_ixA h0 hA l yX4_clear cX4_clear 1 1 0 0 120 120 [vR 420] x_U84 x_U85 := by
  refine c_enter hR (by decide +kernel) (Nat.le_of_ble_eq_true rfl) (fun p e s m args below meth c hC hin hr hlk => ?_)
  refine s_lv (lv' := [(0, vR 420)]) [0] rfl ?_
  refine s_aload_n (hC.C 0 0 (Nat.le_of_ble_eq_true rfl) (Nat.le_of_ble_eq_true rfl)) 0 dX4_clear_0 rfl ?_
  refine s_iconst (hC.C 0 0 (Nat.le_of_ble_eq_true rfl) (Nat.le_of_ble_eq_true rfl)) dX4_clear_1 (v := 0) (by decide) ?_
  refine c_putI2 hC xc4 (by decide) rfl rfl qp_X4_30 (x_stgk ix_420 (by decide) kd_420) dX4_clear_2 ?_
  refine s_aload_n (hC.C 0 0 (Nat.le_of_ble_eq_true rfl) (Nat.le_of_ble_eq_true rfl)) 0 dX4_clear_5 rfl ?_
  refine s_iconst (hC.C 0 0 (Nat.le_of_ble_eq_true rfl) (Nat.le_of_ble_eq_true rfl)) dX4_clear_6 (v := 0) (by decide) ?_
  refine c_putI2 hC xc4 (by decide) rfl rfl qp_X4_34 (x_stgk ix_420 (by decide) kd_420) dX4_clear_7 ?_
  refine s_aload_n (hC.C 0 0 (Nat.le_of_ble_eq_true rfl) (Nat.le_of_ble_eq_true rfl)) 0 dX4_clear_10 rfl ?_
  refine s_bipush (hC.C 0 0 (Nat.le_of_ble_eq_true rfl) (Nat.le_of_ble_eq_true rfl)) dX4_clear_11 (v := 50) (by decide) ?_
  refine c_putI2 hC xc4 (by decide) rfl rfl qp_X4_37 (x_stgk ix_420 (by decide) kd_420) dX4_clear_13 ?_
  refine s_aload_n (hC.C 0 0 (Nat.le_of_ble_eq_true rfl) (Nat.le_of_ble_eq_true rfl)) 0 dX4_clear_16 rfl ?_
  refine s_iconst (hC.C 0 0 (Nat.le_of_ble_eq_true rfl) (Nat.le_of_ble_eq_true rfl)) dX4_clear_17 (v := 5) (by decide) ?_
  refine c_putI2 hC xc4 (by decide) rfl rfl qp_X4_40 (x_stgk ix_420 (by decide) kd_420) dX4_clear_18 ?_
  refine s_aload_n (hC.C 0 0 (Nat.le_of_ble_eq_true rfl) (Nat.le_of_ble_eq_true rfl)) 0 dX4_clear_21 rfl ?_
  refine s_iconst (hC.C 0 0 (Nat.le_of_ble_eq_true rfl) (Nat.le_of_ble_eq_true rfl)) dX4_clear_22 (v := 0) (by decide) ?_
  refine c_putI2 hC xc4 (by decide) rfl rfl qp_X4_43 (x_stgk ix_420 (by decide) kd_420) dX4_clear_23 ?_
  exact c_ret hC hr hlk dX4_clear_26
set_option maxRecDepth 100000 in
theorem k_X4_init_420 (hR : x_R (XC ad D cA) x_ixA h0 hA) : x_Ct (XC ad D cA) x_Z0 x_ixA h0 hA l yX4_init cX4_init 1 2 5 136 115 120 [vR 420] x_U83 x_U85 := by
  refine c_enter hR (by decide +kernel) (Nat.le_of_ble_eq_true rfl) (fun p e s m args below meth c hC hin hr hlk => ?_)
  refine s_lv (lv' := [(0, vR 420)]) [0] rfl ?_
  refine s_aload_n (hC.C 0 0 (Nat.le_of_ble_eq_true rfl) (Nat.le_of_ble_eq_true rfl)) 0 dX4_init_0 rfl ?_
  refine c_init hC (by decide) qo_X4_3 qo_inst qo_code (by decide) (Nat.le_of_ble_eq_true rfl) dX4_init_1 ?_
  refine s_aload_n (hC.C 0 0 (Nat.le_of_ble_eq_true rfl) (Nat.le_of_ble_eq_true rfl)) 0 dX4_init_4 rfl ?_
  refine s_bipush (hC.C 0 0 (Nat.le_of_ble_eq_true rfl) (Nat.le_of_ble_eq_true rfl)) dX4_init_5 (v := 10) (by decide) ?_
  refine c_newI hC ix_421 kd_421 (by decide) ln_421 (by decide +kernel) qa_int (by decide) (by decide) ⟨Nat.le_of_ble_eq_true rfl, Nat.le_of_ble_eq_true rfl⟩ dX4_init_7 ?_
  refine c_putR hC xc4 (by decide) hin rfl qp_X4_9 (x_stgk ix_420 (by decide) kd_420) dX4_init_9 ?_
  refine s_aload_n (hC.C 1 10 (Nat.le_of_ble_eq_true rfl) (Nat.le_of_ble_eq_true rfl)) 0 dX4_init_12 rfl ?_
  refine s_bipush (hC.C 1 10 (Nat.le_of_ble_eq_true rfl) (Nat.le_of_ble_eq_true rfl)) dX4_init_13 (v := 10) (by decide) ?_
  refine c_newI hC ix_422 kd_422 (by decide) ln_422 (by decide +kernel) qa_int (by decide) (by decide) ⟨Nat.le_of_ble_eq_true rfl, Nat.le_of_ble_eq_true rfl⟩ dX4_init_15 ?_
  refine c_putR hC xc4 (by decide) hin rfl qp_X4_15 (x_stgk ix_420 (by decide) kd_420) dX4_init_17 ?_
  refine s_aload_n (hC.C 2 20 (Nat.le_of_ble_eq_true rfl) (Nat.le_of_ble_eq_true rfl)) 0 dX4_init_20 rfl ?_
  refine s_bipush (hC.C 2 20 (Nat.le_of_ble_eq_true rfl) (Nat.le_of_ble_eq_true rfl)) dX4_init_21 (v := 10) (by decide) ?_
  refine c_newI hC ix_423 kd_423 (by decide) ln_423 (by decide +kernel) qa_int (by decide) (by decide) ⟨Nat.le_of_ble_eq_true rfl, Nat.le_of_ble_eq_true rfl⟩ dX4_init_23 ?_
  refine c_putR hC xc4 (by decide) hin rfl qp_X4_18 (x_stgk ix_420 (by decide) kd_420) dX4_init_25 ?_
  refine s_aload_n (hC.C 3 30 (Nat.le_of_ble_eq_true rfl) (Nat.le_of_ble_eq_true rfl)) 0 dX4_init_28 rfl ?_
  refine s_bipush (hC.C 3 30 (Nat.le_of_ble_eq_true rfl) (Nat.le_of_ble_eq_true rfl)) dX4_init_29 (v := 100) (by decide) ?_
  refine c_newI hC ix_424 kd_424 (by decide) ln_424 (by decide +kernel) qa_int (by decide) (by decide) ⟨Nat.le_of_ble_eq_true rfl, Nat.le_of_ble_eq_true rfl⟩ dX4_init_31 ?_
  refine c_putR hC xc4 (by decide) hin rfl qp_X4_21 (x_stgk ix_420 (by decide) kd_420) dX4_init_33 ?_
  refine s_aload_n (hC.C 4 130 (Nat.le_of_ble_eq_true rfl) (Nat.le_of_ble_eq_true rfl)) 0 dX4_init_36 rfl ?_
  refine s_bipush (hC.C 4 130 (Nat.le_of_ble_eq_true rfl) (Nat.le_of_ble_eq_true rfl)) dX4_init_37 (v := 6) (by decide) ?_
  refine c_newI hC ix_425 kd_425 (by decide) ln_425 (by decide +kernel) qa_int (by decide) (by decide) ⟨Nat.le_of_ble_eq_true rfl, Nat.le_of_ble_eq_true rfl⟩ dX4_init_39 ?_
  refine c_putR hC xc4 (by decide) hin rfl qp_X4_24 (x_stgk ix_420 (by decide) kd_420) dX4_init_41 ?_
  refine s_aload_n (hC.C 5 136 (Nat.le_of_ble_eq_true rfl) (Nat.le_of_ble_eq_true rfl)) 0 dX4_init_44 rfl ?_
  refine c_callV hC (x := 420) (avs := []) (st := []) (nest := false) xc4 (x_stgk ix_420 (by decide) kd_420) (k_X4_clear_420 hR) dX4_init_45 qm_X4_27 qi_X4_clear qs_X4_clear qc_X4 qd_X4_clear qh_X4_clear (by decide) ⟨Nat.le_of_ble_eq_true rfl, Nat.le_of_ble_eq_true rfl⟩ (Nat.le_of_ble_eq_true rfl) ?_
  exact c_ret hC hr hlk dX4_init_48
def x_U86 : x_M := x_sR x_U85 5 ((2 : Int32)).toNatClampNeg 420
def x_U87 : x_M := x_sR (x_sR (x_sR (x_sR (x_sR x_U86 430 0 431) 430 1 432) 430 2 433) 430 3 434) 430 4 435
def x_U88 : x_M := x_sI (x_sI (x_sI (x_sI (x_sI x_U87 430 5 (0 : Int32)) 430 6 (0 : Int32)) 430 7 (50 : Int32)) 430 8 (5 : Int32)) 430 9 (0 : Int32)
set_option maxRecDepth 100000 in
theorem k_X4_clear_430 (hR : x_R (XC ad D cA) x_ixA h0 hA) : x_Ct (XC ad D cA) x_Z0 x_ixA h0 hA l yX4_clear cX4_clear 1 1 0 0 126 126 [vR 430] x_U87 x_U88 := by
  refine c_enter hR (by decide +kernel) (Nat.le_of_ble_eq_true rfl) (fun p e s m args below meth c hC hin hr hlk => ?_)
  refine s_lv (lv' := [(0, vR 430)]) [0] rfl ?_
  refine s_aload_n (hC.C 0 0 (Nat.le_of_ble_eq_true rfl) (Nat.le_of_ble_eq_true rfl)) 0 dX4_clear_0 rfl ?_
  refine s_iconst (hC.C 0 0 (Nat.le_of_ble_eq_true rfl) (Nat.le_of_ble_eq_true rfl)) dX4_clear_1 (v := 0) (by decide) ?_
  refine c_putI2 hC xc4 (by decide) rfl rfl qp_X4_30 (x_stgk ix_430 (by decide) kd_430) dX4_clear_2 ?_
  refine s_aload_n (hC.C 0 0 (Nat.le_of_ble_eq_true rfl) (Nat.le_of_ble_eq_true rfl)) 0 dX4_clear_5 rfl ?_
  refine s_iconst (hC.C 0 0 (Nat.le_of_ble_eq_true rfl) (Nat.le_of_ble_eq_true rfl)) dX4_clear_6 (v := 0) (by decide) ?_
  refine c_putI2 hC xc4 (by decide) rfl rfl qp_X4_34 (x_stgk ix_430 (by decide) kd_430) dX4_clear_7 ?_
  refine s_aload_n (hC.C 0 0 (Nat.le_of_ble_eq_true rfl) (Nat.le_of_ble_eq_true rfl)) 0 dX4_clear_10 rfl ?_
  refine s_bipush (hC.C 0 0 (Nat.le_of_ble_eq_true rfl) (Nat.le_of_ble_eq_true rfl)) dX4_clear_11 (v := 50) (by decide) ?_
  refine c_putI2 hC xc4 (by decide) rfl rfl qp_X4_37 (x_stgk ix_430 (by decide) kd_430) dX4_clear_13 ?_
  refine s_aload_n (hC.C 0 0 (Nat.le_of_ble_eq_true rfl) (Nat.le_of_ble_eq_true rfl)) 0 dX4_clear_16 rfl ?_
  refine s_iconst (hC.C 0 0 (Nat.le_of_ble_eq_true rfl) (Nat.le_of_ble_eq_true rfl)) dX4_clear_17 (v := 5) (by decide) ?_
  refine c_putI2 hC xc4 (by decide) rfl rfl qp_X4_40 (x_stgk ix_430 (by decide) kd_430) dX4_clear_18 ?_
  refine s_aload_n (hC.C 0 0 (Nat.le_of_ble_eq_true rfl) (Nat.le_of_ble_eq_true rfl)) 0 dX4_clear_21 rfl ?_
  refine s_iconst (hC.C 0 0 (Nat.le_of_ble_eq_true rfl) (Nat.le_of_ble_eq_true rfl)) dX4_clear_22 (v := 0) (by decide) ?_
  refine c_putI2 hC xc4 (by decide) rfl rfl qp_X4_43 (x_stgk ix_430 (by decide) kd_430) dX4_clear_23 ?_
  exact c_ret hC hr hlk dX4_clear_26
set_option maxRecDepth 100000 in
theorem k_X4_init_430 (hR : x_R (XC ad D cA) x_ixA h0 hA) : x_Ct (XC ad D cA) x_Z0 x_ixA h0 hA l yX4_init cX4_init 1 2 5 136 121 126 [vR 430] x_U86 x_U88 := by
  refine c_enter hR (by decide +kernel) (Nat.le_of_ble_eq_true rfl) (fun p e s m args below meth c hC hin hr hlk => ?_)
  refine s_lv (lv' := [(0, vR 430)]) [0] rfl ?_
  refine s_aload_n (hC.C 0 0 (Nat.le_of_ble_eq_true rfl) (Nat.le_of_ble_eq_true rfl)) 0 dX4_init_0 rfl ?_
  refine c_init hC (by decide) qo_X4_3 qo_inst qo_code (by decide) (Nat.le_of_ble_eq_true rfl) dX4_init_1 ?_
  refine s_aload_n (hC.C 0 0 (Nat.le_of_ble_eq_true rfl) (Nat.le_of_ble_eq_true rfl)) 0 dX4_init_4 rfl ?_
  refine s_bipush (hC.C 0 0 (Nat.le_of_ble_eq_true rfl) (Nat.le_of_ble_eq_true rfl)) dX4_init_5 (v := 10) (by decide) ?_
  refine c_newI hC ix_431 kd_431 (by decide) ln_431 (by decide +kernel) qa_int (by decide) (by decide) ⟨Nat.le_of_ble_eq_true rfl, Nat.le_of_ble_eq_true rfl⟩ dX4_init_7 ?_
  refine c_putR hC xc4 (by decide) hin rfl qp_X4_9 (x_stgk ix_430 (by decide) kd_430) dX4_init_9 ?_
  refine s_aload_n (hC.C 1 10 (Nat.le_of_ble_eq_true rfl) (Nat.le_of_ble_eq_true rfl)) 0 dX4_init_12 rfl ?_
  refine s_bipush (hC.C 1 10 (Nat.le_of_ble_eq_true rfl) (Nat.le_of_ble_eq_true rfl)) dX4_init_13 (v := 10) (by decide) ?_
  refine c_newI hC ix_432 kd_432 (by decide) ln_432 (by decide +kernel) qa_int (by decide) (by decide) ⟨Nat.le_of_ble_eq_true rfl, Nat.le_of_ble_eq_true rfl⟩ dX4_init_15 ?_
  refine c_putR hC xc4 (by decide) hin rfl qp_X4_15 (x_stgk ix_430 (by decide) kd_430) dX4_init_17 ?_
  refine s_aload_n (hC.C 2 20 (Nat.le_of_ble_eq_true rfl) (Nat.le_of_ble_eq_true rfl)) 0 dX4_init_20 rfl ?_
  refine s_bipush (hC.C 2 20 (Nat.le_of_ble_eq_true rfl) (Nat.le_of_ble_eq_true rfl)) dX4_init_21 (v := 10) (by decide) ?_
  refine c_newI hC ix_433 kd_433 (by decide) ln_433 (by decide +kernel) qa_int (by decide) (by decide) ⟨Nat.le_of_ble_eq_true rfl, Nat.le_of_ble_eq_true rfl⟩ dX4_init_23 ?_
  refine c_putR hC xc4 (by decide) hin rfl qp_X4_18 (x_stgk ix_430 (by decide) kd_430) dX4_init_25 ?_
  refine s_aload_n (hC.C 3 30 (Nat.le_of_ble_eq_true rfl) (Nat.le_of_ble_eq_true rfl)) 0 dX4_init_28 rfl ?_
  refine s_bipush (hC.C 3 30 (Nat.le_of_ble_eq_true rfl) (Nat.le_of_ble_eq_true rfl)) dX4_init_29 (v := 100) (by decide) ?_
  refine c_newI hC ix_434 kd_434 (by decide) ln_434 (by decide +kernel) qa_int (by decide) (by decide) ⟨Nat.le_of_ble_eq_true rfl, Nat.le_of_ble_eq_true rfl⟩ dX4_init_31 ?_
  refine c_putR hC xc4 (by decide) hin rfl qp_X4_21 (x_stgk ix_430 (by decide) kd_430) dX4_init_33 ?_
  refine s_aload_n (hC.C 4 130 (Nat.le_of_ble_eq_true rfl) (Nat.le_of_ble_eq_true rfl)) 0 dX4_init_36 rfl ?_
  refine s_bipush (hC.C 4 130 (Nat.le_of_ble_eq_true rfl) (Nat.le_of_ble_eq_true rfl)) dX4_init_37 (v := 6) (by decide) ?_
  refine c_newI hC ix_435 kd_435 (by decide) ln_435 (by decide +kernel) qa_int (by decide) (by decide) ⟨Nat.le_of_ble_eq_true rfl, Nat.le_of_ble_eq_true rfl⟩ dX4_init_39 ?_
  refine c_putR hC xc4 (by decide) hin rfl qp_X4_24 (x_stgk ix_430 (by decide) kd_430) dX4_init_41 ?_
  refine s_aload_n (hC.C 5 136 (Nat.le_of_ble_eq_true rfl) (Nat.le_of_ble_eq_true rfl)) 0 dX4_init_44 rfl ?_
  refine c_callV hC (x := 430) (avs := []) (st := []) (nest := false) xc4 (x_stgk ix_430 (by decide) kd_430) (k_X4_clear_430 hR) dX4_init_45 qm_X4_27 qi_X4_clear qs_X4_clear qc_X4 qd_X4_clear qh_X4_clear (by decide) ⟨Nat.le_of_ble_eq_true rfl, Nat.le_of_ble_eq_true rfl⟩ (Nat.le_of_ble_eq_true rfl) ?_
  exact c_ret hC hr hlk dX4_init_48
def x_U89 : x_M := x_sR x_U88 5 ((3 : Int32)).toNatClampNeg 430
def x_U90 : x_M := x_sR (x_sR (x_sR (x_sR (x_sR x_U89 440 0 441) 440 1 442) 440 2 443) 440 3 444) 440 4 445
def x_U91 : x_M := x_sI (x_sI (x_sI (x_sI (x_sI x_U90 440 5 (0 : Int32)) 440 6 (0 : Int32)) 440 7 (50 : Int32)) 440 8 (5 : Int32)) 440 9 (0 : Int32)
set_option maxRecDepth 100000 in
theorem k_X4_clear_440 (hR : x_R (XC ad D cA) x_ixA h0 hA) : x_Ct (XC ad D cA) x_Z0 x_ixA h0 hA l yX4_clear cX4_clear 1 1 0 0 132 132 [vR 440] x_U90 x_U91 := by
  refine c_enter hR (by decide +kernel) (Nat.le_of_ble_eq_true rfl) (fun p e s m args below meth c hC hin hr hlk => ?_)
  refine s_lv (lv' := [(0, vR 440)]) [0] rfl ?_
  refine s_aload_n (hC.C 0 0 (Nat.le_of_ble_eq_true rfl) (Nat.le_of_ble_eq_true rfl)) 0 dX4_clear_0 rfl ?_
  refine s_iconst (hC.C 0 0 (Nat.le_of_ble_eq_true rfl) (Nat.le_of_ble_eq_true rfl)) dX4_clear_1 (v := 0) (by decide) ?_
  refine c_putI2 hC xc4 (by decide) rfl rfl qp_X4_30 (x_stgk ix_440 (by decide) kd_440) dX4_clear_2 ?_
  refine s_aload_n (hC.C 0 0 (Nat.le_of_ble_eq_true rfl) (Nat.le_of_ble_eq_true rfl)) 0 dX4_clear_5 rfl ?_
  refine s_iconst (hC.C 0 0 (Nat.le_of_ble_eq_true rfl) (Nat.le_of_ble_eq_true rfl)) dX4_clear_6 (v := 0) (by decide) ?_
  refine c_putI2 hC xc4 (by decide) rfl rfl qp_X4_34 (x_stgk ix_440 (by decide) kd_440) dX4_clear_7 ?_
  refine s_aload_n (hC.C 0 0 (Nat.le_of_ble_eq_true rfl) (Nat.le_of_ble_eq_true rfl)) 0 dX4_clear_10 rfl ?_
  refine s_bipush (hC.C 0 0 (Nat.le_of_ble_eq_true rfl) (Nat.le_of_ble_eq_true rfl)) dX4_clear_11 (v := 50) (by decide) ?_
  refine c_putI2 hC xc4 (by decide) rfl rfl qp_X4_37 (x_stgk ix_440 (by decide) kd_440) dX4_clear_13 ?_
  refine s_aload_n (hC.C 0 0 (Nat.le_of_ble_eq_true rfl) (Nat.le_of_ble_eq_true rfl)) 0 dX4_clear_16 rfl ?_
  refine s_iconst (hC.C 0 0 (Nat.le_of_ble_eq_true rfl) (Nat.le_of_ble_eq_true rfl)) dX4_clear_17 (v := 5) (by decide) ?_
  refine c_putI2 hC xc4 (by decide) rfl rfl qp_X4_40 (x_stgk ix_440 (by decide) kd_440) dX4_clear_18 ?_
  refine s_aload_n (hC.C 0 0 (Nat.le_of_ble_eq_true rfl) (Nat.le_of_ble_eq_true rfl)) 0 dX4_clear_21 rfl ?_
  refine s_iconst (hC.C 0 0 (Nat.le_of_ble_eq_true rfl) (Nat.le_of_ble_eq_true rfl)) dX4_clear_22 (v := 0) (by decide) ?_
  refine c_putI2 hC xc4 (by decide) rfl rfl qp_X4_43 (x_stgk ix_440 (by decide) kd_440) dX4_clear_23 ?_
  exact c_ret hC hr hlk dX4_clear_26
set_option maxRecDepth 100000 in
theorem k_X4_init_440 (hR : x_R (XC ad D cA) x_ixA h0 hA) : x_Ct (XC ad D cA) x_Z0 x_ixA h0 hA l yX4_init cX4_init 1 2 5 136 127 132 [vR 440] x_U89 x_U91 := by
  refine c_enter hR (by decide +kernel) (Nat.le_of_ble_eq_true rfl) (fun p e s m args below meth c hC hin hr hlk => ?_)
  refine s_lv (lv' := [(0, vR 440)]) [0] rfl ?_
  refine s_aload_n (hC.C 0 0 (Nat.le_of_ble_eq_true rfl) (Nat.le_of_ble_eq_true rfl)) 0 dX4_init_0 rfl ?_
  refine c_init hC (by decide) qo_X4_3 qo_inst qo_code (by decide) (Nat.le_of_ble_eq_true rfl) dX4_init_1 ?_
  refine s_aload_n (hC.C 0 0 (Nat.le_of_ble_eq_true rfl) (Nat.le_of_ble_eq_true rfl)) 0 dX4_init_4 rfl ?_
  refine s_bipush (hC.C 0 0 (Nat.le_of_ble_eq_true rfl) (Nat.le_of_ble_eq_true rfl)) dX4_init_5 (v := 10) (by decide) ?_
  refine c_newI hC ix_441 kd_441 (by decide) ln_441 (by decide +kernel) qa_int (by decide) (by decide) ⟨Nat.le_of_ble_eq_true rfl, Nat.le_of_ble_eq_true rfl⟩ dX4_init_7 ?_
  refine c_putR hC xc4 (by decide) hin rfl qp_X4_9 (x_stgk ix_440 (by decide) kd_440) dX4_init_9 ?_
  refine s_aload_n (hC.C 1 10 (Nat.le_of_ble_eq_true rfl) (Nat.le_of_ble_eq_true rfl)) 0 dX4_init_12 rfl ?_
  refine s_bipush (hC.C 1 10 (Nat.le_of_ble_eq_true rfl) (Nat.le_of_ble_eq_true rfl)) dX4_init_13 (v := 10) (by decide) ?_
  refine c_newI hC ix_442 kd_442 (by decide) ln_442 (by decide +kernel) qa_int (by decide) (by decide) ⟨Nat.le_of_ble_eq_true rfl, Nat.le_of_ble_eq_true rfl⟩ dX4_init_15 ?_
  refine c_putR hC xc4 (by decide) hin rfl qp_X4_15 (x_stgk ix_440 (by decide) kd_440) dX4_init_17 ?_
  refine s_aload_n (hC.C 2 20 (Nat.le_of_ble_eq_true rfl) (Nat.le_of_ble_eq_true rfl)) 0 dX4_init_20 rfl ?_
  refine s_bipush (hC.C 2 20 (Nat.le_of_ble_eq_true rfl) (Nat.le_of_ble_eq_true rfl)) dX4_init_21 (v := 10) (by decide) ?_
  refine c_newI hC ix_443 kd_443 (by decide) ln_443 (by decide +kernel) qa_int (by decide) (by decide) ⟨Nat.le_of_ble_eq_true rfl, Nat.le_of_ble_eq_true rfl⟩ dX4_init_23 ?_
  refine c_putR hC xc4 (by decide) hin rfl qp_X4_18 (x_stgk ix_440 (by decide) kd_440) dX4_init_25 ?_
  refine s_aload_n (hC.C 3 30 (Nat.le_of_ble_eq_true rfl) (Nat.le_of_ble_eq_true rfl)) 0 dX4_init_28 rfl ?_
  refine s_bipush (hC.C 3 30 (Nat.le_of_ble_eq_true rfl) (Nat.le_of_ble_eq_true rfl)) dX4_init_29 (v := 100) (by decide) ?_
  refine c_newI hC ix_444 kd_444 (by decide) ln_444 (by decide +kernel) qa_int (by decide) (by decide) ⟨Nat.le_of_ble_eq_true rfl, Nat.le_of_ble_eq_true rfl⟩ dX4_init_31 ?_
  refine c_putR hC xc4 (by decide) hin rfl qp_X4_21 (x_stgk ix_440 (by decide) kd_440) dX4_init_33 ?_
  refine s_aload_n (hC.C 4 130 (Nat.le_of_ble_eq_true rfl) (Nat.le_of_ble_eq_true rfl)) 0 dX4_init_36 rfl ?_
  refine s_bipush (hC.C 4 130 (Nat.le_of_ble_eq_true rfl) (Nat.le_of_ble_eq_true rfl)) dX4_init_37 (v := 6) (by decide) ?_
  refine c_newI hC ix_445 kd_445 (by decide) ln_445 (by decide +kernel) qa_int (by decide) (by decide) ⟨Nat.le_of_ble_eq_true rfl, Nat.le_of_ble_eq_true rfl⟩ dX4_init_39 ?_
  refine c_putR hC xc4 (by decide) hin rfl qp_X4_24 (x_stgk ix_440 (by decide) kd_440) dX4_init_41 ?_
  refine s_aload_n (hC.C 5 136 (Nat.le_of_ble_eq_true rfl) (Nat.le_of_ble_eq_true rfl)) 0 dX4_init_44 rfl ?_
  refine c_callV hC (x := 440) (avs := []) (st := []) (nest := false) xc4 (x_stgk ix_440 (by decide) kd_440) (k_X4_clear_440 hR) dX4_init_45 qm_X4_27 qi_X4_clear qs_X4_clear qc_X4 qd_X4_clear qh_X4_clear (by decide) ⟨Nat.le_of_ble_eq_true rfl, Nat.le_of_ble_eq_true rfl⟩ (Nat.le_of_ble_eq_true rfl) ?_
  exact c_ret hC hr hlk dX4_init_48
def x_U92 : x_M := x_sR x_U91 5 ((4 : Int32)).toNatClampNeg 440
def x_U93 : x_M := x_sR (x_sR (x_sR (x_sR (x_sR x_U92 450 0 451) 450 1 452) 450 2 453) 450 3 454) 450 4 455
def x_U94 : x_M := x_sI (x_sI (x_sI (x_sI (x_sI x_U93 450 5 (0 : Int32)) 450 6 (0 : Int32)) 450 7 (50 : Int32)) 450 8 (5 : Int32)) 450 9 (0 : Int32)
set_option maxRecDepth 100000 in
theorem k_X4_clear_450 (hR : x_R (XC ad D cA) x_ixA h0 hA) : x_Ct (XC ad D cA) x_Z0 x_ixA h0 hA l yX4_clear cX4_clear 1 1 0 0 138 138 [vR 450] x_U93 x_U94 := by
  refine c_enter hR (by decide +kernel) (Nat.le_of_ble_eq_true rfl) (fun p e s m args below meth c hC hin hr hlk => ?_)
  refine s_lv (lv' := [(0, vR 450)]) [0] rfl ?_
  refine s_aload_n (hC.C 0 0 (Nat.le_of_ble_eq_true rfl) (Nat.le_of_ble_eq_true rfl)) 0 dX4_clear_0 rfl ?_
  refine s_iconst (hC.C 0 0 (Nat.le_of_ble_eq_true rfl) (Nat.le_of_ble_eq_true rfl)) dX4_clear_1 (v := 0) (by decide) ?_
  refine c_putI2 hC xc4 (by decide) rfl rfl qp_X4_30 (x_stgk ix_450 (by decide) kd_450) dX4_clear_2 ?_
  refine s_aload_n (hC.C 0 0 (Nat.le_of_ble_eq_true rfl) (Nat.le_of_ble_eq_true rfl)) 0 dX4_clear_5 rfl ?_
  refine s_iconst (hC.C 0 0 (Nat.le_of_ble_eq_true rfl) (Nat.le_of_ble_eq_true rfl)) dX4_clear_6 (v := 0) (by decide) ?_
  refine c_putI2 hC xc4 (by decide) rfl rfl qp_X4_34 (x_stgk ix_450 (by decide) kd_450) dX4_clear_7 ?_
  refine s_aload_n (hC.C 0 0 (Nat.le_of_ble_eq_true rfl) (Nat.le_of_ble_eq_true rfl)) 0 dX4_clear_10 rfl ?_
  refine s_bipush (hC.C 0 0 (Nat.le_of_ble_eq_true rfl) (Nat.le_of_ble_eq_true rfl)) dX4_clear_11 (v := 50) (by decide) ?_
  refine c_putI2 hC xc4 (by decide) rfl rfl qp_X4_37 (x_stgk ix_450 (by decide) kd_450) dX4_clear_13 ?_
  refine s_aload_n (hC.C 0 0 (Nat.le_of_ble_eq_true rfl) (Nat.le_of_ble_eq_true rfl)) 0 dX4_clear_16 rfl ?_
  refine s_iconst (hC.C 0 0 (Nat.le_of_ble_eq_true rfl) (Nat.le_of_ble_eq_true rfl)) dX4_clear_17 (v := 5) (by decide) ?_
  refine c_putI2 hC xc4 (by decide) rfl rfl qp_X4_40 (x_stgk ix_450 (by decide) kd_450) dX4_clear_18 ?_
  refine s_aload_n (hC.C 0 0 (Nat.le_of_ble_eq_true rfl) (Nat.le_of_ble_eq_true rfl)) 0 dX4_clear_21 rfl ?_
  refine s_iconst (hC.C 0 0 (Nat.le_of_ble_eq_true rfl) (Nat.le_of_ble_eq_true rfl)) dX4_clear_22 (v := 0) (by decide) ?_
  refine c_putI2 hC xc4 (by decide) rfl rfl qp_X4_43 (x_stgk ix_450 (by decide) kd_450) dX4_clear_23 ?_
  exact c_ret hC hr hlk dX4_clear_26
set_option maxRecDepth 100000 in
theorem k_X4_init_450 (hR : x_R (XC ad D cA) x_ixA h0 hA) : x_Ct (XC ad D cA) x_Z0 x_ixA h0 hA l yX4_init cX4_init 1 2 5 136 133 138 [vR 450] x_U92 x_U94 := by
  refine c_enter hR (by decide +kernel) (Nat.le_of_ble_eq_true rfl) (fun p e s m args below meth c hC hin hr hlk => ?_)
  refine s_lv (lv' := [(0, vR 450)]) [0] rfl ?_
  refine s_aload_n (hC.C 0 0 (Nat.le_of_ble_eq_true rfl) (Nat.le_of_ble_eq_true rfl)) 0 dX4_init_0 rfl ?_
  refine c_init hC (by decide) qo_X4_3 qo_inst qo_code (by decide) (Nat.le_of_ble_eq_true rfl) dX4_init_1 ?_
  refine s_aload_n (hC.C 0 0 (Nat.le_of_ble_eq_true rfl) (Nat.le_of_ble_eq_true rfl)) 0 dX4_init_4 rfl ?_
  refine s_bipush (hC.C 0 0 (Nat.le_of_ble_eq_true rfl) (Nat.le_of_ble_eq_true rfl)) dX4_init_5 (v := 10) (by decide) ?_
  refine c_newI hC ix_451 kd_451 (by decide) ln_451 (by decide +kernel) qa_int (by decide) (by decide) ⟨Nat.le_of_ble_eq_true rfl, Nat.le_of_ble_eq_true rfl⟩ dX4_init_7 ?_
  refine c_putR hC xc4 (by decide) hin rfl qp_X4_9 (x_stgk ix_450 (by decide) kd_450) dX4_init_9 ?_
  refine s_aload_n (hC.C 1 10 (Nat.le_of_ble_eq_true rfl) (Nat.le_of_ble_eq_true rfl)) 0 dX4_init_12 rfl ?_
  refine s_bipush (hC.C 1 10 (Nat.le_of_ble_eq_true rfl) (Nat.le_of_ble_eq_true rfl)) dX4_init_13 (v := 10) (by decide) ?_
  refine c_newI hC ix_452 kd_452 (by decide) ln_452 (by decide +kernel) qa_int (by decide) (by decide) ⟨Nat.le_of_ble_eq_true rfl, Nat.le_of_ble_eq_true rfl⟩ dX4_init_15 ?_
  refine c_putR hC xc4 (by decide) hin rfl qp_X4_15 (x_stgk ix_450 (by decide) kd_450) dX4_init_17 ?_
  refine s_aload_n (hC.C 2 20 (Nat.le_of_ble_eq_true rfl) (Nat.le_of_ble_eq_true rfl)) 0 dX4_init_20 rfl ?_
  refine s_bipush (hC.C 2 20 (Nat.le_of_ble_eq_true rfl) (Nat.le_of_ble_eq_true rfl)) dX4_init_21 (v := 10) (by decide) ?_
  refine c_newI hC ix_453 kd_453 (by decide) ln_453 (by decide +kernel) qa_int (by decide) (by decide) ⟨Nat.le_of_ble_eq_true rfl, Nat.le_of_ble_eq_true rfl⟩ dX4_init_23 ?_
  refine c_putR hC xc4 (by decide) hin rfl qp_X4_18 (x_stgk ix_450 (by decide) kd_450) dX4_init_25 ?_
  refine s_aload_n (hC.C 3 30 (Nat.le_of_ble_eq_true rfl) (Nat.le_of_ble_eq_true rfl)) 0 dX4_init_28 rfl ?_
  refine s_bipush (hC.C 3 30 (Nat.le_of_ble_eq_true rfl) (Nat.le_of_ble_eq_true rfl)) dX4_init_29 (v := 100) (by decide) ?_
  refine c_newI hC ix_454 kd_454 (by decide) ln_454 (by decide +kernel) qa_int (by decide) (by decide) ⟨Nat.le_of_ble_eq_true rfl, Nat.le_of_ble_eq_true rfl⟩ dX4_init_31 ?_
  refine c_putR hC xc4 (by decide) hin rfl qp_X4_21 (x_stgk ix_450 (by decide) kd_450) dX4_init_33 ?_
  refine s_aload_n (hC.C 4 130 (Nat.le_of_ble_eq_true rfl) (Nat.le_of_ble_eq_true rfl)) 0 dX4_init_36 rfl ?_
  refine s_bipush (hC.C 4 130 (Nat.le_of_ble_eq_true rfl) (Nat.le_of_ble_eq_true rfl)) dX4_init_37 (v := 6) (by decide) ?_
  refine c_newI hC ix_455 kd_455 (by decide) ln_455 (by decide +kernel) qa_int (by decide) (by decide) ⟨Nat.le_of_ble_eq_true rfl, Nat.le_of_ble_eq_true rfl⟩ dX4_init_39 ?_
  refine c_putR hC xc4 (by decide) hin rfl qp_X4_24 (x_stgk ix_450 (by decide) kd_450) dX4_init_41 ?_
  refine s_aload_n (hC.C 5 136 (Nat.le_of_ble_eq_true rfl) (Nat.le_of_ble_eq_true rfl)) 0 dX4_init_44 rfl ?_
  refine c_callV hC (x := 450) (avs := []) (st := []) (nest := false) xc4 (x_stgk ix_450 (by decide) kd_450) (k_X4_clear_450 hR) dX4_init_45 qm_X4_27 qi_X4_clear qs_X4_clear qc_X4 qd_X4_clear qh_X4_clear (by decide) ⟨Nat.le_of_ble_eq_true rfl, Nat.le_of_ble_eq_true rfl⟩ (Nat.le_of_ble_eq_true rfl) ?_
  exact c_ret hC hr hlk dX4_init_48
def x_U95 : x_M := x_sR x_U94 5 ((5 : Int32)).toNatClampNeg 450
def x_U96 : x_M := x_sI (x_sR x_U95 500 0 501) 500 1 (-1 : Int32)
set_option maxRecDepth 100000 in
theorem k_X8_init_500 (hR : x_R (XC ad D cA) x_ixA h0 hA) : x_Ct (XC ad D cA) x_Z0 x_ixA h0 hA l yX8_init cX8_init 1 1 1 60 139 140 [vR 500] x_U95 x_U96 := by
  refine c_enter hR (by decide +kernel) (Nat.le_of_ble_eq_true rfl) (fun p e s m args below meth c hC hin hr hlk => ?_)
  refine s_lv (lv' := [(0, vR 500)]) [0] rfl ?_
  refine s_aload_n (hC.C 0 0 (Nat.le_of_ble_eq_true rfl) (Nat.le_of_ble_eq_true rfl)) 0 dX8_init_0 rfl ?_
  refine c_init hC (by decide) qo_X8_3 qo_inst qo_code (by decide) (Nat.le_of_ble_eq_true rfl) dX8_init_1 ?_
  refine s_aload_n (hC.C 0 0 (Nat.le_of_ble_eq_true rfl) (Nat.le_of_ble_eq_true rfl)) 0 dX8_init_4 rfl ?_
  refine s_bipush (hC.C 0 0 (Nat.le_of_ble_eq_true rfl) (Nat.le_of_ble_eq_true rfl)) dX8_init_5 (v := 60) (by decide) ?_
  refine c_newJ hC ix_501 kd_501 (by decide) ln_501 (by decide +kernel) qa_long (by decide) (by decide) ⟨Nat.le_of_ble_eq_true rfl, Nat.le_of_ble_eq_true rfl⟩ dX8_init_7 ?_
  refine c_putR hC xc8 (by decide) hin rfl qp_X8_9 (x_stgk ix_500 (by decide) kd_500) dX8_init_9 ?_
  refine s_aload_n (hC.C 1 60 (Nat.le_of_ble_eq_true rfl) (Nat.le_of_ble_eq_true rfl)) 0 dX8_init_12 rfl ?_
  refine s_iconst (hC.C 1 60 (Nat.le_of_ble_eq_true rfl) (Nat.le_of_ble_eq_true rfl)) dX8_init_13 (v := -1) (by decide) ?_
  refine c_putI hC xc8 (by decide) hin rfl qp_X8_15 (x_stgk ix_500 (by decide) kd_500) dX8_init_14 ?_
  exact c_ret hC hr hlk dX8_init_17
def x_U97 : x_M := x_sR x_U96 6 ((0 : Int32)).toNatClampNeg 500
def x_U98 : x_M := x_sI (x_sR x_U97 502 0 503) 502 1 (-1 : Int32)
set_option maxRecDepth 100000 in
theorem k_X8_init_502 (hR : x_R (XC ad D cA) x_ixA h0 hA) : x_Ct (XC ad D cA) x_Z0 x_ixA h0 hA l yX8_init cX8_init 1 1 1 60 141 142 [vR 502] x_U97 x_U98 := by
  refine c_enter hR (by decide +kernel) (Nat.le_of_ble_eq_true rfl) (fun p e s m args below meth c hC hin hr hlk => ?_)
  refine s_lv (lv' := [(0, vR 502)]) [0] rfl ?_
  refine s_aload_n (hC.C 0 0 (Nat.le_of_ble_eq_true rfl) (Nat.le_of_ble_eq_true rfl)) 0 dX8_init_0 rfl ?_
  refine c_init hC (by decide) qo_X8_3 qo_inst qo_code (by decide) (Nat.le_of_ble_eq_true rfl) dX8_init_1 ?_
  refine s_aload_n (hC.C 0 0 (Nat.le_of_ble_eq_true rfl) (Nat.le_of_ble_eq_true rfl)) 0 dX8_init_4 rfl ?_
  refine s_bipush (hC.C 0 0 (Nat.le_of_ble_eq_true rfl) (Nat.le_of_ble_eq_true rfl)) dX8_init_5 (v := 60) (by decide) ?_
  refine c_newJ hC ix_503 kd_503 (by decide) ln_503 (by decide +kernel) qa_long (by decide) (by decide) ⟨Nat.le_of_ble_eq_true rfl, Nat.le_of_ble_eq_true rfl⟩ dX8_init_7 ?_
  refine c_putR hC xc8 (by decide) hin rfl qp_X8_9 (x_stgk ix_502 (by decide) kd_502) dX8_init_9 ?_
  refine s_aload_n (hC.C 1 60 (Nat.le_of_ble_eq_true rfl) (Nat.le_of_ble_eq_true rfl)) 0 dX8_init_12 rfl ?_
  refine s_iconst (hC.C 1 60 (Nat.le_of_ble_eq_true rfl) (Nat.le_of_ble_eq_true rfl)) dX8_init_13 (v := -1) (by decide) ?_
  refine c_putI hC xc8 (by decide) hin rfl qp_X8_15 (x_stgk ix_502 (by decide) kd_502) dX8_init_14 ?_
  exact c_ret hC hr hlk dX8_init_17
def x_U99 : x_M := x_sR x_U98 6 ((1 : Int32)).toNatClampNeg 502
def x_U100 : x_M := x_sI (x_sR x_U99 504 0 505) 504 1 (-1 : Int32)
set_option maxRecDepth 100000 in
theorem k_X8_init_504 (hR : x_R (XC ad D cA) x_ixA h0 hA) : x_Ct (XC ad D cA) x_Z0 x_ixA h0 hA l yX8_init cX8_init 1 1 1 60 143 144 [vR 504] x_U99 x_U100 := by
  refine c_enter hR (by decide +kernel) (Nat.le_of_ble_eq_true rfl) (fun p e s m args below meth c hC hin hr hlk => ?_)
  refine s_lv (lv' := [(0, vR 504)]) [0] rfl ?_
  refine s_aload_n (hC.C 0 0 (Nat.le_of_ble_eq_true rfl) (Nat.le_of_ble_eq_true rfl)) 0 dX8_init_0 rfl ?_
  refine c_init hC (by decide) qo_X8_3 qo_inst qo_code (by decide) (Nat.le_of_ble_eq_true rfl) dX8_init_1 ?_
  refine s_aload_n (hC.C 0 0 (Nat.le_of_ble_eq_true rfl) (Nat.le_of_ble_eq_true rfl)) 0 dX8_init_4 rfl ?_
  refine s_bipush (hC.C 0 0 (Nat.le_of_ble_eq_true rfl) (Nat.le_of_ble_eq_true rfl)) dX8_init_5 (v := 60) (by decide) ?_
  refine c_newJ hC ix_505 kd_505 (by decide) ln_505 (by decide +kernel) qa_long (by decide) (by decide) ⟨Nat.le_of_ble_eq_true rfl, Nat.le_of_ble_eq_true rfl⟩ dX8_init_7 ?_
  refine c_putR hC xc8 (by decide) hin rfl qp_X8_9 (x_stgk ix_504 (by decide) kd_504) dX8_init_9 ?_
  refine s_aload_n (hC.C 1 60 (Nat.le_of_ble_eq_true rfl) (Nat.le_of_ble_eq_true rfl)) 0 dX8_init_12 rfl ?_
  refine s_iconst (hC.C 1 60 (Nat.le_of_ble_eq_true rfl) (Nat.le_of_ble_eq_true rfl)) dX8_init_13 (v := -1) (by decide) ?_
  refine c_putI hC xc8 (by decide) hin rfl qp_X8_15 (x_stgk ix_504 (by decide) kd_504) dX8_init_14 ?_
  exact c_ret hC hr hlk dX8_init_17
def x_U101 : x_M := x_sR x_U100 6 ((2 : Int32)).toNatClampNeg 504
def x_U102 : x_M := x_sI (x_sR x_U101 506 0 507) 506 1 (-1 : Int32)
set_option maxRecDepth 100000 in
theorem k_X8_init_506 (hR : x_R (XC ad D cA) x_ixA h0 hA) : x_Ct (XC ad D cA) x_Z0 x_ixA h0 hA l yX8_init cX8_init 1 1 1 60 145 146 [vR 506] x_U101 x_U102 := by
  refine c_enter hR (by decide +kernel) (Nat.le_of_ble_eq_true rfl) (fun p e s m args below meth c hC hin hr hlk => ?_)
  refine s_lv (lv' := [(0, vR 506)]) [0] rfl ?_
  refine s_aload_n (hC.C 0 0 (Nat.le_of_ble_eq_true rfl) (Nat.le_of_ble_eq_true rfl)) 0 dX8_init_0 rfl ?_
  refine c_init hC (by decide) qo_X8_3 qo_inst qo_code (by decide) (Nat.le_of_ble_eq_true rfl) dX8_init_1 ?_
  refine s_aload_n (hC.C 0 0 (Nat.le_of_ble_eq_true rfl) (Nat.le_of_ble_eq_true rfl)) 0 dX8_init_4 rfl ?_
  refine s_bipush (hC.C 0 0 (Nat.le_of_ble_eq_true rfl) (Nat.le_of_ble_eq_true rfl)) dX8_init_5 (v := 60) (by decide) ?_
  refine c_newJ hC ix_507 kd_507 (by decide) ln_507 (by decide +kernel) qa_long (by decide) (by decide) ⟨Nat.le_of_ble_eq_true rfl, Nat.le_of_ble_eq_true rfl⟩ dX8_init_7 ?_
  refine c_putR hC xc8 (by decide) hin rfl qp_X8_9 (x_stgk ix_506 (by decide) kd_506) dX8_init_9 ?_
  refine s_aload_n (hC.C 1 60 (Nat.le_of_ble_eq_true rfl) (Nat.le_of_ble_eq_true rfl)) 0 dX8_init_12 rfl ?_
  refine s_iconst (hC.C 1 60 (Nat.le_of_ble_eq_true rfl) (Nat.le_of_ble_eq_true rfl)) dX8_init_13 (v := -1) (by decide) ?_
  refine c_putI hC xc8 (by decide) hin rfl qp_X8_15 (x_stgk ix_506 (by decide) kd_506) dX8_init_14 ?_
  exact c_ret hC hr hlk dX8_init_17
def x_U103 : x_M := x_sR x_U102 6 ((3 : Int32)).toNatClampNeg 506
def x_U104 : x_M := x_sI (x_sR x_U103 508 0 509) 508 1 (-1 : Int32)
set_option maxRecDepth 100000 in
theorem k_X8_init_508 (hR : x_R (XC ad D cA) x_ixA h0 hA) : x_Ct (XC ad D cA) x_Z0 x_ixA h0 hA l yX8_init cX8_init 1 1 1 60 147 148 [vR 508] x_U103 x_U104 := by
  refine c_enter hR (by decide +kernel) (Nat.le_of_ble_eq_true rfl) (fun p e s m args below meth c hC hin hr hlk => ?_)
  refine s_lv (lv' := [(0, vR 508)]) [0] rfl ?_
  refine s_aload_n (hC.C 0 0 (Nat.le_of_ble_eq_true rfl) (Nat.le_of_ble_eq_true rfl)) 0 dX8_init_0 rfl ?_
  refine c_init hC (by decide) qo_X8_3 qo_inst qo_code (by decide) (Nat.le_of_ble_eq_true rfl) dX8_init_1 ?_
  refine s_aload_n (hC.C 0 0 (Nat.le_of_ble_eq_true rfl) (Nat.le_of_ble_eq_true rfl)) 0 dX8_init_4 rfl ?_
  refine s_bipush (hC.C 0 0 (Nat.le_of_ble_eq_true rfl) (Nat.le_of_ble_eq_true rfl)) dX8_init_5 (v := 60) (by decide) ?_
  refine c_newJ hC ix_509 kd_509 (by decide) ln_509 (by decide +kernel) qa_long (by decide) (by decide) ⟨Nat.le_of_ble_eq_true rfl, Nat.le_of_ble_eq_true rfl⟩ dX8_init_7 ?_
  refine c_putR hC xc8 (by decide) hin rfl qp_X8_9 (x_stgk ix_508 (by decide) kd_508) dX8_init_9 ?_
  refine s_aload_n (hC.C 1 60 (Nat.le_of_ble_eq_true rfl) (Nat.le_of_ble_eq_true rfl)) 0 dX8_init_12 rfl ?_
  refine s_iconst (hC.C 1 60 (Nat.le_of_ble_eq_true rfl) (Nat.le_of_ble_eq_true rfl)) dX8_init_13 (v := -1) (by decide) ?_
  refine c_putI hC xc8 (by decide) hin rfl qp_X8_15 (x_stgk ix_508 (by decide) kd_508) dX8_init_14 ?_
  exact c_ret hC hr hlk dX8_init_17
def x_U105 : x_M := x_sR x_U104 6 ((4 : Int32)).toNatClampNeg 508
def x_U106 : x_M := x_sI (x_sR x_U105 510 0 511) 510 1 (-1 : Int32)
set_option maxRecDepth 100000 in
theorem k_X8_init_510 (hR : x_R (XC ad D cA) x_ixA h0 hA) : x_Ct (XC ad D cA) x_Z0 x_ixA h0 hA l yX8_init cX8_init 1 1 1 60 149 150 [vR 510] x_U105 x_U106 := by
  refine c_enter hR (by decide +kernel) (Nat.le_of_ble_eq_true rfl) (fun p e s m args below meth c hC hin hr hlk => ?_)
  refine s_lv (lv' := [(0, vR 510)]) [0] rfl ?_
  refine s_aload_n (hC.C 0 0 (Nat.le_of_ble_eq_true rfl) (Nat.le_of_ble_eq_true rfl)) 0 dX8_init_0 rfl ?_
  refine c_init hC (by decide) qo_X8_3 qo_inst qo_code (by decide) (Nat.le_of_ble_eq_true rfl) dX8_init_1 ?_
  refine s_aload_n (hC.C 0 0 (Nat.le_of_ble_eq_true rfl) (Nat.le_of_ble_eq_true rfl)) 0 dX8_init_4 rfl ?_
  refine s_bipush (hC.C 0 0 (Nat.le_of_ble_eq_true rfl) (Nat.le_of_ble_eq_true rfl)) dX8_init_5 (v := 60) (by decide) ?_
  refine c_newJ hC ix_511 kd_511 (by decide) ln_511 (by decide +kernel) qa_long (by decide) (by decide) ⟨Nat.le_of_ble_eq_true rfl, Nat.le_of_ble_eq_true rfl⟩ dX8_init_7 ?_
  refine c_putR hC xc8 (by decide) hin rfl qp_X8_9 (x_stgk ix_510 (by decide) kd_510) dX8_init_9 ?_
  refine s_aload_n (hC.C 1 60 (Nat.le_of_ble_eq_true rfl) (Nat.le_of_ble_eq_true rfl)) 0 dX8_init_12 rfl ?_
  refine s_iconst (hC.C 1 60 (Nat.le_of_ble_eq_true rfl) (Nat.le_of_ble_eq_true rfl)) dX8_init_13 (v := -1) (by decide) ?_
  refine c_putI hC xc8 (by decide) hin rfl qp_X8_15 (x_stgk ix_510 (by decide) kd_510) dX8_init_14 ?_
  exact c_ret hC hr hlk dX8_init_17
def x_U107 : x_M := x_sR x_U106 6 ((5 : Int32)).toNatClampNeg 510
set_option maxRecDepth 100000 in
theorem k_X9_init_1 (hR : x_R (XC ad D cA) x_ixA h0 hA) : x_Ct (XC ad D cA) x_Z0 x_ixA h0 hA l yX9_init cX9_init 2 5 148 2337 2 150 [vR 1] x_U0 x_U107 := by
  refine c_enter hR (by decide +kernel) (Nat.le_of_ble_eq_true rfl) (fun p e s m args below meth c hC hin hr hlk => ?_)
  refine s_lv (lv' := [(0, vR 1)]) [0] rfl ?_
  refine s_aload_n (hC.C 0 0 (Nat.le_of_ble_eq_true rfl) (Nat.le_of_ble_eq_true rfl)) 0 dX9_init_0 rfl ?_
  refine c_init hC (by decide) qo_X9_3 qo_inst qo_code (by decide) (Nat.le_of_ble_eq_true rfl) dX9_init_1 ?_
  refine s_aload_n (hC.C 0 0 (Nat.le_of_ble_eq_true rfl) (Nat.le_of_ble_eq_true rfl)) 0 dX9_init_4 rfl ?_
  refine c_newD hC xc7 ix_100 kd_100 (by decide) (by decide +kernel) qn_X9_9 qz_X7 qc_X7 ⟨Nat.le_of_ble_eq_true rfl, Nat.le_of_ble_eq_true rfl⟩ dX9_init_5 ?_
  refine s_dupR (hC.C 1 12 (Nat.le_of_ble_eq_true rfl) (Nat.le_of_ble_eq_true rfl)) dX9_init_8 ?_
  refine c_call hC (x := 100) (avs := []) (st := [vR 100, vR 1]) (nest := false) (by decide) (k_X7_init_100 hR) dX9_init_9 rfl qm_X9_11 qi_X7_init qc_X7 qd_X7_init qh_X7_init (by decide) ⟨Nat.le_of_ble_eq_true rfl, Nat.le_of_ble_eq_true rfl⟩ (Nat.le_of_ble_eq_true rfl) ?_
  refine c_putR hC xc9 (by decide) hin rfl qp_X9_12 (x_stgk ix_1 (by decide) kd_1) dX9_init_12 ?_
  refine s_aload_n (hC.C 31 315 (Nat.le_of_ble_eq_true rfl) (Nat.le_of_ble_eq_true rfl)) 0 dX9_init_15 rfl ?_
  refine c_newD hC xc7 ix_200 kd_200 (by decide) (by decide +kernel) qn_X9_9 qz_X7 qc_X7 ⟨Nat.le_of_ble_eq_true rfl, Nat.le_of_ble_eq_true rfl⟩ dX9_init_16 ?_
  refine s_dupR (hC.C 32 327 (Nat.le_of_ble_eq_true rfl) (Nat.le_of_ble_eq_true rfl)) dX9_init_19 ?_
  refine c_call hC (x := 200) (avs := []) (st := [vR 200, vR 1]) (nest := false) (by decide) (k_X7_init_200 hR) dX9_init_20 rfl qm_X9_11 qi_X7_init qc_X7 qd_X7_init qh_X7_init (by decide) ⟨Nat.le_of_ble_eq_true rfl, Nat.le_of_ble_eq_true rfl⟩ (Nat.le_of_ble_eq_true rfl) ?_
  refine c_putR hC xc9 (by decide) hin rfl qp_X9_18 (x_stgk ix_1 (by decide) kd_1) dX9_init_23 ?_
  refine s_aload_n (hC.C 62 630 (Nat.le_of_ble_eq_true rfl) (Nat.le_of_ble_eq_true rfl)) 0 dX9_init_26 rfl ?_
  refine c_newD hC xc2 ix_2 kd_2 (by decide) (by decide +kernel) qn_X9_21 qz_X2 qc_X2 ⟨Nat.le_of_ble_eq_true rfl, Nat.le_of_ble_eq_true rfl⟩ dX9_init_27 ?_
  refine s_dupR (hC.C 63 631 (Nat.le_of_ble_eq_true rfl) (Nat.le_of_ble_eq_true rfl)) dX9_init_30 ?_
  refine c_call hC (x := 2) (avs := []) (st := [vR 2, vR 1]) (nest := true) (by decide) (k_X2_init_2 hR) dX9_init_31 rfl qm_X9_23 qi_X2_init qc_X2 qd_X2_init qh_X2_init (by decide) ⟨Nat.le_of_ble_eq_true rfl, Nat.le_of_ble_eq_true rfl⟩ (Nat.le_of_ble_eq_true rfl) ?_
  refine c_putR hC xc9 (by decide) hin rfl qp_X9_24 (x_stgk ix_1 (by decide) kd_1) dX9_init_34 ?_
  refine s_aload_n (hC.C 94 946 (Nat.le_of_ble_eq_true rfl) (Nat.le_of_ble_eq_true rfl)) 0 dX9_init_37 rfl ?_
  refine c_newD hC xc5 ix_3 kd_3 (by decide) (by decide +kernel) qn_X9_28 qz_X5 qc_X5 ⟨Nat.le_of_ble_eq_true rfl, Nat.le_of_ble_eq_true rfl⟩ dX9_init_38 ?_
  refine s_dupR (hC.C 95 949 (Nat.le_of_ble_eq_true rfl) (Nat.le_of_ble_eq_true rfl)) dX9_init_41 ?_
  refine c_call hC (x := 3) (avs := []) (st := [vR 3, vR 1]) (nest := true) (by decide) (k_X5_init_3 hR) dX9_init_42 rfl qm_X9_30 qi_X5_init qc_X5 qd_X5_init qh_X5_init (by decide) ⟨Nat.le_of_ble_eq_true rfl, Nat.le_of_ble_eq_true rfl⟩ (Nat.le_of_ble_eq_true rfl) ?_
  refine c_putR hC xc9 (by decide) hin rfl qp_X9_31 (x_stgk ix_1 (by decide) kd_1) dX9_init_45 ?_
  refine s_aload_n (hC.C 96 1049 (Nat.le_of_ble_eq_true rfl) (Nat.le_of_ble_eq_true rfl)) 0 dX9_init_48 rfl ?_
  refine s_bipush (hC.C 96 1049 (Nat.le_of_ble_eq_true rfl) (Nat.le_of_ble_eq_true rfl)) dX9_init_49 (v := 6) (by decide) ?_
  refine c_newA hC ix_5 (kd := 24) kd_5 (Or.inr (Or.inl ⟨rfl, rfl⟩)) (by decide) ln_5 (by decide +kernel) qn_X9_35 (by decide) (by decide) ⟨Nat.le_of_ble_eq_true rfl, Nat.le_of_ble_eq_true rfl⟩ dX9_init_51 ?_
  refine c_putR hC xc9 (by decide) hin rfl qp_X9_37 (x_stgk ix_1 (by decide) kd_1) dX9_init_54 ?_
  refine s_aload_n (hC.C 97 1055 (Nat.le_of_ble_eq_true rfl) (Nat.le_of_ble_eq_true rfl)) 0 dX9_init_57 rfl ?_
  refine s_bipush (hC.C 97 1055 (Nat.le_of_ble_eq_true rfl) (Nat.le_of_ble_eq_true rfl)) dX9_init_58 (v := 6) (by decide) ?_
  refine c_newA hC ix_6 (kd := 25) kd_6 (Or.inr (Or.inr ⟨rfl, rfl⟩)) (by decide) ln_6 (by decide +kernel) qn_X9_41 (by decide) (by decide) ⟨Nat.le_of_ble_eq_true rfl, Nat.le_of_ble_eq_true rfl⟩ dX9_init_60 ?_
  refine c_putR hC xc9 (by decide) hin rfl qp_X9_43 (x_stgk ix_1 (by decide) kd_1) dX9_init_63 ?_
  refine s_aload_n (hC.C 98 1061 (Nat.le_of_ble_eq_true rfl) (Nat.le_of_ble_eq_true rfl)) 0 dX9_init_66 rfl ?_
  refine c_newD hC xc1 ix_7 kd_7 (by decide) (by decide +kernel) qn_X9_47 qz_X1 qc_X1 ⟨Nat.le_of_ble_eq_true rfl, Nat.le_of_ble_eq_true rfl⟩ dX9_init_67 ?_
  refine s_dupR (hC.C 99 1063 (Nat.le_of_ble_eq_true rfl) (Nat.le_of_ble_eq_true rfl)) dX9_init_70 ?_
  refine c_call hC (x := 7) (avs := []) (st := [vR 7, vR 1]) (nest := true) (by decide) (k_X1_init_7 hR) dX9_init_71 rfl qm_X9_49 qi_X1_init qc_X1 qd_X1_init qh_X1_init (by decide) ⟨Nat.le_of_ble_eq_true rfl, Nat.le_of_ble_eq_true rfl⟩ (Nat.le_of_ble_eq_true rfl) ?_
  refine c_putR hC xc9 (by decide) hin rfl qp_X9_50 (x_stgk ix_1 (by decide) kd_1) dX9_init_74 ?_
  refine s_iconst (hC.C 100 1083 (Nat.le_of_ble_eq_true rfl) (Nat.le_of_ble_eq_true rfl)) dX9_init_77 (v := 0) (by decide) ?_
  refine s_istore_n (hC.C 100 1083 (Nat.le_of_ble_eq_true rfl) (Nat.le_of_ble_eq_true rfl)) dX9_init_78 (by decide) (lv' := [(1, vI (0 : Int32)), (0, vR 1)]) rfl ?_
  refine s_iload_n (hC.C 100 1083 (Nat.le_of_ble_eq_true rfl) (Nat.le_of_ble_eq_true rfl)) 0 dX9_init_79 rfl ?_
  refine s_bipush (hC.C 100 1083 (Nat.le_of_ble_eq_true rfl) (Nat.le_of_ble_eq_true rfl)) dX9_init_80 (v := 6) (by decide) ?_
  refine c_ge_f (hC.C 100 1083 (Nat.le_of_ble_eq_true rfl) (Nat.le_of_ble_eq_true rfl)) dX9_init_82 (tgt := 104) (by decide) (by decide) ?_
  refine s_aload_n (hC.C 100 1083 (Nat.le_of_ble_eq_true rfl) (Nat.le_of_ble_eq_true rfl)) 1 dX9_init_85 rfl ?_
  refine c_getR hC xc9 (by decide) rfl qp_X9_37 (x_stgk ix_1 (by decide) kd_1) (w := 5) (by decide +kernel) dX9_init_86 ?_
  refine s_iload_n (hC.C 100 1083 (Nat.le_of_ble_eq_true rfl) (Nat.le_of_ble_eq_true rfl)) 0 dX9_init_89 rfl ?_
  refine c_newD hC xc4 ix_400 kd_400 (by decide) (by decide +kernel) qn_X9_35 qz_X4 qc_X4 ⟨Nat.le_of_ble_eq_true rfl, Nat.le_of_ble_eq_true rfl⟩ dX9_init_90 ?_
  refine s_dupR (hC.C 101 1093 (Nat.le_of_ble_eq_true rfl) (Nat.le_of_ble_eq_true rfl)) dX9_init_93 ?_
  refine c_call hC (x := 400) (avs := []) (st := [vR 400, vI (0 : Int32), vR 5]) (nest := false) (by decide) (k_X4_init_400 hR) dX9_init_94 rfl qm_X9_54 qi_X4_init qc_X4 qd_X4_init qh_X4_init (by decide) ⟨Nat.le_of_ble_eq_true rfl, Nat.le_of_ble_eq_true rfl⟩ (Nat.le_of_ble_eq_true rfl) ?_
  refine c_aast hC xc4 (kd := 24) (x_stgk ix_5 (by decide) kd_5) (Or.inr (Or.inl ⟨rfl, rfl⟩)) (x_stgk ix_400 (by decide) kd_400) (by rw [show x_ln (XC ad D cA) 5 = 6 from ln_5]; decide) dX9_init_97 ?_
  refine s_iinc (hC.C 106 1229 (Nat.le_of_ble_eq_true rfl) (Nat.le_of_ble_eq_true rfl)) 0 dX9_init_98 rfl (w := 1) (by decide) (by decide) (lv' := [(1, vI (1 : Int32)), (0, vR 1)]) rfl ?_
  refine s_goto (hC.C 106 1229 (Nat.le_of_ble_eq_true rfl) (Nat.le_of_ble_eq_true rfl)) dX9_init_101 (tgt := 79) (by decide) ?_
  refine s_iload_n (hC.C 106 1229 (Nat.le_of_ble_eq_true rfl) (Nat.le_of_ble_eq_true rfl)) 0 dX9_init_79 rfl ?_
  refine s_bipush (hC.C 106 1229 (Nat.le_of_ble_eq_true rfl) (Nat.le_of_ble_eq_true rfl)) dX9_init_80 (v := 6) (by decide) ?_
  refine c_ge_f (hC.C 106 1229 (Nat.le_of_ble_eq_true rfl) (Nat.le_of_ble_eq_true rfl)) dX9_init_82 (tgt := 104) (by decide) (by decide) ?_
  refine s_aload_n (hC.C 106 1229 (Nat.le_of_ble_eq_true rfl) (Nat.le_of_ble_eq_true rfl)) 1 dX9_init_85 rfl ?_
  refine c_getR hC xc9 (by decide) rfl qp_X9_37 (x_stgk ix_1 (by decide) kd_1) (w := 5) (by decide +kernel) dX9_init_86 ?_
  refine s_iload_n (hC.C 106 1229 (Nat.le_of_ble_eq_true rfl) (Nat.le_of_ble_eq_true rfl)) 0 dX9_init_89 rfl ?_
  refine c_newD hC xc4 ix_410 kd_410 (by decide) (by decide +kernel) qn_X9_35 qz_X4 qc_X4 ⟨Nat.le_of_ble_eq_true rfl, Nat.le_of_ble_eq_true rfl⟩ dX9_init_90 ?_
  refine s_dupR (hC.C 107 1239 (Nat.le_of_ble_eq_true rfl) (Nat.le_of_ble_eq_true rfl)) dX9_init_93 ?_
  refine c_call hC (x := 410) (avs := []) (st := [vR 410, vI (1 : Int32), vR 5]) (nest := false) (by decide) (k_X4_init_410 hR) dX9_init_94 rfl qm_X9_54 qi_X4_init qc_X4 qd_X4_init qh_X4_init (by decide) ⟨Nat.le_of_ble_eq_true rfl, Nat.le_of_ble_eq_true rfl⟩ (Nat.le_of_ble_eq_true rfl) ?_
  refine c_aast hC xc4 (kd := 24) (x_stgk ix_5 (by decide) kd_5) (Or.inr (Or.inl ⟨rfl, rfl⟩)) (x_stgk ix_410 (by decide) kd_410) (by rw [show x_ln (XC ad D cA) 5 = 6 from ln_5]; decide) dX9_init_97 ?_
  refine s_iinc (hC.C 112 1375 (Nat.le_of_ble_eq_true rfl) (Nat.le_of_ble_eq_true rfl)) 0 dX9_init_98 rfl (w := 1) (by decide) (by decide) (lv' := [(1, vI (2 : Int32)), (0, vR 1)]) rfl ?_
  refine s_goto (hC.C 112 1375 (Nat.le_of_ble_eq_true rfl) (Nat.le_of_ble_eq_true rfl)) dX9_init_101 (tgt := 79) (by decide) ?_
  refine s_iload_n (hC.C 112 1375 (Nat.le_of_ble_eq_true rfl) (Nat.le_of_ble_eq_true rfl)) 0 dX9_init_79 rfl ?_
  refine s_bipush (hC.C 112 1375 (Nat.le_of_ble_eq_true rfl) (Nat.le_of_ble_eq_true rfl)) dX9_init_80 (v := 6) (by decide) ?_
  refine c_ge_f (hC.C 112 1375 (Nat.le_of_ble_eq_true rfl) (Nat.le_of_ble_eq_true rfl)) dX9_init_82 (tgt := 104) (by decide) (by decide) ?_
  refine s_aload_n (hC.C 112 1375 (Nat.le_of_ble_eq_true rfl) (Nat.le_of_ble_eq_true rfl)) 1 dX9_init_85 rfl ?_
  refine c_getR hC xc9 (by decide) rfl qp_X9_37 (x_stgk ix_1 (by decide) kd_1) (w := 5) (by decide +kernel) dX9_init_86 ?_
  refine s_iload_n (hC.C 112 1375 (Nat.le_of_ble_eq_true rfl) (Nat.le_of_ble_eq_true rfl)) 0 dX9_init_89 rfl ?_
  refine c_newD hC xc4 ix_420 kd_420 (by decide) (by decide +kernel) qn_X9_35 qz_X4 qc_X4 ⟨Nat.le_of_ble_eq_true rfl, Nat.le_of_ble_eq_true rfl⟩ dX9_init_90 ?_
  refine s_dupR (hC.C 113 1385 (Nat.le_of_ble_eq_true rfl) (Nat.le_of_ble_eq_true rfl)) dX9_init_93 ?_
  refine c_call hC (x := 420) (avs := []) (st := [vR 420, vI (2 : Int32), vR 5]) (nest := false) (by decide) (k_X4_init_420 hR) dX9_init_94 rfl qm_X9_54 qi_X4_init qc_X4 qd_X4_init qh_X4_init (by decide) ⟨Nat.le_of_ble_eq_true rfl, Nat.le_of_ble_eq_true rfl⟩ (Nat.le_of_ble_eq_true rfl) ?_
  refine c_aast hC xc4 (kd := 24) (x_stgk ix_5 (by decide) kd_5) (Or.inr (Or.inl ⟨rfl, rfl⟩)) (x_stgk ix_420 (by decide) kd_420) (by rw [show x_ln (XC ad D cA) 5 = 6 from ln_5]; decide) dX9_init_97 ?_
  refine s_iinc (hC.C 118 1521 (Nat.le_of_ble_eq_true rfl) (Nat.le_of_ble_eq_true rfl)) 0 dX9_init_98 rfl (w := 1) (by decide) (by decide) (lv' := [(1, vI (3 : Int32)), (0, vR 1)]) rfl ?_
  refine s_goto (hC.C 118 1521 (Nat.le_of_ble_eq_true rfl) (Nat.le_of_ble_eq_true rfl)) dX9_init_101 (tgt := 79) (by decide) ?_
  refine s_iload_n (hC.C 118 1521 (Nat.le_of_ble_eq_true rfl) (Nat.le_of_ble_eq_true rfl)) 0 dX9_init_79 rfl ?_
  refine s_bipush (hC.C 118 1521 (Nat.le_of_ble_eq_true rfl) (Nat.le_of_ble_eq_true rfl)) dX9_init_80 (v := 6) (by decide) ?_
  refine c_ge_f (hC.C 118 1521 (Nat.le_of_ble_eq_true rfl) (Nat.le_of_ble_eq_true rfl)) dX9_init_82 (tgt := 104) (by decide) (by decide) ?_
  refine s_aload_n (hC.C 118 1521 (Nat.le_of_ble_eq_true rfl) (Nat.le_of_ble_eq_true rfl)) 1 dX9_init_85 rfl ?_
  refine c_getR hC xc9 (by decide) rfl qp_X9_37 (x_stgk ix_1 (by decide) kd_1) (w := 5) (by decide +kernel) dX9_init_86 ?_
  refine s_iload_n (hC.C 118 1521 (Nat.le_of_ble_eq_true rfl) (Nat.le_of_ble_eq_true rfl)) 0 dX9_init_89 rfl ?_
  refine c_newD hC xc4 ix_430 kd_430 (by decide) (by decide +kernel) qn_X9_35 qz_X4 qc_X4 ⟨Nat.le_of_ble_eq_true rfl, Nat.le_of_ble_eq_true rfl⟩ dX9_init_90 ?_
  refine s_dupR (hC.C 119 1531 (Nat.le_of_ble_eq_true rfl) (Nat.le_of_ble_eq_true rfl)) dX9_init_93 ?_
  refine c_call hC (x := 430) (avs := []) (st := [vR 430, vI (3 : Int32), vR 5]) (nest := false) (by decide) (k_X4_init_430 hR) dX9_init_94 rfl qm_X9_54 qi_X4_init qc_X4 qd_X4_init qh_X4_init (by decide) ⟨Nat.le_of_ble_eq_true rfl, Nat.le_of_ble_eq_true rfl⟩ (Nat.le_of_ble_eq_true rfl) ?_
  refine c_aast hC xc4 (kd := 24) (x_stgk ix_5 (by decide) kd_5) (Or.inr (Or.inl ⟨rfl, rfl⟩)) (x_stgk ix_430 (by decide) kd_430) (by rw [show x_ln (XC ad D cA) 5 = 6 from ln_5]; decide) dX9_init_97 ?_
  refine s_iinc (hC.C 124 1667 (Nat.le_of_ble_eq_true rfl) (Nat.le_of_ble_eq_true rfl)) 0 dX9_init_98 rfl (w := 1) (by decide) (by decide) (lv' := [(1, vI (4 : Int32)), (0, vR 1)]) rfl ?_
  refine s_goto (hC.C 124 1667 (Nat.le_of_ble_eq_true rfl) (Nat.le_of_ble_eq_true rfl)) dX9_init_101 (tgt := 79) (by decide) ?_
  refine s_iload_n (hC.C 124 1667 (Nat.le_of_ble_eq_true rfl) (Nat.le_of_ble_eq_true rfl)) 0 dX9_init_79 rfl ?_
  refine s_bipush (hC.C 124 1667 (Nat.le_of_ble_eq_true rfl) (Nat.le_of_ble_eq_true rfl)) dX9_init_80 (v := 6) (by decide) ?_
  refine c_ge_f (hC.C 124 1667 (Nat.le_of_ble_eq_true rfl) (Nat.le_of_ble_eq_true rfl)) dX9_init_82 (tgt := 104) (by decide) (by decide) ?_
  refine s_aload_n (hC.C 124 1667 (Nat.le_of_ble_eq_true rfl) (Nat.le_of_ble_eq_true rfl)) 1 dX9_init_85 rfl ?_
  refine c_getR hC xc9 (by decide) rfl qp_X9_37 (x_stgk ix_1 (by decide) kd_1) (w := 5) (by decide +kernel) dX9_init_86 ?_
  refine s_iload_n (hC.C 124 1667 (Nat.le_of_ble_eq_true rfl) (Nat.le_of_ble_eq_true rfl)) 0 dX9_init_89 rfl ?_
  refine c_newD hC xc4 ix_440 kd_440 (by decide) (by decide +kernel) qn_X9_35 qz_X4 qc_X4 ⟨Nat.le_of_ble_eq_true rfl, Nat.le_of_ble_eq_true rfl⟩ dX9_init_90 ?_
  refine s_dupR (hC.C 125 1677 (Nat.le_of_ble_eq_true rfl) (Nat.le_of_ble_eq_true rfl)) dX9_init_93 ?_
  refine c_call hC (x := 440) (avs := []) (st := [vR 440, vI (4 : Int32), vR 5]) (nest := false) (by decide) (k_X4_init_440 hR) dX9_init_94 rfl qm_X9_54 qi_X4_init qc_X4 qd_X4_init qh_X4_init (by decide) ⟨Nat.le_of_ble_eq_true rfl, Nat.le_of_ble_eq_true rfl⟩ (Nat.le_of_ble_eq_true rfl) ?_
  refine c_aast hC xc4 (kd := 24) (x_stgk ix_5 (by decide) kd_5) (Or.inr (Or.inl ⟨rfl, rfl⟩)) (x_stgk ix_440 (by decide) kd_440) (by rw [show x_ln (XC ad D cA) 5 = 6 from ln_5]; decide) dX9_init_97 ?_
  refine s_iinc (hC.C 130 1813 (Nat.le_of_ble_eq_true rfl) (Nat.le_of_ble_eq_true rfl)) 0 dX9_init_98 rfl (w := 1) (by decide) (by decide) (lv' := [(1, vI (5 : Int32)), (0, vR 1)]) rfl ?_
  refine s_goto (hC.C 130 1813 (Nat.le_of_ble_eq_true rfl) (Nat.le_of_ble_eq_true rfl)) dX9_init_101 (tgt := 79) (by decide) ?_
  refine s_iload_n (hC.C 130 1813 (Nat.le_of_ble_eq_true rfl) (Nat.le_of_ble_eq_true rfl)) 0 dX9_init_79 rfl ?_
  refine s_bipush (hC.C 130 1813 (Nat.le_of_ble_eq_true rfl) (Nat.le_of_ble_eq_true rfl)) dX9_init_80 (v := 6) (by decide) ?_
  refine c_ge_f (hC.C 130 1813 (Nat.le_of_ble_eq_true rfl) (Nat.le_of_ble_eq_true rfl)) dX9_init_82 (tgt := 104) (by decide) (by decide) ?_
  refine s_aload_n (hC.C 130 1813 (Nat.le_of_ble_eq_true rfl) (Nat.le_of_ble_eq_true rfl)) 1 dX9_init_85 rfl ?_
  refine c_getR hC xc9 (by decide) rfl qp_X9_37 (x_stgk ix_1 (by decide) kd_1) (w := 5) (by decide +kernel) dX9_init_86 ?_
  refine s_iload_n (hC.C 130 1813 (Nat.le_of_ble_eq_true rfl) (Nat.le_of_ble_eq_true rfl)) 0 dX9_init_89 rfl ?_
  refine c_newD hC xc4 ix_450 kd_450 (by decide) (by decide +kernel) qn_X9_35 qz_X4 qc_X4 ⟨Nat.le_of_ble_eq_true rfl, Nat.le_of_ble_eq_true rfl⟩ dX9_init_90 ?_
  refine s_dupR (hC.C 131 1823 (Nat.le_of_ble_eq_true rfl) (Nat.le_of_ble_eq_true rfl)) dX9_init_93 ?_
  refine c_call hC (x := 450) (avs := []) (st := [vR 450, vI (5 : Int32), vR 5]) (nest := false) (by decide) (k_X4_init_450 hR) dX9_init_94 rfl qm_X9_54 qi_X4_init qc_X4 qd_X4_init qh_X4_init (by decide) ⟨Nat.le_of_ble_eq_true rfl, Nat.le_of_ble_eq_true rfl⟩ (Nat.le_of_ble_eq_true rfl) ?_
  refine c_aast hC xc4 (kd := 24) (x_stgk ix_5 (by decide) kd_5) (Or.inr (Or.inl ⟨rfl, rfl⟩)) (x_stgk ix_450 (by decide) kd_450) (by rw [show x_ln (XC ad D cA) 5 = 6 from ln_5]; decide) dX9_init_97 ?_
  refine s_iinc (hC.C 136 1959 (Nat.le_of_ble_eq_true rfl) (Nat.le_of_ble_eq_true rfl)) 0 dX9_init_98 rfl (w := 1) (by decide) (by decide) (lv' := [(1, vI (6 : Int32)), (0, vR 1)]) rfl ?_
  refine s_goto (hC.C 136 1959 (Nat.le_of_ble_eq_true rfl) (Nat.le_of_ble_eq_true rfl)) dX9_init_101 (tgt := 79) (by decide) ?_
  refine s_iload_n (hC.C 136 1959 (Nat.le_of_ble_eq_true rfl) (Nat.le_of_ble_eq_true rfl)) 0 dX9_init_79 rfl ?_
  refine s_bipush (hC.C 136 1959 (Nat.le_of_ble_eq_true rfl) (Nat.le_of_ble_eq_true rfl)) dX9_init_80 (v := 6) (by decide) ?_
  refine c_ge_t (hC.C 136 1959 (Nat.le_of_ble_eq_true rfl) (Nat.le_of_ble_eq_true rfl)) dX9_init_82 (tgt := 104) (by decide) (by decide) ?_
  refine s_iconst (hC.C 136 1959 (Nat.le_of_ble_eq_true rfl) (Nat.le_of_ble_eq_true rfl)) dX9_init_104 (v := 0) (by decide) ?_
  refine s_istore_n (hC.C 136 1959 (Nat.le_of_ble_eq_true rfl) (Nat.le_of_ble_eq_true rfl)) dX9_init_105 (by decide) (lv' := [(1, vI (0 : Int32)), (0, vR 1)]) rfl ?_
  refine s_iload_n (hC.C 136 1959 (Nat.le_of_ble_eq_true rfl) (Nat.le_of_ble_eq_true rfl)) 0 dX9_init_106 rfl ?_
  refine s_bipush (hC.C 136 1959 (Nat.le_of_ble_eq_true rfl) (Nat.le_of_ble_eq_true rfl)) dX9_init_107 (v := 6) (by decide) ?_
  refine c_ge_f (hC.C 136 1959 (Nat.le_of_ble_eq_true rfl) (Nat.le_of_ble_eq_true rfl)) dX9_init_109 (tgt := 131) (by decide) (by decide) ?_
  refine s_aload_n (hC.C 136 1959 (Nat.le_of_ble_eq_true rfl) (Nat.le_of_ble_eq_true rfl)) 1 dX9_init_112 rfl ?_
  refine c_getR hC xc9 (by decide) rfl qp_X9_43 (x_stgk ix_1 (by decide) kd_1) (w := 6) (by decide +kernel) dX9_init_113 ?_
  refine s_iload_n (hC.C 136 1959 (Nat.le_of_ble_eq_true rfl) (Nat.le_of_ble_eq_true rfl)) 0 dX9_init_116 rfl ?_
  refine c_newD hC xc8 ix_500 kd_500 (by decide) (by decide +kernel) qn_X9_41 qz_X8 qc_X8 ⟨Nat.le_of_ble_eq_true rfl, Nat.le_of_ble_eq_true rfl⟩ dX9_init_117 ?_
  refine s_dupR (hC.C 137 1962 (Nat.le_of_ble_eq_true rfl) (Nat.le_of_ble_eq_true rfl)) dX9_init_120 ?_
  refine c_call hC (x := 500) (avs := []) (st := [vR 500, vI (0 : Int32), vR 6]) (nest := true) (by decide) (k_X8_init_500 hR) dX9_init_121 rfl qm_X9_55 qi_X8_init qc_X8 qd_X8_init qh_X8_init (by decide) ⟨Nat.le_of_ble_eq_true rfl, Nat.le_of_ble_eq_true rfl⟩ (Nat.le_of_ble_eq_true rfl) ?_
  refine c_aast hC xc8 (kd := 25) (x_stgk ix_6 (by decide) kd_6) (Or.inr (Or.inr ⟨rfl, rfl⟩)) (x_stgk ix_500 (by decide) kd_500) (by rw [show x_ln (XC ad D cA) 6 = 6 from ln_6]; decide) dX9_init_124 ?_
  refine s_iinc (hC.C 138 2022 (Nat.le_of_ble_eq_true rfl) (Nat.le_of_ble_eq_true rfl)) 0 dX9_init_125 rfl (w := 1) (by decide) (by decide) (lv' := [(1, vI (1 : Int32)), (0, vR 1)]) rfl ?_
  refine s_goto (hC.C 138 2022 (Nat.le_of_ble_eq_true rfl) (Nat.le_of_ble_eq_true rfl)) dX9_init_128 (tgt := 106) (by decide) ?_
  refine s_iload_n (hC.C 138 2022 (Nat.le_of_ble_eq_true rfl) (Nat.le_of_ble_eq_true rfl)) 0 dX9_init_106 rfl ?_
  refine s_bipush (hC.C 138 2022 (Nat.le_of_ble_eq_true rfl) (Nat.le_of_ble_eq_true rfl)) dX9_init_107 (v := 6) (by decide) ?_
  refine c_ge_f (hC.C 138 2022 (Nat.le_of_ble_eq_true rfl) (Nat.le_of_ble_eq_true rfl)) dX9_init_109 (tgt := 131) (by decide) (by decide) ?_
  refine s_aload_n (hC.C 138 2022 (Nat.le_of_ble_eq_true rfl) (Nat.le_of_ble_eq_true rfl)) 1 dX9_init_112 rfl ?_
  refine c_getR hC xc9 (by decide) rfl qp_X9_43 (x_stgk ix_1 (by decide) kd_1) (w := 6) (by decide +kernel) dX9_init_113 ?_
  refine s_iload_n (hC.C 138 2022 (Nat.le_of_ble_eq_true rfl) (Nat.le_of_ble_eq_true rfl)) 0 dX9_init_116 rfl ?_
  refine c_newD hC xc8 ix_502 kd_502 (by decide) (by decide +kernel) qn_X9_41 qz_X8 qc_X8 ⟨Nat.le_of_ble_eq_true rfl, Nat.le_of_ble_eq_true rfl⟩ dX9_init_117 ?_
  refine s_dupR (hC.C 139 2025 (Nat.le_of_ble_eq_true rfl) (Nat.le_of_ble_eq_true rfl)) dX9_init_120 ?_
  refine c_call hC (x := 502) (avs := []) (st := [vR 502, vI (1 : Int32), vR 6]) (nest := true) (by decide) (k_X8_init_502 hR) dX9_init_121 rfl qm_X9_55 qi_X8_init qc_X8 qd_X8_init qh_X8_init (by decide) ⟨Nat.le_of_ble_eq_true rfl, Nat.le_of_ble_eq_true rfl⟩ (Nat.le_of_ble_eq_true rfl) ?_
  refine c_aast hC xc8 (kd := 25) (x_stgk ix_6 (by decide) kd_6) (Or.inr (Or.inr ⟨rfl, rfl⟩)) (x_stgk ix_502 (by decide) kd_502) (by rw [show x_ln (XC ad D cA) 6 = 6 from ln_6]; decide) dX9_init_124 ?_
  refine s_iinc (hC.C 140 2085 (Nat.le_of_ble_eq_true rfl) (Nat.le_of_ble_eq_true rfl)) 0 dX9_init_125 rfl (w := 1) (by decide) (by decide) (lv' := [(1, vI (2 : Int32)), (0, vR 1)]) rfl ?_
  refine s_goto (hC.C 140 2085 (Nat.le_of_ble_eq_true rfl) (Nat.le_of_ble_eq_true rfl)) dX9_init_128 (tgt := 106) (by decide) ?_
  refine s_iload_n (hC.C 140 2085 (Nat.le_of_ble_eq_true rfl) (Nat.le_of_ble_eq_true rfl)) 0 dX9_init_106 rfl ?_
  refine s_bipush (hC.C 140 2085 (Nat.le_of_ble_eq_true rfl) (Nat.le_of_ble_eq_true rfl)) dX9_init_107 (v := 6) (by decide) ?_
  refine c_ge_f (hC.C 140 2085 (Nat.le_of_ble_eq_true rfl) (Nat.le_of_ble_eq_true rfl)) dX9_init_109 (tgt := 131) (by decide) (by decide) ?_
  refine s_aload_n (hC.C 140 2085 (Nat.le_of_ble_eq_true rfl) (Nat.le_of_ble_eq_true rfl)) 1 dX9_init_112 rfl ?_
  refine c_getR hC xc9 (by decide) rfl qp_X9_43 (x_stgk ix_1 (by decide) kd_1) (w := 6) (by decide +kernel) dX9_init_113 ?_
  refine s_iload_n (hC.C 140 2085 (Nat.le_of_ble_eq_true rfl) (Nat.le_of_ble_eq_true rfl)) 0 dX9_init_116 rfl ?_
  refine c_newD hC xc8 ix_504 kd_504 (by decide) (by decide +kernel) qn_X9_41 qz_X8 qc_X8 ⟨Nat.le_of_ble_eq_true rfl, Nat.le_of_ble_eq_true rfl⟩ dX9_init_117 ?_
  refine s_dupR (hC.C 141 2088 (Nat.le_of_ble_eq_true rfl) (Nat.le_of_ble_eq_true rfl)) dX9_init_120 ?_
  refine c_call hC (x := 504) (avs := []) (st := [vR 504, vI (2 : Int32), vR 6]) (nest := true) (by decide) (k_X8_init_504 hR) dX9_init_121 rfl qm_X9_55 qi_X8_init qc_X8 qd_X8_init qh_X8_init (by decide) ⟨Nat.le_of_ble_eq_true rfl, Nat.le_of_ble_eq_true rfl⟩ (Nat.le_of_ble_eq_true rfl) ?_
  refine c_aast hC xc8 (kd := 25) (x_stgk ix_6 (by decide) kd_6) (Or.inr (Or.inr ⟨rfl, rfl⟩)) (x_stgk ix_504 (by decide) kd_504) (by rw [show x_ln (XC ad D cA) 6 = 6 from ln_6]; decide) dX9_init_124 ?_
  refine s_iinc (hC.C 142 2148 (Nat.le_of_ble_eq_true rfl) (Nat.le_of_ble_eq_true rfl)) 0 dX9_init_125 rfl (w := 1) (by decide) (by decide) (lv' := [(1, vI (3 : Int32)), (0, vR 1)]) rfl ?_
  refine s_goto (hC.C 142 2148 (Nat.le_of_ble_eq_true rfl) (Nat.le_of_ble_eq_true rfl)) dX9_init_128 (tgt := 106) (by decide) ?_
  refine s_iload_n (hC.C 142 2148 (Nat.le_of_ble_eq_true rfl) (Nat.le_of_ble_eq_true rfl)) 0 dX9_init_106 rfl ?_
  refine s_bipush (hC.C 142 2148 (Nat.le_of_ble_eq_true rfl) (Nat.le_of_ble_eq_true rfl)) dX9_init_107 (v := 6) (by decide) ?_
  refine c_ge_f (hC.C 142 2148 (Nat.le_of_ble_eq_true rfl) (Nat.le_of_ble_eq_true rfl)) dX9_init_109 (tgt := 131) (by decide) (by decide) ?_
  refine s_aload_n (hC.C 142 2148 (Nat.le_of_ble_eq_true rfl) (Nat.le_of_ble_eq_true rfl)) 1 dX9_init_112 rfl ?_
  refine c_getR hC xc9 (by decide) rfl qp_X9_43 (x_stgk ix_1 (by decide) kd_1) (w := 6) (by decide +kernel) dX9_init_113 ?_
  refine s_iload_n (hC.C 142 2148 (Nat.le_of_ble_eq_true rfl) (Nat.le_of_ble_eq_true rfl)) 0 dX9_init_116 rfl ?_
  refine c_newD hC xc8 ix_506 kd_506 (by decide) (by decide +kernel) qn_X9_41 qz_X8 qc_X8 ⟨Nat.le_of_ble_eq_true rfl, Nat.le_of_ble_eq_true rfl⟩ dX9_init_117 ?_
  refine s_dupR (hC.C 143 2151 (Nat.le_of_ble_eq_true rfl) (Nat.le_of_ble_eq_true rfl)) dX9_init_120 ?_
  refine c_call hC (x := 506) (avs := []) (st := [vR 506, vI (3 : Int32), vR 6]) (nest := true) (by decide) (k_X8_init_506 hR) dX9_init_121 rfl qm_X9_55 qi_X8_init qc_X8 qd_X8_init qh_X8_init (by decide) ⟨Nat.le_of_ble_eq_true rfl, Nat.le_of_ble_eq_true rfl⟩ (Nat.le_of_ble_eq_true rfl) ?_
  refine c_aast hC xc8 (kd := 25) (x_stgk ix_6 (by decide) kd_6) (Or.inr (Or.inr ⟨rfl, rfl⟩)) (x_stgk ix_506 (by decide) kd_506) (by rw [show x_ln (XC ad D cA) 6 = 6 from ln_6]; decide) dX9_init_124 ?_
  refine s_iinc (hC.C 144 2211 (Nat.le_of_ble_eq_true rfl) (Nat.le_of_ble_eq_true rfl)) 0 dX9_init_125 rfl (w := 1) (by decide) (by decide) (lv' := [(1, vI (4 : Int32)), (0, vR 1)]) rfl ?_
  refine s_goto (hC.C 144 2211 (Nat.le_of_ble_eq_true rfl) (Nat.le_of_ble_eq_true rfl)) dX9_init_128 (tgt := 106) (by decide) ?_
  refine s_iload_n (hC.C 144 2211 (Nat.le_of_ble_eq_true rfl) (Nat.le_of_ble_eq_true rfl)) 0 dX9_init_106 rfl ?_
  refine s_bipush (hC.C 144 2211 (Nat.le_of_ble_eq_true rfl) (Nat.le_of_ble_eq_true rfl)) dX9_init_107 (v := 6) (by decide) ?_
  refine c_ge_f (hC.C 144 2211 (Nat.le_of_ble_eq_true rfl) (Nat.le_of_ble_eq_true rfl)) dX9_init_109 (tgt := 131) (by decide) (by decide) ?_
  refine s_aload_n (hC.C 144 2211 (Nat.le_of_ble_eq_true rfl) (Nat.le_of_ble_eq_true rfl)) 1 dX9_init_112 rfl ?_
  refine c_getR hC xc9 (by decide) rfl qp_X9_43 (x_stgk ix_1 (by decide) kd_1) (w := 6) (by decide +kernel) dX9_init_113 ?_
  refine s_iload_n (hC.C 144 2211 (Nat.le_of_ble_eq_true rfl) (Nat.le_of_ble_eq_true rfl)) 0 dX9_init_116 rfl ?_
  refine c_newD hC xc8 ix_508 kd_508 (by decide) (by decide +kernel) qn_X9_41 qz_X8 qc_X8 ⟨Nat.le_of_ble_eq_true rfl, Nat.le_of_ble_eq_true rfl⟩ dX9_init_117 ?_
  refine s_dupR (hC.C 145 2214 (Nat.le_of_ble_eq_true rfl) (Nat.le_of_ble_eq_true rfl)) dX9_init_120 ?_
  refine c_call hC (x := 508) (avs := []) (st := [vR 508, vI (4 : Int32), vR 6]) (nest := true) (by decide) (k_X8_init_508 hR) dX9_init_121 rfl qm_X9_55 qi_X8_init qc_X8 qd_X8_init qh_X8_init (by decide) ⟨Nat.le_of_ble_eq_true rfl, Nat.le_of_ble_eq_true rfl⟩ (Nat.le_of_ble_eq_true rfl) ?_
  refine c_aast hC xc8 (kd := 25) (x_stgk ix_6 (by decide) kd_6) (Or.inr (Or.inr ⟨rfl, rfl⟩)) (x_stgk ix_508 (by decide) kd_508) (by rw [show x_ln (XC ad D cA) 6 = 6 from ln_6]; decide) dX9_init_124 ?_
  refine s_iinc (hC.C 146 2274 (Nat.le_of_ble_eq_true rfl) (Nat.le_of_ble_eq_true rfl)) 0 dX9_init_125 rfl (w := 1) (by decide) (by decide) (lv' := [(1, vI (5 : Int32)), (0, vR 1)]) rfl ?_
  refine s_goto (hC.C 146 2274 (Nat.le_of_ble_eq_true rfl) (Nat.le_of_ble_eq_true rfl)) dX9_init_128 (tgt := 106) (by decide) ?_
  refine s_iload_n (hC.C 146 2274 (Nat.le_of_ble_eq_true rfl) (Nat.le_of_ble_eq_true rfl)) 0 dX9_init_106 rfl ?_
  refine s_bipush (hC.C 146 2274 (Nat.le_of_ble_eq_true rfl) (Nat.le_of_ble_eq_true rfl)) dX9_init_107 (v := 6) (by decide) ?_
  refine c_ge_f (hC.C 146 2274 (Nat.le_of_ble_eq_true rfl) (Nat.le_of_ble_eq_true rfl)) dX9_init_109 (tgt := 131) (by decide) (by decide) ?_
  refine s_aload_n (hC.C 146 2274 (Nat.le_of_ble_eq_true rfl) (Nat.le_of_ble_eq_true rfl)) 1 dX9_init_112 rfl ?_
  refine c_getR hC xc9 (by decide) rfl qp_X9_43 (x_stgk ix_1 (by decide) kd_1) (w := 6) (by decide +kernel) dX9_init_113 ?_
  refine s_iload_n (hC.C 146 2274 (Nat.le_of_ble_eq_true rfl) (Nat.le_of_ble_eq_true rfl)) 0 dX9_init_116 rfl ?_
  refine c_newD hC xc8 ix_510 kd_510 (by decide) (by decide +kernel) qn_X9_41 qz_X8 qc_X8 ⟨Nat.le_of_ble_eq_true rfl, Nat.le_of_ble_eq_true rfl⟩ dX9_init_117 ?_
  refine s_dupR (hC.C 147 2277 (Nat.le_of_ble_eq_true rfl) (Nat.le_of_ble_eq_true rfl)) dX9_init_120 ?_
  refine c_call hC (x := 510) (avs := []) (st := [vR 510, vI (5 : Int32), vR 6]) (nest := true) (by decide) (k_X8_init_510 hR) dX9_init_121 rfl qm_X9_55 qi_X8_init qc_X8 qd_X8_init qh_X8_init (by decide) ⟨Nat.le_of_ble_eq_true rfl, Nat.le_of_ble_eq_true rfl⟩ (Nat.le_of_ble_eq_true rfl) ?_
  refine c_aast hC xc8 (kd := 25) (x_stgk ix_6 (by decide) kd_6) (Or.inr (Or.inr ⟨rfl, rfl⟩)) (x_stgk ix_510 (by decide) kd_510) (by rw [show x_ln (XC ad D cA) 6 = 6 from ln_6]; decide) dX9_init_124 ?_
  refine s_iinc (hC.C 148 2337 (Nat.le_of_ble_eq_true rfl) (Nat.le_of_ble_eq_true rfl)) 0 dX9_init_125 rfl (w := 1) (by decide) (by decide) (lv' := [(1, vI (6 : Int32)), (0, vR 1)]) rfl ?_
  refine s_goto (hC.C 148 2337 (Nat.le_of_ble_eq_true rfl) (Nat.le_of_ble_eq_true rfl)) dX9_init_128 (tgt := 106) (by decide) ?_
  refine s_iload_n (hC.C 148 2337 (Nat.le_of_ble_eq_true rfl) (Nat.le_of_ble_eq_true rfl)) 0 dX9_init_106 rfl ?_
  refine s_bipush (hC.C 148 2337 (Nat.le_of_ble_eq_true rfl) (Nat.le_of_ble_eq_true rfl)) dX9_init_107 (v := 6) (by decide) ?_
  refine c_ge_t (hC.C 148 2337 (Nat.le_of_ble_eq_true rfl) (Nat.le_of_ble_eq_true rfl)) dX9_init_109 (tgt := 131) (by decide) (by decide) ?_
  exact c_ret hC hr hlk dX9_init_131
