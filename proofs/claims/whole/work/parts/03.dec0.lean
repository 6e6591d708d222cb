theorem dX0_init_0 : decode cX0_init 0 = .ok (.aload_n 0, 1) := by decide +kernel
theorem dX0_init_1 : decode cX0_init 1 = .ok (.invokespecial 3, 3) := by decide +kernel
theorem dX0_init_4 : decode cX0_init 4 = .ok (.aload_n 0, 1) := by decide +kernel
theorem dX0_init_5 : decode cX0_init 5 = .ok (.bipush 100, 2) := by decide +kernel
theorem dX0_init_7 : decode cX0_init 7 = .ok (.newarray .int, 2) := by decide +kernel
theorem dX0_init_9 : decode cX0_init 9 = .ok (.putfield 9, 3) := by decide +kernel
theorem dX0_init_12 : decode cX0_init 12 = .ok (.return_, 1) := by decide +kernel
theorem dX2_init_0 : decode cX2_init 0 = .ok (.aload_n 0, 1) := by decide +kernel
theorem dX2_init_1 : decode cX2_init 1 = .ok (.invokespecial 3, 3) := by decide +kernel
theorem dX2_init_4 : decode cX2_init 4 = .ok (.aload_n 0, 1) := by decide +kernel
theorem dX2_init_5 : decode cX2_init 5 = .ok (.bipush 12, 2) := by decide +kernel
theorem dX2_init_7 : decode cX2_init 7 = .ok (.newarray .int, 2) := by decide +kernel
theorem dX2_init_9 : decode cX2_init 9 = .ok (.putfield 9, 3) := by decide +kernel
theorem dX2_init_12 : decode cX2_init 12 = .ok (.aload_n 0, 1) := by decide +kernel
theorem dX2_init_13 : decode cX2_init 13 = .ok (.bipush 12, 2) := by decide +kernel
theorem dX2_init_15 : decode cX2_init 15 = .ok (.newarray .int, 2) := by decide +kernel
theorem dX2_init_17 : decode cX2_init 17 = .ok (.putfield 15, 3) := by decide +kernel
theorem dX2_init_20 : decode cX2_init 20 = .ok (.return_, 1) := by decide +kernel
theorem dX7_init_0 : decode cX7_init 0 = .ok (.aload_n 0, 1) := by decide +kernel
theorem dX7_init_1 : decode cX7_init 1 = .ok (.invokespecial 3, 3) := by decide +kernel
theorem dX7_init_4 : decode cX7_init 4 = .ok (.aload_n 0, 1) := by decide +kernel
theorem dX7_init_5 : decode cX7_init 5 = .ok (.sipush 200, 3) := by decide +kernel
theorem dX7_init_8 : decode cX7_init 8 = .ok (.newarray .int, 2) := by decide +kernel
theorem dX7_init_10 : decode cX7_init 10 = .ok (.putfield 9, 3) := by decide +kernel
theorem dX7_init_13 : decode cX7_init 13 = .ok (.aload_n 0, 1) := by decide +kernel
theorem dX7_init_14 : decode cX7_init 14 = .ok (.sipush 200, 3) := by decide +kernel
theorem dX7_init_17 : decode cX7_init 17 = .ok (.newarray .int, 2) := by decide +kernel
theorem dX7_init_19 : decode cX7_init 19 = .ok (.putfield 15, 3) := by decide +kernel
theorem dX7_init_22 : decode cX7_init 22 = .ok (.return_, 1) := by decide +kernel
theorem dX8_init_0 : decode cX8_init 0 = .ok (.aload_n 0, 1) := by decide +kernel
theorem dX8_init_1 : decode cX8_init 1 = .ok (.invokespecial 3, 3) := by decide +kernel
theorem dX8_init_4 : decode cX8_init 4 = .ok (.aload_n 0, 1) := by decide +kernel
theorem dX8_init_5 : decode cX8_init 5 = .ok (.bipush 8, 2) := by decide +kernel
theorem dX8_init_7 : decode cX8_init 7 = .ok (.newarray .int, 2) := by decide +kernel
theorem dX8_init_9 : decode cX8_init 9 = .ok (.putfield 9, 3) := by decide +kernel
theorem dX8_init_12 : decode cX8_init 12 = .ok (.aload_n 0, 1) := by decide +kernel
theorem dX8_init_13 : decode cX8_init 13 = .ok (.iconst 0, 1) := by decide +kernel
theorem dX8_init_14 : decode cX8_init 14 = .ok (.putfield 15, 3) := by decide +kernel
theorem dX8_init_17 : decode cX8_init 17 = .ok (.aload_n 0, 1) := by decide +kernel
theorem dX8_init_18 : decode cX8_init 18 = .ok (.iconst (-1), 1) := by decide +kernel
theorem dX8_init_19 : decode cX8_init 19 = .ok (.putfield 19, 3) := by decide +kernel
theorem dX8_init_22 : decode cX8_init 22 = .ok (.return_, 1) := by decide +kernel
theorem dX1_init_0 : decode cX1_init 0 = .ok (.aload_n 0, 1) := by decide +kernel
theorem dX1_init_1 : decode cX1_init 1 = .ok (.invokespecial 3, 3) := by decide +kernel
theorem dX1_init_4 : decode cX1_init 4 = .ok (.aload_n 0, 1) := by decide +kernel
theorem dX1_init_5 : decode cX1_init 5 = .ok (.bipush 12, 2) := by decide +kernel
theorem dX1_init_7 : decode cX1_init 7 = .ok (.anewarray 9, 3) := by decide +kernel
theorem dX1_init_10 : decode cX1_init 10 = .ok (.putfield 11, 3) := by decide +kernel
theorem dX1_init_13 : decode cX1_init 13 = .ok (.aload_n 0, 1) := by decide +kernel
theorem dX1_init_14 : decode cX1_init 14 = .ok (.iconst (-1), 1) := by decide +kernel
theorem dX1_init_15 : decode cX1_init 15 = .ok (.putfield 17, 3) := by decide +kernel
theorem dX1_init_18 : decode cX1_init 18 = .ok (.iconst 0, 1) := by decide +kernel
theorem dX1_init_19 : decode cX1_init 19 = .ok (.istore_n 1, 1) := by decide +kernel
theorem dX1_init_20 : decode cX1_init 20 = .ok (.iload_n 1, 1) := by decide +kernel
theorem dX1_init_21 : decode cX1_init 21 = .ok (.bipush 12, 2) := by decide +kernel
theorem dX1_init_23 : decode cX1_init 23 = .ok (.if_icmp .ge 22, 3) := by decide +kernel
theorem dX1_init_26 : decode cX1_init 26 = .ok (.aload_n 0, 1) := by decide +kernel
theorem dX1_init_27 : decode cX1_init 27 = .ok (.getfield 11, 3) := by decide +kernel
theorem dX1_init_30 : decode cX1_init 30 = .ok (.iload_n 1, 1) := by decide +kernel
theorem dX1_init_31 : decode cX1_init 31 = .ok (.new 9, 3) := by decide +kernel
theorem dX1_init_34 : decode cX1_init 34 = .ok (.dup, 1) := by decide +kernel
theorem dX1_init_35 : decode cX1_init 35 = .ok (.invokespecial 21, 3) := by decide +kernel
theorem dX1_init_38 : decode cX1_init 38 = .ok (.aastore, 1) := by decide +kernel
theorem dX1_init_39 : decode cX1_init 39 = .ok (.iinc 1 1, 3) := by decide +kernel
theorem dX1_init_42 : decode cX1_init 42 = .ok (.goto (-22), 3) := by decide +kernel
theorem dX1_init_45 : decode cX1_init 45 = .ok (.return_, 1) := by decide +kernel
theorem dX6_init_0 : decode cX6_init 0 = .ok (.aload_n 0, 1) := by decide +kernel
theorem dX6_init_1 : decode cX6_init 1 = .ok (.invokespecial 3, 3) := by decide +kernel
theorem dX6_init_4 : decode cX6_init 4 = .ok (.aload_n 0, 1) := by decide +kernel
theorem dX6_init_5 : decode cX6_init 5 = .ok (.bipush 10, 2) := by decide +kernel
theorem dX6_init_7 : decode cX6_init 7 = .ok (.newarray .int, 2) := by decide +kernel
theorem dX6_init_9 : decode cX6_init 9 = .ok (.putfield 9, 3) := by decide +kernel
theorem dX6_init_12 : decode cX6_init 12 = .ok (.aload_n 0, 1) := by decide +kernel
theorem dX6_init_13 : decode cX6_init 13 = .ok (.iconst (-1), 1) := by decide +kernel
theorem dX6_init_14 : decode cX6_init 14 = .ok (.putfield 15, 3) := by decide +kernel
theorem dX6_init_17 : decode cX6_init 17 = .ok (.return_, 1) := by decide +kernel
theorem dX10_init_0 : decode cX10_init 0 = .ok (.aload_n 0, 1) := by decide +kernel
theorem dX10_init_1 : decode cX10_init 1 = .ok (.invokespecial 1, 3) := by decide +kernel
theorem dX10_init_4 : decode cX10_init 4 = .ok (.aload_n 0, 1) := by decide +kernel
theorem dX10_init_5 : decode cX10_init 5 = .ok (.bipush 12, 2) := by decide +kernel
theorem dX10_init_7 : decode cX10_init 7 = .ok (.anewarray 9, 3) := by decide +kernel
theorem dX10_init_10 : decode cX10_init 10 = .ok (.putfield 11, 3) := by decide +kernel
theorem dX10_init_13 : decode cX10_init 13 = .ok (.aload_n 0, 1) := by decide +kernel
theorem dX10_init_14 : decode cX10_init 14 = .ok (.bipush 49, 2) := by decide +kernel
theorem dX10_init_16 : decode cX10_init 16 = .ok (.anewarray 15, 3) := by decide +kernel
theorem dX10_init_19 : decode cX10_init 19 = .ok (.putfield 17, 3) := by decide +kernel
theorem dX10_init_22 : decode cX10_init 22 = .ok (.aload_n 0, 1) := by decide +kernel
theorem dX10_init_23 : decode cX10_init 23 = .ok (.sipush 200, 3) := by decide +kernel
theorem dX10_init_26 : decode cX10_init 26 = .ok (.anewarray 21, 3) := by decide +kernel
theorem dX10_init_29 : decode cX10_init 29 = .ok (.putfield 23, 3) := by decide +kernel
theorem dX10_init_32 : decode cX10_init 32 = .ok (.aload_n 0, 1) := by decide +kernel
theorem dX10_init_33 : decode cX10_init 33 = .ok (.bipush 6, 2) := by decide +kernel
theorem dX10_init_35 : decode cX10_init 35 = .ok (.anewarray 27, 3) := by decide +kernel
theorem dX10_init_38 : decode cX10_init 38 = .ok (.putfield 29, 3) := by decide +kernel
theorem dX10_init_41 : decode cX10_init 41 = .ok (.aload_n 0, 1) := by decide +kernel
theorem dX10_init_42 : decode cX10_init 42 = .ok (.iconst 4, 1) := by decide +kernel
theorem dX10_init_43 : decode cX10_init 43 = .ok (.anewarray 33, 3) := by decide +kernel
theorem dX10_init_46 : decode cX10_init 46 = .ok (.putfield 35, 3) := by decide +kernel
theorem dX10_init_49 : decode cX10_init 49 = .ok (.aload_n 0, 1) := by decide +kernel
theorem dX10_init_50 : decode cX10_init 50 = .ok (.new 39, 3) := by decide +kernel
theorem dX10_init_53 : decode cX10_init 53 = .ok (.dup, 1) := by decide +kernel
theorem dX10_init_54 : decode cX10_init 54 = .ok (.invokespecial 41, 3) := by decide +kernel
theorem dX10_init_57 : decode cX10_init 57 = .ok (.putfield 42, 3) := by decide +kernel
theorem dX10_init_60 : decode cX10_init 60 = .ok (.aload_n 0, 1) := by decide +kernel
theorem dX10_init_61 : decode cX10_init 61 = .ok (.new 46, 3) := by decide +kernel
theorem dX10_init_64 : decode cX10_init 64 = .ok (.dup, 1) := by decide +kernel
theorem dX10_init_65 : decode cX10_init 65 = .ok (.invokespecial 48, 3) := by decide +kernel
theorem dX10_init_68 : decode cX10_init 68 = .ok (.putfield 49, 3) := by decide +kernel
theorem dX10_init_71 : decode cX10_init 71 = .ok (.aload_n 0, 1) := by decide +kernel
theorem dX10_init_72 : decode cX10_init 72 = .ok (.new 53, 3) := by decide +kernel
theorem dX10_init_75 : decode cX10_init 75 = .ok (.dup, 1) := by decide +kernel
theorem dX10_init_76 : decode cX10_init 76 = .ok (.invokespecial 55, 3) := by decide +kernel
theorem dX10_init_79 : decode cX10_init 79 = .ok (.putfield 56, 3) := by decide +kernel
theorem dX10_init_82 : decode cX10_init 82 = .ok (.aload_n 0, 1) := by decide +kernel
theorem dX10_init_83 : decode cX10_init 83 = .ok (.bipush 10, 2) := by decide +kernel
theorem dX10_init_85 : decode cX10_init 85 = .ok (.newarray .int, 2) := by decide +kernel
theorem dX10_init_87 : decode cX10_init 87 = .ok (.putfield 60, 3) := by decide +kernel
theorem dX10_init_90 : decode cX10_init 90 = .ok (.aload_n 0, 1) := by decide +kernel
theorem dX10_init_91 : decode cX10_init 91 = .ok (.bipush 7, 2) := by decide +kernel
theorem dX10_init_93 : decode cX10_init 93 = .ok (.newarray .int, 2) := by decide +kernel
theorem dX10_init_95 : decode cX10_init 95 = .ok (.putfield 64, 3) := by decide +kernel
theorem dX10_init_98 : decode cX10_init 98 = .ok (.iconst 0, 1) := by decide +kernel
theorem dX10_init_99 : decode cX10_init 99 = .ok (.istore_n 1, 1) := by decide +kernel
theorem dX10_init_100 : decode cX10_init 100 = .ok (.iload_n 1, 1) := by decide +kernel
theorem dX10_init_101 : decode cX10_init 101 = .ok (.bipush 6, 2) := by decide +kernel
theorem dX10_init_103 : decode cX10_init 103 = .ok (.if_icmp .ge 22, 3) := by decide +kernel
theorem dX10_init_106 : decode cX10_init 106 = .ok (.aload_n 0, 1) := by decide +kernel
theorem dX10_init_107 : decode cX10_init 107 = .ok (.getfield 29, 3) := by decide +kernel
theorem dX10_init_110 : decode cX10_init 110 = .ok (.iload_n 1, 1) := by decide +kernel
theorem dX10_init_111 : decode cX10_init 111 = .ok (.new 27, 3) := by decide +kernel
theorem dX10_init_114 : decode cX10_init 114 = .ok (.dup, 1) := by decide +kernel
theorem dX10_init_115 : decode cX10_init 115 = .ok (.invokespecial 67, 3) := by decide +kernel
theorem dX10_init_118 : decode cX10_init 118 = .ok (.aastore, 1) := by decide +kernel
theorem dX10_init_119 : decode cX10_init 119 = .ok (.iinc 1 1, 3) := by decide +kernel
theorem dX10_init_122 : decode cX10_init 122 = .ok (.goto (-22), 3) := by decide +kernel
theorem dX10_init_125 : decode cX10_init 125 = .ok (.iconst 0, 1) := by decide +kernel
theorem dX10_init_126 : decode cX10_init 126 = .ok (.istore_n 1, 1) := by decide +kernel
theorem dX10_init_127 : decode cX10_init 127 = .ok (.iload_n 1, 1) := by decide +kernel
theorem dX10_init_128 : decode cX10_init 128 = .ok (.iconst 4, 1) := by decide +kernel
theorem dX10_init_129 : decode cX10_init 129 = .ok (.if_icmp .ge 22, 3) := by decide +kernel
theorem dX10_init_132 : decode cX10_init 132 = .ok (.aload_n 0, 1) := by decide +kernel
theorem dX10_init_133 : decode cX10_init 133 = .ok (.getfield 35, 3) := by decide +kernel
theorem dX10_init_136 : decode cX10_init 136 = .ok (.iload_n 1, 1) := by decide +kernel
theorem dX10_init_137 : decode cX10_init 137 = .ok (.new 33, 3) := by decide +kernel
theorem dX10_init_140 : decode cX10_init 140 = .ok (.dup, 1) := by decide +kernel
theorem dX10_init_141 : decode cX10_init 141 = .ok (.invokespecial 68, 3) := by decide +kernel
theorem dX10_init_144 : decode cX10_init 144 = .ok (.aastore, 1) := by decide +kernel
theorem dX10_init_145 : decode cX10_init 145 = .ok (.iinc 1 1, 3) := by decide +kernel
theorem dX10_init_148 : decode cX10_init 148 = .ok (.goto (-21), 3) := by decide +kernel
theorem dX10_init_151 : decode cX10_init 151 = .ok (.return_, 1) := by decide +kernel
theorem dX11_init_0 : decode cX11_init 0 = .ok (.aload_n 0, 1) := by decide +kernel
theorem dX11_init_1 : decode cX11_init 1 = .ok (.invokespecial 1, 3) := by decide +kernel
theorem dX11_init_4 : decode cX11_init 4 = .ok (.aload_n 0, 1) := by decide +kernel
theorem dX11_init_5 : decode cX11_init 5 = .ok (.bipush 12, 2) := by decide +kernel
theorem dX11_init_7 : decode cX11_init 7 = .ok (.newarray .int, 2) := by decide +kernel
theorem dX11_init_9 : decode cX11_init 9 = .ok (.putfield 7, 3) := by decide +kernel
theorem dX11_init_12 : decode cX11_init 12 = .ok (.aload_n 0, 1) := by decide +kernel
theorem dX11_init_13 : decode cX11_init 13 = .ok (.bipush 12, 2) := by decide +kernel
theorem dX11_init_15 : decode cX11_init 15 = .ok (.newarray .int, 2) := by decide +kernel
theorem dX11_init_17 : decode cX11_init 17 = .ok (.putfield 13, 3) := by decide +kernel
theorem dX11_init_20 : decode cX11_init 20 = .ok (.aload_n 0, 1) := by decide +kernel
theorem dX11_init_21 : decode cX11_init 21 = .ok (.bipush 12, 2) := by decide +kernel
theorem dX11_init_23 : decode cX11_init 23 = .ok (.newarray .int, 2) := by decide +kernel
theorem dX11_init_25 : decode cX11_init 25 = .ok (.putfield 16, 3) := by decide +kernel
theorem dX11_init_28 : decode cX11_init 28 = .ok (.aload_n 0, 1) := by decide +kernel
theorem dX11_init_29 : decode cX11_init 29 = .ok (.sipush 156, 3) := by decide +kernel
theorem dX11_init_32 : decode cX11_init 32 = .ok (.newarray .boolean, 2) := by decide +kernel
theorem dX11_init_34 : decode cX11_init 34 = .ok (.putfield 19, 3) := by decide +kernel
theorem dX11_init_37 : decode cX11_init 37 = .ok (.aload_n 0, 1) := by decide +kernel
theorem dX11_init_38 : decode cX11_init 38 = .ok (.sipush 156, 3) := by decide +kernel
theorem dX11_init_41 : decode cX11_init 41 = .ok (.newarray .int, 2) := by decide +kernel
theorem dX11_init_43 : decode cX11_init 43 = .ok (.putfield 23, 3) := by decide +kernel
theorem dX11_init_46 : decode cX11_init 46 = .ok (.aload_n 0, 1) := by decide +kernel
theorem dX11_init_47 : decode cX11_init 47 = .ok (.bipush 49, 2) := by decide +kernel
theorem dX11_init_49 : decode cX11_init 49 = .ok (.newarray .boolean, 2) := by decide +kernel
theorem dX11_init_51 : decode cX11_init 51 = .ok (.putfield 26, 3) := by decide +kernel
theorem dX11_init_54 : decode cX11_init 54 = .ok (.aload_n 0, 1) := by decide +kernel
theorem dX11_init_55 : decode cX11_init 55 = .ok (.bipush 49, 2) := by decide +kernel
theorem dX11_init_57 : decode cX11_init 57 = .ok (.newarray .int, 2) := by decide +kernel
theorem dX11_init_59 : decode cX11_init 59 = .ok (.putfield 29, 3) := by decide +kernel
theorem dX11_init_62 : decode cX11_init 62 = .ok (.aload_n 0, 1) := by decide +kernel
theorem dX11_init_63 : decode cX11_init 63 = .ok (.bipush 49, 2) := by decide +kernel
theorem dX11_init_65 : decode cX11_init 65 = .ok (.newarray .int, 2) := by decide +kernel
theorem dX11_init_67 : decode cX11_init 67 = .ok (.putfield 32, 3) := by decide +kernel
theorem dX11_init_70 : decode cX11_init 70 = .ok (.aload_n 0, 1) := by decide +kernel
theorem dX11_init_71 : decode cX11_init 71 = .ok (.bipush 49, 2) := by decide +kernel
theorem dX11_init_73 : decode cX11_init 73 = .ok (.newarray .boolean, 2) := by decide +kernel
theorem dX11_init_75 : decode cX11_init 75 = .ok (.putfield 35, 3) := by decide +kernel
theorem dX11_init_78 : decode cX11_init 78 = .ok (.aload_n 0, 1) := by decide +kernel
theorem dX11_init_79 : decode cX11_init 79 = .ok (.bipush 49, 2) := by decide +kernel
theorem dX11_init_81 : decode cX11_init 81 = .ok (.newarray .int, 2) := by decide +kernel
theorem dX11_init_83 : decode cX11_init 83 = .ok (.putfield 38, 3) := by decide +kernel
theorem dX11_init_86 : decode cX11_init 86 = .ok (.aload_n 0, 1) := by decide +kernel
theorem dX11_init_87 : decode cX11_init 87 = .ok (.bipush 49, 2) := by decide +kernel
theorem dX11_init_89 : decode cX11_init 89 = .ok (.newarray .int, 2) := by decide +kernel
theorem dX11_init_91 : decode cX11_init 91 = .ok (.putfield 41, 3) := by decide +kernel
theorem dX11_init_94 : decode cX11_init 94 = .ok (.aload_n 0, 1) := by decide +kernel
theorem dX11_init_95 : decode cX11_init 95 = .ok (.bipush 49, 2) := by decide +kernel
theorem dX11_init_97 : decode cX11_init 97 = .ok (.newarray .int, 2) := by decide +kernel
theorem dX11_init_99 : decode cX11_init 99 = .ok (.putfield 44, 3) := by decide +kernel
theorem dX11_init_102 : decode cX11_init 102 = .ok (.aload_n 0, 1) := by decide +kernel
theorem dX11_init_103 : decode cX11_init 103 = .ok (.bipush 49, 2) := by decide +kernel
theorem dX11_init_105 : decode cX11_init 105 = .ok (.newarray .int, 2) := by decide +kernel
theorem dX11_init_107 : decode cX11_init 107 = .ok (.putfield 47, 3) := by decide +kernel
theorem dX11_init_110 : decode cX11_init 110 = .ok (.aload_n 0, 1) := by decide +kernel
theorem dX11_init_111 : decode cX11_init 111 = .ok (.bipush 49, 2) := by decide +kernel
theorem dX11_init_113 : decode cX11_init 113 = .ok (.newarray .int, 2) := by decide +kernel
theorem dX11_init_115 : decode cX11_init 115 = .ok (.putfield 50, 3) := by decide +kernel
theorem dX11_init_118 : decode cX11_init 118 = .ok (.aload_n 0, 1) := by decide +kernel
theorem dX11_init_119 : decode cX11_init 119 = .ok (.bipush 49, 2) := by decide +kernel
theorem dX11_init_121 : decode cX11_init 121 = .ok (.newarray .int, 2) := by decide +kernel
theorem dX11_init_123 : decode cX11_init 123 = .ok (.putfield 53, 3) := by decide +kernel
theorem dX11_init_126 : decode cX11_init 126 = .ok (.aload_n 0, 1) := by decide +kernel
theorem dX11_init_127 : decode cX11_init 127 = .ok (.bipush 49, 2) := by decide +kernel
theorem dX11_init_129 : decode cX11_init 129 = .ok (.newarray .int, 2) := by decide +kernel
theorem dX11_init_131 : decode cX11_init 131 = .ok (.putfield 56, 3) := by decide +kernel
theorem dX11_init_134 : decode cX11_init 134 = .ok (.aload_n 0, 1) := by decide +kernel
theorem dX11_init_135 : decode cX11_init 135 = .ok (.bipush 49, 2) := by decide +kernel
theorem dX11_init_137 : decode cX11_init 137 = .ok (.newarray .int, 2) := by decide +kernel
theorem dX11_init_139 : decode cX11_init 139 = .ok (.putfield 59, 3) := by decide +kernel
theorem dX11_init_142 : decode cX11_init 142 = .ok (.aload_n 0, 1) := by decide +kernel
theorem dX11_init_143 : decode cX11_init 143 = .ok (.bipush 49, 2) := by decide +kernel
theorem dX11_init_145 : decode cX11_init 145 = .ok (.newarray .int, 2) := by decide +kernel
theorem dX11_init_147 : decode cX11_init 147 = .ok (.putfield 62, 3) := by decide +kernel
theorem dX11_init_150 : decode cX11_init 150 = .ok (.aload_n 0, 1) := by decide +kernel
theorem dX11_init_151 : decode cX11_init 151 = .ok (.bipush 49, 2) := by decide +kernel
theorem dX11_init_153 : decode cX11_init 153 = .ok (.newarray .int, 2) := by decide +kernel
theorem dX11_init_155 : decode cX11_init 155 = .ok (.putfield 65, 3) := by decide +kernel
theorem dX11_init_158 : decode cX11_init 158 = .ok (.aload_n 0, 1) := by decide +kernel
theorem dX11_init_159 : decode cX11_init 159 = .ok (.sipush 200, 3) := by decide +kernel
theorem dX11_init_162 : decode cX11_init 162 = .ok (.newarray .int, 2) := by decide +kernel
theorem dX11_init_164 : decode cX11_init 164 = .ok (.putfield 68, 3) := by decide +kernel
theorem dX11_init_167 : decode cX11_init 167 = .ok (.aload_n 0, 1) := by decide +kernel
theorem dX11_init_168 : decode cX11_init 168 = .ok (.sipush 200, 3) := by decide +kernel
theorem dX11_init_171 : decode cX11_init 171 = .ok (.newarray .int, 2) := by decide +kernel
theorem dX11_init_173 : decode cX11_init 173 = .ok (.putfield 71, 3) := by decide +kernel
theorem dX11_init_176 : decode cX11_init 176 = .ok (.aload_n 0, 1) := by decide +kernel
theorem dX11_init_177 : decode cX11_init 177 = .ok (.sipush 200, 3) := by decide +kernel
theorem dX11_init_180 : decode cX11_init 180 = .ok (.newarray .int, 2) := by decide +kernel
theorem dX11_init_182 : decode cX11_init 182 = .ok (.putfield 74, 3) := by decide +kernel
theorem dX11_init_185 : decode cX11_init 185 = .ok (.aload_n 0, 1) := by decide +kernel
theorem dX11_init_186 : decode cX11_init 186 = .ok (.sipush 200, 3) := by decide +kernel
theorem dX11_init_189 : decode cX11_init 189 = .ok (.newarray .int, 2) := by decide +kernel
theorem dX11_init_191 : decode cX11_init 191 = .ok (.putfield 77, 3) := by decide +kernel
theorem dX11_init_194 : decode cX11_init 194 = .ok (.aload_n 0, 1) := by decide +kernel
theorem dX11_init_195 : decode cX11_init 195 = .ok (.sipush 200, 3) := by decide +kernel
theorem dX11_init_198 : decode cX11_init 198 = .ok (.newarray .int, 2) := by decide +kernel
theorem dX11_init_200 : decode cX11_init 200 = .ok (.putfield 80, 3) := by decide +kernel
theorem dX11_init_203 : decode cX11_init 203 = .ok (.aload_n 0, 1) := by decide +kernel
theorem dX11_init_204 : decode cX11_init 204 = .ok (.sipush 200, 3) := by decide +kernel
theorem dX11_init_207 : decode cX11_init 207 = .ok (.newarray .int, 2) := by decide +kernel
theorem dX11_init_209 : decode cX11_init 209 = .ok (.putfield 83, 3) := by decide +kernel
theorem dX11_init_212 : decode cX11_init 212 = .ok (.aload_n 0, 1) := by decide +kernel
theorem dX11_init_213 : decode cX11_init 213 = .ok (.sipush 200, 3) := by decide +kernel
theorem dX11_init_216 : decode cX11_init 216 = .ok (.newarray .int, 2) := by decide +kernel
theorem dX11_init_218 : decode cX11_init 218 = .ok (.putfield 86, 3) := by decide +kernel
theorem dX11_init_221 : decode cX11_init 221 = .ok (.aload_n 0, 1) := by decide +kernel
theorem dX11_init_222 : decode cX11_init 222 = .ok (.sipush 200, 3) := by decide +kernel
theorem dX11_init_225 : decode cX11_init 225 = .ok (.newarray .int, 2) := by decide +kernel
theorem dX11_init_227 : decode cX11_init 227 = .ok (.putfield 89, 3) := by decide +kernel
theorem dX11_init_230 : decode cX11_init 230 = .ok (.aload_n 0, 1) := by decide +kernel
theorem dX11_init_231 : decode cX11_init 231 = .ok (.sipush 200, 3) := by decide +kernel
theorem dX11_init_234 : decode cX11_init 234 = .ok (.newarray .boolean, 2) := by decide +kernel
theorem dX11_init_236 : decode cX11_init 236 = .ok (.putfield 92, 3) := by decide +kernel
theorem dX11_init_239 : decode cX11_init 239 = .ok (.aload_n 0, 1) := by decide +kernel
theorem dX11_init_240 : decode cX11_init 240 = .ok (.bipush 13, 2) := by decide +kernel
theorem dX11_init_242 : decode cX11_init 242 = .ok (.newarray .int, 2) := by decide +kernel
theorem dX11_init_244 : decode cX11_init 244 = .ok (.putfield 95, 3) := by decide +kernel
theorem dX11_init_247 : decode cX11_init 247 = .ok (.aload_n 0, 1) := by decide +kernel
theorem dX11_init_248 : decode cX11_init 248 = .ok (.bipush 13, 2) := by decide +kernel
theorem dX11_init_250 : decode cX11_init 250 = .ok (.newarray .int, 2) := by decide +kernel
theorem dX11_init_252 : decode cX11_init 252 = .ok (.putfield 98, 3) := by decide +kernel
theorem dX11_init_255 : decode cX11_init 255 = .ok (.aload_n 0, 1) := by decide +kernel
theorem dX11_init_256 : decode cX11_init 256 = .ok (.sipush 200, 3) := by decide +kernel
theorem dX11_init_259 : decode cX11_init 259 = .ok (.newarray .int, 2) := by decide +kernel
theorem dX11_init_261 : decode cX11_init 261 = .ok (.putfield 101, 3) := by decide +kernel
theorem dX11_init_264 : decode cX11_init 264 = .ok (.aload_n 0, 1) := by decide +kernel
theorem dX11_init_265 : decode cX11_init 265 = .ok (.sipush 200, 3) := by decide +kernel
theorem dX11_init_268 : decode cX11_init 268 = .ok (.newarray .int, 2) := by decide +kernel
theorem dX11_init_270 : decode cX11_init 270 = .ok (.putfield 104, 3) := by decide +kernel
theorem dX11_init_273 : decode cX11_init 273 = .ok (.aload_n 0, 1) := by decide +kernel
theorem dX11_init_274 : decode cX11_init 274 = .ok (.sipush 200, 3) := by decide +kernel
theorem dX11_init_277 : decode cX11_init 277 = .ok (.newarray .int, 2) := by decide +kernel
theorem dX11_init_279 : decode cX11_init 279 = .ok (.putfield 107, 3) := by decide +kernel
theorem dX11_init_282 : decode cX11_init 282 = .ok (.aload_n 0, 1) := by decide +kernel
theorem dX11_init_283 : decode cX11_init 283 = .ok (.sipush 200, 3) := by decide +kernel
theorem dX11_init_286 : decode cX11_init 286 = .ok (.newarray .int, 2) := by decide +kernel
theorem dX11_init_288 : decode cX11_init 288 = .ok (.putfield 110, 3) := by decide +kernel
theorem dX11_init_291 : decode cX11_init 291 = .ok (.aload_n 0, 1) := by decide +kernel
theorem dX11_init_292 : decode cX11_init 292 = .ok (.sipush 200, 3) := by decide +kernel
theorem dX11_init_295 : decode cX11_init 295 = .ok (.newarray .int, 2) := by decide +kernel
theorem dX11_init_297 : decode cX11_init 297 = .ok (.putfield 113, 3) := by decide +kernel
theorem dX11_init_300 : decode cX11_init 300 = .ok (.aload_n 0, 1) := by decide +kernel
theorem dX11_init_301 : decode cX11_init 301 = .ok (.iconst 5, 1) := by decide +kernel
theorem dX11_init_302 : decode cX11_init 302 = .ok (.newarray .int, 2) := by decide +kernel
theorem dX11_init_304 : decode cX11_init 304 = .ok (.putfield 116, 3) := by decide +kernel
theorem dX11_init_307 : decode cX11_init 307 = .ok (.aload_n 0, 1) := by decide +kernel
theorem dX11_init_308 : decode cX11_init 308 = .ok (.bipush 7, 2) := by decide +kernel
theorem dX11_init_310 : decode cX11_init 310 = .ok (.newarray .int, 2) := by decide +kernel
theorem dX11_init_312 : decode cX11_init 312 = .ok (.putfield 119, 3) := by decide +kernel
theorem dX11_init_315 : decode cX11_init 315 = .ok (.aload_n 0, 1) := by decide +kernel
theorem dX11_init_316 : decode cX11_init 316 = .ok (.bipush 6, 2) := by decide +kernel
theorem dX11_init_318 : decode cX11_init 318 = .ok (.newarray .boolean, 2) := by decide +kernel
theorem dX11_init_320 : decode cX11_init 320 = .ok (.putfield 122, 3) := by decide +kernel
theorem dX11_init_323 : decode cX11_init 323 = .ok (.aload_n 0, 1) := by decide +kernel
theorem dX11_init_324 : decode cX11_init 324 = .ok (.bipush 6, 2) := by decide +kernel
theorem dX11_init_326 : decode cX11_init 326 = .ok (.newarray .int, 2) := by decide +kernel
theorem dX11_init_328 : decode cX11_init 328 = .ok (.putfield 125, 3) := by decide +kernel
theorem dX11_init_331 : decode cX11_init 331 = .ok (.aload_n 0, 1) := by decide +kernel
theorem dX11_init_332 : decode cX11_init 332 = .ok (.bipush 72, 2) := by decide +kernel
theorem dX11_init_334 : decode cX11_init 334 = .ok (.newarray .int, 2) := by decide +kernel
theorem dX11_init_336 : decode cX11_init 336 = .ok (.putfield 128, 3) := by decide +kernel
theorem dX11_init_339 : decode cX11_init 339 = .ok (.aload_n 0, 1) := by decide +kernel
theorem dX11_init_340 : decode cX11_init 340 = .ok (.bipush 72, 2) := by decide +kernel
theorem dX11_init_342 : decode cX11_init 342 = .ok (.newarray .int, 2) := by decide +kernel
theorem dX11_init_344 : decode cX11_init 344 = .ok (.putfield 131, 3) := by decide +kernel
theorem dX11_init_347 : decode cX11_init 347 = .ok (.aload_n 0, 1) := by decide +kernel
theorem dX11_init_348 : decode cX11_init 348 = .ok (.bipush 72, 2) := by decide +kernel
theorem dX11_init_350 : decode cX11_init 350 = .ok (.newarray .int, 2) := by decide +kernel
theorem dX11_init_352 : decode cX11_init 352 = .ok (.putfield 134, 3) := by decide +kernel
theorem dX11_init_355 : decode cX11_init 355 = .ok (.aload_n 0, 1) := by decide +kernel
theorem dX11_init_356 : decode cX11_init 356 = .ok (.sipush 288, 3) := by decide +kernel
theorem dX11_init_359 : decode cX11_init 359 = .ok (.newarray .int, 2) := by decide +kernel
theorem dX11_init_361 : decode cX11_init 361 = .ok (.putfield 137, 3) := by decide +kernel
theorem dX11_init_364 : decode cX11_init 364 = .ok (.aload_n 0, 1) := by decide +kernel
theorem dX11_init_365 : decode cX11_init 365 = .ok (.sipush 576, 3) := by decide +kernel
theorem dX11_init_368 : decode cX11_init 368 = .ok (.newarray .int, 2) := by decide +kernel
theorem dX11_init_370 : decode cX11_init 370 = .ok (.putfield 140, 3) := by decide +kernel
theorem dX11_init_373 : decode cX11_init 373 = .ok (.aload_n 0, 1) := by decide +kernel
theorem dX11_init_374 : decode cX11_init 374 = .ok (.iconst 4, 1) := by decide +kernel
theorem dX11_init_375 : decode cX11_init 375 = .ok (.newarray .boolean, 2) := by decide +kernel
theorem dX11_init_377 : decode cX11_init 377 = .ok (.putfield 143, 3) := by decide +kernel
theorem dX11_init_380 : decode cX11_init 380 = .ok (.aload_n 0, 1) := by decide +kernel
theorem dX11_init_381 : decode cX11_init 381 = .ok (.iconst 4, 1) := by decide +kernel
theorem dX11_init_382 : decode cX11_init 382 = .ok (.newarray .int, 2) := by decide +kernel
theorem dX11_init_384 : decode cX11_init 384 = .ok (.putfield 146, 3) := by decide +kernel
theorem dX11_init_387 : decode cX11_init 387 = .ok (.aload_n 0, 1) := by decide +kernel
theorem dX11_init_388 : decode cX11_init 388 = .ok (.iconst 4, 1) := by decide +kernel
theorem dX11_init_389 : decode cX11_init 389 = .ok (.newarray .int, 2) := by decide +kernel
theorem dX11_init_391 : decode cX11_init 391 = .ok (.putfield 149, 3) := by decide +kernel
theorem dX11_init_394 : decode cX11_init 394 = .ok (.aload_n 0, 1) := by decide +kernel
theorem dX11_init_395 : decode cX11_init 395 = .ok (.bipush 40, 2) := by decide +kernel
theorem dX11_init_397 : decode cX11_init 397 = .ok (.newarray .int, 2) := by decide +kernel
theorem dX11_init_399 : decode cX11_init 399 = .ok (.putfield 152, 3) := by decide +kernel
theorem dX11_init_402 : decode cX11_init 402 = .ok (.aload_n 0, 1) := by decide +kernel
theorem dX11_init_403 : decode cX11_init 403 = .ok (.bipush 10, 2) := by decide +kernel
theorem dX11_init_405 : decode cX11_init 405 = .ok (.newarray .int, 2) := by decide +kernel
theorem dX11_init_407 : decode cX11_init 407 = .ok (.putfield 155, 3) := by decide +kernel
theorem dX11_init_410 : decode cX11_init 410 = .ok (.aload_n 0, 1) := by decide +kernel
theorem dX11_init_411 : decode cX11_init 411 = .ok (.bipush 12, 2) := by decide +kernel
theorem dX11_init_413 : decode cX11_init 413 = .ok (.newarray .int, 2) := by decide +kernel
theorem dX11_init_415 : decode cX11_init 415 = .ok (.putfield 158, 3) := by decide +kernel
theorem dX11_init_418 : decode cX11_init 418 = .ok (.aload_n 0, 1) := by decide +kernel
theorem dX11_init_419 : decode cX11_init 419 = .ok (.sipush 144, 3) := by decide +kernel
theorem dX11_init_422 : decode cX11_init 422 = .ok (.newarray .float, 2) := by decide +kernel
theorem dX11_init_424 : decode cX11_init 424 = .ok (.putfield 161, 3) := by decide +kernel
theorem dX11_init_427 : decode cX11_init 427 = .ok (.aload_n 0, 1) := by decide +kernel
theorem dX11_init_428 : decode cX11_init 428 = .ok (.bipush 100, 2) := by decide +kernel
theorem dX11_init_430 : decode cX11_init 430 = .ok (.newarray .int, 2) := by decide +kernel
theorem dX11_init_432 : decode cX11_init 432 = .ok (.putfield 165, 3) := by decide +kernel
theorem dX11_init_435 : decode cX11_init 435 = .ok (.return_, 1) := by decide +kernel
theorem dX5_init_0 : decode cX5_init 0 = .ok (.aload_n 0, 1) := by decide +kernel
theorem dX5_init_1 : decode cX5_init 1 = .ok (.invokespecial 3, 3) := by decide +kernel
theorem dX5_init_4 : decode cX5_init 4 = .ok (.aload_n 0, 1) := by decide +kernel
theorem dX5_init_5 : decode cX5_init 5 = .ok (.bipush 13, 2) := by decide +kernel
theorem dX5_init_7 : decode cX5_init 7 = .ok (.newarray .boolean, 2) := by decide +kernel
theorem dX5_init_9 : decode cX5_init 9 = .ok (.putfield 9, 3) := by decide +kernel
theorem dX5_init_12 : decode cX5_init 12 = .ok (.aload_n 0, 1) := by decide +kernel
theorem dX5_init_13 : decode cX5_init 13 = .ok (.bipush 13, 2) := by decide +kernel
theorem dX5_init_15 : decode cX5_init 15 = .ok (.newarray .int, 2) := by decide +kernel
theorem dX5_init_17 : decode cX5_init 17 = .ok (.putfield 15, 3) := by decide +kernel
theorem dX5_init_20 : decode cX5_init 20 = .ok (.aload_n 0, 1) := by decide +kernel
theorem dX5_init_21 : decode cX5_init 21 = .ok (.new 19, 3) := by decide +kernel
theorem dX5_init_24 : decode cX5_init 24 = .ok (.dup, 1) := by decide +kernel
theorem dX5_init_25 : decode cX5_init 25 = .ok (.invokespecial 21, 3) := by decide +kernel
theorem dX5_init_28 : decode cX5_init 28 = .ok (.putfield 22, 3) := by decide +kernel
theorem dX5_init_31 : decode cX5_init 31 = .ok (.aload_n 0, 1) := by decide +kernel
theorem dX5_init_32 : decode cX5_init 32 = .ok (.bipush 12, 2) := by decide +kernel
theorem dX5_init_34 : decode cX5_init 34 = .ok (.newarray .int, 2) := by decide +kernel
theorem dX5_init_36 : decode cX5_init 36 = .ok (.putfield 26, 3) := by decide +kernel
theorem dX5_init_39 : decode cX5_init 39 = .ok (.aload_n 0, 1) := by decide +kernel
theorem dX5_init_40 : decode cX5_init 40 = .ok (.iconst 0, 1) := by decide +kernel
theorem dX5_init_41 : decode cX5_init 41 = .ok (.putfield 29, 3) := by decide +kernel
theorem dX5_init_44 : decode cX5_init 44 = .ok (.aload_n 0, 1) := by decide +kernel
theorem dX5_init_45 : decode cX5_init 45 = .ok (.iload_n 1, 1) := by decide +kernel
theorem dX5_init_46 : decode cX5_init 46 = .ok (.putfield 33, 3) := by decide +kernel
theorem dX5_init_49 : decode cX5_init 49 = .ok (.aload_n 0, 1) := by decide +kernel
theorem dX5_init_50 : decode cX5_init 50 = .ok (.iload_n 1, 1) := by decide +kernel
theorem dX5_init_51 : decode cX5_init 51 = .ok (.putfield 36, 3) := by decide +kernel
theorem dX5_init_54 : decode cX5_init 54 = .ok (.return_, 1) := by decide +kernel
theorem dX10_race_0 : decode cX10_race 0 = .ok (.iload_n 1, 1) := by decide +kernel
theorem dX10_race_1 : decode cX10_race 1 = .ok (.iconst 2, 1) := by decide +kernel
theorem dX10_race_2 : decode cX10_race 2 = .ok (.if_icmp .lt 9, 3) := by decide +kernel
theorem dX10_race_5 : decode cX10_race 5 = .ok (.iload_n 1, 1) := by decide +kernel
theorem dX10_race_6 : decode cX10_race 6 = .ok (.bipush 12, 2) := by decide +kernel
theorem dX10_race_8 : decode cX10_race 8 = .ok (.if_icmp .le 6, 3) := by decide +kernel
theorem dX10_race_11 : decode cX10_race 11 = .ok (.bipush (-3), 2) := by decide +kernel
theorem dX10_race_13 : decode cX10_race 13 = .ok (.ireturn, 1) := by decide +kernel
theorem dX10_race_14 : decode cX10_race 14 = .ok (.aload_n 0, 1) := by decide +kernel
theorem dX10_race_15 : decode cX10_race 15 = .ok (.getfield 69, 3) := by decide +kernel
theorem dX10_race_18 : decode cX10_race 18 = .ok (.bipush 12, 2) := by decide +kernel
theorem dX10_race_20 : decode cX10_race 20 = .ok (.if_icmp .lt 6, 3) := by decide +kernel
theorem dX10_race_23 : decode cX10_race 23 = .ok (.bipush (-7), 2) := by decide +kernel
theorem dX10_race_25 : decode cX10_race 25 = .ok (.ireturn, 1) := by decide +kernel
theorem dX10_race_26 : decode cX10_race 26 = .ok (.aload_n 0, 1) := by decide +kernel
theorem dX10_race_27 : decode cX10_race 27 = .ok (.getfield 11, 3) := by decide +kernel
theorem dX10_race_30 : decode cX10_race 30 = .ok (.aload_n 0, 1) := by decide +kernel
theorem dX10_race_31 : decode cX10_race 31 = .ok (.getfield 69, 3) := by decide +kernel
theorem dX10_race_34 : decode cX10_race 34 = .ok (.new 9, 3) := by decide +kernel
theorem dX10_race_37 : decode cX10_race 37 = .ok (.dup, 1) := by decide +kernel
theorem dX10_race_38 : decode cX10_race 38 = .ok (.iload_n 1, 1) := by decide +kernel
theorem dX10_race_39 : decode cX10_race 39 = .ok (.invokespecial 73, 3) := by decide +kernel
theorem dX10_race_42 : decode cX10_race 42 = .ok (.aastore, 1) := by decide +kernel
theorem dX10_race_43 : decode cX10_race 43 = .ok (.aload_n 0, 1) := by decide +kernel
theorem dX10_race_44 : decode cX10_race 44 = .ok (.dup, 1) := by decide +kernel
theorem dX10_race_45 : decode cX10_race 45 = .ok (.getfield 69, 3) := by decide +kernel
theorem dX10_race_48 : decode cX10_race 48 = .ok (.iconst 1, 1) := by decide +kernel
theorem dX10_race_49 : decode cX10_race 49 = .ok (.iadd, 1) := by decide +kernel
theorem dX10_race_50 : decode cX10_race 50 = .ok (.putfield 69, 3) := by decide +kernel
theorem dX10_race_53 : decode cX10_race 53 = .ok (.aload_n 0, 1) := by decide +kernel
theorem dX10_race_54 : decode cX10_race 54 = .ok (.getfield 69, 3) := by decide +kernel
theorem dX10_race_57 : decode cX10_race 57 = .ok (.iconst 1, 1) := by decide +kernel
theorem dX10_race_58 : decode cX10_race 58 = .ok (.isub, 1) := by decide +kernel
theorem dX10_race_59 : decode cX10_race 59 = .ok (.ireturn, 1) := by decide +kernel
theorem dX11_in_0 : decode cX11_in 0 = .ok (.iload_n 0, 1) := by decide +kernel
theorem dX11_in_1 : decode cX11_in 1 = .ok (.iload_n 1, 1) := by decide +kernel
theorem dX11_in_2 : decode cX11_in 2 = .ok (.if_icmp .lt 12, 3) := by decide +kernel
theorem dX11_in_5 : decode cX11_in 5 = .ok (.iload_n 0, 1) := by decide +kernel
theorem dX11_in_6 : decode cX11_in 6 = .ok (.iload_n 2, 1) := by decide +kernel
theorem dX11_in_7 : decode cX11_in 7 = .ok (.if_icmp .gt 7, 3) := by decide +kernel
theorem dX11_in_10 : decode cX11_in 10 = .ok (.iconst 1, 1) := by decide +kernel
theorem dX11_in_11 : decode cX11_in 11 = .ok (.goto 4, 3) := by decide +kernel
theorem dX11_in_14 : decode cX11_in 14 = .ok (.iconst 0, 1) := by decide +kernel
theorem dX11_in_15 : decode cX11_in 15 = .ok (.ireturn, 1) := by decide +kernel
theorem dX11_race_0 : decode cX11_race 0 = .ok (.iload_n 1, 1) := by decide +kernel
theorem dX11_race_1 : decode cX11_race 1 = .ok (.iconst 2, 1) := by decide +kernel
theorem dX11_race_2 : decode cX11_race 2 = .ok (.bipush 12, 2) := by decide +kernel
theorem dX11_race_4 : decode cX11_race 4 = .ok (.invokestatic 172, 3) := by decide +kernel
theorem dX11_race_7 : decode cX11_race 7 = .ok (.ifCond .ne 6, 3) := by decide +kernel
theorem dX11_race_10 : decode cX11_race 10 = .ok (.bipush (-3), 2) := by decide +kernel
theorem dX11_race_12 : decode cX11_race 12 = .ok (.ireturn, 1) := by decide +kernel
theorem dX11_race_13 : decode cX11_race 13 = .ok (.aload_n 0, 1) := by decide +kernel
theorem dX11_race_14 : decode cX11_race 14 = .ok (.getfield 168, 3) := by decide +kernel
theorem dX11_race_17 : decode cX11_race 17 = .ok (.bipush 12, 2) := by decide +kernel
theorem dX11_race_19 : decode cX11_race 19 = .ok (.if_icmp .ne 6, 3) := by decide +kernel
theorem dX11_race_22 : decode cX11_race 22 = .ok (.bipush (-7), 2) := by decide +kernel
theorem dX11_race_24 : decode cX11_race 24 = .ok (.ireturn, 1) := by decide +kernel
theorem dX11_race_25 : decode cX11_race 25 = .ok (.aload_n 0, 1) := by decide +kernel
theorem dX11_race_26 : decode cX11_race 26 = .ok (.getfield 7, 3) := by decide +kernel
theorem dX11_race_29 : decode cX11_race 29 = .ok (.aload_n 0, 1) := by decide +kernel
theorem dX11_race_30 : decode cX11_race 30 = .ok (.getfield 168, 3) := by decide +kernel
theorem dX11_race_33 : decode cX11_race 33 = .ok (.iconst 0, 1) := by decide +kernel
theorem dX11_race_34 : decode cX11_race 34 = .ok (.iastore, 1) := by decide +kernel
theorem dX11_race_35 : decode cX11_race 35 = .ok (.aload_n 0, 1) := by decide +kernel
theorem dX11_race_36 : decode cX11_race 36 = .ok (.getfield 13, 3) := by decide +kernel
theorem dX11_race_39 : decode cX11_race 39 = .ok (.aload_n 0, 1) := by decide +kernel
theorem dX11_race_40 : decode cX11_race 40 = .ok (.getfield 168, 3) := by decide +kernel
theorem dX11_race_43 : decode cX11_race 43 = .ok (.iload_n 1, 1) := by decide +kernel
theorem dX11_race_44 : decode cX11_race 44 = .ok (.iastore, 1) := by decide +kernel
theorem dX11_race_45 : decode cX11_race 45 = .ok (.aload_n 0, 1) := by decide +kernel
theorem dX11_race_46 : decode cX11_race 46 = .ok (.getfield 16, 3) := by decide +kernel
theorem dX11_race_49 : decode cX11_race 49 = .ok (.aload_n 0, 1) := by decide +kernel
theorem dX11_race_50 : decode cX11_race 50 = .ok (.getfield 168, 3) := by decide +kernel
theorem dX11_race_53 : decode cX11_race 53 = .ok (.iconst 0, 1) := by decide +kernel
theorem dX11_race_54 : decode cX11_race 54 = .ok (.iastore, 1) := by decide +kernel
theorem dX11_race_55 : decode cX11_race 55 = .ok (.aload_n 0, 1) := by decide +kernel
theorem dX11_race_56 : decode cX11_race 56 = .ok (.dup, 1) := by decide +kernel
theorem dX11_race_57 : decode cX11_race 57 = .ok (.getfield 168, 3) := by decide +kernel
theorem dX11_race_60 : decode cX11_race 60 = .ok (.iconst 1, 1) := by decide +kernel
theorem dX11_race_61 : decode cX11_race 61 = .ok (.iadd, 1) := by decide +kernel
theorem dX11_race_62 : decode cX11_race 62 = .ok (.putfield 168, 3) := by decide +kernel
theorem dX11_race_65 : decode cX11_race 65 = .ok (.aload_n 0, 1) := by decide +kernel
theorem dX11_race_66 : decode cX11_race 66 = .ok (.getfield 168, 3) := by decide +kernel
theorem dX11_race_69 : decode cX11_race 69 = .ok (.iconst 1, 1) := by decide +kernel
theorem dX11_race_70 : decode cX11_race 70 = .ok (.isub, 1) := by decide +kernel
theorem dX11_race_71 : decode cX11_race 71 = .ok (.ireturn, 1) := by decide +kernel
theorem dX10_findRace_0 : decode cX10_findRace 0 = .ok (.iload_n 1, 1) := by decide +kernel
theorem dX10_findRace_1 : decode cX10_findRace 1 = .ok (.ifCond .lt 11, 3) := by decide +kernel
theorem dX10_findRace_4 : decode cX10_findRace 4 = .ok (.iload_n 1, 1) := by decide +kernel
theorem dX10_findRace_5 : decode cX10_findRace 5 = .ok (.aload_n 0, 1) := by decide +kernel
theorem dX10_findRace_6 : decode cX10_findRace 6 = .ok (.getfield 69, 3) := by decide +kernel
theorem dX10_findRace_9 : decode cX10_findRace 9 = .ok (.if_icmp .lt 7, 3) := by decide +kernel
theorem dX10_findRace_12 : decode cX10_findRace 12 = .ok (.aconst_null, 1) := by decide +kernel
theorem dX10_findRace_13 : decode cX10_findRace 13 = .ok (.goto 9, 3) := by decide +kernel
theorem dX10_findRace_16 : decode cX10_findRace 16 = .ok (.aload_n 0, 1) := by decide +kernel
theorem dX10_findRace_17 : decode cX10_findRace 17 = .ok (.getfield 11, 3) := by decide +kernel
theorem dX10_findRace_20 : decode cX10_findRace 20 = .ok (.iload_n 1, 1) := by decide +kernel
theorem dX10_findRace_21 : decode cX10_findRace 21 = .ok (.aaload, 1) := by decide +kernel
theorem dX10_findRace_22 : decode cX10_findRace 22 = .ok (.areturn, 1) := by decide +kernel
theorem dX10_areTerms_0 : decode cX10_areTerms 0 = .ok (.iload_n 0, 1) := by decide +kernel
theorem dX10_areTerms_1 : decode cX10_areTerms 1 = .ok (.ifCond .lt 34, 3) := by decide +kernel
theorem dX10_areTerms_4 : decode cX10_areTerms 4 = .ok (.iload_n 0, 1) := by decide +kernel
theorem dX10_areTerms_5 : decode cX10_areTerms 5 = .ok (.sipush 500, 3) := by decide +kernel
theorem dX10_areTerms_8 : decode cX10_areTerms 8 = .ok (.if_icmp .gt 27, 3) := by decide +kernel
theorem dX10_areTerms_11 : decode cX10_areTerms 11 = .ok (.iload_n 1, 1) := by decide +kernel
theorem dX10_areTerms_12 : decode cX10_areTerms 12 = .ok (.bipush 10, 2) := by decide +kernel
theorem dX10_areTerms_14 : decode cX10_areTerms 14 = .ok (.if_icmp .lt 21, 3) := by decide +kernel
theorem dX10_areTerms_17 : decode cX10_areTerms 17 = .ok (.iload_n 1, 1) := by decide +kernel
theorem dX10_areTerms_18 : decode cX10_areTerms 18 = .ok (.sipush 1000, 3) := by decide +kernel
theorem dX10_areTerms_21 : decode cX10_areTerms 21 = .ok (.if_icmp .gt 14, 3) := by decide +kernel
theorem dX10_areTerms_24 : decode cX10_areTerms 24 = .ok (.iload_n 1, 1) := by decide +kernel
theorem dX10_areTerms_25 : decode cX10_areTerms 25 = .ok (.bipush 10, 2) := by decide +kernel
theorem dX10_areTerms_27 : decode cX10_areTerms 27 = .ok (.irem, 1) := by decide +kernel
theorem dX10_areTerms_28 : decode cX10_areTerms 28 = .ok (.ifCond .ne 7, 3) := by decide +kernel
theorem dX10_areTerms_31 : decode cX10_areTerms 31 = .ok (.iconst 1, 1) := by decide +kernel
theorem dX10_areTerms_32 : decode cX10_areTerms 32 = .ok (.goto 4, 3) := by decide +kernel
theorem dX10_areTerms_35 : decode cX10_areTerms 35 = .ok (.iconst 0, 1) := by decide +kernel
theorem dX10_areTerms_36 : decode cX10_areTerms 36 = .ok (.ireturn, 1) := by decide +kernel
theorem dX10_poolNumber_0 : decode cX10_poolNumber 0 = .ok (.iconst 4, 1) := by decide +kernel
theorem dX10_poolNumber_1 : decode cX10_poolNumber 1 = .ok (.iload_n 0, 1) := by decide +kernel
theorem dX10_poolNumber_2 : decode cX10_poolNumber 2 = .ok (.imul, 1) := by decide +kernel
theorem dX10_poolNumber_3 : decode cX10_poolNumber 3 = .ok (.iload_n 1, 1) := by decide +kernel
theorem dX10_poolNumber_4 : decode cX10_poolNumber 4 = .ok (.iadd, 1) := by decide +kernel
theorem dX10_poolNumber_5 : decode cX10_poolNumber 5 = .ok (.ireturn, 1) := by decide +kernel
theorem dX4_init_0 : decode cX4_init 0 = .ok (.aload_n 0, 1) := by decide +kernel
theorem dX4_init_1 : decode cX4_init 1 = .ok (.invokespecial 3, 3) := by decide +kernel
theorem dX4_init_4 : decode cX4_init 4 = .ok (.aload_n 0, 1) := by decide +kernel
theorem dX4_init_5 : decode cX4_init 5 = .ok (.bipush 11, 2) := by decide +kernel
theorem dX4_init_7 : decode cX4_init 7 = .ok (.newarray .int, 2) := by decide +kernel
theorem dX4_init_9 : decode cX4_init 9 = .ok (.putfield 9, 3) := by decide +kernel
theorem dX4_init_12 : decode cX4_init 12 = .ok (.aload_n 0, 1) := by decide +kernel
theorem dX4_init_13 : decode cX4_init 13 = .ok (.iload_n 1, 1) := by decide +kernel
theorem dX4_init_14 : decode cX4_init 14 = .ok (.putfield 15, 3) := by decide +kernel
theorem dX4_init_17 : decode cX4_init 17 = .ok (.aload_n 0, 1) := by decide +kernel
theorem dX4_init_18 : decode cX4_init 18 = .ok (.iload_n 2, 1) := by decide +kernel
theorem dX4_init_19 : decode cX4_init 19 = .ok (.putfield 19, 3) := by decide +kernel
theorem dX4_init_22 : decode cX4_init 22 = .ok (.aload_n 0, 1) := by decide +kernel
theorem dX4_init_23 : decode cX4_init 23 = .ok (.aload_n 3, 1) := by decide +kernel
theorem dX4_init_24 : decode cX4_init 24 = .ok (.putfield 22, 3) := by decide +kernel
theorem dX4_init_27 : decode cX4_init 27 = .ok (.aload_n 0, 1) := by decide +kernel
theorem dX4_init_28 : decode cX4_init 28 = .ok (.aload 4, 2) := by decide +kernel
theorem dX4_init_30 : decode cX4_init 30 = .ok (.putfield 26, 3) := by decide +kernel
theorem dX4_init_33 : decode cX4_init 33 = .ok (.aload_n 0, 1) := by decide +kernel
theorem dX4_init_34 : decode cX4_init 34 = .ok (.iload 5, 2) := by decide +kernel
theorem dX4_init_36 : decode cX4_init 36 = .ok (.putfield 29, 3) := by decide +kernel
theorem dX4_init_39 : decode cX4_init 39 = .ok (.aload_n 0, 1) := by decide +kernel
theorem dX4_init_40 : decode cX4_init 40 = .ok (.iload 6, 2) := by decide +kernel
theorem dX4_init_42 : decode cX4_init 42 = .ok (.putfield 32, 3) := by decide +kernel
theorem dX4_init_45 : decode cX4_init 45 = .ok (.bipush 13, 2) := by decide +kernel
theorem dX4_init_47 : decode cX4_init 47 = .ok (.istore 7, 2) := by decide +kernel
theorem dX4_init_49 : decode cX4_init 49 = .ok (.iload 7, 2) := by decide +kernel
theorem dX4_init_51 : decode cX4_init 51 = .ok (.iload_n 2, 1) := by decide +kernel
theorem dX4_init_52 : decode cX4_init 52 = .ok (.ifCond .eq 8, 3) := by decide +kernel
theorem dX4_init_55 : decode cX4_init 55 = .ok (.iload_n 2, 1) := by decide +kernel
theorem dX4_init_56 : decode cX4_init 56 = .ok (.iconst 1, 1) := by decide +kernel
theorem dX4_init_57 : decode cX4_init 57 = .ok (.if_icmp .ne 7, 3) := by decide +kernel
theorem dX4_init_60 : decode cX4_init 60 = .ok (.iconst 1, 1) := by decide +kernel
theorem dX4_init_61 : decode cX4_init 61 = .ok (.goto 5, 3) := by decide +kernel
theorem dX4_init_64 : decode cX4_init 64 = .ok (.bipush 13, 2) := by decide +kernel
theorem dX4_init_66 : decode cX4_init 66 = .ok (.imul, 1) := by decide +kernel
theorem dX4_init_67 : decode cX4_init 67 = .ok (.istore 7, 2) := by decide +kernel
theorem dX4_init_69 : decode cX4_init 69 = .ok (.iload 7, 2) := by decide +kernel
theorem dX4_init_71 : decode cX4_init 71 = .ok (.iload_n 2, 1) := by decide +kernel
theorem dX4_init_72 : decode cX4_init 72 = .ok (.iconst 3, 1) := by decide +kernel
theorem dX4_init_73 : decode cX4_init 73 = .ok (.if_icmp .ne 8, 3) := by decide +kernel
theorem dX4_init_76 : decode cX4_init 76 = .ok (.bipush 13, 2) := by decide +kernel
theorem dX4_init_78 : decode cX4_init 78 = .ok (.goto 4, 3) := by decide +kernel
theorem dX4_init_81 : decode cX4_init 81 = .ok (.iconst 1, 1) := by decide +kernel
theorem dX4_init_82 : decode cX4_init 82 = .ok (.imul, 1) := by decide +kernel
theorem dX4_init_83 : decode cX4_init 83 = .ok (.istore 7, 2) := by decide +kernel
theorem dX4_init_85 : decode cX4_init 85 = .ok (.aload_n 0, 1) := by decide +kernel
theorem dX4_init_86 : decode cX4_init 86 = .ok (.iload 7, 2) := by decide +kernel
theorem dX4_init_88 : decode cX4_init 88 = .ok (.newarray .int, 2) := by decide +kernel
theorem dX4_init_90 : decode cX4_init 90 = .ok (.putfield 35, 3) := by decide +kernel
theorem dX4_init_93 : decode cX4_init 93 = .ok (.aload_n 0, 1) := by decide +kernel
theorem dX4_init_94 : decode cX4_init 94 = .ok (.iload 7, 2) := by decide +kernel
theorem dX4_init_96 : decode cX4_init 96 = .ok (.newarray .int, 2) := by decide +kernel
theorem dX4_init_98 : decode cX4_init 98 = .ok (.putfield 38, 3) := by decide +kernel
theorem dX4_init_101 : decode cX4_init 101 = .ok (.return_, 1) := by decide +kernel
theorem dX10_pool_0 : decode cX10_pool 0 = .ok (.aload_n 0, 1) := by decide +kernel
theorem dX10_pool_1 : decode cX10_pool 1 = .ok (.iload_n 1, 1) := by decide +kernel
theorem dX10_pool_2 : decode cX10_pool 2 = .ok (.invokevirtual 76, 3) := by decide +kernel
theorem dX10_pool_5 : decode cX10_pool 5 = .ok (.astore 5, 2) := by decide +kernel
theorem dX10_pool_7 : decode cX10_pool 7 = .ok (.aload 5, 2) := by decide +kernel
theorem dX10_pool_9 : decode cX10_pool 9 = .ok (.ifnonnull 6, 3) := by decide +kernel
theorem dX10_pool_12 : decode cX10_pool 12 = .ok (.bipush (-2), 2) := by decide +kernel
theorem dX10_pool_14 : decode cX10_pool 14 = .ok (.ireturn, 1) := by decide +kernel
theorem dX10_pool_15 : decode cX10_pool 15 = .ok (.iload_n 2, 1) := by decide +kernel
theorem dX10_pool_16 : decode cX10_pool 16 = .ok (.ifCond .lt 17, 3) := by decide +kernel
theorem dX10_pool_19 : decode cX10_pool 19 = .ok (.iload_n 2, 1) := by decide +kernel
theorem dX10_pool_20 : decode cX10_pool 20 = .ok (.iconst 3, 1) := by decide +kernel
theorem dX10_pool_21 : decode cX10_pool 21 = .ok (.if_icmp .gt 12, 3) := by decide +kernel
theorem dX10_pool_24 : decode cX10_pool 24 = .ok (.iload_n 3, 1) := by decide +kernel
theorem dX10_pool_25 : decode cX10_pool 25 = .ok (.iload 4, 2) := by decide +kernel
theorem dX10_pool_27 : decode cX10_pool 27 = .ok (.invokestatic 80, 3) := by decide +kernel
theorem dX10_pool_30 : decode cX10_pool 30 = .ok (.ifCond .ne 6, 3) := by decide +kernel
theorem dX10_pool_33 : decode cX10_pool 33 = .ok (.bipush (-3), 2) := by decide +kernel
theorem dX10_pool_35 : decode cX10_pool 35 = .ok (.ireturn, 1) := by decide +kernel
theorem dX10_pool_36 : decode cX10_pool 36 = .ok (.iload_n 1, 1) := by decide +kernel
theorem dX10_pool_37 : decode cX10_pool 37 = .ok (.iload_n 2, 1) := by decide +kernel
theorem dX10_pool_38 : decode cX10_pool 38 = .ok (.invokestatic 84, 3) := by decide +kernel
theorem dX10_pool_41 : decode cX10_pool 41 = .ok (.istore 6, 2) := by decide +kernel
theorem dX10_pool_43 : decode cX10_pool 43 = .ok (.aload_n 0, 1) := by decide +kernel
theorem dX10_pool_44 : decode cX10_pool 44 = .ok (.getfield 17, 3) := by decide +kernel
theorem dX10_pool_47 : decode cX10_pool 47 = .ok (.iload 6, 2) := by decide +kernel
theorem dX10_pool_49 : decode cX10_pool 49 = .ok (.aaload, 1) := by decide +kernel
theorem dX10_pool_50 : decode cX10_pool 50 = .ok (.ifnull 6, 3) := by decide +kernel
theorem dX10_pool_53 : decode cX10_pool 53 = .ok (.bipush (-4), 2) := by decide +kernel
theorem dX10_pool_55 : decode cX10_pool 55 = .ok (.ireturn, 1) := by decide +kernel
theorem dX10_pool_56 : decode cX10_pool 56 = .ok (.aload 5, 2) := by decide +kernel
theorem dX10_pool_58 : decode cX10_pool 58 = .ok (.getfield 88, 3) := by decide +kernel
theorem dX10_pool_61 : decode cX10_pool 61 = .ok (.ifCond .eq 6, 3) := by decide +kernel
theorem dX10_pool_64 : decode cX10_pool 64 = .ok (.bipush (-6), 2) := by decide +kernel
theorem dX10_pool_66 : decode cX10_pool 66 = .ok (.ireturn, 1) := by decide +kernel
theorem dX10_pool_67 : decode cX10_pool 67 = .ok (.aload_n 0, 1) := by decide +kernel
theorem dX10_pool_68 : decode cX10_pool 68 = .ok (.getfield 17, 3) := by decide +kernel
theorem dX10_pool_71 : decode cX10_pool 71 = .ok (.iload 6, 2) := by decide +kernel
theorem dX10_pool_73 : decode cX10_pool 73 = .ok (.new 15, 3) := by decide +kernel
theorem dX10_pool_76 : decode cX10_pool 76 = .ok (.dup, 1) := by decide +kernel
theorem dX10_pool_77 : decode cX10_pool 77 = .ok (.iload 6, 2) := by decide +kernel
theorem dX10_pool_79 : decode cX10_pool 79 = .ok (.iload_n 2, 1) := by decide +kernel
theorem dX10_pool_80 : decode cX10_pool 80 = .ok (.aload 5, 2) := by decide +kernel
theorem dX10_pool_82 : decode cX10_pool 82 = .ok (.aload 5, 2) := by decide +kernel
theorem dX10_pool_84 : decode cX10_pool 84 = .ok (.iload_n 3, 1) := by decide +kernel
theorem dX10_pool_85 : decode cX10_pool 85 = .ok (.iload 4, 2) := by decide +kernel
theorem dX10_pool_87 : decode cX10_pool 87 = .ok (.invokespecial 91, 3) := by decide +kernel
theorem dX10_pool_90 : decode cX10_pool 90 = .ok (.aastore, 1) := by decide +kernel
theorem dX10_pool_91 : decode cX10_pool 91 = .ok (.iload 6, 2) := by decide +kernel
theorem dX10_pool_93 : decode cX10_pool 93 = .ok (.ireturn, 1) := by decide +kernel
theorem dX11_isRace_0 : decode cX11_isRace 0 = .ok (.iload_n 1, 1) := by decide +kernel
theorem dX11_isRace_1 : decode cX11_isRace 1 = .ok (.iconst 0, 1) := by decide +kernel
theorem dX11_isRace_2 : decode cX11_isRace 2 = .ok (.aload_n 0, 1) := by decide +kernel
theorem dX11_isRace_3 : decode cX11_isRace 3 = .ok (.getfield 168, 3) := by decide +kernel
theorem dX11_isRace_6 : decode cX11_isRace 6 = .ok (.iconst 1, 1) := by decide +kernel
theorem dX11_isRace_7 : decode cX11_isRace 7 = .ok (.isub, 1) := by decide +kernel
theorem dX11_isRace_8 : decode cX11_isRace 8 = .ok (.invokestatic 172, 3) := by decide +kernel
theorem dX11_isRace_11 : decode cX11_isRace 11 = .ok (.ireturn, 1) := by decide +kernel
theorem dX11_areTerms_0 : decode cX11_areTerms 0 = .ok (.iload_n 0, 1) := by decide +kernel
theorem dX11_areTerms_1 : decode cX11_areTerms 1 = .ok (.iconst 0, 1) := by decide +kernel
theorem dX11_areTerms_2 : decode cX11_areTerms 2 = .ok (.sipush 500, 3) := by decide +kernel
theorem dX11_areTerms_5 : decode cX11_areTerms 5 = .ok (.invokestatic 172, 3) := by decide +kernel
theorem dX11_areTerms_8 : decode cX11_areTerms 8 = .ok (.ifCond .eq 26, 3) := by decide +kernel
theorem dX11_areTerms_11 : decode cX11_areTerms 11 = .ok (.iload_n 1, 1) := by decide +kernel
theorem dX11_areTerms_12 : decode cX11_areTerms 12 = .ok (.bipush 10, 2) := by decide +kernel
theorem dX11_areTerms_14 : decode cX11_areTerms 14 = .ok (.sipush 1000, 3) := by decide +kernel
theorem dX11_areTerms_17 : decode cX11_areTerms 17 = .ok (.invokestatic 172, 3) := by decide +kernel
theorem dX11_areTerms_20 : decode cX11_areTerms 20 = .ok (.ifCond .eq 14, 3) := by decide +kernel
theorem dX11_areTerms_23 : decode cX11_areTerms 23 = .ok (.iload_n 1, 1) := by decide +kernel
theorem dX11_areTerms_24 : decode cX11_areTerms 24 = .ok (.bipush 10, 2) := by decide +kernel
theorem dX11_areTerms_26 : decode cX11_areTerms 26 = .ok (.irem, 1) := by decide +kernel
theorem dX11_areTerms_27 : decode cX11_areTerms 27 = .ok (.ifCond .ne 7, 3) := by decide +kernel
theorem dX11_areTerms_30 : decode cX11_areTerms 30 = .ok (.iconst 1, 1) := by decide +kernel
theorem dX11_areTerms_31 : decode cX11_areTerms 31 = .ok (.goto 4, 3) := by decide +kernel
theorem dX11_areTerms_34 : decode cX11_areTerms 34 = .ok (.iconst 0, 1) := by decide +kernel
theorem dX11_areTerms_35 : decode cX11_areTerms 35 = .ok (.ireturn, 1) := by decide +kernel
theorem dX11_tellPool_0 : decode cX11_tellPool 0 = .ok (.aload_n 0, 1) := by decide +kernel
theorem dX11_tellPool_1 : decode cX11_tellPool 1 = .ok (.getfield 26, 3) := by decide +kernel
theorem dX11_tellPool_4 : decode cX11_tellPool 4 = .ok (.iload_n 1, 1) := by decide +kernel
theorem dX11_tellPool_5 : decode cX11_tellPool 5 = .ok (.iconst 1, 1) := by decide +kernel
theorem dX11_tellPool_6 : decode cX11_tellPool 6 = .ok (.bastore, 1) := by decide +kernel
theorem dX11_tellPool_7 : decode cX11_tellPool 7 = .ok (.aload_n 0, 1) := by decide +kernel
theorem dX11_tellPool_8 : decode cX11_tellPool 8 = .ok (.getfield 29, 3) := by decide +kernel
theorem dX11_tellPool_11 : decode cX11_tellPool 11 = .ok (.iload_n 1, 1) := by decide +kernel
theorem dX11_tellPool_12 : decode cX11_tellPool 12 = .ok (.iload_n 2, 1) := by decide +kernel
theorem dX11_tellPool_13 : decode cX11_tellPool 13 = .ok (.iastore, 1) := by decide +kernel
theorem dX11_tellPool_14 : decode cX11_tellPool 14 = .ok (.aload_n 0, 1) := by decide +kernel
theorem dX11_tellPool_15 : decode cX11_tellPool 15 = .ok (.getfield 32, 3) := by decide +kernel
theorem dX11_tellPool_18 : decode cX11_tellPool 18 = .ok (.iload_n 1, 1) := by decide +kernel
theorem dX11_tellPool_19 : decode cX11_tellPool 19 = .ok (.iload_n 3, 1) := by decide +kernel
theorem dX11_tellPool_20 : decode cX11_tellPool 20 = .ok (.iastore, 1) := by decide +kernel
theorem dX11_tellPool_21 : decode cX11_tellPool 21 = .ok (.return_, 1) := by decide +kernel
theorem dX11_pool_0 : decode cX11_pool 0 = .ok (.aload_n 0, 1) := by decide +kernel
theorem dX11_pool_1 : decode cX11_pool 1 = .ok (.iload_n 1, 1) := by decide +kernel
theorem dX11_pool_2 : decode cX11_pool 2 = .ok (.invokevirtual 179, 3) := by decide +kernel
theorem dX11_pool_5 : decode cX11_pool 5 = .ok (.ifCond .ne 6, 3) := by decide +kernel
theorem dX11_pool_8 : decode cX11_pool 8 = .ok (.bipush (-2), 2) := by decide +kernel
theorem dX11_pool_10 : decode cX11_pool 10 = .ok (.ireturn, 1) := by decide +kernel
theorem dX11_pool_11 : decode cX11_pool 11 = .ok (.iload_n 2, 1) := by decide +kernel
theorem dX11_pool_12 : decode cX11_pool 12 = .ok (.iconst 0, 1) := by decide +kernel
theorem dX11_pool_13 : decode cX11_pool 13 = .ok (.iconst 3, 1) := by decide +kernel
theorem dX11_pool_14 : decode cX11_pool 14 = .ok (.invokestatic 172, 3) := by decide +kernel
theorem dX11_pool_17 : decode cX11_pool 17 = .ok (.ifCond .eq 12, 3) := by decide +kernel
theorem dX11_pool_20 : decode cX11_pool 20 = .ok (.iload_n 3, 1) := by decide +kernel
theorem dX11_pool_21 : decode cX11_pool 21 = .ok (.iload 4, 2) := by decide +kernel
theorem dX11_pool_23 : decode cX11_pool 23 = .ok (.invokestatic 183, 3) := by decide +kernel
theorem dX11_pool_26 : decode cX11_pool 26 = .ok (.ifCond .ne 6, 3) := by decide +kernel
theorem dX11_pool_29 : decode cX11_pool 29 = .ok (.bipush (-3), 2) := by decide +kernel
theorem dX11_pool_31 : decode cX11_pool 31 = .ok (.ireturn, 1) := by decide +kernel
theorem dX11_pool_32 : decode cX11_pool 32 = .ok (.iconst 4, 1) := by decide +kernel
theorem dX11_pool_33 : decode cX11_pool 33 = .ok (.iload_n 1, 1) := by decide +kernel
theorem dX11_pool_34 : decode cX11_pool 34 = .ok (.imul, 1) := by decide +kernel
theorem dX11_pool_35 : decode cX11_pool 35 = .ok (.iload_n 2, 1) := by decide +kernel
theorem dX11_pool_36 : decode cX11_pool 36 = .ok (.iadd, 1) := by decide +kernel
theorem dX11_pool_37 : decode cX11_pool 37 = .ok (.istore 5, 2) := by decide +kernel
theorem dX11_pool_39 : decode cX11_pool 39 = .ok (.aload_n 0, 1) := by decide +kernel
theorem dX11_pool_40 : decode cX11_pool 40 = .ok (.getfield 26, 3) := by decide +kernel
theorem dX11_pool_43 : decode cX11_pool 43 = .ok (.iload 5, 2) := by decide +kernel
theorem dX11_pool_45 : decode cX11_pool 45 = .ok (.baload, 1) := by decide +kernel
theorem dX11_pool_46 : decode cX11_pool 46 = .ok (.ifCond .eq 6, 3) := by decide +kernel
theorem dX11_pool_49 : decode cX11_pool 49 = .ok (.bipush (-4), 2) := by decide +kernel
theorem dX11_pool_51 : decode cX11_pool 51 = .ok (.ireturn, 1) := by decide +kernel
theorem dX11_pool_52 : decode cX11_pool 52 = .ok (.aload_n 0, 1) := by decide +kernel
theorem dX11_pool_53 : decode cX11_pool 53 = .ok (.getfield 7, 3) := by decide +kernel
theorem dX11_pool_56 : decode cX11_pool 56 = .ok (.iload_n 1, 1) := by decide +kernel
theorem dX11_pool_57 : decode cX11_pool 57 = .ok (.iaload, 1) := by decide +kernel
theorem dX11_pool_58 : decode cX11_pool 58 = .ok (.ifCond .eq 6, 3) := by decide +kernel
theorem dX11_pool_61 : decode cX11_pool 61 = .ok (.bipush (-6), 2) := by decide +kernel
theorem dX11_pool_63 : decode cX11_pool 63 = .ok (.ireturn, 1) := by decide +kernel
theorem dX11_pool_64 : decode cX11_pool 64 = .ok (.aload_n 0, 1) := by decide +kernel
theorem dX11_pool_65 : decode cX11_pool 65 = .ok (.iload 5, 2) := by decide +kernel
theorem dX11_pool_67 : decode cX11_pool 67 = .ok (.iload_n 3, 1) := by decide +kernel
theorem dX11_pool_68 : decode cX11_pool 68 = .ok (.iload 4, 2) := by decide +kernel
theorem dX11_pool_70 : decode cX11_pool 70 = .ok (.invokevirtual 187, 3) := by decide +kernel
theorem dX11_pool_73 : decode cX11_pool 73 = .ok (.iload 5, 2) := by decide +kernel
theorem dX11_pool_75 : decode cX11_pool 75 = .ok (.ireturn, 1) := by decide +kernel
theorem dX10_twin_0 : decode cX10_twin 0 = .ok (.aload_n 0, 1) := by decide +kernel
theorem dX10_twin_1 : decode cX10_twin 1 = .ok (.iload_n 1, 1) := by decide +kernel
theorem dX10_twin_2 : decode cX10_twin 2 = .ok (.invokevirtual 76, 3) := by decide +kernel
theorem dX10_twin_5 : decode cX10_twin 5 = .ok (.astore 5, 2) := by decide +kernel
theorem dX10_twin_7 : decode cX10_twin 7 = .ok (.aload_n 0, 1) := by decide +kernel
theorem dX10_twin_8 : decode cX10_twin 8 = .ok (.iload_n 2, 1) := by decide +kernel
theorem dX10_twin_9 : decode cX10_twin 9 = .ok (.invokevirtual 76, 3) := by decide +kernel
theorem dX10_twin_12 : decode cX10_twin 12 = .ok (.astore 6, 2) := by decide +kernel
theorem dX10_twin_14 : decode cX10_twin 14 = .ok (.aload 5, 2) := by decide +kernel
theorem dX10_twin_16 : decode cX10_twin 16 = .ok (.ifnull 8, 3) := by decide +kernel
theorem dX10_twin_19 : decode cX10_twin 19 = .ok (.aload 6, 2) := by decide +kernel
theorem dX10_twin_21 : decode cX10_twin 21 = .ok (.ifnonnull 6, 3) := by decide +kernel
theorem dX10_twin_24 : decode cX10_twin 24 = .ok (.bipush (-2), 2) := by decide +kernel
theorem dX10_twin_26 : decode cX10_twin 26 = .ok (.ireturn, 1) := by decide +kernel
theorem dX10_twin_27 : decode cX10_twin 27 = .ok (.iload_n 1, 1) := by decide +kernel
theorem dX10_twin_28 : decode cX10_twin 28 = .ok (.iload_n 2, 1) := by decide +kernel
theorem dX10_twin_29 : decode cX10_twin 29 = .ok (.if_icmp .ge 12, 3) := by decide +kernel
theorem dX10_twin_32 : decode cX10_twin 32 = .ok (.iload_n 3, 1) := by decide +kernel
theorem dX10_twin_33 : decode cX10_twin 33 = .ok (.iload 4, 2) := by decide +kernel
theorem dX10_twin_35 : decode cX10_twin 35 = .ok (.invokestatic 80, 3) := by decide +kernel
theorem dX10_twin_38 : decode cX10_twin 38 = .ok (.ifCond .ne 6, 3) := by decide +kernel
theorem dX10_twin_41 : decode cX10_twin 41 = .ok (.bipush (-3), 2) := by decide +kernel
theorem dX10_twin_43 : decode cX10_twin 43 = .ok (.ireturn, 1) := by decide +kernel
theorem dX10_twin_44 : decode cX10_twin 44 = .ok (.aload_n 0, 1) := by decide +kernel
theorem dX10_twin_45 : decode cX10_twin 45 = .ok (.getfield 17, 3) := by decide +kernel
theorem dX10_twin_48 : decode cX10_twin 48 = .ok (.bipush 48, 2) := by decide +kernel
theorem dX10_twin_50 : decode cX10_twin 50 = .ok (.aaload, 1) := by decide +kernel
theorem dX10_twin_51 : decode cX10_twin 51 = .ok (.ifnull 6, 3) := by decide +kernel
theorem dX10_twin_54 : decode cX10_twin 54 = .ok (.bipush (-4), 2) := by decide +kernel
theorem dX10_twin_56 : decode cX10_twin 56 = .ok (.ireturn, 1) := by decide +kernel
theorem dX10_twin_57 : decode cX10_twin 57 = .ok (.aload 5, 2) := by decide +kernel
theorem dX10_twin_59 : decode cX10_twin 59 = .ok (.getfield 88, 3) := by decide +kernel
theorem dX10_twin_62 : decode cX10_twin 62 = .ok (.ifCond .ne 11, 3) := by decide +kernel
theorem dX10_twin_65 : decode cX10_twin 65 = .ok (.aload 6, 2) := by decide +kernel
theorem dX10_twin_67 : decode cX10_twin 67 = .ok (.getfield 88, 3) := by decide +kernel
theorem dX10_twin_70 : decode cX10_twin 70 = .ok (.ifCond .eq 6, 3) := by decide +kernel
theorem dX10_twin_73 : decode cX10_twin 73 = .ok (.bipush (-6), 2) := by decide +kernel
theorem dX10_twin_75 : decode cX10_twin 75 = .ok (.ireturn, 1) := by decide +kernel
theorem dX10_twin_76 : decode cX10_twin 76 = .ok (.aload_n 0, 1) := by decide +kernel
theorem dX10_twin_77 : decode cX10_twin 77 = .ok (.getfield 17, 3) := by decide +kernel
theorem dX10_twin_80 : decode cX10_twin 80 = .ok (.bipush 48, 2) := by decide +kernel
theorem dX10_twin_82 : decode cX10_twin 82 = .ok (.new 15, 3) := by decide +kernel
theorem dX10_twin_85 : decode cX10_twin 85 = .ok (.dup, 1) := by decide +kernel
theorem dX10_twin_86 : decode cX10_twin 86 = .ok (.bipush 48, 2) := by decide +kernel
theorem dX10_twin_88 : decode cX10_twin 88 = .ok (.iconst 4, 1) := by decide +kernel
theorem dX10_twin_89 : decode cX10_twin 89 = .ok (.aload 5, 2) := by decide +kernel
theorem dX10_twin_91 : decode cX10_twin 91 = .ok (.aload 6, 2) := by decide +kernel
theorem dX10_twin_93 : decode cX10_twin 93 = .ok (.iload_n 3, 1) := by decide +kernel
theorem dX10_twin_94 : decode cX10_twin 94 = .ok (.iload 4, 2) := by decide +kernel
theorem dX10_twin_96 : decode cX10_twin 96 = .ok (.invokespecial 91, 3) := by decide +kernel
theorem dX10_twin_99 : decode cX10_twin 99 = .ok (.aastore, 1) := by decide +kernel
theorem dX10_twin_100 : decode cX10_twin 100 = .ok (.bipush 48, 2) := by decide +kernel
theorem dX10_twin_102 : decode cX10_twin 102 = .ok (.ireturn, 1) := by decide +kernel
theorem dX11_twin_0 : decode cX11_twin 0 = .ok (.aload_n 0, 1) := by decide +kernel
theorem dX11_twin_1 : decode cX11_twin 1 = .ok (.iload_n 1, 1) := by decide +kernel
theorem dX11_twin_2 : decode cX11_twin 2 = .ok (.invokevirtual 179, 3) := by decide +kernel
theorem dX11_twin_5 : decode cX11_twin 5 = .ok (.ifCond .eq 11, 3) := by decide +kernel
theorem dX11_twin_8 : decode cX11_twin 8 = .ok (.aload_n 0, 1) := by decide +kernel
theorem dX11_twin_9 : decode cX11_twin 9 = .ok (.iload_n 2, 1) := by decide +kernel
theorem dX11_twin_10 : decode cX11_twin 10 = .ok (.invokevirtual 179, 3) := by decide +kernel
theorem dX11_twin_13 : decode cX11_twin 13 = .ok (.ifCond .ne 6, 3) := by decide +kernel
theorem dX11_twin_16 : decode cX11_twin 16 = .ok (.bipush (-2), 2) := by decide +kernel
theorem dX11_twin_18 : decode cX11_twin 18 = .ok (.ireturn, 1) := by decide +kernel
theorem dX11_twin_19 : decode cX11_twin 19 = .ok (.iload_n 1, 1) := by decide +kernel
theorem dX11_twin_20 : decode cX11_twin 20 = .ok (.iload_n 2, 1) := by decide +kernel
theorem dX11_twin_21 : decode cX11_twin 21 = .ok (.if_icmp .ge 12, 3) := by decide +kernel
theorem dX11_twin_24 : decode cX11_twin 24 = .ok (.iload_n 3, 1) := by decide +kernel
theorem dX11_twin_25 : decode cX11_twin 25 = .ok (.iload 4, 2) := by decide +kernel
theorem dX11_twin_27 : decode cX11_twin 27 = .ok (.invokestatic 183, 3) := by decide +kernel
theorem dX11_twin_30 : decode cX11_twin 30 = .ok (.ifCond .ne 6, 3) := by decide +kernel
theorem dX11_twin_33 : decode cX11_twin 33 = .ok (.bipush (-3), 2) := by decide +kernel
theorem dX11_twin_35 : decode cX11_twin 35 = .ok (.ireturn, 1) := by decide +kernel
theorem dX11_twin_36 : decode cX11_twin 36 = .ok (.aload_n 0, 1) := by decide +kernel
theorem dX11_twin_37 : decode cX11_twin 37 = .ok (.getfield 26, 3) := by decide +kernel
theorem dX11_twin_40 : decode cX11_twin 40 = .ok (.bipush 48, 2) := by decide +kernel
theorem dX11_twin_42 : decode cX11_twin 42 = .ok (.baload, 1) := by decide +kernel
theorem dX11_twin_43 : decode cX11_twin 43 = .ok (.ifCond .eq 6, 3) := by decide +kernel
theorem dX11_twin_46 : decode cX11_twin 46 = .ok (.bipush (-4), 2) := by decide +kernel
theorem dX11_twin_48 : decode cX11_twin 48 = .ok (.ireturn, 1) := by decide +kernel
theorem dX11_twin_49 : decode cX11_twin 49 = .ok (.aload_n 0, 1) := by decide +kernel
theorem dX11_twin_50 : decode cX11_twin 50 = .ok (.getfield 7, 3) := by decide +kernel
theorem dX11_twin_53 : decode cX11_twin 53 = .ok (.iload_n 1, 1) := by decide +kernel
theorem dX11_twin_54 : decode cX11_twin 54 = .ok (.iaload, 1) := by decide +kernel
theorem dX11_twin_55 : decode cX11_twin 55 = .ok (.ifCond .ne 12, 3) := by decide +kernel
theorem dX11_twin_58 : decode cX11_twin 58 = .ok (.aload_n 0, 1) := by decide +kernel
theorem dX11_twin_59 : decode cX11_twin 59 = .ok (.getfield 7, 3) := by decide +kernel
theorem dX11_twin_62 : decode cX11_twin 62 = .ok (.iload_n 2, 1) := by decide +kernel
theorem dX11_twin_63 : decode cX11_twin 63 = .ok (.iaload, 1) := by decide +kernel
theorem dX11_twin_64 : decode cX11_twin 64 = .ok (.ifCond .eq 6, 3) := by decide +kernel
theorem dX11_twin_67 : decode cX11_twin 67 = .ok (.bipush (-6), 2) := by decide +kernel
theorem dX11_twin_69 : decode cX11_twin 69 = .ok (.ireturn, 1) := by decide +kernel
theorem dX11_twin_70 : decode cX11_twin 70 = .ok (.aload_n 0, 1) := by decide +kernel
theorem dX11_twin_71 : decode cX11_twin 71 = .ok (.iload_n 1, 1) := by decide +kernel
theorem dX11_twin_72 : decode cX11_twin 72 = .ok (.putfield 176, 3) := by decide +kernel
theorem dX11_twin_75 : decode cX11_twin 75 = .ok (.aload_n 0, 1) := by decide +kernel
theorem dX11_twin_76 : decode cX11_twin 76 = .ok (.iload_n 2, 1) := by decide +kernel
theorem dX11_twin_77 : decode cX11_twin 77 = .ok (.putfield 191, 3) := by decide +kernel
theorem dX11_twin_80 : decode cX11_twin 80 = .ok (.aload_n 0, 1) := by decide +kernel
theorem dX11_twin_81 : decode cX11_twin 81 = .ok (.bipush 48, 2) := by decide +kernel
theorem dX11_twin_83 : decode cX11_twin 83 = .ok (.iload_n 3, 1) := by decide +kernel
theorem dX11_twin_84 : decode cX11_twin 84 = .ok (.iload 4, 2) := by decide +kernel
theorem dX11_twin_86 : decode cX11_twin 86 = .ok (.invokevirtual 187, 3) := by decide +kernel
theorem dX11_twin_89 : decode cX11_twin 89 = .ok (.bipush 48, 2) := by decide +kernel
theorem dX11_twin_91 : decode cX11_twin 91 = .ok (.ireturn, 1) := by decide +kernel
theorem dX5_hasRunner_0 : decode cX5_hasRunner 0 = .ok (.iload_n 1, 1) := by decide +kernel
theorem dX5_hasRunner_1 : decode cX5_hasRunner 1 = .ok (.iconst 1, 1) := by decide +kernel
theorem dX5_hasRunner_2 : decode cX5_hasRunner 2 = .ok (.if_icmp .lt 15, 3) := by decide +kernel
theorem dX5_hasRunner_5 : decode cX5_hasRunner 5 = .ok (.iload_n 1, 1) := by decide +kernel
theorem dX5_hasRunner_6 : decode cX5_hasRunner 6 = .ok (.aload_n 0, 1) := by decide +kernel
theorem dX5_hasRunner_7 : decode cX5_hasRunner 7 = .ok (.getfield 33, 3) := by decide +kernel
theorem dX5_hasRunner_10 : decode cX5_hasRunner 10 = .ok (.if_icmp .gt 7, 3) := by decide +kernel
theorem dX5_hasRunner_13 : decode cX5_hasRunner 13 = .ok (.iconst 1, 1) := by decide +kernel
theorem dX5_hasRunner_14 : decode cX5_hasRunner 14 = .ok (.goto 4, 3) := by decide +kernel
theorem dX5_hasRunner_17 : decode cX5_hasRunner 17 = .ok (.iconst 0, 1) := by decide +kernel
theorem dX5_hasRunner_18 : decode cX5_hasRunner 18 = .ok (.ireturn, 1) := by decide +kernel
theorem dX5_isOut_0 : decode cX5_isOut 0 = .ok (.aload_n 0, 1) := by decide +kernel
theorem dX5_isOut_1 : decode cX5_isOut 1 = .ok (.iload_n 1, 1) := by decide +kernel
theorem dX5_isOut_2 : decode cX5_isOut 2 = .ok (.invokevirtual 39, 3) := by decide +kernel
theorem dX5_isOut_5 : decode cX5_isOut 5 = .ok (.ifCond .eq 16, 3) := by decide +kernel
theorem dX5_isOut_8 : decode cX5_isOut 8 = .ok (.aload_n 0, 1) := by decide +kernel
theorem dX5_isOut_9 : decode cX5_isOut 9 = .ok (.getfield 9, 3) := by decide +kernel
theorem dX5_isOut_12 : decode cX5_isOut 12 = .ok (.iload_n 1, 1) := by decide +kernel
theorem dX5_isOut_13 : decode cX5_isOut 13 = .ok (.baload, 1) := by decide +kernel
theorem dX5_isOut_14 : decode cX5_isOut 14 = .ok (.ifCond .eq 7, 3) := by decide +kernel
theorem dX5_isOut_17 : decode cX5_isOut 17 = .ok (.iconst 1, 1) := by decide +kernel
theorem dX5_isOut_18 : decode cX5_isOut 18 = .ok (.goto 4, 3) := by decide +kernel
theorem dX5_isOut_21 : decode cX5_isOut 21 = .ok (.iconst 0, 1) := by decide +kernel
theorem dX5_isOut_22 : decode cX5_isOut 22 = .ok (.ireturn, 1) := by decide +kernel
theorem dX10_refuseRunner_0 : decode cX10_refuseRunner 0 = .ok (.aload_n 0, 1) := by decide +kernel
theorem dX10_refuseRunner_1 : decode cX10_refuseRunner 1 = .ok (.ifnonnull 6, 3) := by decide +kernel
theorem dX10_refuseRunner_4 : decode cX10_refuseRunner 4 = .ok (.bipush (-2), 2) := by decide +kernel
theorem dX10_refuseRunner_6 : decode cX10_refuseRunner 6 = .ok (.ireturn, 1) := by decide +kernel
theorem dX10_refuseRunner_7 : decode cX10_refuseRunner 7 = .ok (.aload_n 0, 1) := by decide +kernel
theorem dX10_refuseRunner_8 : decode cX10_refuseRunner 8 = .ok (.iload_n 1, 1) := by decide +kernel
theorem dX10_refuseRunner_9 : decode cX10_refuseRunner 9 = .ok (.invokevirtual 151, 3) := by decide +kernel
theorem dX10_refuseRunner_12 : decode cX10_refuseRunner 12 = .ok (.ifCond .ne 6, 3) := by decide +kernel
theorem dX10_refuseRunner_15 : decode cX10_refuseRunner 15 = .ok (.bipush (-3), 2) := by decide +kernel
theorem dX10_refuseRunner_17 : decode cX10_refuseRunner 17 = .ok (.ireturn, 1) := by decide +kernel
theorem dX10_refuseRunner_18 : decode cX10_refuseRunner 18 = .ok (.aload_n 0, 1) := by decide +kernel
theorem dX10_refuseRunner_19 : decode cX10_refuseRunner 19 = .ok (.iload_n 1, 1) := by decide +kernel
theorem dX10_refuseRunner_20 : decode cX10_refuseRunner 20 = .ok (.invokevirtual 414, 3) := by decide +kernel
theorem dX10_refuseRunner_23 : decode cX10_refuseRunner 23 = .ok (.ifCond .eq 6, 3) := by decide +kernel
theorem dX10_refuseRunner_26 : decode cX10_refuseRunner 26 = .ok (.bipush (-5), 2) := by decide +kernel
theorem dX10_refuseRunner_28 : decode cX10_refuseRunner 28 = .ok (.ireturn, 1) := by decide +kernel
theorem dX10_refuseRunner_29 : decode cX10_refuseRunner 29 = .ok (.aload_n 0, 1) := by decide +kernel
theorem dX10_refuseRunner_30 : decode cX10_refuseRunner 30 = .ok (.getfield 88, 3) := by decide +kernel
theorem dX10_refuseRunner_33 : decode cX10_refuseRunner 33 = .ok (.iload_n 2, 1) := by decide +kernel
theorem dX10_refuseRunner_34 : decode cX10_refuseRunner 34 = .ok (.if_icmp .ne 7, 3) := by decide +kernel
theorem dX10_refuseRunner_37 : decode cX10_refuseRunner 37 = .ok (.iconst 0, 1) := by decide +kernel
theorem dX10_refuseRunner_38 : decode cX10_refuseRunner 38 = .ok (.goto 5, 3) := by decide +kernel
theorem dX10_refuseRunner_41 : decode cX10_refuseRunner 41 = .ok (.bipush (-6), 2) := by decide +kernel
theorem dX10_refuseRunner_43 : decode cX10_refuseRunner 43 = .ok (.ireturn, 1) := by decide +kernel
theorem dX10_substitute_0 : decode cX10_substitute 0 = .ok (.aload_n 0, 1) := by decide +kernel
theorem dX10_substitute_1 : decode cX10_substitute 1 = .ok (.iload_n 1, 1) := by decide +kernel
theorem dX10_substitute_2 : decode cX10_substitute 2 = .ok (.invokevirtual 76, 3) := by decide +kernel
theorem dX10_substitute_5 : decode cX10_substitute 5 = .ok (.astore_n 3, 1) := by decide +kernel
theorem dX10_substitute_6 : decode cX10_substitute 6 = .ok (.aload_n 3, 1) := by decide +kernel
theorem dX10_substitute_7 : decode cX10_substitute 7 = .ok (.iload_n 2, 1) := by decide +kernel
theorem dX10_substitute_8 : decode cX10_substitute 8 = .ok (.iconst 0, 1) := by decide +kernel
theorem dX10_substitute_9 : decode cX10_substitute 9 = .ok (.invokestatic 94, 3) := by decide +kernel
theorem dX10_substitute_12 : decode cX10_substitute 12 = .ok (.istore 4, 2) := by decide +kernel
theorem dX10_substitute_14 : decode cX10_substitute 14 = .ok (.aload_n 3, 1) := by decide +kernel
theorem dX10_substitute_15 : decode cX10_substitute 15 = .ok (.ifnull 8, 3) := by decide +kernel
theorem dX10_substitute_18 : decode cX10_substitute 18 = .ok (.iload 4, 2) := by decide +kernel
theorem dX10_substitute_20 : decode cX10_substitute 20 = .ok (.ifCond .eq 6, 3) := by decide +kernel
theorem dX10_substitute_23 : decode cX10_substitute 23 = .ok (.iload 4, 2) := by decide +kernel
theorem dX10_substitute_25 : decode cX10_substitute 25 = .ok (.ireturn, 1) := by decide +kernel
theorem dX10_substitute_26 : decode cX10_substitute 26 = .ok (.aload_n 3, 1) := by decide +kernel
theorem dX10_substitute_27 : decode cX10_substitute 27 = .ok (.getfield 98, 3) := by decide +kernel
theorem dX10_substitute_30 : decode cX10_substitute 30 = .ok (.istore 5, 2) := by decide +kernel
theorem dX10_substitute_32 : decode cX10_substitute 32 = .ok (.aload_n 3, 1) := by decide +kernel
theorem dX10_substitute_33 : decode cX10_substitute 33 = .ok (.iload_n 2, 1) := by decide +kernel
theorem dX10_substitute_34 : decode cX10_substitute 34 = .ok (.putfield 98, 3) := by decide +kernel
theorem dX10_substitute_37 : decode cX10_substitute 37 = .ok (.iload 5, 2) := by decide +kernel
theorem dX10_substitute_39 : decode cX10_substitute 39 = .ok (.ireturn, 1) := by decide +kernel
theorem dX11_isRunner_0 : decode cX11_isRunner 0 = .ok (.iload_n 2, 1) := by decide +kernel
theorem dX11_isRunner_1 : decode cX11_isRunner 1 = .ok (.iconst 1, 1) := by decide +kernel
theorem dX11_isRunner_2 : decode cX11_isRunner 2 = .ok (.aload_n 0, 1) := by decide +kernel
theorem dX11_isRunner_3 : decode cX11_isRunner 3 = .ok (.getfield 13, 3) := by decide +kernel
theorem dX11_isRunner_6 : decode cX11_isRunner 6 = .ok (.iload_n 1, 1) := by decide +kernel
theorem dX11_isRunner_7 : decode cX11_isRunner 7 = .ok (.iaload, 1) := by decide +kernel
theorem dX11_isRunner_8 : decode cX11_isRunner 8 = .ok (.invokestatic 172, 3) := by decide +kernel
theorem dX11_isRunner_11 : decode cX11_isRunner 11 = .ok (.ireturn, 1) := by decide +kernel
theorem dX11_bars_0 : decode cX11_bars 0 = .ok (.aload_n 0, 1) := by decide +kernel
theorem dX11_bars_1 : decode cX11_bars 1 = .ok (.iload_n 1, 1) := by decide +kernel
theorem dX11_bars_2 : decode cX11_bars 2 = .ok (.invokevirtual 179, 3) := by decide +kernel
theorem dX11_bars_5 : decode cX11_bars 5 = .ok (.ifCond .ne 8, 3) := by decide +kernel
theorem dX11_bars_8 : decode cX11_bars 8 = .ok (.bipush (-2), 2) := by decide +kernel
theorem dX11_bars_10 : decode cX11_bars 10 = .ok (.goto 37, 3) := by decide +kernel
theorem dX11_bars_13 : decode cX11_bars 13 = .ok (.aload_n 0, 1) := by decide +kernel
theorem dX11_bars_14 : decode cX11_bars 14 = .ok (.iload_n 1, 1) := by decide +kernel
theorem dX11_bars_15 : decode cX11_bars 15 = .ok (.iload_n 2, 1) := by decide +kernel
theorem dX11_bars_16 : decode cX11_bars 16 = .ok (.invokevirtual 194, 3) := by decide +kernel
theorem dX11_bars_19 : decode cX11_bars 19 = .ok (.ifCond .ne 8, 3) := by decide +kernel
theorem dX11_bars_22 : decode cX11_bars 22 = .ok (.bipush (-3), 2) := by decide +kernel
theorem dX11_bars_24 : decode cX11_bars 24 = .ok (.goto 23, 3) := by decide +kernel
theorem dX11_bars_27 : decode cX11_bars 27 = .ok (.aload_n 0, 1) := by decide +kernel
theorem dX11_bars_28 : decode cX11_bars 28 = .ok (.getfield 19, 3) := by decide +kernel
theorem dX11_bars_31 : decode cX11_bars 31 = .ok (.bipush 13, 2) := by decide +kernel
theorem dX11_bars_33 : decode cX11_bars 33 = .ok (.iload_n 1, 1) := by decide +kernel
theorem dX11_bars_34 : decode cX11_bars 34 = .ok (.imul, 1) := by decide +kernel
theorem dX11_bars_35 : decode cX11_bars 35 = .ok (.iload_n 2, 1) := by decide +kernel
theorem dX11_bars_36 : decode cX11_bars 36 = .ok (.iadd, 1) := by decide +kernel
theorem dX11_bars_37 : decode cX11_bars 37 = .ok (.baload, 1) := by decide +kernel
theorem dX11_bars_38 : decode cX11_bars 38 = .ok (.ifCond .eq 8, 3) := by decide +kernel
theorem dX11_bars_41 : decode cX11_bars 41 = .ok (.bipush (-5), 2) := by decide +kernel
theorem dX11_bars_43 : decode cX11_bars 43 = .ok (.goto 4, 3) := by decide +kernel
theorem dX11_bars_46 : decode cX11_bars 46 = .ok (.iconst 0, 1) := by decide +kernel
theorem dX11_bars_47 : decode cX11_bars 47 = .ok (.ireturn, 1) := by decide +kernel
theorem dX11_substitute_0 : decode cX11_substitute 0 = .ok (.aload_n 0, 1) := by decide +kernel
theorem dX11_substitute_1 : decode cX11_substitute 1 = .ok (.iload_n 1, 1) := by decide +kernel
theorem dX11_substitute_2 : decode cX11_substitute 2 = .ok (.iload_n 2, 1) := by decide +kernel
theorem dX11_substitute_3 : decode cX11_substitute 3 = .ok (.invokevirtual 197, 3) := by decide +kernel
theorem dX11_substitute_6 : decode cX11_substitute 6 = .ok (.istore_n 3, 1) := by decide +kernel
theorem dX11_substitute_7 : decode cX11_substitute 7 = .ok (.iload_n 3, 1) := by decide +kernel
theorem dX11_substitute_8 : decode cX11_substitute 8 = .ok (.ifCond .ge 5, 3) := by decide +kernel
theorem dX11_substitute_11 : decode cX11_substitute 11 = .ok (.iload_n 3, 1) := by decide +kernel
theorem dX11_substitute_12 : decode cX11_substitute 12 = .ok (.ireturn, 1) := by decide +kernel
theorem dX11_substitute_13 : decode cX11_substitute 13 = .ok (.aload_n 0, 1) := by decide +kernel
theorem dX11_substitute_14 : decode cX11_substitute 14 = .ok (.getfield 7, 3) := by decide +kernel
theorem dX11_substitute_17 : decode cX11_substitute 17 = .ok (.iload_n 1, 1) := by decide +kernel
theorem dX11_substitute_18 : decode cX11_substitute 18 = .ok (.iaload, 1) := by decide +kernel
theorem dX11_substitute_19 : decode cX11_substitute 19 = .ok (.ifCond .eq 6, 3) := by decide +kernel
theorem dX11_substitute_22 : decode cX11_substitute 22 = .ok (.bipush (-6), 2) := by decide +kernel
theorem dX11_substitute_24 : decode cX11_substitute 24 = .ok (.ireturn, 1) := by decide +kernel
theorem dX11_substitute_25 : decode cX11_substitute 25 = .ok (.aload_n 0, 1) := by decide +kernel
theorem dX11_substitute_26 : decode cX11_substitute 26 = .ok (.getfield 16, 3) := by decide +kernel
theorem dX11_substitute_29 : decode cX11_substitute 29 = .ok (.iload_n 1, 1) := by decide +kernel
theorem dX11_substitute_30 : decode cX11_substitute 30 = .ok (.iaload, 1) := by decide +kernel
theorem dX11_substitute_31 : decode cX11_substitute 31 = .ok (.istore 4, 2) := by decide +kernel
theorem dX11_substitute_33 : decode cX11_substitute 33 = .ok (.aload_n 0, 1) := by decide +kernel
theorem dX11_substitute_34 : decode cX11_substitute 34 = .ok (.getfield 16, 3) := by decide +kernel
theorem dX11_substitute_37 : decode cX11_substitute 37 = .ok (.iload_n 1, 1) := by decide +kernel
theorem dX11_substitute_38 : decode cX11_substitute 38 = .ok (.iload_n 2, 1) := by decide +kernel
theorem dX11_substitute_39 : decode cX11_substitute 39 = .ok (.iastore, 1) := by decide +kernel
theorem dX11_substitute_40 : decode cX11_substitute 40 = .ok (.iload 4, 2) := by decide +kernel
theorem dX11_substitute_42 : decode cX11_substitute 42 = .ok (.ireturn, 1) := by decide +kernel
theorem dX5_takeOut_0 : decode cX5_takeOut 0 = .ok (.aload_n 0, 1) := by decide +kernel
theorem dX5_takeOut_1 : decode cX5_takeOut 1 = .ok (.getfield 9, 3) := by decide +kernel
theorem dX5_takeOut_4 : decode cX5_takeOut 4 = .ok (.iload_n 1, 1) := by decide +kernel
theorem dX5_takeOut_5 : decode cX5_takeOut 5 = .ok (.iconst 1, 1) := by decide +kernel
theorem dX5_takeOut_6 : decode cX5_takeOut 6 = .ok (.bastore, 1) := by decide +kernel
theorem dX5_takeOut_7 : decode cX5_takeOut 7 = .ok (.aload_n 0, 1) := by decide +kernel
theorem dX5_takeOut_8 : decode cX5_takeOut 8 = .ok (.dup, 1) := by decide +kernel
theorem dX5_takeOut_9 : decode cX5_takeOut 9 = .ok (.getfield 36, 3) := by decide +kernel
theorem dX5_takeOut_12 : decode cX5_takeOut 12 = .ok (.iconst 1, 1) := by decide +kernel
theorem dX5_takeOut_13 : decode cX5_takeOut 13 = .ok (.isub, 1) := by decide +kernel
theorem dX5_takeOut_14 : decode cX5_takeOut 14 = .ok (.putfield 36, 3) := by decide +kernel
theorem dX5_takeOut_17 : decode cX5_takeOut 17 = .ok (.return_, 1) := by decide +kernel
theorem dX9_isFor_0 : decode cX9_isFor 0 = .ok (.aload_n 0, 1) := by decide +kernel
theorem dX9_isFor_1 : decode cX9_isFor 1 = .ok (.getfield 15, 3) := by decide +kernel
theorem dX9_isFor_4 : decode cX9_isFor 4 = .ok (.getfield 25, 3) := by decide +kernel
theorem dX9_isFor_7 : decode cX9_isFor 7 = .ok (.iconst 4, 1) := by decide +kernel
theorem dX9_isFor_8 : decode cX9_isFor 8 = .ok (.if_icmp .ne 47, 3) := by decide +kernel
theorem dX9_isFor_11 : decode cX9_isFor 11 = .ok (.aload_n 0, 1) := by decide +kernel
theorem dX9_isFor_12 : decode cX9_isFor 12 = .ok (.getfield 15, 3) := by decide +kernel
theorem dX9_isFor_15 : decode cX9_isFor 15 = .ok (.getfield 72, 3) := by decide +kernel
theorem dX9_isFor_18 : decode cX9_isFor 18 = .ok (.aload_n 1, 1) := by decide +kernel
theorem dX9_isFor_19 : decode cX9_isFor 19 = .ok (.if_acmp .ne 11, 3) := by decide +kernel
theorem dX9_isFor_22 : decode cX9_isFor 22 = .ok (.aload_n 0, 1) := by decide +kernel
theorem dX9_isFor_23 : decode cX9_isFor 23 = .ok (.getfield 30, 3) := by decide +kernel
theorem dX9_isFor_26 : decode cX9_isFor 26 = .ok (.iload_n 2, 1) := by decide +kernel
theorem dX9_isFor_27 : decode cX9_isFor 27 = .ok (.if_icmp .eq 22, 3) := by decide +kernel
theorem dX9_isFor_30 : decode cX9_isFor 30 = .ok (.aload_n 0, 1) := by decide +kernel
theorem dX9_isFor_31 : decode cX9_isFor 31 = .ok (.getfield 15, 3) := by decide +kernel
theorem dX9_isFor_34 : decode cX9_isFor 34 = .ok (.getfield 76, 3) := by decide +kernel
theorem dX9_isFor_37 : decode cX9_isFor 37 = .ok (.aload_n 1, 1) := by decide +kernel
theorem dX9_isFor_38 : decode cX9_isFor 38 = .ok (.if_acmp .ne 15, 3) := by decide +kernel
theorem dX9_isFor_41 : decode cX9_isFor 41 = .ok (.aload_n 0, 1) := by decide +kernel
theorem dX9_isFor_42 : decode cX9_isFor 42 = .ok (.getfield 33, 3) := by decide +kernel
theorem dX9_isFor_45 : decode cX9_isFor 45 = .ok (.iload_n 2, 1) := by decide +kernel
theorem dX9_isFor_46 : decode cX9_isFor 46 = .ok (.if_icmp .ne 7, 3) := by decide +kernel
theorem dX9_isFor_49 : decode cX9_isFor 49 = .ok (.iconst 1, 1) := by decide +kernel
theorem dX9_isFor_50 : decode cX9_isFor 50 = .ok (.goto 4, 3) := by decide +kernel
theorem dX9_isFor_53 : decode cX9_isFor 53 = .ok (.iconst 0, 1) := by decide +kernel
theorem dX9_isFor_54 : decode cX9_isFor 54 = .ok (.ireturn, 1) := by decide +kernel
theorem dX9_isFor_55 : decode cX9_isFor 55 = .ok (.aload_n 0, 1) := by decide +kernel
theorem dX9_isFor_56 : decode cX9_isFor 56 = .ok (.getfield 15, 3) := by decide +kernel
theorem dX9_isFor_59 : decode cX9_isFor 59 = .ok (.getfield 72, 3) := by decide +kernel
theorem dX9_isFor_62 : decode cX9_isFor 62 = .ok (.aload_n 1, 1) := by decide +kernel
theorem dX9_isFor_63 : decode cX9_isFor 63 = .ok (.if_acmp .ne 31, 3) := by decide +kernel
theorem dX9_isFor_66 : decode cX9_isFor 66 = .ok (.aload_n 0, 1) := by decide +kernel
theorem dX9_isFor_67 : decode cX9_isFor 67 = .ok (.getfield 30, 3) := by decide +kernel
theorem dX9_isFor_70 : decode cX9_isFor 70 = .ok (.iload_n 2, 1) := by decide +kernel
theorem dX9_isFor_71 : decode cX9_isFor 71 = .ok (.if_icmp .eq 19, 3) := by decide +kernel
theorem dX9_isFor_74 : decode cX9_isFor 74 = .ok (.aload_n 0, 1) := by decide +kernel
theorem dX9_isFor_75 : decode cX9_isFor 75 = .ok (.getfield 33, 3) := by decide +kernel
theorem dX9_isFor_78 : decode cX9_isFor 78 = .ok (.iload_n 2, 1) := by decide +kernel
theorem dX9_isFor_79 : decode cX9_isFor 79 = .ok (.if_icmp .eq 11, 3) := by decide +kernel
theorem dX9_isFor_82 : decode cX9_isFor 82 = .ok (.aload_n 0, 1) := by decide +kernel
theorem dX9_isFor_83 : decode cX9_isFor 83 = .ok (.getfield 36, 3) := by decide +kernel
theorem dX9_isFor_86 : decode cX9_isFor 86 = .ok (.iload_n 2, 1) := by decide +kernel
theorem dX9_isFor_87 : decode cX9_isFor 87 = .ok (.if_icmp .ne 7, 3) := by decide +kernel
theorem dX9_isFor_90 : decode cX9_isFor 90 = .ok (.iconst 1, 1) := by decide +kernel
theorem dX9_isFor_91 : decode cX9_isFor 91 = .ok (.goto 4, 3) := by decide +kernel
theorem dX9_isFor_94 : decode cX9_isFor 94 = .ok (.iconst 0, 1) := by decide +kernel
theorem dX9_isFor_95 : decode cX9_isFor 95 = .ok (.ireturn, 1) := by decide +kernel
theorem dX9_stake_0 : decode cX9_stake 0 = .ok (.aload_n 0, 1) := by decide +kernel
theorem dX9_stake_1 : decode cX9_stake 1 = .ok (.getfield 22, 3) := by decide +kernel
theorem dX9_stake_4 : decode cX9_stake 4 = .ok (.aload_n 0, 1) := by decide +kernel
theorem dX9_stake_5 : decode cX9_stake 5 = .ok (.getfield 15, 3) := by decide +kernel
theorem dX9_stake_8 : decode cX9_stake 8 = .ok (.getfield 58, 3) := by decide +kernel
theorem dX9_stake_11 : decode cX9_stake 11 = .ok (.imul, 1) := by decide +kernel
theorem dX9_stake_12 : decode cX9_stake 12 = .ok (.ireturn, 1) := by decide +kernel
theorem dX4_lineOf_0 : decode cX4_lineOf 0 = .ok (.bipush 13, 2) := by decide +kernel
theorem dX4_lineOf_2 : decode cX4_lineOf 2 = .ok (.istore 4, 2) := by decide +kernel
theorem dX4_lineOf_4 : decode cX4_lineOf 4 = .ok (.aload_n 0, 1) := by decide +kernel
theorem dX4_lineOf_5 : decode cX4_lineOf 5 = .ok (.getfield 19, 3) := by decide +kernel
theorem dX4_lineOf_8 : decode cX4_lineOf 8 = .ok (.tableswitch 68 2 4 #[28, 49, 61], 28) := by decide +kernel
theorem dX4_lineOf_36 : decode cX4_lineOf 36 = .ok (.iload_n 1, 1) := by decide +kernel
theorem dX4_lineOf_37 : decode cX4_lineOf 37 = .ok (.iload_n 2, 1) := by decide +kernel
theorem dX4_lineOf_38 : decode cX4_lineOf 38 = .ok (.if_icmp .ge 12, 3) := by decide +kernel
theorem dX4_lineOf_41 : decode cX4_lineOf 41 = .ok (.iload_n 1, 1) := by decide +kernel
theorem dX4_lineOf_42 : decode cX4_lineOf 42 = .ok (.iload 4, 2) := by decide +kernel
theorem dX4_lineOf_44 : decode cX4_lineOf 44 = .ok (.imul, 1) := by decide +kernel
theorem dX4_lineOf_45 : decode cX4_lineOf 45 = .ok (.iload_n 2, 1) := by decide +kernel
theorem dX4_lineOf_46 : decode cX4_lineOf 46 = .ok (.iadd, 1) := by decide +kernel
theorem dX4_lineOf_47 : decode cX4_lineOf 47 = .ok (.goto 9, 3) := by decide +kernel
theorem dX4_lineOf_50 : decode cX4_lineOf 50 = .ok (.iload_n 2, 1) := by decide +kernel
theorem dX4_lineOf_51 : decode cX4_lineOf 51 = .ok (.iload 4, 2) := by decide +kernel
theorem dX4_lineOf_53 : decode cX4_lineOf 53 = .ok (.imul, 1) := by decide +kernel
theorem dX4_lineOf_54 : decode cX4_lineOf 54 = .ok (.iload_n 1, 1) := by decide +kernel
theorem dX4_lineOf_55 : decode cX4_lineOf 55 = .ok (.iadd, 1) := by decide +kernel
theorem dX4_lineOf_56 : decode cX4_lineOf 56 = .ok (.ireturn, 1) := by decide +kernel
theorem dX4_lineOf_57 : decode cX4_lineOf 57 = .ok (.iload_n 1, 1) := by decide +kernel
theorem dX4_lineOf_58 : decode cX4_lineOf 58 = .ok (.iload 4, 2) := by decide +kernel
theorem dX4_lineOf_60 : decode cX4_lineOf 60 = .ok (.imul, 1) := by decide +kernel
theorem dX4_lineOf_61 : decode cX4_lineOf 61 = .ok (.iload_n 2, 1) := by decide +kernel
theorem dX4_lineOf_62 : decode cX4_lineOf 62 = .ok (.iadd, 1) := by decide +kernel
theorem dX4_lineOf_63 : decode cX4_lineOf 63 = .ok (.iload 4, 2) := by decide +kernel
theorem dX4_lineOf_65 : decode cX4_lineOf 65 = .ok (.imul, 1) := by decide +kernel
theorem dX4_lineOf_66 : decode cX4_lineOf 66 = .ok (.iload_n 3, 1) := by decide +kernel
theorem dX4_lineOf_67 : decode cX4_lineOf 67 = .ok (.iadd, 1) := by decide +kernel
theorem dX4_lineOf_68 : decode cX4_lineOf 68 = .ok (.ireturn, 1) := by decide +kernel
theorem dX4_lineOf_69 : decode cX4_lineOf 69 = .ok (.iload_n 1, 1) := by decide +kernel
theorem dX4_lineOf_70 : decode cX4_lineOf 70 = .ok (.iload 4, 2) := by decide +kernel
theorem dX4_lineOf_72 : decode cX4_lineOf 72 = .ok (.imul, 1) := by decide +kernel
theorem dX4_lineOf_73 : decode cX4_lineOf 73 = .ok (.iload_n 2, 1) := by decide +kernel
theorem dX4_lineOf_74 : decode cX4_lineOf 74 = .ok (.iadd, 1) := by decide +kernel
theorem dX4_lineOf_75 : decode cX4_lineOf 75 = .ok (.ireturn, 1) := by decide +kernel
theorem dX4_lineOf_76 : decode cX4_lineOf 76 = .ok (.iload_n 1, 1) := by decide +kernel
theorem dX4_lineOf_77 : decode cX4_lineOf 77 = .ok (.ireturn, 1) := by decide +kernel
theorem dX9_line_0 : decode cX9_line 0 = .ok (.aload_n 0, 1) := by decide +kernel
theorem dX9_line_1 : decode cX9_line 1 = .ok (.getfield 15, 3) := by decide +kernel
theorem dX9_line_4 : decode cX9_line 4 = .ok (.aload_n 0, 1) := by decide +kernel
theorem dX9_line_5 : decode cX9_line 5 = .ok (.getfield 30, 3) := by decide +kernel
theorem dX9_line_8 : decode cX9_line 8 = .ok (.aload_n 0, 1) := by decide +kernel
theorem dX9_line_9 : decode cX9_line 9 = .ok (.getfield 33, 3) := by decide +kernel
theorem dX9_line_12 : decode cX9_line 12 = .ok (.aload_n 0, 1) := by decide +kernel
theorem dX9_line_13 : decode cX9_line 13 = .ok (.getfield 36, 3) := by decide +kernel
theorem dX9_line_16 : decode cX9_line 16 = .ok (.invokevirtual 54, 3) := by decide +kernel
theorem dX9_line_19 : decode cX9_line 19 = .ok (.ireturn, 1) := by decide +kernel
theorem dX4_addLive_0 : decode cX4_addLive 0 = .ok (.aload_n 0, 1) := by decide +kernel
theorem dX4_addLive_1 : decode cX4_addLive 1 = .ok (.getfield 35, 3) := by decide +kernel
theorem dX4_addLive_4 : decode cX4_addLive 4 = .ok (.iload_n 1, 1) := by decide +kernel
theorem dX4_addLive_5 : decode cX4_addLive 5 = .ok (.dup2, 1) := by decide +kernel
theorem dX4_addLive_6 : decode cX4_addLive 6 = .ok (.iaload, 1) := by decide +kernel
theorem dX4_addLive_7 : decode cX4_addLive 7 = .ok (.iload_n 2, 1) := by decide +kernel
theorem dX4_addLive_8 : decode cX4_addLive 8 = .ok (.iadd, 1) := by decide +kernel
theorem dX4_addLive_9 : decode cX4_addLive 9 = .ok (.iastore, 1) := by decide +kernel
theorem dX4_addLive_10 : decode cX4_addLive 10 = .ok (.aload_n 0, 1) := by decide +kernel
theorem dX4_addLive_11 : decode cX4_addLive 11 = .ok (.dup, 1) := by decide +kernel
theorem dX4_addLive_12 : decode cX4_addLive 12 = .ok (.getfield 50, 3) := by decide +kernel
theorem dX4_addLive_15 : decode cX4_addLive 15 = .ok (.iload_n 2, 1) := by decide +kernel
theorem dX4_addLive_16 : decode cX4_addLive 16 = .ok (.iadd, 1) := by decide +kernel
theorem dX4_addLive_17 : decode cX4_addLive 17 = .ok (.putfield 50, 3) := by decide +kernel
theorem dX4_addLive_20 : decode cX4_addLive 20 = .ok (.return_, 1) := by decide +kernel
theorem dX9_end_0 : decode cX9_end 0 = .ok (.aload_n 0, 1) := by decide +kernel
theorem dX9_end_1 : decode cX9_end 1 = .ok (.getfield 15, 3) := by decide +kernel
theorem dX9_end_4 : decode cX9_end 4 = .ok (.aload_n 0, 1) := by decide +kernel
theorem dX9_end_5 : decode cX9_end 5 = .ok (.invokevirtual 39, 3) := by decide +kernel
theorem dX9_end_8 : decode cX9_end 8 = .ok (.aload_n 0, 1) := by decide +kernel
theorem dX9_end_9 : decode cX9_end 9 = .ok (.getfield 22, 3) := by decide +kernel
theorem dX9_end_12 : decode cX9_end 12 = .ok (.ineg, 1) := by decide +kernel
theorem dX9_end_13 : decode cX9_end 13 = .ok (.invokevirtual 43, 3) := by decide +kernel
theorem dX9_end_16 : decode cX9_end 16 = .ok (.aload_n 0, 1) := by decide +kernel
theorem dX9_end_17 : decode cX9_end 17 = .ok (.getfield 15, 3) := by decide +kernel
theorem dX9_end_20 : decode cX9_end 20 = .ok (.getfield 47, 3) := by decide +kernel
theorem dX9_end_23 : decode cX9_end 23 = .ok (.iload_n 2, 1) := by decide +kernel
theorem dX9_end_24 : decode cX9_end 24 = .ok (.dup2, 1) := by decide +kernel
theorem dX9_end_25 : decode cX9_end 25 = .ok (.iaload, 1) := by decide +kernel
theorem dX9_end_26 : decode cX9_end 26 = .ok (.iload_n 3, 1) := by decide +kernel
theorem dX9_end_27 : decode cX9_end 27 = .ok (.iadd, 1) := by decide +kernel
theorem dX9_end_28 : decode cX9_end 28 = .ok (.iastore, 1) := by decide +kernel
theorem dX9_end_29 : decode cX9_end 29 = .ok (.aload_n 0, 1) := by decide +kernel
theorem dX9_end_30 : decode cX9_end 30 = .ok (.iload_n 1, 1) := by decide +kernel
theorem dX9_end_31 : decode cX9_end 31 = .ok (.putfield 9, 3) := by decide +kernel
theorem dX9_end_34 : decode cX9_end 34 = .ok (.return_, 1) := by decide +kernel
theorem dX9_refund_0 : decode cX9_refund 0 = .ok (.aload_n 0, 1) := by decide +kernel
theorem dX9_refund_1 : decode cX9_refund 1 = .ok (.iconst 2, 1) := by decide +kernel
theorem dX9_refund_2 : decode cX9_refund 2 = .ok (.iconst 2, 1) := by decide +kernel
theorem dX9_refund_3 : decode cX9_refund 3 = .ok (.aload_n 0, 1) := by decide +kernel
theorem dX9_refund_4 : decode cX9_refund 4 = .ok (.invokevirtual 51, 3) := by decide +kernel
theorem dX9_refund_7 : decode cX9_refund 7 = .ok (.invokevirtual 68, 3) := by decide +kernel
theorem dX9_refund_10 : decode cX9_refund 10 = .ok (.return_, 1) := by decide +kernel
theorem dX9_loseRunner_0 : decode cX9_loseRunner 0 = .ok (.aload_n 0, 1) := by decide +kernel
theorem dX9_loseRunner_1 : decode cX9_loseRunner 1 = .ok (.getfield 15, 3) := by decide +kernel
theorem dX9_loseRunner_4 : decode cX9_loseRunner 4 = .ok (.getfield 25, 3) := by decide +kernel
theorem dX9_loseRunner_7 : decode cX9_loseRunner 7 = .ok (.iconst 4, 1) := by decide +kernel
theorem dX9_loseRunner_8 : decode cX9_loseRunner 8 = .ok (.if_icmp .ne 21, 3) := by decide +kernel
theorem dX9_loseRunner_11 : decode cX9_loseRunner 11 = .ok (.aload_n 1, 1) := by decide +kernel
theorem dX9_loseRunner_12 : decode cX9_loseRunner 12 = .ok (.getfield 79, 3) := by decide +kernel
theorem dX9_loseRunner_15 : decode cX9_loseRunner 15 = .ok (.ifCond .eq 14, 3) := by decide +kernel
theorem dX9_loseRunner_18 : decode cX9_loseRunner 18 = .ok (.aload_n 1, 1) := by decide +kernel
theorem dX9_loseRunner_19 : decode cX9_loseRunner 19 = .ok (.aload_n 1, 1) := by decide +kernel
theorem dX9_loseRunner_20 : decode cX9_loseRunner 20 = .ok (.getfield 79, 3) := by decide +kernel
theorem dX9_loseRunner_23 : decode cX9_loseRunner 23 = .ok (.invokevirtual 84, 3) := by decide +kernel
theorem dX9_loseRunner_26 : decode cX9_loseRunner 26 = .ok (.ifCond .eq 8, 3) := by decide +kernel
theorem dX9_loseRunner_29 : decode cX9_loseRunner 29 = .ok (.aload_n 0, 1) := by decide +kernel
theorem dX9_loseRunner_30 : decode cX9_loseRunner 30 = .ok (.invokevirtual 88, 3) := by decide +kernel
theorem dX9_loseRunner_33 : decode cX9_loseRunner 33 = .ok (.return_, 1) := by decide +kernel
theorem dX9_loseRunner_34 : decode cX9_loseRunner 34 = .ok (.aload_n 0, 1) := by decide +kernel
theorem dX9_loseRunner_35 : decode cX9_loseRunner 35 = .ok (.getfield 15, 3) := by decide +kernel
theorem dX9_loseRunner_38 : decode cX9_loseRunner 38 = .ok (.aload_n 0, 1) := by decide +kernel
theorem dX9_loseRunner_39 : decode cX9_loseRunner 39 = .ok (.invokevirtual 39, 3) := by decide +kernel
theorem dX9_loseRunner_42 : decode cX9_loseRunner 42 = .ok (.aload_n 0, 1) := by decide +kernel
theorem dX9_loseRunner_43 : decode cX9_loseRunner 43 = .ok (.getfield 22, 3) := by decide +kernel
theorem dX9_loseRunner_46 : decode cX9_loseRunner 46 = .ok (.ineg, 1) := by decide +kernel
theorem dX9_loseRunner_47 : decode cX9_loseRunner 47 = .ok (.invokevirtual 43, 3) := by decide +kernel
theorem dX9_loseRunner_50 : decode cX9_loseRunner 50 = .ok (.aload_n 0, 1) := by decide +kernel
theorem dX9_loseRunner_51 : decode cX9_loseRunner 51 = .ok (.getfield 15, 3) := by decide +kernel
theorem dX9_loseRunner_54 : decode cX9_loseRunner 54 = .ok (.getfield 72, 3) := by decide +kernel
theorem dX9_loseRunner_57 : decode cX9_loseRunner 57 = .ok (.aload_n 1, 1) := by decide +kernel
theorem dX9_loseRunner_58 : decode cX9_loseRunner 58 = .ok (.if_acmp .ne 14, 3) := by decide +kernel
theorem dX9_loseRunner_61 : decode cX9_loseRunner 61 = .ok (.aload_n 0, 1) := by decide +kernel
theorem dX9_loseRunner_62 : decode cX9_loseRunner 62 = .ok (.aload_n 1, 1) := by decide +kernel
theorem dX9_loseRunner_63 : decode cX9_loseRunner 63 = .ok (.getfield 79, 3) := by decide +kernel
theorem dX9_loseRunner_66 : decode cX9_loseRunner 66 = .ok (.putfield 30, 3) := by decide +kernel
theorem dX9_loseRunner_69 : decode cX9_loseRunner 69 = .ok (.goto 11, 3) := by decide +kernel
theorem dX9_loseRunner_72 : decode cX9_loseRunner 72 = .ok (.aload_n 0, 1) := by decide +kernel
theorem dX9_loseRunner_73 : decode cX9_loseRunner 73 = .ok (.aload_n 1, 1) := by decide +kernel
theorem dX9_loseRunner_74 : decode cX9_loseRunner 74 = .ok (.getfield 79, 3) := by decide +kernel
theorem dX9_loseRunner_77 : decode cX9_loseRunner 77 = .ok (.putfield 33, 3) := by decide +kernel
theorem dX9_loseRunner_80 : decode cX9_loseRunner 80 = .ok (.aload_n 0, 1) := by decide +kernel
theorem dX9_loseRunner_81 : decode cX9_loseRunner 81 = .ok (.getfield 15, 3) := by decide +kernel
theorem dX9_loseRunner_84 : decode cX9_loseRunner 84 = .ok (.aload_n 0, 1) := by decide +kernel
theorem dX9_loseRunner_85 : decode cX9_loseRunner 85 = .ok (.invokevirtual 39, 3) := by decide +kernel
theorem dX9_loseRunner_88 : decode cX9_loseRunner 88 = .ok (.aload_n 0, 1) := by decide +kernel
theorem dX9_loseRunner_89 : decode cX9_loseRunner 89 = .ok (.getfield 22, 3) := by decide +kernel
theorem dX9_loseRunner_92 : decode cX9_loseRunner 92 = .ok (.invokevirtual 43, 3) := by decide +kernel
theorem dX9_loseRunner_95 : decode cX9_loseRunner 95 = .ok (.return_, 1) := by decide +kernel
theorem dX10_scratch_0 : decode cX10_scratch 0 = .ok (.aload_n 0, 1) := by decide +kernel
theorem dX10_scratch_1 : decode cX10_scratch 1 = .ok (.iload_n 1, 1) := by decide +kernel
theorem dX10_scratch_2 : decode cX10_scratch 2 = .ok (.invokevirtual 76, 3) := by decide +kernel
theorem dX10_scratch_5 : decode cX10_scratch 5 = .ok (.astore_n 3, 1) := by decide +kernel
theorem dX10_scratch_6 : decode cX10_scratch 6 = .ok (.aload_n 3, 1) := by decide +kernel
theorem dX10_scratch_7 : decode cX10_scratch 7 = .ok (.iload_n 2, 1) := by decide +kernel
theorem dX10_scratch_8 : decode cX10_scratch 8 = .ok (.iconst 0, 1) := by decide +kernel
theorem dX10_scratch_9 : decode cX10_scratch 9 = .ok (.invokestatic 94, 3) := by decide +kernel
theorem dX10_scratch_12 : decode cX10_scratch 12 = .ok (.istore 4, 2) := by decide +kernel
theorem dX10_scratch_14 : decode cX10_scratch 14 = .ok (.aload_n 3, 1) := by decide +kernel
theorem dX10_scratch_15 : decode cX10_scratch 15 = .ok (.ifnull 8, 3) := by decide +kernel
theorem dX10_scratch_18 : decode cX10_scratch 18 = .ok (.iload 4, 2) := by decide +kernel
theorem dX10_scratch_20 : decode cX10_scratch 20 = .ok (.ifCond .eq 6, 3) := by decide +kernel
theorem dX10_scratch_23 : decode cX10_scratch 23 = .ok (.iload 4, 2) := by decide +kernel
theorem dX10_scratch_25 : decode cX10_scratch 25 = .ok (.ireturn, 1) := by decide +kernel
theorem dX10_scratch_26 : decode cX10_scratch 26 = .ok (.aload_n 3, 1) := by decide +kernel
theorem dX10_scratch_27 : decode cX10_scratch 27 = .ok (.iload_n 2, 1) := by decide +kernel
theorem dX10_scratch_28 : decode cX10_scratch 28 = .ok (.invokevirtual 101, 3) := by decide +kernel
theorem dX10_scratch_31 : decode cX10_scratch 31 = .ok (.iconst 0, 1) := by decide +kernel
theorem dX10_scratch_32 : decode cX10_scratch 32 = .ok (.istore 5, 2) := by decide +kernel
theorem dX10_scratch_34 : decode cX10_scratch 34 = .ok (.iconst 0, 1) := by decide +kernel
theorem dX10_scratch_35 : decode cX10_scratch 35 = .ok (.istore 6, 2) := by decide +kernel
theorem dX10_scratch_37 : decode cX10_scratch 37 = .ok (.iload 6, 2) := by decide +kernel
theorem dX10_scratch_39 : decode cX10_scratch 39 = .ok (.aload_n 0, 1) := by decide +kernel
theorem dX10_scratch_40 : decode cX10_scratch 40 = .ok (.getfield 104, 3) := by decide +kernel
theorem dX10_scratch_43 : decode cX10_scratch 43 = .ok (.if_icmp .ge 51, 3) := by decide +kernel
theorem dX10_scratch_46 : decode cX10_scratch 46 = .ok (.aload_n 0, 1) := by decide +kernel
theorem dX10_scratch_47 : decode cX10_scratch 47 = .ok (.getfield 23, 3) := by decide +kernel
theorem dX10_scratch_50 : decode cX10_scratch 50 = .ok (.iload 6, 2) := by decide +kernel
theorem dX10_scratch_52 : decode cX10_scratch 52 = .ok (.aaload, 1) := by decide +kernel
theorem dX10_scratch_53 : decode cX10_scratch 53 = .ok (.getfield 107, 3) := by decide +kernel
theorem dX10_scratch_56 : decode cX10_scratch 56 = .ok (.ifCond .ne 32, 3) := by decide +kernel
theorem dX10_scratch_59 : decode cX10_scratch 59 = .ok (.aload_n 0, 1) := by decide +kernel
theorem dX10_scratch_60 : decode cX10_scratch 60 = .ok (.getfield 23, 3) := by decide +kernel
theorem dX10_scratch_63 : decode cX10_scratch 63 = .ok (.iload 6, 2) := by decide +kernel
theorem dX10_scratch_65 : decode cX10_scratch 65 = .ok (.aaload, 1) := by decide +kernel
theorem dX10_scratch_66 : decode cX10_scratch 66 = .ok (.aload_n 3, 1) := by decide +kernel
theorem dX10_scratch_67 : decode cX10_scratch 67 = .ok (.iload_n 2, 1) := by decide +kernel
theorem dX10_scratch_68 : decode cX10_scratch 68 = .ok (.invokevirtual 108, 3) := by decide +kernel
theorem dX10_scratch_71 : decode cX10_scratch 71 = .ok (.ifCond .eq 17, 3) := by decide +kernel
theorem dX10_scratch_74 : decode cX10_scratch 74 = .ok (.aload_n 0, 1) := by decide +kernel
theorem dX10_scratch_75 : decode cX10_scratch 75 = .ok (.getfield 23, 3) := by decide +kernel
theorem dX10_scratch_78 : decode cX10_scratch 78 = .ok (.iload 6, 2) := by decide +kernel
theorem dX10_scratch_80 : decode cX10_scratch 80 = .ok (.aaload, 1) := by decide +kernel
theorem dX10_scratch_81 : decode cX10_scratch 81 = .ok (.aload_n 3, 1) := by decide +kernel
theorem dX10_scratch_82 : decode cX10_scratch 82 = .ok (.invokevirtual 112, 3) := by decide +kernel
theorem dX10_scratch_85 : decode cX10_scratch 85 = .ok (.iinc 5 1, 3) := by decide +kernel
theorem dX10_scratch_88 : decode cX10_scratch 88 = .ok (.iinc 6 1, 3) := by decide +kernel
theorem dX10_scratch_91 : decode cX10_scratch 91 = .ok (.goto (-54), 3) := by decide +kernel
theorem dX10_scratch_94 : decode cX10_scratch 94 = .ok (.iload 5, 2) := by decide +kernel
theorem dX10_scratch_96 : decode cX10_scratch 96 = .ok (.ireturn, 1) := by decide +kernel
theorem dX11_stake_0 : decode cX11_stake 0 = .ok (.aload_n 0, 1) := by decide +kernel
theorem dX11_stake_1 : decode cX11_stake 1 = .ok (.getfield 80, 3) := by decide +kernel
theorem dX11_stake_4 : decode cX11_stake 4 = .ok (.iload_n 1, 1) := by decide +kernel
theorem dX11_stake_5 : decode cX11_stake 5 = .ok (.iaload, 1) := by decide +kernel
theorem dX11_stake_6 : decode cX11_stake 6 = .ok (.aload_n 0, 1) := by decide +kernel
theorem dX11_stake_7 : decode cX11_stake 7 = .ok (.getfield 32, 3) := by decide +kernel
theorem dX11_stake_10 : decode cX11_stake 10 = .ok (.aload_n 0, 1) := by decide +kernel
theorem dX11_stake_11 : decode cX11_stake 11 = .ok (.getfield 68, 3) := by decide +kernel
theorem dX11_stake_14 : decode cX11_stake 14 = .ok (.iload_n 1, 1) := by decide +kernel
theorem dX11_stake_15 : decode cX11_stake 15 = .ok (.iaload, 1) := by decide +kernel
theorem dX11_stake_16 : decode cX11_stake 16 = .ok (.iaload, 1) := by decide +kernel
theorem dX11_stake_17 : decode cX11_stake 17 = .ok (.imul, 1) := by decide +kernel
theorem dX11_stake_18 : decode cX11_stake 18 = .ok (.ireturn, 1) := by decide +kernel
theorem dX11_refund_0 : decode cX11_refund 0 = .ok (.aload_n 0, 1) := by decide +kernel
theorem dX11_refund_1 : decode cX11_refund 1 = .ok (.getfield 83, 3) := by decide +kernel
theorem dX11_refund_4 : decode cX11_refund 4 = .ok (.iload_n 1, 1) := by decide +kernel
theorem dX11_refund_5 : decode cX11_refund 5 = .ok (.iconst 2, 1) := by decide +kernel
theorem dX11_refund_6 : decode cX11_refund 6 = .ok (.iastore, 1) := by decide +kernel
theorem dX11_refund_7 : decode cX11_refund 7 = .ok (.aload_n 0, 1) := by decide +kernel
theorem dX11_refund_8 : decode cX11_refund 8 = .ok (.getfield 44, 3) := by decide +kernel
theorem dX11_refund_11 : decode cX11_refund 11 = .ok (.aload_n 0, 1) := by decide +kernel
theorem dX11_refund_12 : decode cX11_refund 12 = .ok (.getfield 68, 3) := by decide +kernel
theorem dX11_refund_15 : decode cX11_refund 15 = .ok (.iload_n 1, 1) := by decide +kernel
theorem dX11_refund_16 : decode cX11_refund 16 = .ok (.iaload, 1) := by decide +kernel
theorem dX11_refund_17 : decode cX11_refund 17 = .ok (.dup2, 1) := by decide +kernel
theorem dX11_refund_18 : decode cX11_refund 18 = .ok (.iaload, 1) := by decide +kernel
theorem dX11_refund_19 : decode cX11_refund 19 = .ok (.aload_n 0, 1) := by decide +kernel
theorem dX11_refund_20 : decode cX11_refund 20 = .ok (.iload_n 1, 1) := by decide +kernel
theorem dX11_refund_21 : decode cX11_refund 21 = .ok (.invokevirtual 201, 3) := by decide +kernel
theorem dX11_refund_24 : decode cX11_refund 24 = .ok (.iadd, 1) := by decide +kernel
theorem dX11_refund_25 : decode cX11_refund 25 = .ok (.iastore, 1) := by decide +kernel
theorem dX11_refund_26 : decode cX11_refund 26 = .ok (.return_, 1) := by decide +kernel
theorem dX11_scratch_0 : decode cX11_scratch 0 = .ok (.aload_n 0, 1) := by decide +kernel
theorem dX11_scratch_1 : decode cX11_scratch 1 = .ok (.iload_n 1, 1) := by decide +kernel
theorem dX11_scratch_2 : decode cX11_scratch 2 = .ok (.iload_n 2, 1) := by decide +kernel
theorem dX11_scratch_3 : decode cX11_scratch 3 = .ok (.invokevirtual 197, 3) := by decide +kernel
theorem dX11_scratch_6 : decode cX11_scratch 6 = .ok (.istore_n 3, 1) := by decide +kernel
theorem dX11_scratch_7 : decode cX11_scratch 7 = .ok (.iload_n 3, 1) := by decide +kernel
theorem dX11_scratch_8 : decode cX11_scratch 8 = .ok (.ifCond .ge 5, 3) := by decide +kernel
theorem dX11_scratch_11 : decode cX11_scratch 11 = .ok (.iload_n 3, 1) := by decide +kernel
theorem dX11_scratch_12 : decode cX11_scratch 12 = .ok (.ireturn, 1) := by decide +kernel
theorem dX11_scratch_13 : decode cX11_scratch 13 = .ok (.aload_n 0, 1) := by decide +kernel
theorem dX11_scratch_14 : decode cX11_scratch 14 = .ok (.getfield 7, 3) := by decide +kernel
theorem dX11_scratch_17 : decode cX11_scratch 17 = .ok (.iload_n 1, 1) := by decide +kernel
theorem dX11_scratch_18 : decode cX11_scratch 18 = .ok (.iaload, 1) := by decide +kernel
theorem dX11_scratch_19 : decode cX11_scratch 19 = .ok (.ifCond .eq 6, 3) := by decide +kernel
theorem dX11_scratch_22 : decode cX11_scratch 22 = .ok (.bipush (-6), 2) := by decide +kernel
theorem dX11_scratch_24 : decode cX11_scratch 24 = .ok (.ireturn, 1) := by decide +kernel
theorem dX11_scratch_25 : decode cX11_scratch 25 = .ok (.aload_n 0, 1) := by decide +kernel
theorem dX11_scratch_26 : decode cX11_scratch 26 = .ok (.getfield 19, 3) := by decide +kernel
theorem dX11_scratch_29 : decode cX11_scratch 29 = .ok (.bipush 13, 2) := by decide +kernel
theorem dX11_scratch_31 : decode cX11_scratch 31 = .ok (.iload_n 1, 1) := by decide +kernel
theorem dX11_scratch_32 : decode cX11_scratch 32 = .ok (.imul, 1) := by decide +kernel
theorem dX11_scratch_33 : decode cX11_scratch 33 = .ok (.iload_n 2, 1) := by decide +kernel
theorem dX11_scratch_34 : decode cX11_scratch 34 = .ok (.iadd, 1) := by decide +kernel
theorem dX11_scratch_35 : decode cX11_scratch 35 = .ok (.iconst 1, 1) := by decide +kernel
theorem dX11_scratch_36 : decode cX11_scratch 36 = .ok (.bastore, 1) := by decide +kernel
theorem dX11_scratch_37 : decode cX11_scratch 37 = .ok (.aload_n 0, 1) := by decide +kernel
theorem dX11_scratch_38 : decode cX11_scratch 38 = .ok (.getfield 16, 3) := by decide +kernel
theorem dX11_scratch_41 : decode cX11_scratch 41 = .ok (.iload_n 1, 1) := by decide +kernel
theorem dX11_scratch_42 : decode cX11_scratch 42 = .ok (.iaload, 1) := by decide +kernel
theorem dX11_scratch_43 : decode cX11_scratch 43 = .ok (.istore 4, 2) := by decide +kernel
theorem dX11_scratch_45 : decode cX11_scratch 45 = .ok (.iload 4, 2) := by decide +kernel
theorem dX11_scratch_47 : decode cX11_scratch 47 = .ok (.ifCond .eq 22, 3) := by decide +kernel
theorem dX11_scratch_50 : decode cX11_scratch 50 = .ok (.aload_n 0, 1) := by decide +kernel
theorem dX11_scratch_51 : decode cX11_scratch 51 = .ok (.getfield 19, 3) := by decide +kernel
theorem dX11_scratch_54 : decode cX11_scratch 54 = .ok (.bipush 13, 2) := by decide +kernel
theorem dX11_scratch_56 : decode cX11_scratch 56 = .ok (.iload_n 1, 1) := by decide +kernel
theorem dX11_scratch_57 : decode cX11_scratch 57 = .ok (.imul, 1) := by decide +kernel
theorem dX11_scratch_58 : decode cX11_scratch 58 = .ok (.iload 4, 2) := by decide +kernel
theorem dX11_scratch_60 : decode cX11_scratch 60 = .ok (.iadd, 1) := by decide +kernel
theorem dX11_scratch_61 : decode cX11_scratch 61 = .ok (.baload, 1) := by decide +kernel
theorem dX11_scratch_62 : decode cX11_scratch 62 = .ok (.ifCond .ne 7, 3) := by decide +kernel
theorem dX11_scratch_65 : decode cX11_scratch 65 = .ok (.iconst 1, 1) := by decide +kernel
theorem dX11_scratch_66 : decode cX11_scratch 66 = .ok (.goto 4, 3) := by decide +kernel
theorem dX11_scratch_69 : decode cX11_scratch 69 = .ok (.iconst 0, 1) := by decide +kernel
theorem dX11_scratch_70 : decode cX11_scratch 70 = .ok (.istore 5, 2) := by decide +kernel
theorem dX11_scratch_72 : decode cX11_scratch 72 = .ok (.iconst 0, 1) := by decide +kernel
theorem dX11_scratch_73 : decode cX11_scratch 73 = .ok (.istore 6, 2) := by decide +kernel
theorem dX11_scratch_75 : decode cX11_scratch 75 = .ok (.iconst 0, 1) := by decide +kernel
theorem dX11_scratch_76 : decode cX11_scratch 76 = .ok (.istore 7, 2) := by decide +kernel
theorem dX11_scratch_78 : decode cX11_scratch 78 = .ok (.iload 7, 2) := by decide +kernel
theorem dX11_scratch_80 : decode cX11_scratch 80 = .ok (.aload_n 0, 1) := by decide +kernel
theorem dX11_scratch_81 : decode cX11_scratch 81 = .ok (.getfield 205, 3) := by decide +kernel
theorem dX11_scratch_84 : decode cX11_scratch 84 = .ok (.if_icmp .ge 196, 3) := by decide +kernel
theorem dX11_scratch_87 : decode cX11_scratch 87 = .ok (.aload_n 0, 1) := by decide +kernel
theorem dX11_scratch_88 : decode cX11_scratch 88 = .ok (.getfield 83, 3) := by decide +kernel
theorem dX11_scratch_91 : decode cX11_scratch 91 = .ok (.iload 7, 2) := by decide +kernel
theorem dX11_scratch_93 : decode cX11_scratch 93 = .ok (.iaload, 1) := by decide +kernel
theorem dX11_scratch_94 : decode cX11_scratch 94 = .ok (.ifCond .eq 6, 3) := by decide +kernel
theorem dX11_scratch_97 : decode cX11_scratch 97 = .ok (.goto 177, 3) := by decide +kernel
theorem dX11_scratch_100 : decode cX11_scratch 100 = .ok (.aload_n 0, 1) := by decide +kernel
theorem dX11_scratch_101 : decode cX11_scratch 101 = .ok (.getfield 68, 3) := by decide +kernel
theorem dX11_scratch_104 : decode cX11_scratch 104 = .ok (.iload 7, 2) := by decide +kernel
theorem dX11_scratch_106 : decode cX11_scratch 106 = .ok (.iaload, 1) := by decide +kernel
theorem dX11_scratch_107 : decode cX11_scratch 107 = .ok (.istore 8, 2) := by decide +kernel
theorem dX11_scratch_109 : decode cX11_scratch 109 = .ok (.iload 8, 2) := by decide +kernel
theorem dX11_scratch_111 : decode cX11_scratch 111 = .ok (.bipush 48, 2) := by decide +kernel
theorem dX11_scratch_113 : decode cX11_scratch 113 = .ok (.if_icmp .ne 111, 3) := by decide +kernel
theorem dX11_scratch_116 : decode cX11_scratch 116 = .ok (.aload_n 0, 1) := by decide +kernel
theorem dX11_scratch_117 : decode cX11_scratch 117 = .ok (.getfield 176, 3) := by decide +kernel
theorem dX11_scratch_120 : decode cX11_scratch 120 = .ok (.iload_n 1, 1) := by decide +kernel
theorem dX11_scratch_121 : decode cX11_scratch 121 = .ok (.if_icmp .ne 18, 3) := by decide +kernel
theorem dX11_scratch_124 : decode cX11_scratch 124 = .ok (.aload_n 0, 1) := by decide +kernel
theorem dX11_scratch_125 : decode cX11_scratch 125 = .ok (.getfield 71, 3) := by decide +kernel
theorem dX11_scratch_128 : decode cX11_scratch 128 = .ok (.iload 7, 2) := by decide +kernel
theorem dX11_scratch_130 : decode cX11_scratch 130 = .ok (.iaload, 1) := by decide +kernel
theorem dX11_scratch_131 : decode cX11_scratch 131 = .ok (.iload_n 2, 1) := by decide +kernel
theorem dX11_scratch_132 : decode cX11_scratch 132 = .ok (.if_icmp .ne 7, 3) := by decide +kernel
theorem dX11_scratch_135 : decode cX11_scratch 135 = .ok (.iconst 1, 1) := by decide +kernel
theorem dX11_scratch_136 : decode cX11_scratch 136 = .ok (.goto 4, 3) := by decide +kernel
theorem dX11_scratch_139 : decode cX11_scratch 139 = .ok (.iconst 0, 1) := by decide +kernel
theorem dX11_scratch_140 : decode cX11_scratch 140 = .ok (.istore 9, 2) := by decide +kernel
theorem dX11_scratch_142 : decode cX11_scratch 142 = .ok (.aload_n 0, 1) := by decide +kernel
theorem dX11_scratch_143 : decode cX11_scratch 143 = .ok (.getfield 191, 3) := by decide +kernel
theorem dX11_scratch_146 : decode cX11_scratch 146 = .ok (.iload_n 1, 1) := by decide +kernel
theorem dX11_scratch_147 : decode cX11_scratch 147 = .ok (.if_icmp .ne 18, 3) := by decide +kernel
theorem dX11_scratch_150 : decode cX11_scratch 150 = .ok (.aload_n 0, 1) := by decide +kernel
theorem dX11_scratch_151 : decode cX11_scratch 151 = .ok (.getfield 74, 3) := by decide +kernel
theorem dX11_scratch_154 : decode cX11_scratch 154 = .ok (.iload 7, 2) := by decide +kernel
theorem dX11_scratch_156 : decode cX11_scratch 156 = .ok (.iaload, 1) := by decide +kernel
theorem dX11_scratch_157 : decode cX11_scratch 157 = .ok (.iload_n 2, 1) := by decide +kernel
theorem dX11_scratch_158 : decode cX11_scratch 158 = .ok (.if_icmp .ne 7, 3) := by decide +kernel
theorem dX11_scratch_161 : decode cX11_scratch 161 = .ok (.iconst 1, 1) := by decide +kernel
theorem dX11_scratch_162 : decode cX11_scratch 162 = .ok (.goto 4, 3) := by decide +kernel
theorem dX11_scratch_165 : decode cX11_scratch 165 = .ok (.iconst 0, 1) := by decide +kernel
theorem dX11_scratch_166 : decode cX11_scratch 166 = .ok (.istore 10, 2) := by decide +kernel
theorem dX11_scratch_168 : decode cX11_scratch 168 = .ok (.iload 9, 2) := by decide +kernel
theorem dX11_scratch_170 : decode cX11_scratch 170 = .ok (.ifCond .ne 8, 3) := by decide +kernel
theorem dX11_scratch_173 : decode cX11_scratch 173 = .ok (.iload 10, 2) := by decide +kernel
theorem dX11_scratch_175 : decode cX11_scratch 175 = .ok (.ifCond .eq 46, 3) := by decide +kernel
theorem dX11_scratch_178 : decode cX11_scratch 178 = .ok (.iinc 6 1, 3) := by decide +kernel
theorem dX11_scratch_181 : decode cX11_scratch 181 = .ok (.iload 5, 2) := by decide +kernel
theorem dX11_scratch_183 : decode cX11_scratch 183 = .ok (.ifCond .ne 12, 3) := by decide +kernel
theorem dX11_scratch_186 : decode cX11_scratch 186 = .ok (.aload_n 0, 1) := by decide +kernel
theorem dX11_scratch_187 : decode cX11_scratch 187 = .ok (.iload 7, 2) := by decide +kernel
theorem dX11_scratch_189 : decode cX11_scratch 189 = .ok (.invokevirtual 208, 3) := by decide +kernel
theorem dX11_scratch_192 : decode cX11_scratch 192 = .ok (.goto 29, 3) := by decide +kernel
theorem dX11_scratch_195 : decode cX11_scratch 195 = .ok (.iload 9, 2) := by decide +kernel
theorem dX11_scratch_197 : decode cX11_scratch 197 = .ok (.ifCond .eq 15, 3) := by decide +kernel
theorem dX11_scratch_200 : decode cX11_scratch 200 = .ok (.aload_n 0, 1) := by decide +kernel
theorem dX11_scratch_201 : decode cX11_scratch 201 = .ok (.getfield 71, 3) := by decide +kernel
theorem dX11_scratch_204 : decode cX11_scratch 204 = .ok (.iload 7, 2) := by decide +kernel
theorem dX11_scratch_206 : decode cX11_scratch 206 = .ok (.iload 4, 2) := by decide +kernel
theorem dX11_scratch_208 : decode cX11_scratch 208 = .ok (.iastore, 1) := by decide +kernel
theorem dX11_scratch_209 : decode cX11_scratch 209 = .ok (.goto 12, 3) := by decide +kernel
theorem dX11_scratch_212 : decode cX11_scratch 212 = .ok (.aload_n 0, 1) := by decide +kernel
theorem dX11_scratch_213 : decode cX11_scratch 213 = .ok (.getfield 74, 3) := by decide +kernel
theorem dX11_scratch_216 : decode cX11_scratch 216 = .ok (.iload 7, 2) := by decide +kernel
theorem dX11_scratch_218 : decode cX11_scratch 218 = .ok (.iload 4, 2) := by decide +kernel
theorem dX11_scratch_220 : decode cX11_scratch 220 = .ok (.iastore, 1) := by decide +kernel
theorem dX11_scratch_221 : decode cX11_scratch 221 = .ok (.goto 53, 3) := by decide +kernel
theorem dX11_scratch_224 : decode cX11_scratch 224 = .ok (.iload 8, 2) := by decide +kernel
theorem dX11_scratch_226 : decode cX11_scratch 226 = .ok (.iconst 4, 1) := by decide +kernel
theorem dX11_scratch_227 : decode cX11_scratch 227 = .ok (.idiv, 1) := by decide +kernel
theorem dX11_scratch_228 : decode cX11_scratch 228 = .ok (.iload_n 1, 1) := by decide +kernel
theorem dX11_scratch_229 : decode cX11_scratch 229 = .ok (.if_icmp .ne 45, 3) := by decide +kernel
theorem dX11_scratch_232 : decode cX11_scratch 232 = .ok (.aload_n 0, 1) := by decide +kernel
theorem dX11_scratch_233 : decode cX11_scratch 233 = .ok (.getfield 71, 3) := by decide +kernel
theorem dX11_scratch_236 : decode cX11_scratch 236 = .ok (.iload 7, 2) := by decide +kernel
theorem dX11_scratch_238 : decode cX11_scratch 238 = .ok (.iaload, 1) := by decide +kernel
theorem dX11_scratch_239 : decode cX11_scratch 239 = .ok (.iload_n 2, 1) := by decide +kernel
theorem dX11_scratch_240 : decode cX11_scratch 240 = .ok (.if_icmp .eq 25, 3) := by decide +kernel
theorem dX11_scratch_243 : decode cX11_scratch 243 = .ok (.aload_n 0, 1) := by decide +kernel
theorem dX11_scratch_244 : decode cX11_scratch 244 = .ok (.getfield 74, 3) := by decide +kernel
theorem dX11_scratch_247 : decode cX11_scratch 247 = .ok (.iload 7, 2) := by decide +kernel
theorem dX11_scratch_249 : decode cX11_scratch 249 = .ok (.iaload, 1) := by decide +kernel
theorem dX11_scratch_250 : decode cX11_scratch 250 = .ok (.iload_n 2, 1) := by decide +kernel
theorem dX11_scratch_251 : decode cX11_scratch 251 = .ok (.if_icmp .eq 14, 3) := by decide +kernel
theorem dX11_scratch_254 : decode cX11_scratch 254 = .ok (.aload_n 0, 1) := by decide +kernel
theorem dX11_scratch_255 : decode cX11_scratch 255 = .ok (.getfield 77, 3) := by decide +kernel
theorem dX11_scratch_258 : decode cX11_scratch 258 = .ok (.iload 7, 2) := by decide +kernel
theorem dX11_scratch_260 : decode cX11_scratch 260 = .ok (.iaload, 1) := by decide +kernel
theorem dX11_scratch_261 : decode cX11_scratch 261 = .ok (.iload_n 2, 1) := by decide +kernel
theorem dX11_scratch_262 : decode cX11_scratch 262 = .ok (.if_icmp .ne 12, 3) := by decide +kernel
theorem dX11_scratch_265 : decode cX11_scratch 265 = .ok (.iinc 6 1, 3) := by decide +kernel
theorem dX11_scratch_268 : decode cX11_scratch 268 = .ok (.aload_n 0, 1) := by decide +kernel
theorem dX11_scratch_269 : decode cX11_scratch 269 = .ok (.iload 7, 2) := by decide +kernel
theorem dX11_scratch_271 : decode cX11_scratch 271 = .ok (.invokevirtual 208, 3) := by decide +kernel
theorem dX11_scratch_274 : decode cX11_scratch 274 = .ok (.iinc 7 1, 3) := by decide +kernel
theorem dX11_scratch_277 : decode cX11_scratch 277 = .ok (.goto (-199), 3) := by decide +kernel
theorem dX11_scratch_280 : decode cX11_scratch 280 = .ok (.iload 6, 2) := by decide +kernel
theorem dX11_scratch_282 : decode cX11_scratch 282 = .ok (.ireturn, 1) := by decide +kernel
theorem dX10_off_0 : decode cX10_off 0 = .ok (.aload_n 0, 1) := by decide +kernel
theorem dX10_off_1 : decode cX10_off 1 = .ok (.iload_n 1, 1) := by decide +kernel
theorem dX10_off_2 : decode cX10_off 2 = .ok (.invokevirtual 76, 3) := by decide +kernel
theorem dX10_off_5 : decode cX10_off 5 = .ok (.astore_n 2, 1) := by decide +kernel
theorem dX10_off_6 : decode cX10_off 6 = .ok (.aload_n 2, 1) := by decide +kernel
theorem dX10_off_7 : decode cX10_off 7 = .ok (.ifnonnull 6, 3) := by decide +kernel
theorem dX10_off_10 : decode cX10_off 10 = .ok (.bipush (-2), 2) := by decide +kernel
theorem dX10_off_12 : decode cX10_off 12 = .ok (.ireturn, 1) := by decide +kernel
theorem dX10_off_13 : decode cX10_off 13 = .ok (.aload_n 2, 1) := by decide +kernel
theorem dX10_off_14 : decode cX10_off 14 = .ok (.getfield 88, 3) := by decide +kernel
theorem dX10_off_17 : decode cX10_off 17 = .ok (.ifCond .eq 6, 3) := by decide +kernel
theorem dX10_off_20 : decode cX10_off 20 = .ok (.bipush (-6), 2) := by decide +kernel
theorem dX10_off_22 : decode cX10_off 22 = .ok (.ireturn, 1) := by decide +kernel
theorem dX10_off_23 : decode cX10_off 23 = .ok (.aload_n 2, 1) := by decide +kernel
theorem dX10_off_24 : decode cX10_off 24 = .ok (.iconst 1, 1) := by decide +kernel
theorem dX10_off_25 : decode cX10_off 25 = .ok (.putfield 88, 3) := by decide +kernel
theorem dX10_off_28 : decode cX10_off 28 = .ok (.aload_n 2, 1) := by decide +kernel
theorem dX10_off_29 : decode cX10_off 29 = .ok (.getfield 116, 3) := by decide +kernel
theorem dX10_off_32 : decode cX10_off 32 = .ok (.ireturn, 1) := by decide +kernel
theorem dX11_running_0 : decode cX11_running 0 = .ok (.iconst 0, 1) := by decide +kernel
theorem dX11_running_1 : decode cX11_running 1 = .ok (.istore_n 2, 1) := by decide +kernel
theorem dX11_running_2 : decode cX11_running 2 = .ok (.iconst 1, 1) := by decide +kernel
theorem dX11_running_3 : decode cX11_running 3 = .ok (.istore_n 3, 1) := by decide +kernel
theorem dX11_running_4 : decode cX11_running 4 = .ok (.iload_n 3, 1) := by decide +kernel
theorem dX11_running_5 : decode cX11_running 5 = .ok (.aload_n 0, 1) := by decide +kernel
theorem dX11_running_6 : decode cX11_running 6 = .ok (.getfield 13, 3) := by decide +kernel
theorem dX11_running_9 : decode cX11_running 9 = .ok (.iload_n 1, 1) := by decide +kernel
theorem dX11_running_10 : decode cX11_running 10 = .ok (.iaload, 1) := by decide +kernel
theorem dX11_running_11 : decode cX11_running 11 = .ok (.if_icmp .gt 31, 3) := by decide +kernel
theorem dX11_running_14 : decode cX11_running 14 = .ok (.iload_n 2, 1) := by decide +kernel
theorem dX11_running_15 : decode cX11_running 15 = .ok (.aload_n 0, 1) := by decide +kernel
theorem dX11_running_16 : decode cX11_running 16 = .ok (.getfield 19, 3) := by decide +kernel
theorem dX11_running_19 : decode cX11_running 19 = .ok (.bipush 13, 2) := by decide +kernel
theorem dX11_running_21 : decode cX11_running 21 = .ok (.iload_n 1, 1) := by decide +kernel
theorem dX11_running_22 : decode cX11_running 22 = .ok (.imul, 1) := by decide +kernel
theorem dX11_running_23 : decode cX11_running 23 = .ok (.iload_n 3, 1) := by decide +kernel
theorem dX11_running_24 : decode cX11_running 24 = .ok (.iadd, 1) := by decide +kernel
theorem dX11_running_25 : decode cX11_running 25 = .ok (.baload, 1) := by decide +kernel
theorem dX11_running_26 : decode cX11_running 26 = .ok (.ifCond .eq 7, 3) := by decide +kernel
theorem dX11_running_29 : decode cX11_running 29 = .ok (.iconst 0, 1) := by decide +kernel
theorem dX11_running_30 : decode cX11_running 30 = .ok (.goto 4, 3) := by decide +kernel
theorem dX11_running_33 : decode cX11_running 33 = .ok (.iconst 1, 1) := by decide +kernel
theorem dX11_running_34 : decode cX11_running 34 = .ok (.iadd, 1) := by decide +kernel
theorem dX11_running_35 : decode cX11_running 35 = .ok (.istore_n 2, 1) := by decide +kernel
theorem dX11_running_36 : decode cX11_running 36 = .ok (.iinc 3 1, 3) := by decide +kernel
theorem dX11_running_39 : decode cX11_running 39 = .ok (.goto (-35), 3) := by decide +kernel
theorem dX11_running_42 : decode cX11_running 42 = .ok (.iload_n 2, 1) := by decide +kernel
theorem dX11_running_43 : decode cX11_running 43 = .ok (.ireturn, 1) := by decide +kernel
theorem dX11_off_0 : decode cX11_off 0 = .ok (.aload_n 0, 1) := by decide +kernel
theorem dX11_off_1 : decode cX11_off 1 = .ok (.iload_n 1, 1) := by decide +kernel
theorem dX11_off_2 : decode cX11_off 2 = .ok (.invokevirtual 179, 3) := by decide +kernel
theorem dX11_off_5 : decode cX11_off 5 = .ok (.ifCond .ne 6, 3) := by decide +kernel
theorem dX11_off_8 : decode cX11_off 8 = .ok (.bipush (-2), 2) := by decide +kernel
theorem dX11_off_10 : decode cX11_off 10 = .ok (.ireturn, 1) := by decide +kernel
theorem dX11_off_11 : decode cX11_off 11 = .ok (.aload_n 0, 1) := by decide +kernel
theorem dX11_off_12 : decode cX11_off 12 = .ok (.getfield 7, 3) := by decide +kernel
theorem dX11_off_15 : decode cX11_off 15 = .ok (.iload_n 1, 1) := by decide +kernel
theorem dX11_off_16 : decode cX11_off 16 = .ok (.iaload, 1) := by decide +kernel
theorem dX11_off_17 : decode cX11_off 17 = .ok (.ifCond .eq 6, 3) := by decide +kernel
theorem dX11_off_20 : decode cX11_off 20 = .ok (.bipush (-6), 2) := by decide +kernel
theorem dX11_off_22 : decode cX11_off 22 = .ok (.ireturn, 1) := by decide +kernel
theorem dX11_off_23 : decode cX11_off 23 = .ok (.aload_n 0, 1) := by decide +kernel
theorem dX11_off_24 : decode cX11_off 24 = .ok (.getfield 7, 3) := by decide +kernel
theorem dX11_off_27 : decode cX11_off 27 = .ok (.iload_n 1, 1) := by decide +kernel
theorem dX11_off_28 : decode cX11_off 28 = .ok (.iconst 1, 1) := by decide +kernel
theorem dX11_off_29 : decode cX11_off 29 = .ok (.iastore, 1) := by decide +kernel
theorem dX11_off_30 : decode cX11_off 30 = .ok (.aload_n 0, 1) := by decide +kernel
theorem dX11_off_31 : decode cX11_off 31 = .ok (.iload_n 1, 1) := by decide +kernel
theorem dX11_off_32 : decode cX11_off 32 = .ok (.invokevirtual 212, 3) := by decide +kernel
theorem dX11_off_35 : decode cX11_off 35 = .ok (.ireturn, 1) := by decide +kernel
theorem dX10_place_0 : decode cX10_place 0 = .ok (.aload_n 0, 1) := by decide +kernel
theorem dX10_place_1 : decode cX10_place 1 = .ok (.iload_n 1, 1) := by decide +kernel
theorem dX10_place_2 : decode cX10_place 2 = .ok (.invokevirtual 76, 3) := by decide +kernel
theorem dX10_place_5 : decode cX10_place 5 = .ok (.astore 4, 2) := by decide +kernel
theorem dX10_place_7 : decode cX10_place 7 = .ok (.aload 4, 2) := by decide +kernel
theorem dX10_place_9 : decode cX10_place 9 = .ok (.ifnull 16, 3) := by decide +kernel
theorem dX10_place_12 : decode cX10_place 12 = .ok (.iload_n 3, 1) := by decide +kernel
theorem dX10_place_13 : decode cX10_place 13 = .ok (.ifCond .lt 9, 3) := by decide +kernel
theorem dX10_place_16 : decode cX10_place 16 = .ok (.iload_n 3, 1) := by decide +kernel
theorem dX10_place_17 : decode cX10_place 17 = .ok (.bipush 12, 2) := by decide +kernel
theorem dX10_place_19 : decode cX10_place 19 = .ok (.if_icmp .le 6, 3) := by decide +kernel
theorem dX10_place_22 : decode cX10_place 22 = .ok (.bipush (-3), 2) := by decide +kernel
theorem dX10_place_24 : decode cX10_place 24 = .ok (.ireturn, 1) := by decide +kernel
theorem dX10_place_25 : decode cX10_place 25 = .ok (.aload 4, 2) := by decide +kernel
theorem dX10_place_27 : decode cX10_place 27 = .ok (.iload_n 2, 1) := by decide +kernel
theorem dX10_place_28 : decode cX10_place 28 = .ok (.iconst 1, 1) := by decide +kernel
theorem dX10_place_29 : decode cX10_place 29 = .ok (.invokestatic 94, 3) := by decide +kernel
theorem dX10_place_32 : decode cX10_place 32 = .ok (.istore 5, 2) := by decide +kernel
theorem dX10_place_34 : decode cX10_place 34 = .ok (.aload 4, 2) := by decide +kernel
theorem dX10_place_36 : decode cX10_place 36 = .ok (.ifnull 8, 3) := by decide +kernel
theorem dX10_place_39 : decode cX10_place 39 = .ok (.iload 5, 2) := by decide +kernel
theorem dX10_place_41 : decode cX10_place 41 = .ok (.ifCond .eq 6, 3) := by decide +kernel
theorem dX10_place_44 : decode cX10_place 44 = .ok (.iload 5, 2) := by decide +kernel
theorem dX10_place_46 : decode cX10_place 46 = .ok (.ireturn, 1) := by decide +kernel
theorem dX10_place_47 : decode cX10_place 47 = .ok (.aload 4, 2) := by decide +kernel
theorem dX10_place_49 : decode cX10_place 49 = .ok (.getfield 119, 3) := by decide +kernel
theorem dX10_place_52 : decode cX10_place 52 = .ok (.iload_n 2, 1) := by decide +kernel
theorem dX10_place_53 : decode cX10_place 53 = .ok (.iaload, 1) := by decide +kernel
theorem dX10_place_54 : decode cX10_place 54 = .ok (.istore 6, 2) := by decide +kernel
theorem dX10_place_56 : decode cX10_place 56 = .ok (.aload 4, 2) := by decide +kernel
theorem dX10_place_58 : decode cX10_place 58 = .ok (.getfield 119, 3) := by decide +kernel
theorem dX10_place_61 : decode cX10_place 61 = .ok (.iload_n 2, 1) := by decide +kernel
theorem dX10_place_62 : decode cX10_place 62 = .ok (.iload_n 3, 1) := by decide +kernel
theorem dX10_place_63 : decode cX10_place 63 = .ok (.iastore, 1) := by decide +kernel
theorem dX10_place_64 : decode cX10_place 64 = .ok (.iload 6, 2) := by decide +kernel
theorem dX10_place_66 : decode cX10_place 66 = .ok (.ireturn, 1) := by decide +kernel
theorem dX11_place_0 : decode cX11_place 0 = .ok (.aload_n 0, 1) := by decide +kernel
theorem dX11_place_1 : decode cX11_place 1 = .ok (.iload_n 1, 1) := by decide +kernel
theorem dX11_place_2 : decode cX11_place 2 = .ok (.invokevirtual 179, 3) := by decide +kernel
theorem dX11_place_5 : decode cX11_place 5 = .ok (.ifCond .ne 6, 3) := by decide +kernel
theorem dX11_place_8 : decode cX11_place 8 = .ok (.bipush (-2), 2) := by decide +kernel
theorem dX11_place_10 : decode cX11_place 10 = .ok (.ireturn, 1) := by decide +kernel
theorem dX11_place_11 : decode cX11_place 11 = .ok (.aload_n 0, 1) := by decide +kernel
theorem dX11_place_12 : decode cX11_place 12 = .ok (.iload_n 1, 1) := by decide +kernel
theorem dX11_place_13 : decode cX11_place 13 = .ok (.iload_n 2, 1) := by decide +kernel
theorem dX11_place_14 : decode cX11_place 14 = .ok (.invokevirtual 194, 3) := by decide +kernel
theorem dX11_place_17 : decode cX11_place 17 = .ok (.ifCond .eq 13, 3) := by decide +kernel
theorem dX11_place_20 : decode cX11_place 20 = .ok (.iload_n 3, 1) := by decide +kernel
theorem dX11_place_21 : decode cX11_place 21 = .ok (.iconst 0, 1) := by decide +kernel
theorem dX11_place_22 : decode cX11_place 22 = .ok (.bipush 12, 2) := by decide +kernel
theorem dX11_place_24 : decode cX11_place 24 = .ok (.invokestatic 172, 3) := by decide +kernel
theorem dX11_place_27 : decode cX11_place 27 = .ok (.ifCond .ne 6, 3) := by decide +kernel
theorem dX11_place_30 : decode cX11_place 30 = .ok (.bipush (-3), 2) := by decide +kernel
theorem dX11_place_32 : decode cX11_place 32 = .ok (.ireturn, 1) := by decide +kernel
theorem dX11_place_33 : decode cX11_place 33 = .ok (.aload_n 0, 1) := by decide +kernel
theorem dX11_place_34 : decode cX11_place 34 = .ok (.getfield 19, 3) := by decide +kernel
theorem dX11_place_37 : decode cX11_place 37 = .ok (.bipush 13, 2) := by decide +kernel
theorem dX11_place_39 : decode cX11_place 39 = .ok (.iload_n 1, 1) := by decide +kernel
theorem dX11_place_40 : decode cX11_place 40 = .ok (.imul, 1) := by decide +kernel
theorem dX11_place_41 : decode cX11_place 41 = .ok (.iload_n 2, 1) := by decide +kernel
theorem dX11_place_42 : decode cX11_place 42 = .ok (.iadd, 1) := by decide +kernel
theorem dX11_place_43 : decode cX11_place 43 = .ok (.baload, 1) := by decide +kernel
theorem dX11_place_44 : decode cX11_place 44 = .ok (.ifCond .eq 6, 3) := by decide +kernel
theorem dX11_place_47 : decode cX11_place 47 = .ok (.bipush (-5), 2) := by decide +kernel
theorem dX11_place_49 : decode cX11_place 49 = .ok (.ireturn, 1) := by decide +kernel
theorem dX11_place_50 : decode cX11_place 50 = .ok (.aload_n 0, 1) := by decide +kernel
theorem dX11_place_51 : decode cX11_place 51 = .ok (.getfield 7, 3) := by decide +kernel
theorem dX11_place_54 : decode cX11_place 54 = .ok (.iload_n 1, 1) := by decide +kernel
theorem dX11_place_55 : decode cX11_place 55 = .ok (.iaload, 1) := by decide +kernel
theorem dX11_place_56 : decode cX11_place 56 = .ok (.iconst 1, 1) := by decide +kernel
theorem dX11_place_57 : decode cX11_place 57 = .ok (.if_icmp .eq 6, 3) := by decide +kernel
theorem dX11_place_60 : decode cX11_place 60 = .ok (.bipush (-6), 2) := by decide +kernel
theorem dX11_place_62 : decode cX11_place 62 = .ok (.ireturn, 1) := by decide +kernel
theorem dX11_place_63 : decode cX11_place 63 = .ok (.aload_n 0, 1) := by decide +kernel
theorem dX11_place_64 : decode cX11_place 64 = .ok (.getfield 23, 3) := by decide +kernel
theorem dX11_place_67 : decode cX11_place 67 = .ok (.bipush 13, 2) := by decide +kernel
theorem dX11_place_69 : decode cX11_place 69 = .ok (.iload_n 1, 1) := by decide +kernel
theorem dX11_place_70 : decode cX11_place 70 = .ok (.imul, 1) := by decide +kernel
theorem dX11_place_71 : decode cX11_place 71 = .ok (.iload_n 2, 1) := by decide +kernel
theorem dX11_place_72 : decode cX11_place 72 = .ok (.iadd, 1) := by decide +kernel
theorem dX11_place_73 : decode cX11_place 73 = .ok (.iaload, 1) := by decide +kernel
theorem dX11_place_74 : decode cX11_place 74 = .ok (.istore 4, 2) := by decide +kernel
theorem dX11_place_76 : decode cX11_place 76 = .ok (.aload_n 0, 1) := by decide +kernel
theorem dX11_place_77 : decode cX11_place 77 = .ok (.getfield 23, 3) := by decide +kernel
theorem dX11_place_80 : decode cX11_place 80 = .ok (.bipush 13, 2) := by decide +kernel
theorem dX11_place_82 : decode cX11_place 82 = .ok (.iload_n 1, 1) := by decide +kernel
theorem dX11_place_83 : decode cX11_place 83 = .ok (.imul, 1) := by decide +kernel
theorem dX11_place_84 : decode cX11_place 84 = .ok (.iload_n 2, 1) := by decide +kernel
theorem dX11_place_85 : decode cX11_place 85 = .ok (.iadd, 1) := by decide +kernel
theorem dX11_place_86 : decode cX11_place 86 = .ok (.iload_n 3, 1) := by decide +kernel
theorem dX11_place_87 : decode cX11_place 87 = .ok (.iastore, 1) := by decide +kernel
theorem dX11_place_88 : decode cX11_place 88 = .ok (.iload 4, 2) := by decide +kernel
theorem dX11_place_90 : decode cX11_place 90 = .ok (.ireturn, 1) := by decide +kernel
theorem dX2_begin_0 : decode cX2_begin 0 = .ok (.aload_n 0, 1) := by decide +kernel
theorem dX2_begin_1 : decode cX2_begin 1 = .ok (.iload_n 1, 1) := by decide +kernel
theorem dX2_begin_2 : decode cX2_begin 2 = .ok (.putfield 18, 3) := by decide +kernel
theorem dX2_begin_5 : decode cX2_begin 5 = .ok (.aload_n 0, 1) := by decide +kernel
theorem dX2_begin_6 : decode cX2_begin 6 = .ok (.iconst 0, 1) := by decide +kernel
theorem dX2_begin_7 : decode cX2_begin 7 = .ok (.putfield 22, 3) := by decide +kernel
theorem dX2_begin_10 : decode cX2_begin 10 = .ok (.return_, 1) := by decide +kernel
theorem dX2_add_0 : decode cX2_add 0 = .ok (.aload_n 0, 1) := by decide +kernel
theorem dX2_add_1 : decode cX2_add 1 = .ok (.getfield 22, 3) := by decide +kernel
theorem dX2_add_4 : decode cX2_add 4 = .ok (.bipush 12, 2) := by decide +kernel
theorem dX2_add_6 : decode cX2_add 6 = .ok (.if_icmp .ge 33, 3) := by decide +kernel
theorem dX2_add_9 : decode cX2_add 9 = .ok (.aload_n 0, 1) := by decide +kernel
theorem dX2_add_10 : decode cX2_add 10 = .ok (.getfield 9, 3) := by decide +kernel
theorem dX2_add_13 : decode cX2_add 13 = .ok (.aload_n 0, 1) := by decide +kernel
theorem dX2_add_14 : decode cX2_add 14 = .ok (.getfield 22, 3) := by decide +kernel
theorem dX2_add_17 : decode cX2_add 17 = .ok (.iload_n 1, 1) := by decide +kernel
theorem dX2_add_18 : decode cX2_add 18 = .ok (.iastore, 1) := by decide +kernel
theorem dX2_add_19 : decode cX2_add 19 = .ok (.aload_n 0, 1) := by decide +kernel
theorem dX2_add_20 : decode cX2_add 20 = .ok (.getfield 15, 3) := by decide +kernel
theorem dX2_add_23 : decode cX2_add 23 = .ok (.aload_n 0, 1) := by decide +kernel
theorem dX2_add_24 : decode cX2_add 24 = .ok (.getfield 22, 3) := by decide +kernel
theorem dX2_add_27 : decode cX2_add 27 = .ok (.iload_n 2, 1) := by decide +kernel
theorem dX2_add_28 : decode cX2_add 28 = .ok (.iastore, 1) := by decide +kernel
theorem dX2_add_29 : decode cX2_add 29 = .ok (.aload_n 0, 1) := by decide +kernel
theorem dX2_add_30 : decode cX2_add 30 = .ok (.dup, 1) := by decide +kernel
theorem dX2_add_31 : decode cX2_add 31 = .ok (.getfield 22, 3) := by decide +kernel
theorem dX2_add_34 : decode cX2_add 34 = .ok (.iconst 1, 1) := by decide +kernel
theorem dX2_add_35 : decode cX2_add 35 = .ok (.iadd, 1) := by decide +kernel
theorem dX2_add_36 : decode cX2_add 36 = .ok (.putfield 22, 3) := by decide +kernel
theorem dX2_add_39 : decode cX2_add 39 = .ok (.return_, 1) := by decide +kernel
theorem dX5_readFinish_0 : decode cX5_readFinish 0 = .ok (.aload_n 0, 1) := by decide +kernel
theorem dX5_readFinish_1 : decode cX5_readFinish 1 = .ok (.getfield 22, 3) := by decide +kernel
theorem dX5_readFinish_4 : decode cX5_readFinish 4 = .ok (.aload_n 0, 1) := by decide +kernel
theorem dX5_readFinish_5 : decode cX5_readFinish 5 = .ok (.getfield 36, 3) := by decide +kernel
theorem dX5_readFinish_8 : decode cX5_readFinish 8 = .ok (.invokevirtual 46, 3) := by decide +kernel
theorem dX5_readFinish_11 : decode cX5_readFinish 11 = .ok (.iconst 1, 1) := by decide +kernel
theorem dX5_readFinish_12 : decode cX5_readFinish 12 = .ok (.istore_n 1, 1) := by decide +kernel
theorem dX5_readFinish_13 : decode cX5_readFinish 13 = .ok (.iload_n 1, 1) := by decide +kernel
theorem dX5_readFinish_14 : decode cX5_readFinish 14 = .ok (.aload_n 0, 1) := by decide +kernel
theorem dX5_readFinish_15 : decode cX5_readFinish 15 = .ok (.getfield 33, 3) := by decide +kernel
theorem dX5_readFinish_18 : decode cX5_readFinish 18 = .ok (.if_icmp .gt 32, 3) := by decide +kernel
theorem dX5_readFinish_21 : decode cX5_readFinish 21 = .ok (.aload_n 0, 1) := by decide +kernel
theorem dX5_readFinish_22 : decode cX5_readFinish 22 = .ok (.getfield 15, 3) := by decide +kernel
theorem dX5_readFinish_25 : decode cX5_readFinish 25 = .ok (.iload_n 1, 1) := by decide +kernel
theorem dX5_readFinish_26 : decode cX5_readFinish 26 = .ok (.iaload, 1) := by decide +kernel
theorem dX5_readFinish_27 : decode cX5_readFinish 27 = .ok (.ifCond .le 17, 3) := by decide +kernel
theorem dX5_readFinish_30 : decode cX5_readFinish 30 = .ok (.aload_n 0, 1) := by decide +kernel
theorem dX5_readFinish_31 : decode cX5_readFinish 31 = .ok (.getfield 22, 3) := by decide +kernel
theorem dX5_readFinish_34 : decode cX5_readFinish 34 = .ok (.iload_n 1, 1) := by decide +kernel
theorem dX5_readFinish_35 : decode cX5_readFinish 35 = .ok (.aload_n 0, 1) := by decide +kernel
theorem dX5_readFinish_36 : decode cX5_readFinish 36 = .ok (.getfield 15, 3) := by decide +kernel
theorem dX5_readFinish_39 : decode cX5_readFinish 39 = .ok (.iload_n 1, 1) := by decide +kernel
theorem dX5_readFinish_40 : decode cX5_readFinish 40 = .ok (.iaload, 1) := by decide +kernel
theorem dX5_readFinish_41 : decode cX5_readFinish 41 = .ok (.invokevirtual 50, 3) := by decide +kernel
theorem dX5_readFinish_44 : decode cX5_readFinish 44 = .ok (.iinc 1 1, 3) := by decide +kernel
theorem dX5_readFinish_47 : decode cX5_readFinish 47 = .ok (.goto (-34), 3) := by decide +kernel
theorem dX5_readFinish_50 : decode cX5_readFinish 50 = .ok (.return_, 1) := by decide +kernel
theorem dX2_isRight_0 : decode cX2_isRight 0 = .ok (.iconst 0, 1) := by decide +kernel
theorem dX2_isRight_1 : decode cX2_isRight 1 = .ok (.istore_n 1, 1) := by decide +kernel
theorem dX2_isRight_2 : decode cX2_isRight 2 = .ok (.iload_n 1, 1) := by decide +kernel
theorem dX2_isRight_3 : decode cX2_isRight 3 = .ok (.aload_n 0, 1) := by decide +kernel
theorem dX2_isRight_4 : decode cX2_isRight 4 = .ok (.getfield 22, 3) := by decide +kernel
theorem dX2_isRight_7 : decode cX2_isRight 7 = .ok (.if_icmp .ge 64, 3) := by decide +kernel
theorem dX2_isRight_10 : decode cX2_isRight 10 = .ok (.iconst 0, 1) := by decide +kernel
theorem dX2_isRight_11 : decode cX2_isRight 11 = .ok (.istore_n 2, 1) := by decide +kernel
theorem dX2_isRight_12 : decode cX2_isRight 12 = .ok (.iconst 0, 1) := by decide +kernel
theorem dX2_isRight_13 : decode cX2_isRight 13 = .ok (.istore_n 3, 1) := by decide +kernel
theorem dX2_isRight_14 : decode cX2_isRight 14 = .ok (.iload_n 3, 1) := by decide +kernel
theorem dX2_isRight_15 : decode cX2_isRight 15 = .ok (.aload_n 0, 1) := by decide +kernel
theorem dX2_isRight_16 : decode cX2_isRight 16 = .ok (.getfield 22, 3) := by decide +kernel
theorem dX2_isRight_19 : decode cX2_isRight 19 = .ok (.if_icmp .ge 32, 3) := by decide +kernel
theorem dX2_isRight_22 : decode cX2_isRight 22 = .ok (.iload_n 2, 1) := by decide +kernel
theorem dX2_isRight_23 : decode cX2_isRight 23 = .ok (.aload_n 0, 1) := by decide +kernel
theorem dX2_isRight_24 : decode cX2_isRight 24 = .ok (.getfield 15, 3) := by decide +kernel
theorem dX2_isRight_27 : decode cX2_isRight 27 = .ok (.iload_n 3, 1) := by decide +kernel
theorem dX2_isRight_28 : decode cX2_isRight 28 = .ok (.iaload, 1) := by decide +kernel
theorem dX2_isRight_29 : decode cX2_isRight 29 = .ok (.aload_n 0, 1) := by decide +kernel
theorem dX2_isRight_30 : decode cX2_isRight 30 = .ok (.getfield 15, 3) := by decide +kernel
theorem dX2_isRight_33 : decode cX2_isRight 33 = .ok (.iload_n 1, 1) := by decide +kernel
theorem dX2_isRight_34 : decode cX2_isRight 34 = .ok (.iaload, 1) := by decide +kernel
theorem dX2_isRight_35 : decode cX2_isRight 35 = .ok (.if_icmp .ge 7, 3) := by decide +kernel
theorem dX2_isRight_38 : decode cX2_isRight 38 = .ok (.iconst 1, 1) := by decide +kernel
theorem dX2_isRight_39 : decode cX2_isRight 39 = .ok (.goto 4, 3) := by decide +kernel
theorem dX2_isRight_42 : decode cX2_isRight 42 = .ok (.iconst 0, 1) := by decide +kernel
theorem dX2_isRight_43 : decode cX2_isRight 43 = .ok (.iadd, 1) := by decide +kernel
theorem dX2_isRight_44 : decode cX2_isRight 44 = .ok (.istore_n 2, 1) := by decide +kernel
theorem dX2_isRight_45 : decode cX2_isRight 45 = .ok (.iinc 3 1, 3) := by decide +kernel
theorem dX2_isRight_48 : decode cX2_isRight 48 = .ok (.goto (-34), 3) := by decide +kernel
theorem dX2_isRight_51 : decode cX2_isRight 51 = .ok (.iload_n 2, 1) := by decide +kernel
theorem dX2_isRight_52 : decode cX2_isRight 52 = .ok (.aload_n 0, 1) := by decide +kernel
theorem dX2_isRight_53 : decode cX2_isRight 53 = .ok (.getfield 15, 3) := by decide +kernel
theorem dX2_isRight_56 : decode cX2_isRight 56 = .ok (.iload_n 1, 1) := by decide +kernel
theorem dX2_isRight_57 : decode cX2_isRight 57 = .ok (.iaload, 1) := by decide +kernel
theorem dX2_isRight_58 : decode cX2_isRight 58 = .ok (.iconst 1, 1) := by decide +kernel
theorem dX2_isRight_59 : decode cX2_isRight 59 = .ok (.isub, 1) := by decide +kernel
theorem dX2_isRight_60 : decode cX2_isRight 60 = .ok (.if_icmp .eq 5, 3) := by decide +kernel
theorem dX2_isRight_63 : decode cX2_isRight 63 = .ok (.iconst 0, 1) := by decide +kernel
theorem dX2_isRight_64 : decode cX2_isRight 64 = .ok (.ireturn, 1) := by decide +kernel
theorem dX2_isRight_65 : decode cX2_isRight 65 = .ok (.iinc 1 1, 3) := by decide +kernel
theorem dX2_isRight_68 : decode cX2_isRight 68 = .ok (.goto (-66), 3) := by decide +kernel
theorem dX2_isRight_71 : decode cX2_isRight 71 = .ok (.iconst 1, 1) := by decide +kernel
theorem dX2_isRight_72 : decode cX2_isRight 72 = .ok (.ireturn, 1) := by decide +kernel
theorem dJ9_min_7cf53_0 : decode cJ9_min_7cf53 0 = .ok (.iload_n 0, 1) := by decide +kernel
theorem dJ9_min_7cf53_1 : decode cJ9_min_7cf53 1 = .ok (.iload_n 1, 1) := by decide +kernel
theorem dJ9_min_7cf53_2 : decode cJ9_min_7cf53 2 = .ok (.if_icmp .gt 7, 3) := by decide +kernel
theorem dJ9_min_7cf53_5 : decode cJ9_min_7cf53 5 = .ok (.iload_n 0, 1) := by decide +kernel
theorem dJ9_min_7cf53_6 : decode cJ9_min_7cf53 6 = .ok (.goto 4, 3) := by decide +kernel
theorem dJ9_min_7cf53_9 : decode cJ9_min_7cf53 9 = .ok (.iload_n 1, 1) := by decide +kernel
theorem dJ9_min_7cf53_10 : decode cJ9_min_7cf53 10 = .ok (.ireturn, 1) := by decide +kernel
theorem dX4_isSettled_0 : decode cX4_isSettled 0 = .ok (.aload_n 0, 1) := by decide +kernel
theorem dX4_isSettled_1 : decode cX4_isSettled 1 = .ok (.getfield 9, 3) := by decide +kernel
theorem dX4_isSettled_4 : decode cX4_isSettled 4 = .ok (.bipush 10, 2) := by decide +kernel
theorem dX4_isSettled_6 : decode cX4_isSettled 6 = .ok (.iaload, 1) := by decide +kernel
theorem dX4_isSettled_7 : decode cX4_isSettled 7 = .ok (.iconst 1, 1) := by decide +kernel
theorem dX4_isSettled_8 : decode cX4_isSettled 8 = .ok (.if_icmp .ne 7, 3) := by decide +kernel
theorem dX4_isSettled_11 : decode cX4_isSettled 11 = .ok (.iconst 1, 1) := by decide +kernel
theorem dX4_isSettled_12 : decode cX4_isSettled 12 = .ok (.goto 4, 3) := by decide +kernel
theorem dX4_isSettled_15 : decode cX4_isSettled 15 = .ok (.iconst 0, 1) := by decide +kernel
theorem dX4_isSettled_16 : decode cX4_isSettled 16 = .ok (.ireturn, 1) := by decide +kernel
theorem dX4_isVoid_0 : decode cX4_isVoid 0 = .ok (.aload_n 0, 1) := by decide +kernel
theorem dX4_isVoid_1 : decode cX4_isVoid 1 = .ok (.getfield 19, 3) := by decide +kernel
theorem dX4_isVoid_4 : decode cX4_isVoid 4 = .ok (.tableswitch 61 1 3 #[28, 39, 50], 28) := by decide +kernel
theorem dX4_isVoid_32 : decode cX4_isVoid 32 = .ok (.iload_n 1, 1) := by decide +kernel
theorem dX4_isVoid_33 : decode cX4_isVoid 33 = .ok (.iconst 5, 1) := by decide +kernel
theorem dX4_isVoid_34 : decode cX4_isVoid 34 = .ok (.if_icmp .ge 7, 3) := by decide +kernel
theorem dX4_isVoid_37 : decode cX4_isVoid 37 = .ok (.iconst 1, 1) := by decide +kernel
theorem dX4_isVoid_38 : decode cX4_isVoid 38 = .ok (.goto 4, 3) := by decide +kernel
theorem dX4_isVoid_41 : decode cX4_isVoid 41 = .ok (.iconst 0, 1) := by decide +kernel
theorem dX4_isVoid_42 : decode cX4_isVoid 42 = .ok (.ireturn, 1) := by decide +kernel
theorem dX4_isVoid_43 : decode cX4_isVoid 43 = .ok (.iload_n 1, 1) := by decide +kernel
theorem dX4_isVoid_44 : decode cX4_isVoid 44 = .ok (.iconst 2, 1) := by decide +kernel
theorem dX4_isVoid_45 : decode cX4_isVoid 45 = .ok (.if_icmp .ge 7, 3) := by decide +kernel
theorem dX4_isVoid_48 : decode cX4_isVoid 48 = .ok (.iconst 1, 1) := by decide +kernel
theorem dX4_isVoid_49 : decode cX4_isVoid 49 = .ok (.goto 4, 3) := by decide +kernel
theorem dX4_isVoid_52 : decode cX4_isVoid 52 = .ok (.iconst 0, 1) := by decide +kernel
theorem dX4_isVoid_53 : decode cX4_isVoid 53 = .ok (.ireturn, 1) := by decide +kernel
theorem dX4_isVoid_54 : decode cX4_isVoid 54 = .ok (.iload_n 1, 1) := by decide +kernel
theorem dX4_isVoid_55 : decode cX4_isVoid 55 = .ok (.iconst 3, 1) := by decide +kernel
theorem dX4_isVoid_56 : decode cX4_isVoid 56 = .ok (.if_icmp .ge 7, 3) := by decide +kernel
theorem dX4_isVoid_59 : decode cX4_isVoid 59 = .ok (.iconst 1, 1) := by decide +kernel
theorem dX4_isVoid_60 : decode cX4_isVoid 60 = .ok (.goto 4, 3) := by decide +kernel
theorem dX4_isVoid_63 : decode cX4_isVoid 63 = .ok (.iconst 0, 1) := by decide +kernel
theorem dX4_isVoid_64 : decode cX4_isVoid 64 = .ok (.ireturn, 1) := by decide +kernel
theorem dX4_isVoid_65 : decode cX4_isVoid 65 = .ok (.iconst 0, 1) := by decide +kernel
theorem dX4_isVoid_66 : decode cX4_isVoid 66 = .ok (.ireturn, 1) := by decide +kernel
theorem dX7_indexOf_0 : decode cX7_indexOf 0 = .ok (.iconst 0, 1) := by decide +kernel
theorem dX7_indexOf_1 : decode cX7_indexOf 1 = .ok (.istore_n 2, 1) := by decide +kernel
theorem dX7_indexOf_2 : decode cX7_indexOf 2 = .ok (.iload_n 2, 1) := by decide +kernel
theorem dX7_indexOf_3 : decode cX7_indexOf 3 = .ok (.aload_n 0, 1) := by decide +kernel
theorem dX7_indexOf_4 : decode cX7_indexOf 4 = .ok (.getfield 18, 3) := by decide +kernel
theorem dX7_indexOf_7 : decode cX7_indexOf 7 = .ok (.if_icmp .ge 21, 3) := by decide +kernel
theorem dX7_indexOf_10 : decode cX7_indexOf 10 = .ok (.aload_n 0, 1) := by decide +kernel
theorem dX7_indexOf_11 : decode cX7_indexOf 11 = .ok (.getfield 9, 3) := by decide +kernel
theorem dX7_indexOf_14 : decode cX7_indexOf 14 = .ok (.iload_n 2, 1) := by decide +kernel
theorem dX7_indexOf_15 : decode cX7_indexOf 15 = .ok (.iaload, 1) := by decide +kernel
theorem dX7_indexOf_16 : decode cX7_indexOf 16 = .ok (.iload_n 1, 1) := by decide +kernel
theorem dX7_indexOf_17 : decode cX7_indexOf 17 = .ok (.if_icmp .ne 5, 3) := by decide +kernel
theorem dX7_indexOf_20 : decode cX7_indexOf 20 = .ok (.iload_n 2, 1) := by decide +kernel
theorem dX7_indexOf_21 : decode cX7_indexOf 21 = .ok (.ireturn, 1) := by decide +kernel
theorem dX7_indexOf_22 : decode cX7_indexOf 22 = .ok (.iinc 2 1, 3) := by decide +kernel
theorem dX7_indexOf_25 : decode cX7_indexOf 25 = .ok (.goto (-23), 3) := by decide +kernel
theorem dX7_indexOf_28 : decode cX7_indexOf 28 = .ok (.iconst (-1), 1) := by decide +kernel
theorem dX7_indexOf_29 : decode cX7_indexOf 29 = .ok (.ireturn, 1) := by decide +kernel
theorem dX7_take_0 : decode cX7_take 0 = .ok (.aload_n 1, 1) := by decide +kernel
theorem dX7_take_1 : decode cX7_take 1 = .ok (.iload_n 2, 1) := by decide +kernel
theorem dX7_take_2 : decode cX7_take 2 = .ok (.iload_n 3, 1) := by decide +kernel
theorem dX7_take_3 : decode cX7_take 3 = .ok (.iload 4, 2) := by decide +kernel
theorem dX7_take_5 : decode cX7_take 5 = .ok (.invokevirtual 104, 3) := by decide +kernel
theorem dX7_take_8 : decode cX7_take 8 = .ok (.istore 5, 2) := by decide +kernel
theorem dX7_take_10 : decode cX7_take 10 = .ok (.aload_n 1, 1) := by decide +kernel
theorem dX7_take_11 : decode cX7_take 11 = .ok (.getfield 108, 3) := by decide +kernel
theorem dX7_take_14 : decode cX7_take 14 = .ok (.iload 5, 2) := by decide +kernel
theorem dX7_take_16 : decode cX7_take 16 = .ok (.iaload, 1) := by decide +kernel
theorem dX7_take_17 : decode cX7_take 17 = .ok (.ifCond .le 44, 3) := by decide +kernel
theorem dX7_take_20 : decode cX7_take 20 = .ok (.aload_n 0, 1) := by decide +kernel
theorem dX7_take_21 : decode cX7_take 21 = .ok (.iload 5, 2) := by decide +kernel
theorem dX7_take_23 : decode cX7_take 23 = .ok (.invokevirtual 111, 3) := by decide +kernel
theorem dX7_take_26 : decode cX7_take 26 = .ok (.iconst (-1), 1) := by decide +kernel
theorem dX7_take_27 : decode cX7_take 27 = .ok (.if_icmp .ne 34, 3) := by decide +kernel
theorem dX7_take_30 : decode cX7_take 30 = .ok (.aload_n 0, 1) := by decide +kernel
theorem dX7_take_31 : decode cX7_take 31 = .ok (.getfield 18, 3) := by decide +kernel
theorem dX7_take_34 : decode cX7_take 34 = .ok (.sipush 200, 3) := by decide +kernel
theorem dX7_take_37 : decode cX7_take 37 = .ok (.if_icmp .ge 24, 3) := by decide +kernel
theorem dX7_take_40 : decode cX7_take 40 = .ok (.aload_n 0, 1) := by decide +kernel
theorem dX7_take_41 : decode cX7_take 41 = .ok (.getfield 9, 3) := by decide +kernel
theorem dX7_take_44 : decode cX7_take 44 = .ok (.aload_n 0, 1) := by decide +kernel
theorem dX7_take_45 : decode cX7_take 45 = .ok (.getfield 18, 3) := by decide +kernel
theorem dX7_take_48 : decode cX7_take 48 = .ok (.iload 5, 2) := by decide +kernel
theorem dX7_take_50 : decode cX7_take 50 = .ok (.iastore, 1) := by decide +kernel
theorem dX7_take_51 : decode cX7_take 51 = .ok (.aload_n 0, 1) := by decide +kernel
theorem dX7_take_52 : decode cX7_take 52 = .ok (.dup, 1) := by decide +kernel
theorem dX7_take_53 : decode cX7_take 53 = .ok (.getfield 18, 3) := by decide +kernel
theorem dX7_take_56 : decode cX7_take 56 = .ok (.iconst 1, 1) := by decide +kernel
theorem dX7_take_57 : decode cX7_take 57 = .ok (.iadd, 1) := by decide +kernel
theorem dX7_take_58 : decode cX7_take 58 = .ok (.putfield 18, 3) := by decide +kernel
theorem dX7_take_61 : decode cX7_take 61 = .ok (.return_, 1) := by decide +kernel
theorem dX7_takePlaced_0 : decode cX7_takePlaced 0 = .ok (.aload_n 2, 1) := by decide +kernel
theorem dX7_takePlaced_1 : decode cX7_takePlaced 1 = .ok (.getfield 37, 3) := by decide +kernel
theorem dX7_takePlaced_4 : decode cX7_takePlaced 4 = .ok (.bipush 8, 2) := by decide +kernel
theorem dX7_takePlaced_6 : decode cX7_takePlaced 6 = .ok (.if_icmp .ge 7, 3) := by decide +kernel
theorem dX7_takePlaced_9 : decode cX7_takePlaced 9 = .ok (.iconst 2, 1) := by decide +kernel
theorem dX7_takePlaced_10 : decode cX7_takePlaced 10 = .ok (.goto 4, 3) := by decide +kernel
theorem dX7_takePlaced_13 : decode cX7_takePlaced 13 = .ok (.iconst 3, 1) := by decide +kernel
theorem dX7_takePlaced_14 : decode cX7_takePlaced 14 = .ok (.istore_n 3, 1) := by decide +kernel
theorem dX7_takePlaced_15 : decode cX7_takePlaced 15 = .ok (.iconst 0, 1) := by decide +kernel
theorem dX7_takePlaced_16 : decode cX7_takePlaced 16 = .ok (.istore 4, 2) := by decide +kernel
theorem dX7_takePlaced_18 : decode cX7_takePlaced 18 = .ok (.iload 4, 2) := by decide +kernel
theorem dX7_takePlaced_20 : decode cX7_takePlaced 20 = .ok (.aload_n 2, 1) := by decide +kernel
theorem dX7_takePlaced_21 : decode cX7_takePlaced 21 = .ok (.getfield 87, 3) := by decide +kernel
theorem dX7_takePlaced_24 : decode cX7_takePlaced 24 = .ok (.if_icmp .ge 34, 3) := by decide +kernel
theorem dX7_takePlaced_27 : decode cX7_takePlaced 27 = .ok (.aload_n 2, 1) := by decide +kernel
theorem dX7_takePlaced_28 : decode cX7_takePlaced 28 = .ok (.getfield 101, 3) := by decide +kernel
theorem dX7_takePlaced_31 : decode cX7_takePlaced 31 = .ok (.iload 4, 2) := by decide +kernel
theorem dX7_takePlaced_33 : decode cX7_takePlaced 33 = .ok (.iaload, 1) := by decide +kernel
theorem dX7_takePlaced_34 : decode cX7_takePlaced 34 = .ok (.iload_n 3, 1) := by decide +kernel
theorem dX7_takePlaced_35 : decode cX7_takePlaced 35 = .ok (.if_icmp .gt 17, 3) := by decide +kernel
theorem dX7_takePlaced_38 : decode cX7_takePlaced 38 = .ok (.aload_n 0, 1) := by decide +kernel
theorem dX7_takePlaced_39 : decode cX7_takePlaced 39 = .ok (.aload_n 1, 1) := by decide +kernel
theorem dX7_takePlaced_40 : decode cX7_takePlaced 40 = .ok (.aload_n 2, 1) := by decide +kernel
theorem dX7_takePlaced_41 : decode cX7_takePlaced 41 = .ok (.getfield 94, 3) := by decide +kernel
theorem dX7_takePlaced_44 : decode cX7_takePlaced 44 = .ok (.iload 4, 2) := by decide +kernel
theorem dX7_takePlaced_46 : decode cX7_takePlaced 46 = .ok (.iaload, 1) := by decide +kernel
theorem dX7_takePlaced_47 : decode cX7_takePlaced 47 = .ok (.iconst 0, 1) := by decide +kernel
theorem dX7_takePlaced_48 : decode cX7_takePlaced 48 = .ok (.iconst 0, 1) := by decide +kernel
theorem dX7_takePlaced_49 : decode cX7_takePlaced 49 = .ok (.invokevirtual 97, 3) := by decide +kernel
theorem dX7_takePlaced_52 : decode cX7_takePlaced 52 = .ok (.iinc 4 1, 3) := by decide +kernel
theorem dX7_takePlaced_55 : decode cX7_takePlaced 55 = .ok (.goto (-37), 3) := by decide +kernel
theorem dX7_takePlaced_58 : decode cX7_takePlaced 58 = .ok (.return_, 1) := by decide +kernel
theorem dX2_isNext_0 : decode cX2_isNext 0 = .ok (.iconst 0, 1) := by decide +kernel
theorem dX2_isNext_1 : decode cX2_isNext 1 = .ok (.istore 4, 2) := by decide +kernel
theorem dX2_isNext_3 : decode cX2_isNext 3 = .ok (.iload 4, 2) := by decide +kernel
theorem dX2_isNext_5 : decode cX2_isNext 5 = .ok (.aload_n 0, 1) := by decide +kernel
theorem dX2_isNext_6 : decode cX2_isNext 6 = .ok (.getfield 22, 3) := by decide +kernel
theorem dX2_isNext_9 : decode cX2_isNext 9 = .ok (.if_icmp .ge 39, 3) := by decide +kernel
theorem dX2_isNext_12 : decode cX2_isNext 12 = .ok (.iload 4, 2) := by decide +kernel
theorem dX2_isNext_14 : decode cX2_isNext 14 = .ok (.iload_n 2, 1) := by decide +kernel
theorem dX2_isNext_15 : decode cX2_isNext 15 = .ok (.if_icmp .eq 27, 3) := by decide +kernel
theorem dX2_isNext_18 : decode cX2_isNext 18 = .ok (.iload 4, 2) := by decide +kernel
theorem dX2_isNext_20 : decode cX2_isNext 20 = .ok (.iload_n 3, 1) := by decide +kernel
theorem dX2_isNext_21 : decode cX2_isNext 21 = .ok (.if_icmp .eq 21, 3) := by decide +kernel
theorem dX2_isNext_24 : decode cX2_isNext 24 = .ok (.aload_n 0, 1) := by decide +kernel
theorem dX2_isNext_25 : decode cX2_isNext 25 = .ok (.getfield 15, 3) := by decide +kernel
theorem dX2_isNext_28 : decode cX2_isNext 28 = .ok (.iload 4, 2) := by decide +kernel
theorem dX2_isNext_30 : decode cX2_isNext 30 = .ok (.iaload, 1) := by decide +kernel
theorem dX2_isNext_31 : decode cX2_isNext 31 = .ok (.aload_n 0, 1) := by decide +kernel
theorem dX2_isNext_32 : decode cX2_isNext 32 = .ok (.getfield 15, 3) := by decide +kernel
theorem dX2_isNext_35 : decode cX2_isNext 35 = .ok (.iload_n 1, 1) := by decide +kernel
theorem dX2_isNext_36 : decode cX2_isNext 36 = .ok (.iaload, 1) := by decide +kernel
theorem dX2_isNext_37 : decode cX2_isNext 37 = .ok (.if_icmp .ge 5, 3) := by decide +kernel
theorem dX2_isNext_40 : decode cX2_isNext 40 = .ok (.iconst 0, 1) := by decide +kernel
theorem dX2_isNext_41 : decode cX2_isNext 41 = .ok (.ireturn, 1) := by decide +kernel
theorem dX2_isNext_42 : decode cX2_isNext 42 = .ok (.iinc 4 1, 3) := by decide +kernel
theorem dX2_isNext_45 : decode cX2_isNext 45 = .ok (.goto (-42), 3) := by decide +kernel
theorem dX2_isNext_48 : decode cX2_isNext 48 = .ok (.iload_n 1, 1) := by decide +kernel
theorem dX2_isNext_49 : decode cX2_isNext 49 = .ok (.iload_n 2, 1) := by decide +kernel
theorem dX2_isNext_50 : decode cX2_isNext 50 = .ok (.if_icmp .eq 12, 3) := by decide +kernel
theorem dX2_isNext_53 : decode cX2_isNext 53 = .ok (.iload_n 1, 1) := by decide +kernel
theorem dX2_isNext_54 : decode cX2_isNext 54 = .ok (.iload_n 3, 1) := by decide +kernel
theorem dX2_isNext_55 : decode cX2_isNext 55 = .ok (.if_icmp .eq 7, 3) := by decide +kernel
theorem dX2_isNext_58 : decode cX2_isNext 58 = .ok (.iconst 1, 1) := by decide +kernel
theorem dX2_isNext_59 : decode cX2_isNext 59 = .ok (.goto 4, 3) := by decide +kernel
theorem dX2_isNext_62 : decode cX2_isNext 62 = .ok (.iconst 0, 1) := by decide +kernel
theorem dX2_isNext_63 : decode cX2_isNext 63 = .ok (.ireturn, 1) := by decide +kernel
theorem dX7_takeDoubles_0 : decode cX7_takeDoubles 0 = .ok (.iconst 0, 1) := by decide +kernel
theorem dX7_takeDoubles_1 : decode cX7_takeDoubles 1 = .ok (.istore 4, 2) := by decide +kernel
theorem dX7_takeDoubles_3 : decode cX7_takeDoubles 3 = .ok (.iload 4, 2) := by decide +kernel
theorem dX7_takeDoubles_5 : decode cX7_takeDoubles 5 = .ok (.aload_n 2, 1) := by decide +kernel
theorem dX7_takeDoubles_6 : decode cX7_takeDoubles 6 = .ok (.getfield 87, 3) := by decide +kernel
theorem dX7_takeDoubles_9 : decode cX7_takeDoubles 9 = .ok (.if_icmp .ge 69, 3) := by decide +kernel
theorem dX7_takeDoubles_12 : decode cX7_takeDoubles 12 = .ok (.iconst 0, 1) := by decide +kernel
theorem dX7_takeDoubles_13 : decode cX7_takeDoubles 13 = .ok (.istore 5, 2) := by decide +kernel
theorem dX7_takeDoubles_15 : decode cX7_takeDoubles 15 = .ok (.iload 5, 2) := by decide +kernel
theorem dX7_takeDoubles_17 : decode cX7_takeDoubles 17 = .ok (.aload_n 3, 1) := by decide +kernel
theorem dX7_takeDoubles_18 : decode cX7_takeDoubles 18 = .ok (.getfield 87, 3) := by decide +kernel
theorem dX7_takeDoubles_21 : decode cX7_takeDoubles 21 = .ok (.if_icmp .ge 51, 3) := by decide +kernel
theorem dX7_takeDoubles_24 : decode cX7_takeDoubles 24 = .ok (.aload_n 2, 1) := by decide +kernel
theorem dX7_takeDoubles_25 : decode cX7_takeDoubles 25 = .ok (.iload 4, 2) := by decide +kernel
theorem dX7_takeDoubles_27 : decode cX7_takeDoubles 27 = .ok (.iconst (-1), 1) := by decide +kernel
theorem dX7_takeDoubles_28 : decode cX7_takeDoubles 28 = .ok (.iconst (-1), 1) := by decide +kernel
theorem dX7_takeDoubles_29 : decode cX7_takeDoubles 29 = .ok (.invokevirtual 90, 3) := by decide +kernel
theorem dX7_takeDoubles_32 : decode cX7_takeDoubles 32 = .ok (.ifCond .eq 34, 3) := by decide +kernel
theorem dX7_takeDoubles_35 : decode cX7_takeDoubles 35 = .ok (.aload_n 3, 1) := by decide +kernel
theorem dX7_takeDoubles_36 : decode cX7_takeDoubles 36 = .ok (.iload 5, 2) := by decide +kernel
theorem dX7_takeDoubles_38 : decode cX7_takeDoubles 38 = .ok (.iconst (-1), 1) := by decide +kernel
theorem dX7_takeDoubles_39 : decode cX7_takeDoubles 39 = .ok (.iconst (-1), 1) := by decide +kernel
theorem dX7_takeDoubles_40 : decode cX7_takeDoubles 40 = .ok (.invokevirtual 90, 3) := by decide +kernel
theorem dX7_takeDoubles_43 : decode cX7_takeDoubles 43 = .ok (.ifCond .eq 23, 3) := by decide +kernel
theorem dX7_takeDoubles_46 : decode cX7_takeDoubles 46 = .ok (.aload_n 0, 1) := by decide +kernel
theorem dX7_takeDoubles_47 : decode cX7_takeDoubles 47 = .ok (.aload_n 1, 1) := by decide +kernel
theorem dX7_takeDoubles_48 : decode cX7_takeDoubles 48 = .ok (.aload_n 2, 1) := by decide +kernel
theorem dX7_takeDoubles_49 : decode cX7_takeDoubles 49 = .ok (.getfield 94, 3) := by decide +kernel
theorem dX7_takeDoubles_52 : decode cX7_takeDoubles 52 = .ok (.iload 4, 2) := by decide +kernel
theorem dX7_takeDoubles_54 : decode cX7_takeDoubles 54 = .ok (.iaload, 1) := by decide +kernel
theorem dX7_takeDoubles_55 : decode cX7_takeDoubles 55 = .ok (.aload_n 3, 1) := by decide +kernel
theorem dX7_takeDoubles_56 : decode cX7_takeDoubles 56 = .ok (.getfield 94, 3) := by decide +kernel
theorem dX7_takeDoubles_59 : decode cX7_takeDoubles 59 = .ok (.iload 5, 2) := by decide +kernel
theorem dX7_takeDoubles_61 : decode cX7_takeDoubles 61 = .ok (.iaload, 1) := by decide +kernel
theorem dX7_takeDoubles_62 : decode cX7_takeDoubles 62 = .ok (.iconst 0, 1) := by decide +kernel
theorem dX7_takeDoubles_63 : decode cX7_takeDoubles 63 = .ok (.invokevirtual 97, 3) := by decide +kernel
theorem dX7_takeDoubles_66 : decode cX7_takeDoubles 66 = .ok (.iinc 5 1, 3) := by decide +kernel
theorem dX7_takeDoubles_69 : decode cX7_takeDoubles 69 = .ok (.goto (-54), 3) := by decide +kernel
theorem dX7_takeDoubles_72 : decode cX7_takeDoubles 72 = .ok (.iinc 4 1, 3) := by decide +kernel
theorem dX7_takeDoubles_75 : decode cX7_takeDoubles 75 = .ok (.goto (-72), 3) := by decide +kernel
theorem dX7_takeDoubles_78 : decode cX7_takeDoubles 78 = .ok (.return_, 1) := by decide +kernel
theorem dX7_takeRows_0 : decode cX7_takeRows 0 = .ok (.iconst 0, 1) := by decide +kernel
theorem dX7_takeRows_1 : decode cX7_takeRows 1 = .ok (.istore_n 3, 1) := by decide +kernel
theorem dX7_takeRows_2 : decode cX7_takeRows 2 = .ok (.iload_n 3, 1) := by decide +kernel
theorem dX7_takeRows_3 : decode cX7_takeRows 3 = .ok (.aload_n 2, 1) := by decide +kernel
theorem dX7_takeRows_4 : decode cX7_takeRows 4 = .ok (.getfield 87, 3) := by decide +kernel
theorem dX7_takeRows_7 : decode cX7_takeRows 7 = .ok (.if_icmp .ge 162, 3) := by decide +kernel
theorem dX7_takeRows_10 : decode cX7_takeRows 10 = .ok (.aload_n 2, 1) := by decide +kernel
theorem dX7_takeRows_11 : decode cX7_takeRows 11 = .ok (.iload_n 3, 1) := by decide +kernel
theorem dX7_takeRows_12 : decode cX7_takeRows 12 = .ok (.iconst (-1), 1) := by decide +kernel
theorem dX7_takeRows_13 : decode cX7_takeRows 13 = .ok (.iconst (-1), 1) := by decide +kernel
theorem dX7_takeRows_14 : decode cX7_takeRows 14 = .ok (.invokevirtual 90, 3) := by decide +kernel
theorem dX7_takeRows_17 : decode cX7_takeRows 17 = .ok (.ifCond .ne 6, 3) := by decide +kernel
theorem dX7_takeRows_20 : decode cX7_takeRows 20 = .ok (.goto 143, 3) := by decide +kernel
theorem dX7_takeRows_23 : decode cX7_takeRows 23 = .ok (.aload_n 1, 1) := by decide +kernel
theorem dX7_takeRows_24 : decode cX7_takeRows 24 = .ok (.getfield 52, 3) := by decide +kernel
theorem dX7_takeRows_27 : decode cX7_takeRows 27 = .ok (.ifCond .ne 19, 3) := by decide +kernel
theorem dX7_takeRows_30 : decode cX7_takeRows 30 = .ok (.aload_n 0, 1) := by decide +kernel
theorem dX7_takeRows_31 : decode cX7_takeRows 31 = .ok (.aload_n 1, 1) := by decide +kernel
theorem dX7_takeRows_32 : decode cX7_takeRows 32 = .ok (.aload_n 2, 1) := by decide +kernel
theorem dX7_takeRows_33 : decode cX7_takeRows 33 = .ok (.getfield 94, 3) := by decide +kernel
theorem dX7_takeRows_36 : decode cX7_takeRows 36 = .ok (.iload_n 3, 1) := by decide +kernel
theorem dX7_takeRows_37 : decode cX7_takeRows 37 = .ok (.iaload, 1) := by decide +kernel
theorem dX7_takeRows_38 : decode cX7_takeRows 38 = .ok (.iconst 0, 1) := by decide +kernel
theorem dX7_takeRows_39 : decode cX7_takeRows 39 = .ok (.iconst 0, 1) := by decide +kernel
theorem dX7_takeRows_40 : decode cX7_takeRows 40 = .ok (.invokevirtual 97, 3) := by decide +kernel
theorem dX7_takeRows_43 : decode cX7_takeRows 43 = .ok (.goto 120, 3) := by decide +kernel
theorem dX7_takeRows_46 : decode cX7_takeRows 46 = .ok (.iconst 0, 1) := by decide +kernel
theorem dX7_takeRows_47 : decode cX7_takeRows 47 = .ok (.istore 4, 2) := by decide +kernel
theorem dX7_takeRows_49 : decode cX7_takeRows 49 = .ok (.iload 4, 2) := by decide +kernel
theorem dX7_takeRows_51 : decode cX7_takeRows 51 = .ok (.aload_n 2, 1) := by decide +kernel
theorem dX7_takeRows_52 : decode cX7_takeRows 52 = .ok (.getfield 87, 3) := by decide +kernel
theorem dX7_takeRows_55 : decode cX7_takeRows 55 = .ok (.if_icmp .ge 108, 3) := by decide +kernel
theorem dX7_takeRows_58 : decode cX7_takeRows 58 = .ok (.aload_n 2, 1) := by decide +kernel
theorem dX7_takeRows_59 : decode cX7_takeRows 59 = .ok (.iload 4, 2) := by decide +kernel
theorem dX7_takeRows_61 : decode cX7_takeRows 61 = .ok (.iload_n 3, 1) := by decide +kernel
theorem dX7_takeRows_62 : decode cX7_takeRows 62 = .ok (.iconst (-1), 1) := by decide +kernel
theorem dX7_takeRows_63 : decode cX7_takeRows 63 = .ok (.invokevirtual 90, 3) := by decide +kernel
theorem dX7_takeRows_66 : decode cX7_takeRows 66 = .ok (.ifCond .ne 6, 3) := by decide +kernel
theorem dX7_takeRows_69 : decode cX7_takeRows 69 = .ok (.goto 88, 3) := by decide +kernel
theorem dX7_takeRows_72 : decode cX7_takeRows 72 = .ok (.aload_n 1, 1) := by decide +kernel
theorem dX7_takeRows_73 : decode cX7_takeRows 73 = .ok (.getfield 52, 3) := by decide +kernel
theorem dX7_takeRows_76 : decode cX7_takeRows 76 = .ok (.iconst 2, 1) := by decide +kernel
theorem dX7_takeRows_77 : decode cX7_takeRows 77 = .ok (.if_icmp .ne 25, 3) := by decide +kernel
theorem dX7_takeRows_80 : decode cX7_takeRows 80 = .ok (.aload_n 0, 1) := by decide +kernel
theorem dX7_takeRows_81 : decode cX7_takeRows 81 = .ok (.aload_n 1, 1) := by decide +kernel
theorem dX7_takeRows_82 : decode cX7_takeRows 82 = .ok (.aload_n 2, 1) := by decide +kernel
theorem dX7_takeRows_83 : decode cX7_takeRows 83 = .ok (.getfield 94, 3) := by decide +kernel
theorem dX7_takeRows_86 : decode cX7_takeRows 86 = .ok (.iload_n 3, 1) := by decide +kernel
theorem dX7_takeRows_87 : decode cX7_takeRows 87 = .ok (.iaload, 1) := by decide +kernel
theorem dX7_takeRows_88 : decode cX7_takeRows 88 = .ok (.aload_n 2, 1) := by decide +kernel
theorem dX7_takeRows_89 : decode cX7_takeRows 89 = .ok (.getfield 94, 3) := by decide +kernel
theorem dX7_takeRows_92 : decode cX7_takeRows 92 = .ok (.iload 4, 2) := by decide +kernel
theorem dX7_takeRows_94 : decode cX7_takeRows 94 = .ok (.iaload, 1) := by decide +kernel
theorem dX7_takeRows_95 : decode cX7_takeRows 95 = .ok (.iconst 0, 1) := by decide +kernel
theorem dX7_takeRows_96 : decode cX7_takeRows 96 = .ok (.invokevirtual 97, 3) := by decide +kernel
theorem dX7_takeRows_99 : decode cX7_takeRows 99 = .ok (.goto 58, 3) := by decide +kernel
theorem dX7_takeRows_102 : decode cX7_takeRows 102 = .ok (.iconst 0, 1) := by decide +kernel
theorem dX7_takeRows_103 : decode cX7_takeRows 103 = .ok (.istore 5, 2) := by decide +kernel
theorem dX7_takeRows_105 : decode cX7_takeRows 105 = .ok (.iload 5, 2) := by decide +kernel
theorem dX7_takeRows_107 : decode cX7_takeRows 107 = .ok (.aload_n 2, 1) := by decide +kernel
theorem dX7_takeRows_108 : decode cX7_takeRows 108 = .ok (.getfield 87, 3) := by decide +kernel
theorem dX7_takeRows_111 : decode cX7_takeRows 111 = .ok (.if_icmp .ge 46, 3) := by decide +kernel
theorem dX7_takeRows_114 : decode cX7_takeRows 114 = .ok (.aload_n 2, 1) := by decide +kernel
theorem dX7_takeRows_115 : decode cX7_takeRows 115 = .ok (.iload 5, 2) := by decide +kernel
theorem dX7_takeRows_117 : decode cX7_takeRows 117 = .ok (.iload_n 3, 1) := by decide +kernel
theorem dX7_takeRows_118 : decode cX7_takeRows 118 = .ok (.iload 4, 2) := by decide +kernel
theorem dX7_takeRows_120 : decode cX7_takeRows 120 = .ok (.invokevirtual 90, 3) := by decide +kernel
theorem dX7_takeRows_123 : decode cX7_takeRows 123 = .ok (.ifCond .eq 28, 3) := by decide +kernel
theorem dX7_takeRows_126 : decode cX7_takeRows 126 = .ok (.aload_n 0, 1) := by decide +kernel
theorem dX7_takeRows_127 : decode cX7_takeRows 127 = .ok (.aload_n 1, 1) := by decide +kernel
theorem dX7_takeRows_128 : decode cX7_takeRows 128 = .ok (.aload_n 2, 1) := by decide +kernel
theorem dX7_takeRows_129 : decode cX7_takeRows 129 = .ok (.getfield 94, 3) := by decide +kernel
theorem dX7_takeRows_132 : decode cX7_takeRows 132 = .ok (.iload_n 3, 1) := by decide +kernel
theorem dX7_takeRows_133 : decode cX7_takeRows 133 = .ok (.iaload, 1) := by decide +kernel
theorem dX7_takeRows_134 : decode cX7_takeRows 134 = .ok (.aload_n 2, 1) := by decide +kernel
theorem dX7_takeRows_135 : decode cX7_takeRows 135 = .ok (.getfield 94, 3) := by decide +kernel
theorem dX7_takeRows_138 : decode cX7_takeRows 138 = .ok (.iload 4, 2) := by decide +kernel
theorem dX7_takeRows_140 : decode cX7_takeRows 140 = .ok (.iaload, 1) := by decide +kernel
theorem dX7_takeRows_141 : decode cX7_takeRows 141 = .ok (.aload_n 2, 1) := by decide +kernel
theorem dX7_takeRows_142 : decode cX7_takeRows 142 = .ok (.getfield 94, 3) := by decide +kernel
theorem dX7_takeRows_145 : decode cX7_takeRows 145 = .ok (.iload 5, 2) := by decide +kernel
theorem dX7_takeRows_147 : decode cX7_takeRows 147 = .ok (.iaload, 1) := by decide +kernel
theorem dX7_takeRows_148 : decode cX7_takeRows 148 = .ok (.invokevirtual 97, 3) := by decide +kernel
theorem dX7_takeRows_151 : decode cX7_takeRows 151 = .ok (.iinc 5 1, 3) := by decide +kernel
theorem dX7_takeRows_154 : decode cX7_takeRows 154 = .ok (.goto (-49), 3) := by decide +kernel
theorem dX7_takeRows_157 : decode cX7_takeRows 157 = .ok (.iinc 4 1, 3) := by decide +kernel
theorem dX7_takeRows_160 : decode cX7_takeRows 160 = .ok (.goto (-111), 3) := by decide +kernel
theorem dX7_takeRows_163 : decode cX7_takeRows 163 = .ok (.iinc 3 1, 3) := by decide +kernel
theorem dX7_takeRows_166 : decode cX7_takeRows 166 = .ok (.goto (-164), 3) := by decide +kernel
theorem dX7_takeRows_169 : decode cX7_takeRows 169 = .ok (.return_, 1) := by decide +kernel
theorem dX7_findTakers_0 : decode cX7_findTakers 0 = .ok (.aload_n 1, 1) := by decide +kernel
theorem dX7_findTakers_1 : decode cX7_findTakers 1 = .ok (.getfield 52, 3) := by decide +kernel
theorem dX7_findTakers_4 : decode cX7_findTakers 4 = .ok (.lookupswitch 47 #[(1, 28), (4, 37)], 28) := by decide +kernel
theorem dX7_findTakers_32 : decode cX7_findTakers 32 = .ok (.aload_n 0, 1) := by decide +kernel
theorem dX7_findTakers_33 : decode cX7_findTakers 33 = .ok (.aload_n 1, 1) := by decide +kernel
theorem dX7_findTakers_34 : decode cX7_findTakers 34 = .ok (.aload_n 2, 1) := by decide +kernel
theorem dX7_findTakers_35 : decode cX7_findTakers 35 = .ok (.invokevirtual 77, 3) := by decide +kernel
theorem dX7_findTakers_38 : decode cX7_findTakers 38 = .ok (.goto 19, 3) := by decide +kernel
theorem dX7_findTakers_41 : decode cX7_findTakers 41 = .ok (.aload_n 0, 1) := by decide +kernel
theorem dX7_findTakers_42 : decode cX7_findTakers 42 = .ok (.aload_n 1, 1) := by decide +kernel
theorem dX7_findTakers_43 : decode cX7_findTakers 43 = .ok (.aload_n 2, 1) := by decide +kernel
theorem dX7_findTakers_44 : decode cX7_findTakers 44 = .ok (.aload_n 3, 1) := by decide +kernel
theorem dX7_findTakers_45 : decode cX7_findTakers 45 = .ok (.invokevirtual 81, 3) := by decide +kernel
theorem dX7_findTakers_48 : decode cX7_findTakers 48 = .ok (.goto 9, 3) := by decide +kernel
theorem dX7_findTakers_51 : decode cX7_findTakers 51 = .ok (.aload_n 0, 1) := by decide +kernel
theorem dX7_findTakers_52 : decode cX7_findTakers 52 = .ok (.aload_n 1, 1) := by decide +kernel
theorem dX7_findTakers_53 : decode cX7_findTakers 53 = .ok (.aload_n 2, 1) := by decide +kernel
theorem dX7_findTakers_54 : decode cX7_findTakers 54 = .ok (.invokevirtual 84, 3) := by decide +kernel
theorem dX7_findTakers_57 : decode cX7_findTakers 57 = .ok (.return_, 1) := by decide +kernel
theorem dX7_unitsOfTakers_0 : decode cX7_unitsOfTakers 0 = .ok (.iconst 0, 1) := by decide +kernel
theorem dX7_unitsOfTakers_1 : decode cX7_unitsOfTakers 1 = .ok (.istore_n 2, 1) := by decide +kernel
theorem dX7_unitsOfTakers_2 : decode cX7_unitsOfTakers 2 = .ok (.iconst 0, 1) := by decide +kernel
theorem dX7_unitsOfTakers_3 : decode cX7_unitsOfTakers 3 = .ok (.istore_n 3, 1) := by decide +kernel
theorem dX7_unitsOfTakers_4 : decode cX7_unitsOfTakers 4 = .ok (.iload_n 3, 1) := by decide +kernel
theorem dX7_unitsOfTakers_5 : decode cX7_unitsOfTakers 5 = .ok (.aload_n 0, 1) := by decide +kernel
theorem dX7_unitsOfTakers_6 : decode cX7_unitsOfTakers 6 = .ok (.getfield 18, 3) := by decide +kernel
theorem dX7_unitsOfTakers_9 : decode cX7_unitsOfTakers 9 = .ok (.if_icmp .ge 23, 3) := by decide +kernel
theorem dX7_unitsOfTakers_12 : decode cX7_unitsOfTakers 12 = .ok (.iload_n 2, 1) := by decide +kernel
theorem dX7_unitsOfTakers_13 : decode cX7_unitsOfTakers 13 = .ok (.aload_n 1, 1) := by decide +kernel
theorem dX7_unitsOfTakers_14 : decode cX7_unitsOfTakers 14 = .ok (.getfield 108, 3) := by decide +kernel
theorem dX7_unitsOfTakers_17 : decode cX7_unitsOfTakers 17 = .ok (.aload_n 0, 1) := by decide +kernel
theorem dX7_unitsOfTakers_18 : decode cX7_unitsOfTakers 18 = .ok (.getfield 9, 3) := by decide +kernel
theorem dX7_unitsOfTakers_21 : decode cX7_unitsOfTakers 21 = .ok (.iload_n 3, 1) := by decide +kernel
theorem dX7_unitsOfTakers_22 : decode cX7_unitsOfTakers 22 = .ok (.iaload, 1) := by decide +kernel
theorem dX7_unitsOfTakers_23 : decode cX7_unitsOfTakers 23 = .ok (.iaload, 1) := by decide +kernel
theorem dX7_unitsOfTakers_24 : decode cX7_unitsOfTakers 24 = .ok (.iadd, 1) := by decide +kernel
theorem dX7_unitsOfTakers_25 : decode cX7_unitsOfTakers 25 = .ok (.istore_n 2, 1) := by decide +kernel
theorem dX7_unitsOfTakers_26 : decode cX7_unitsOfTakers 26 = .ok (.iinc 3 1, 3) := by decide +kernel
theorem dX7_unitsOfTakers_29 : decode cX7_unitsOfTakers 29 = .ok (.goto (-25), 3) := by decide +kernel
theorem dX7_unitsOfTakers_32 : decode cX7_unitsOfTakers 32 = .ok (.iload_n 2, 1) := by decide +kernel
theorem dX7_unitsOfTakers_33 : decode cX7_unitsOfTakers 33 = .ok (.ireturn, 1) := by decide +kernel
theorem dJ9_max_7cf53_0 : decode cJ9_max_7cf53 0 = .ok (.iload_n 0, 1) := by decide +kernel
theorem dJ9_max_7cf53_1 : decode cJ9_max_7cf53 1 = .ok (.iload_n 1, 1) := by decide +kernel
theorem dJ9_max_7cf53_2 : decode cJ9_max_7cf53 2 = .ok (.if_icmp .lt 7, 3) := by decide +kernel
theorem dJ9_max_7cf53_5 : decode cJ9_max_7cf53 5 = .ok (.iload_n 0, 1) := by decide +kernel
theorem dJ9_max_7cf53_6 : decode cJ9_max_7cf53 6 = .ok (.goto 4, 3) := by decide +kernel
theorem dJ9_max_7cf53_9 : decode cJ9_max_7cf53 9 = .ok (.iload_n 1, 1) := by decide +kernel
theorem dJ9_max_7cf53_10 : decode cJ9_max_7cf53 10 = .ok (.ireturn, 1) := by decide +kernel
theorem dX7_share_0 : decode cX7_share 0 = .ok (.iconst 0, 1) := by decide +kernel
theorem dX7_share_1 : decode cX7_share 1 = .ok (.istore_n 3, 1) := by decide +kernel
theorem dX7_share_2 : decode cX7_share 2 = .ok (.iload_n 2, 1) := by decide +kernel
theorem dX7_share_3 : decode cX7_share 3 = .ok (.istore 4, 2) := by decide +kernel
theorem dX7_share_5 : decode cX7_share 5 = .ok (.aload_n 1, 1) := by decide +kernel
theorem dX7_share_6 : decode cX7_share 6 = .ok (.getfield 52, 3) := by decide +kernel
theorem dX7_share_9 : decode cX7_share 9 = .ok (.iconst 1, 1) := by decide +kernel
theorem dX7_share_10 : decode cX7_share 10 = .ok (.if_icmp .ne 41, 3) := by decide +kernel
theorem dX7_share_13 : decode cX7_share 13 = .ok (.aload_n 1, 1) := by decide +kernel
theorem dX7_share_14 : decode cX7_share 14 = .ok (.getfield 65, 3) := by decide +kernel
theorem dX7_share_17 : decode cX7_share 17 = .ok (.istore_n 3, 1) := by decide +kernel
theorem dX7_share_18 : decode cX7_share 18 = .ok (.iload_n 2, 1) := by decide +kernel
theorem dX7_share_19 : decode cX7_share 19 = .ok (.aload_n 0, 1) := by decide +kernel
theorem dX7_share_20 : decode cX7_share 20 = .ok (.aload_n 1, 1) := by decide +kernel
theorem dX7_share_21 : decode cX7_share 21 = .ok (.invokevirtual 115, 3) := by decide +kernel
theorem dX7_share_24 : decode cX7_share 24 = .ok (.aload_n 1, 1) := by decide +kernel
theorem dX7_share_25 : decode cX7_share 25 = .ok (.getfield 65, 3) := by decide +kernel
theorem dX7_share_28 : decode cX7_share 28 = .ok (.imul, 1) := by decide +kernel
theorem dX7_share_29 : decode cX7_share 29 = .ok (.isub, 1) := by decide +kernel
theorem dX7_share_30 : decode cX7_share 30 = .ok (.istore 5, 2) := by decide +kernel
theorem dX7_share_32 : decode cX7_share 32 = .ok (.aload_n 0, 1) := by decide +kernel
theorem dX7_share_33 : decode cX7_share 33 = .ok (.iconst 0, 1) := by decide +kernel
theorem dX7_share_34 : decode cX7_share 34 = .ok (.iload 5, 2) := by decide +kernel
theorem dX7_share_36 : decode cX7_share 36 = .ok (.ineg, 1) := by decide +kernel
theorem dX7_share_37 : decode cX7_share 37 = .ok (.invokestatic 119, 3) := by decide +kernel
theorem dX7_share_40 : decode cX7_share 40 = .ok (.putfield 31, 3) := by decide +kernel
theorem dX7_share_43 : decode cX7_share 43 = .ok (.iconst 0, 1) := by decide +kernel
theorem dX7_share_44 : decode cX7_share 44 = .ok (.iload 5, 2) := by decide +kernel
theorem dX7_share_46 : decode cX7_share 46 = .ok (.invokestatic 119, 3) := by decide +kernel
theorem dX7_share_49 : decode cX7_share 49 = .ok (.istore 4, 2) := by decide +kernel
theorem dX7_share_51 : decode cX7_share 51 = .ok (.iconst 0, 1) := by decide +kernel
theorem dX7_share_52 : decode cX7_share 52 = .ok (.istore 5, 2) := by decide +kernel
theorem dX7_share_54 : decode cX7_share 54 = .ok (.iload 5, 2) := by decide +kernel
theorem dX7_share_56 : decode cX7_share 56 = .ok (.aload_n 0, 1) := by decide +kernel
theorem dX7_share_57 : decode cX7_share 57 = .ok (.getfield 18, 3) := by decide +kernel
theorem dX7_share_60 : decode cX7_share 60 = .ok (.if_icmp .ge 71, 3) := by decide +kernel
theorem dX7_share_63 : decode cX7_share 63 = .ok (.aload_n 1, 1) := by decide +kernel
theorem dX7_share_64 : decode cX7_share 64 = .ok (.getfield 108, 3) := by decide +kernel
theorem dX7_share_67 : decode cX7_share 67 = .ok (.aload_n 0, 1) := by decide +kernel
theorem dX7_share_68 : decode cX7_share 68 = .ok (.getfield 9, 3) := by decide +kernel
theorem dX7_share_71 : decode cX7_share 71 = .ok (.iload 5, 2) := by decide +kernel
theorem dX7_share_73 : decode cX7_share 73 = .ok (.iaload, 1) := by decide +kernel
theorem dX7_share_74 : decode cX7_share 74 = .ok (.iaload, 1) := by decide +kernel
theorem dX7_share_75 : decode cX7_share 75 = .ok (.iconst 1, 1) := by decide +kernel
theorem dX7_share_76 : decode cX7_share 76 = .ok (.invokestatic 119, 3) := by decide +kernel
theorem dX7_share_79 : decode cX7_share 79 = .ok (.istore 6, 2) := by decide +kernel
theorem dX7_share_81 : decode cX7_share 81 = .ok (.aload_n 0, 1) := by decide +kernel
theorem dX7_share_82 : decode cX7_share 82 = .ok (.getfield 15, 3) := by decide +kernel
theorem dX7_share_85 : decode cX7_share 85 = .ok (.iload 5, 2) := by decide +kernel
theorem dX7_share_87 : decode cX7_share 87 = .ok (.iload_n 3, 1) := by decide +kernel
theorem dX7_share_88 : decode cX7_share 88 = .ok (.iload 4, 2) := by decide +kernel
theorem dX7_share_90 : decode cX7_share 90 = .ok (.aload_n 0, 1) := by decide +kernel
theorem dX7_share_91 : decode cX7_share 91 = .ok (.getfield 18, 3) := by decide +kernel
theorem dX7_share_94 : decode cX7_share 94 = .ok (.idiv, 1) := by decide +kernel
theorem dX7_share_95 : decode cX7_share 95 = .ok (.iload 6, 2) := by decide +kernel
theorem dX7_share_97 : decode cX7_share 97 = .ok (.idiv, 1) := by decide +kernel
theorem dX7_share_98 : decode cX7_share 98 = .ok (.bipush 10, 2) := by decide +kernel
theorem dX7_share_100 : decode cX7_share 100 = .ok (.idiv, 1) := by decide +kernel
theorem dX7_share_101 : decode cX7_share 101 = .ok (.bipush 10, 2) := by decide +kernel
theorem dX7_share_103 : decode cX7_share 103 = .ok (.imul, 1) := by decide +kernel
theorem dX7_share_104 : decode cX7_share 104 = .ok (.iadd, 1) := by decide +kernel
theorem dX7_share_105 : decode cX7_share 105 = .ok (.iastore, 1) := by decide +kernel
theorem dX7_share_106 : decode cX7_share 106 = .ok (.aload_n 0, 1) := by decide +kernel
theorem dX7_share_107 : decode cX7_share 107 = .ok (.dup, 1) := by decide +kernel
theorem dX7_share_108 : decode cX7_share 108 = .ok (.getfield 34, 3) := by decide +kernel
theorem dX7_share_111 : decode cX7_share 111 = .ok (.iload 6, 2) := by decide +kernel
theorem dX7_share_113 : decode cX7_share 113 = .ok (.aload_n 0, 1) := by decide +kernel
theorem dX7_share_114 : decode cX7_share 114 = .ok (.getfield 15, 3) := by decide +kernel
theorem dX7_share_117 : decode cX7_share 117 = .ok (.iload 5, 2) := by decide +kernel
theorem dX7_share_119 : decode cX7_share 119 = .ok (.iaload, 1) := by decide +kernel
theorem dX7_share_120 : decode cX7_share 120 = .ok (.imul, 1) := by decide +kernel
theorem dX7_share_121 : decode cX7_share 121 = .ok (.iadd, 1) := by decide +kernel
theorem dX7_share_122 : decode cX7_share 122 = .ok (.putfield 34, 3) := by decide +kernel
theorem dX7_share_125 : decode cX7_share 125 = .ok (.iinc 5 1, 3) := by decide +kernel
theorem dX7_share_128 : decode cX7_share 128 = .ok (.goto (-74), 3) := by decide +kernel
theorem dX7_share_131 : decode cX7_share 131 = .ok (.aload_n 0, 1) := by decide +kernel
theorem dX7_share_132 : decode cX7_share 132 = .ok (.iload_n 2, 1) := by decide +kernel
theorem dX7_share_133 : decode cX7_share 133 = .ok (.aload_n 0, 1) := by decide +kernel
theorem dX7_share_134 : decode cX7_share 134 = .ok (.getfield 31, 3) := by decide +kernel
theorem dX7_share_137 : decode cX7_share 137 = .ok (.iadd, 1) := by decide +kernel
theorem dX7_share_138 : decode cX7_share 138 = .ok (.aload_n 0, 1) := by decide +kernel
theorem dX7_share_139 : decode cX7_share 139 = .ok (.getfield 34, 3) := by decide +kernel
theorem dX7_share_142 : decode cX7_share 142 = .ok (.isub, 1) := by decide +kernel
theorem dX7_share_143 : decode cX7_share 143 = .ok (.putfield 28, 3) := by decide +kernel
theorem dX7_share_146 : decode cX7_share 146 = .ok (.return_, 1) := by decide +kernel
theorem dX7_reckon_0 : decode cX7_reckon 0 = .ok (.aload_n 0, 1) := by decide +kernel
theorem dX7_reckon_1 : decode cX7_reckon 1 = .ok (.iconst 0, 1) := by decide +kernel
theorem dX7_reckon_2 : decode cX7_reckon 2 = .ok (.putfield 18, 3) := by decide +kernel
theorem dX7_reckon_5 : decode cX7_reckon 5 = .ok (.aload_n 0, 1) := by decide +kernel
theorem dX7_reckon_6 : decode cX7_reckon 6 = .ok (.iconst 0, 1) := by decide +kernel
theorem dX7_reckon_7 : decode cX7_reckon 7 = .ok (.putfield 22, 3) := by decide +kernel
theorem dX7_reckon_10 : decode cX7_reckon 10 = .ok (.aload_n 0, 1) := by decide +kernel
theorem dX7_reckon_11 : decode cX7_reckon 11 = .ok (.iconst 0, 1) := by decide +kernel
theorem dX7_reckon_12 : decode cX7_reckon 12 = .ok (.putfield 25, 3) := by decide +kernel
theorem dX7_reckon_15 : decode cX7_reckon 15 = .ok (.aload_n 0, 1) := by decide +kernel
theorem dX7_reckon_16 : decode cX7_reckon 16 = .ok (.iconst 0, 1) := by decide +kernel
theorem dX7_reckon_17 : decode cX7_reckon 17 = .ok (.putfield 28, 3) := by decide +kernel
theorem dX7_reckon_20 : decode cX7_reckon 20 = .ok (.aload_n 0, 1) := by decide +kernel
theorem dX7_reckon_21 : decode cX7_reckon 21 = .ok (.iconst 0, 1) := by decide +kernel
theorem dX7_reckon_22 : decode cX7_reckon 22 = .ok (.putfield 31, 3) := by decide +kernel
theorem dX7_reckon_25 : decode cX7_reckon 25 = .ok (.aload_n 0, 1) := by decide +kernel
theorem dX7_reckon_26 : decode cX7_reckon 26 = .ok (.iconst 0, 1) := by decide +kernel
theorem dX7_reckon_27 : decode cX7_reckon 27 = .ok (.putfield 34, 3) := by decide +kernel
theorem dX7_reckon_30 : decode cX7_reckon 30 = .ok (.aload_n 1, 1) := by decide +kernel
theorem dX7_reckon_31 : decode cX7_reckon 31 = .ok (.aload_n 2, 1) := by decide +kernel
theorem dX7_reckon_32 : decode cX7_reckon 32 = .ok (.getfield 37, 3) := by decide +kernel
theorem dX7_reckon_35 : decode cX7_reckon 35 = .ok (.invokevirtual 42, 3) := by decide +kernel
theorem dX7_reckon_38 : decode cX7_reckon 38 = .ok (.istore 4, 2) := by decide +kernel
theorem dX7_reckon_40 : decode cX7_reckon 40 = .ok (.iload 4, 2) := by decide +kernel
theorem dX7_reckon_42 : decode cX7_reckon 42 = .ok (.ifCond .ne 10, 3) := by decide +kernel
theorem dX7_reckon_45 : decode cX7_reckon 45 = .ok (.aload_n 0, 1) := by decide +kernel
theorem dX7_reckon_46 : decode cX7_reckon 46 = .ok (.aload_n 1, 1) := by decide +kernel
theorem dX7_reckon_47 : decode cX7_reckon 47 = .ok (.aload_n 2, 1) := by decide +kernel
theorem dX7_reckon_48 : decode cX7_reckon 48 = .ok (.aload_n 3, 1) := by decide +kernel
theorem dX7_reckon_49 : decode cX7_reckon 49 = .ok (.invokevirtual 48, 3) := by decide +kernel
theorem dX7_reckon_52 : decode cX7_reckon 52 = .ok (.aload_n 0, 1) := by decide +kernel
theorem dX7_reckon_53 : decode cX7_reckon 53 = .ok (.iload 4, 2) := by decide +kernel
theorem dX7_reckon_55 : decode cX7_reckon 55 = .ok (.ifCond .ne 18, 3) := by decide +kernel
theorem dX7_reckon_58 : decode cX7_reckon 58 = .ok (.aload_n 0, 1) := by decide +kernel
theorem dX7_reckon_59 : decode cX7_reckon 59 = .ok (.getfield 18, 3) := by decide +kernel
theorem dX7_reckon_62 : decode cX7_reckon 62 = .ok (.ifCond .ne 15, 3) := by decide +kernel
theorem dX7_reckon_65 : decode cX7_reckon 65 = .ok (.aload_n 1, 1) := by decide +kernel
theorem dX7_reckon_66 : decode cX7_reckon 66 = .ok (.getfield 52, 3) := by decide +kernel
theorem dX7_reckon_69 : decode cX7_reckon 69 = .ok (.iconst 3, 1) := by decide +kernel
theorem dX7_reckon_70 : decode cX7_reckon 70 = .ok (.if_icmp .eq 7, 3) := by decide +kernel
theorem dX7_reckon_73 : decode cX7_reckon 73 = .ok (.iconst 1, 1) := by decide +kernel
theorem dX7_reckon_74 : decode cX7_reckon 74 = .ok (.goto 4, 3) := by decide +kernel
theorem dX7_reckon_77 : decode cX7_reckon 77 = .ok (.iconst 0, 1) := by decide +kernel
theorem dX7_reckon_78 : decode cX7_reckon 78 = .ok (.putfield 55, 3) := by decide +kernel
theorem dX7_reckon_81 : decode cX7_reckon 81 = .ok (.aload_n 0, 1) := by decide +kernel
theorem dX7_reckon_82 : decode cX7_reckon 82 = .ok (.getfield 55, 3) := by decide +kernel
theorem dX7_reckon_85 : decode cX7_reckon 85 = .ok (.ifCond .eq 14, 3) := by decide +kernel
theorem dX7_reckon_88 : decode cX7_reckon 88 = .ok (.aload_n 0, 1) := by decide +kernel
theorem dX7_reckon_89 : decode cX7_reckon 89 = .ok (.aload_n 1, 1) := by decide +kernel
theorem dX7_reckon_90 : decode cX7_reckon 90 = .ok (.getfield 59, 3) := by decide +kernel
theorem dX7_reckon_93 : decode cX7_reckon 93 = .ok (.iconst 4, 1) := by decide +kernel
theorem dX7_reckon_94 : decode cX7_reckon 94 = .ok (.iaload, 1) := by decide +kernel
theorem dX7_reckon_95 : decode cX7_reckon 95 = .ok (.putfield 25, 3) := by decide +kernel
theorem dX7_reckon_98 : decode cX7_reckon 98 = .ok (.return_, 1) := by decide +kernel
theorem dX7_reckon_99 : decode cX7_reckon 99 = .ok (.aload_n 1, 1) := by decide +kernel
theorem dX7_reckon_100 : decode cX7_reckon 100 = .ok (.getfield 62, 3) := by decide +kernel
theorem dX7_reckon_103 : decode cX7_reckon 103 = .ok (.aload_n 1, 1) := by decide +kernel
theorem dX7_reckon_104 : decode cX7_reckon 104 = .ok (.getfield 65, 3) := by decide +kernel
theorem dX7_reckon_107 : decode cX7_reckon 107 = .ok (.imul, 1) := by decide +kernel
theorem dX7_reckon_108 : decode cX7_reckon 108 = .ok (.istore 5, 2) := by decide +kernel
theorem dX7_reckon_110 : decode cX7_reckon 110 = .ok (.aload_n 0, 1) := by decide +kernel
theorem dX7_reckon_111 : decode cX7_reckon 111 = .ok (.iload 5, 2) := by decide +kernel
theorem dX7_reckon_113 : decode cX7_reckon 113 = .ok (.i2l, 1) := by decide +kernel
theorem dX7_reckon_114 : decode cX7_reckon 114 = .ok (.aload_n 1, 1) := by decide +kernel
theorem dX7_reckon_115 : decode cX7_reckon 115 = .ok (.getfield 68, 3) := by decide +kernel
theorem dX7_reckon_118 : decode cX7_reckon 118 = .ok (.i2l, 1) := by decide +kernel
theorem dX7_reckon_119 : decode cX7_reckon 119 = .ok (.lmul, 1) := by decide +kernel
theorem dX7_reckon_120 : decode cX7_reckon 120 = .ok (.ldc2_w 71, 3) := by decide +kernel
theorem dX7_reckon_123 : decode cX7_reckon 123 = .ok (.ldiv, 1) := by decide +kernel
theorem dX7_reckon_124 : decode cX7_reckon 124 = .ok (.l2i, 1) := by decide +kernel
theorem dX7_reckon_125 : decode cX7_reckon 125 = .ok (.putfield 22, 3) := by decide +kernel
theorem dX7_reckon_128 : decode cX7_reckon 128 = .ok (.iload 5, 2) := by decide +kernel
theorem dX7_reckon_130 : decode cX7_reckon 130 = .ok (.aload_n 0, 1) := by decide +kernel
theorem dX7_reckon_131 : decode cX7_reckon 131 = .ok (.getfield 22, 3) := by decide +kernel
theorem dX7_reckon_134 : decode cX7_reckon 134 = .ok (.isub, 1) := by decide +kernel
theorem dX7_reckon_135 : decode cX7_reckon 135 = .ok (.aload_n 1, 1) := by decide +kernel
theorem dX7_reckon_136 : decode cX7_reckon 136 = .ok (.getfield 59, 3) := by decide +kernel
theorem dX7_reckon_139 : decode cX7_reckon 139 = .ok (.iconst 4, 1) := by decide +kernel
theorem dX7_reckon_140 : decode cX7_reckon 140 = .ok (.iaload, 1) := by decide +kernel
theorem dX7_reckon_141 : decode cX7_reckon 141 = .ok (.iadd, 1) := by decide +kernel
theorem dX7_reckon_142 : decode cX7_reckon 142 = .ok (.istore 6, 2) := by decide +kernel
theorem dX7_reckon_144 : decode cX7_reckon 144 = .ok (.aload_n 0, 1) := by decide +kernel
theorem dX7_reckon_145 : decode cX7_reckon 145 = .ok (.getfield 18, 3) := by decide +kernel
theorem dX7_reckon_148 : decode cX7_reckon 148 = .ok (.ifCond .ne 12, 3) := by decide +kernel
theorem dX7_reckon_151 : decode cX7_reckon 151 = .ok (.aload_n 0, 1) := by decide +kernel
theorem dX7_reckon_152 : decode cX7_reckon 152 = .ok (.iload 6, 2) := by decide +kernel
theorem dX7_reckon_154 : decode cX7_reckon 154 = .ok (.putfield 25, 3) := by decide +kernel
theorem dX7_reckon_157 : decode cX7_reckon 157 = .ok (.goto 10, 3) := by decide +kernel
theorem dX7_reckon_160 : decode cX7_reckon 160 = .ok (.aload_n 0, 1) := by decide +kernel
theorem dX7_reckon_161 : decode cX7_reckon 161 = .ok (.aload_n 1, 1) := by decide +kernel
theorem dX7_reckon_162 : decode cX7_reckon 162 = .ok (.iload 6, 2) := by decide +kernel
theorem dX7_reckon_164 : decode cX7_reckon 164 = .ok (.invokevirtual 73, 3) := by decide +kernel
theorem dX7_reckon_167 : decode cX7_reckon 167 = .ok (.return_, 1) := by decide +kernel
theorem dX10_refundAll_0 : decode cX10_refundAll 0 = .ok (.iconst 0, 1) := by decide +kernel
theorem dX10_refundAll_1 : decode cX10_refundAll 1 = .ok (.istore_n 2, 1) := by decide +kernel
theorem dX10_refundAll_2 : decode cX10_refundAll 2 = .ok (.iload_n 2, 1) := by decide +kernel
theorem dX10_refundAll_3 : decode cX10_refundAll 3 = .ok (.aload_n 0, 1) := by decide +kernel
theorem dX10_refundAll_4 : decode cX10_refundAll 4 = .ok (.getfield 104, 3) := by decide +kernel
theorem dX10_refundAll_7 : decode cX10_refundAll 7 = .ok (.if_icmp .ge 43, 3) := by decide +kernel
theorem dX10_refundAll_10 : decode cX10_refundAll 10 = .ok (.aload_n 0, 1) := by decide +kernel
theorem dX10_refundAll_11 : decode cX10_refundAll 11 = .ok (.getfield 23, 3) := by decide +kernel
theorem dX10_refundAll_14 : decode cX10_refundAll 14 = .ok (.iload_n 2, 1) := by decide +kernel
theorem dX10_refundAll_15 : decode cX10_refundAll 15 = .ok (.aaload, 1) := by decide +kernel
theorem dX10_refundAll_16 : decode cX10_refundAll 16 = .ok (.getfield 191, 3) := by decide +kernel
theorem dX10_refundAll_19 : decode cX10_refundAll 19 = .ok (.aload_n 1, 1) := by decide +kernel
theorem dX10_refundAll_20 : decode cX10_refundAll 20 = .ok (.if_acmp .ne 24, 3) := by decide +kernel
theorem dX10_refundAll_23 : decode cX10_refundAll 23 = .ok (.aload_n 0, 1) := by decide +kernel
theorem dX10_refundAll_24 : decode cX10_refundAll 24 = .ok (.getfield 23, 3) := by decide +kernel
theorem dX10_refundAll_27 : decode cX10_refundAll 27 = .ok (.iload_n 2, 1) := by decide +kernel
theorem dX10_refundAll_28 : decode cX10_refundAll 28 = .ok (.aaload, 1) := by decide +kernel
theorem dX10_refundAll_29 : decode cX10_refundAll 29 = .ok (.getfield 107, 3) := by decide +kernel
theorem dX10_refundAll_32 : decode cX10_refundAll 32 = .ok (.ifCond .ne 12, 3) := by decide +kernel
theorem dX10_refundAll_35 : decode cX10_refundAll 35 = .ok (.aload_n 0, 1) := by decide +kernel
theorem dX10_refundAll_36 : decode cX10_refundAll 36 = .ok (.getfield 23, 3) := by decide +kernel
theorem dX10_refundAll_39 : decode cX10_refundAll 39 = .ok (.iload_n 2, 1) := by decide +kernel
theorem dX10_refundAll_40 : decode cX10_refundAll 40 = .ok (.aaload, 1) := by decide +kernel
theorem dX10_refundAll_41 : decode cX10_refundAll 41 = .ok (.invokevirtual 431, 3) := by decide +kernel
theorem dX10_refundAll_44 : decode cX10_refundAll 44 = .ok (.iinc 2 1, 3) := by decide +kernel
theorem dX10_refundAll_47 : decode cX10_refundAll 47 = .ok (.goto (-45), 3) := by decide +kernel
theorem dX10_refundAll_50 : decode cX10_refundAll 50 = .ok (.return_, 1) := by decide +kernel
theorem dX7_enterInto_0 : decode cX7_enterInto 0 = .ok (.iconst 0, 1) := by decide +kernel
theorem dX7_enterInto_1 : decode cX7_enterInto 1 = .ok (.istore_n 2, 1) := by decide +kernel
theorem dX7_enterInto_2 : decode cX7_enterInto 2 = .ok (.iload_n 2, 1) := by decide +kernel
theorem dX7_enterInto_3 : decode cX7_enterInto 3 = .ok (.aload_n 0, 1) := by decide +kernel
theorem dX7_enterInto_4 : decode cX7_enterInto 4 = .ok (.getfield 18, 3) := by decide +kernel
theorem dX7_enterInto_7 : decode cX7_enterInto 7 = .ok (.if_icmp .ge 26, 3) := by decide +kernel
theorem dX7_enterInto_10 : decode cX7_enterInto 10 = .ok (.aload_n 1, 1) := by decide +kernel
theorem dX7_enterInto_11 : decode cX7_enterInto 11 = .ok (.getfield 125, 3) := by decide +kernel
theorem dX7_enterInto_14 : decode cX7_enterInto 14 = .ok (.aload_n 0, 1) := by decide +kernel
theorem dX7_enterInto_15 : decode cX7_enterInto 15 = .ok (.getfield 9, 3) := by decide +kernel
