theorem dX11_isFor_32 : decode cX11_isFor 32 = .ok (.iconst 1, 1) := by decide +kernel
theorem dX11_isFor_33 : decode cX11_isFor 33 = .ok (.goto 4, 3) := by decide +kernel
theorem dX11_isFor_36 : decode cX11_isFor 36 = .ok (.iconst 0, 1) := by decide +kernel
theorem dX11_isFor_37 : decode cX11_isFor 37 = .ok (.istore 6, 2) := by decide +kernel
theorem dX11_isFor_39 : decode cX11_isFor 39 = .ok (.iload_n 2, 1) := by decide +kernel
theorem dX11_isFor_40 : decode cX11_isFor 40 = .ok (.invokestatic 218, 3) := by decide +kernel
theorem dX11_isFor_43 : decode cX11_isFor 43 = .ok (.iconst 2, 1) := by decide +kernel
theorem dX11_isFor_44 : decode cX11_isFor 44 = .ok (.if_icmp .ne 28, 3) := by decide +kernel
theorem dX11_isFor_47 : decode cX11_isFor 47 = .ok (.aload_n 0, 1) := by decide +kernel
theorem dX11_isFor_48 : decode cX11_isFor 48 = .ok (.getfield 71, 3) := by decide +kernel
theorem dX11_isFor_51 : decode cX11_isFor 51 = .ok (.iload_n 1, 1) := by decide +kernel
theorem dX11_isFor_52 : decode cX11_isFor 52 = .ok (.iaload, 1) := by decide +kernel
theorem dX11_isFor_53 : decode cX11_isFor 53 = .ok (.iload 4, 2) := by decide +kernel
theorem dX11_isFor_55 : decode cX11_isFor 55 = .ok (.if_icmp .ne 17, 3) := by decide +kernel
theorem dX11_isFor_58 : decode cX11_isFor 58 = .ok (.aload_n 0, 1) := by decide +kernel
theorem dX11_isFor_59 : decode cX11_isFor 59 = .ok (.getfield 74, 3) := by decide +kernel
theorem dX11_isFor_62 : decode cX11_isFor 62 = .ok (.iload_n 1, 1) := by decide +kernel
theorem dX11_isFor_63 : decode cX11_isFor 63 = .ok (.iaload, 1) := by decide +kernel
theorem dX11_isFor_64 : decode cX11_isFor 64 = .ok (.iload_n 3, 1) := by decide +kernel
theorem dX11_isFor_65 : decode cX11_isFor 65 = .ok (.if_icmp .ne 7, 3) := by decide +kernel
theorem dX11_isFor_68 : decode cX11_isFor 68 = .ok (.iconst 1, 1) := by decide +kernel
theorem dX11_isFor_69 : decode cX11_isFor 69 = .ok (.goto 4, 3) := by decide +kernel
theorem dX11_isFor_72 : decode cX11_isFor 72 = .ok (.iconst 0, 1) := by decide +kernel
theorem dX11_isFor_73 : decode cX11_isFor 73 = .ok (.istore 7, 2) := by decide +kernel
theorem dX11_isFor_75 : decode cX11_isFor 75 = .ok (.aload_n 0, 1) := by decide +kernel
theorem dX11_isFor_76 : decode cX11_isFor 76 = .ok (.getfield 68, 3) := by decide +kernel
theorem dX11_isFor_79 : decode cX11_isFor 79 = .ok (.iload_n 1, 1) := by decide +kernel
theorem dX11_isFor_80 : decode cX11_isFor 80 = .ok (.iaload, 1) := by decide +kernel
theorem dX11_isFor_81 : decode cX11_isFor 81 = .ok (.iload_n 2, 1) := by decide +kernel
theorem dX11_isFor_82 : decode cX11_isFor 82 = .ok (.if_icmp .ne 17, 3) := by decide +kernel
theorem dX11_isFor_85 : decode cX11_isFor 85 = .ok (.iload 6, 2) := by decide +kernel
theorem dX11_isFor_87 : decode cX11_isFor 87 = .ok (.ifCond .ne 8, 3) := by decide +kernel
theorem dX11_isFor_90 : decode cX11_isFor 90 = .ok (.iload 7, 2) := by decide +kernel
theorem dX11_isFor_92 : decode cX11_isFor 92 = .ok (.ifCond .eq 7, 3) := by decide +kernel
theorem dX11_isFor_95 : decode cX11_isFor 95 = .ok (.iconst 1, 1) := by decide +kernel
theorem dX11_isFor_96 : decode cX11_isFor 96 = .ok (.goto 4, 3) := by decide +kernel
theorem dX11_isFor_99 : decode cX11_isFor 99 = .ok (.iconst 0, 1) := by decide +kernel
theorem dX11_isFor_100 : decode cX11_isFor 100 = .ok (.ireturn, 1) := by decide +kernel
theorem dX11_units_0 : decode cX11_units 0 = .ok (.aload_n 0, 1) := by decide +kernel
theorem dX11_units_1 : decode cX11_units 1 = .ok (.iload_n 1, 1) := by decide +kernel
theorem dX11_units_2 : decode cX11_units 2 = .ok (.invokevirtual 281, 3) := by decide +kernel
theorem dX11_units_5 : decode cX11_units 5 = .ok (.ifCond .ne 6, 3) := by decide +kernel
theorem dX11_units_8 : decode cX11_units 8 = .ok (.bipush (-2), 2) := by decide +kernel
theorem dX11_units_10 : decode cX11_units 10 = .ok (.ireturn, 1) := by decide +kernel
theorem dX11_units_11 : decode cX11_units 11 = .ok (.aload_n 0, 1) := by decide +kernel
theorem dX11_units_12 : decode cX11_units 12 = .ok (.iload_n 1, 1) := by decide +kernel
theorem dX11_units_13 : decode cX11_units 13 = .ok (.iload_n 2, 1) := by decide +kernel
theorem dX11_units_14 : decode cX11_units 14 = .ok (.iload_n 3, 1) := by decide +kernel
theorem dX11_units_15 : decode cX11_units 15 = .ok (.iload 4, 2) := by decide +kernel
theorem dX11_units_17 : decode cX11_units 17 = .ok (.invokevirtual 284, 3) := by decide +kernel
theorem dX11_units_20 : decode cX11_units 20 = .ok (.istore 5, 2) := by decide +kernel
theorem dX11_units_22 : decode cX11_units 22 = .ok (.iload 5, 2) := by decide +kernel
theorem dX11_units_24 : decode cX11_units 24 = .ok (.ifCond .ge 6, 3) := by decide +kernel
theorem dX11_units_27 : decode cX11_units 27 = .ok (.iload 5, 2) := by decide +kernel
theorem dX11_units_29 : decode cX11_units 29 = .ok (.ireturn, 1) := by decide +kernel
theorem dX11_units_30 : decode cX11_units 30 = .ok (.iconst 0, 1) := by decide +kernel
theorem dX11_units_31 : decode cX11_units 31 = .ok (.istore 6, 2) := by decide +kernel
theorem dX11_units_33 : decode cX11_units 33 = .ok (.iconst 0, 1) := by decide +kernel
theorem dX11_units_34 : decode cX11_units 34 = .ok (.istore 7, 2) := by decide +kernel
theorem dX11_units_36 : decode cX11_units 36 = .ok (.iload 7, 2) := by decide +kernel
theorem dX11_units_38 : decode cX11_units 38 = .ok (.aload_n 0, 1) := by decide +kernel
theorem dX11_units_39 : decode cX11_units 39 = .ok (.getfield 205, 3) := by decide +kernel
theorem dX11_units_42 : decode cX11_units 42 = .ok (.if_icmp .ge 49, 3) := by decide +kernel
theorem dX11_units_45 : decode cX11_units 45 = .ok (.iload 6, 2) := by decide +kernel
theorem dX11_units_47 : decode cX11_units 47 = .ok (.aload_n 0, 1) := by decide +kernel
theorem dX11_units_48 : decode cX11_units 48 = .ok (.getfield 83, 3) := by decide +kernel
theorem dX11_units_51 : decode cX11_units 51 = .ok (.iload 7, 2) := by decide +kernel
theorem dX11_units_53 : decode cX11_units 53 = .ok (.iaload, 1) := by decide +kernel
theorem dX11_units_54 : decode cX11_units 54 = .ok (.ifCond .ne 27, 3) := by decide +kernel
theorem dX11_units_57 : decode cX11_units 57 = .ok (.aload_n 0, 1) := by decide +kernel
theorem dX11_units_58 : decode cX11_units 58 = .ok (.iload 7, 2) := by decide +kernel
theorem dX11_units_60 : decode cX11_units 60 = .ok (.iload_n 1, 1) := by decide +kernel
theorem dX11_units_61 : decode cX11_units 61 = .ok (.iload_n 2, 1) := by decide +kernel
theorem dX11_units_62 : decode cX11_units 62 = .ok (.iload_n 3, 1) := by decide +kernel
theorem dX11_units_63 : decode cX11_units 63 = .ok (.iload 4, 2) := by decide +kernel
theorem dX11_units_65 : decode cX11_units 65 = .ok (.invokevirtual 303, 3) := by decide +kernel
theorem dX11_units_68 : decode cX11_units 68 = .ok (.ifCond .eq 13, 3) := by decide +kernel
theorem dX11_units_71 : decode cX11_units 71 = .ok (.aload_n 0, 1) := by decide +kernel
theorem dX11_units_72 : decode cX11_units 72 = .ok (.getfield 80, 3) := by decide +kernel
theorem dX11_units_75 : decode cX11_units 75 = .ok (.iload 7, 2) := by decide +kernel
theorem dX11_units_77 : decode cX11_units 77 = .ok (.iaload, 1) := by decide +kernel
theorem dX11_units_78 : decode cX11_units 78 = .ok (.goto 4, 3) := by decide +kernel
theorem dX11_units_81 : decode cX11_units 81 = .ok (.iconst 0, 1) := by decide +kernel
theorem dX11_units_82 : decode cX11_units 82 = .ok (.iadd, 1) := by decide +kernel
theorem dX11_units_83 : decode cX11_units 83 = .ok (.istore 6, 2) := by decide +kernel
theorem dX11_units_85 : decode cX11_units 85 = .ok (.iinc 7 1, 3) := by decide +kernel
theorem dX11_units_88 : decode cX11_units 88 = .ok (.goto (-52), 3) := by decide +kernel
theorem dX11_units_91 : decode cX11_units 91 = .ok (.iload 6, 2) := by decide +kernel
theorem dX11_units_93 : decode cX11_units 93 = .ok (.ireturn, 1) := by decide +kernel
theorem dX10_dividend_0 : decode cX10_dividend 0 = .ok (.aload_n 0, 1) := by decide +kernel
theorem dX10_dividend_1 : decode cX10_dividend 1 = .ok (.iload_n 1, 1) := by decide +kernel
theorem dX10_dividend_2 : decode cX10_dividend 2 = .ok (.invokevirtual 158, 3) := by decide +kernel
theorem dX10_dividend_5 : decode cX10_dividend 5 = .ok (.astore 5, 2) := by decide +kernel
theorem dX10_dividend_7 : decode cX10_dividend 7 = .ok (.aload 5, 2) := by decide +kernel
theorem dX10_dividend_9 : decode cX10_dividend 9 = .ok (.ifnonnull 6, 3) := by decide +kernel
theorem dX10_dividend_12 : decode cX10_dividend 12 = .ok (.bipush (-2), 2) := by decide +kernel
theorem dX10_dividend_14 : decode cX10_dividend 14 = .ok (.ireturn, 1) := by decide +kernel
theorem dX10_dividend_15 : decode cX10_dividend 15 = .ok (.aload 5, 2) := by decide +kernel
theorem dX10_dividend_17 : decode cX10_dividend 17 = .ok (.iload_n 2, 1) := by decide +kernel
theorem dX10_dividend_18 : decode cX10_dividend 18 = .ok (.iload_n 3, 1) := by decide +kernel
theorem dX10_dividend_19 : decode cX10_dividend 19 = .ok (.iload 4, 2) := by decide +kernel
theorem dX10_dividend_21 : decode cX10_dividend 21 = .ok (.invokevirtual 165, 3) := by decide +kernel
theorem dX10_dividend_24 : decode cX10_dividend 24 = .ok (.istore 6, 2) := by decide +kernel
theorem dX10_dividend_26 : decode cX10_dividend 26 = .ok (.iload 6, 2) := by decide +kernel
theorem dX10_dividend_28 : decode cX10_dividend 28 = .ok (.ifCond .eq 6, 3) := by decide +kernel
theorem dX10_dividend_31 : decode cX10_dividend 31 = .ok (.iload 6, 2) := by decide +kernel
theorem dX10_dividend_33 : decode cX10_dividend 33 = .ok (.ireturn, 1) := by decide +kernel
theorem dX10_dividend_34 : decode cX10_dividend 34 = .ok (.aload 5, 2) := by decide +kernel
theorem dX10_dividend_36 : decode cX10_dividend 36 = .ok (.invokevirtual 236, 3) := by decide +kernel
theorem dX10_dividend_39 : decode cX10_dividend 39 = .ok (.ifCond .eq 21, 3) := by decide +kernel
theorem dX10_dividend_42 : decode cX10_dividend 42 = .ok (.aload 5, 2) := by decide +kernel
theorem dX10_dividend_44 : decode cX10_dividend 44 = .ok (.getfield 239, 3) := by decide +kernel
theorem dX10_dividend_47 : decode cX10_dividend 47 = .ok (.aload 5, 2) := by decide +kernel
theorem dX10_dividend_49 : decode cX10_dividend 49 = .ok (.iload_n 2, 1) := by decide +kernel
theorem dX10_dividend_50 : decode cX10_dividend 50 = .ok (.iload_n 3, 1) := by decide +kernel
theorem dX10_dividend_51 : decode cX10_dividend 51 = .ok (.iload 4, 2) := by decide +kernel
theorem dX10_dividend_53 : decode cX10_dividend 53 = .ok (.invokevirtual 233, 3) := by decide +kernel
theorem dX10_dividend_56 : decode cX10_dividend 56 = .ok (.iaload, 1) := by decide +kernel
theorem dX10_dividend_57 : decode cX10_dividend 57 = .ok (.goto 5, 3) := by decide +kernel
theorem dX10_dividend_60 : decode cX10_dividend 60 = .ok (.bipush (-6), 2) := by decide +kernel
theorem dX10_dividend_62 : decode cX10_dividend 62 = .ok (.ireturn, 1) := by decide +kernel
theorem dX11_dividend_0 : decode cX11_dividend 0 = .ok (.aload_n 0, 1) := by decide +kernel
theorem dX11_dividend_1 : decode cX11_dividend 1 = .ok (.iload_n 1, 1) := by decide +kernel
theorem dX11_dividend_2 : decode cX11_dividend 2 = .ok (.invokevirtual 281, 3) := by decide +kernel
theorem dX11_dividend_5 : decode cX11_dividend 5 = .ok (.ifCond .ne 6, 3) := by decide +kernel
theorem dX11_dividend_8 : decode cX11_dividend 8 = .ok (.bipush (-2), 2) := by decide +kernel
theorem dX11_dividend_10 : decode cX11_dividend 10 = .ok (.ireturn, 1) := by decide +kernel
theorem dX11_dividend_11 : decode cX11_dividend 11 = .ok (.aload_n 0, 1) := by decide +kernel
theorem dX11_dividend_12 : decode cX11_dividend 12 = .ok (.iload_n 1, 1) := by decide +kernel
theorem dX11_dividend_13 : decode cX11_dividend 13 = .ok (.iload_n 2, 1) := by decide +kernel
theorem dX11_dividend_14 : decode cX11_dividend 14 = .ok (.iload_n 3, 1) := by decide +kernel
theorem dX11_dividend_15 : decode cX11_dividend 15 = .ok (.iload 4, 2) := by decide +kernel
theorem dX11_dividend_17 : decode cX11_dividend 17 = .ok (.invokevirtual 284, 3) := by decide +kernel
theorem dX11_dividend_20 : decode cX11_dividend 20 = .ok (.istore 5, 2) := by decide +kernel
theorem dX11_dividend_22 : decode cX11_dividend 22 = .ok (.iload 5, 2) := by decide +kernel
theorem dX11_dividend_24 : decode cX11_dividend 24 = .ok (.ifCond .ge 6, 3) := by decide +kernel
theorem dX11_dividend_27 : decode cX11_dividend 27 = .ok (.iload 5, 2) := by decide +kernel
theorem dX11_dividend_29 : decode cX11_dividend 29 = .ok (.ireturn, 1) := by decide +kernel
theorem dX11_dividend_30 : decode cX11_dividend 30 = .ok (.aload_n 0, 1) := by decide +kernel
theorem dX11_dividend_31 : decode cX11_dividend 31 = .ok (.getfield 35, 3) := by decide +kernel
theorem dX11_dividend_34 : decode cX11_dividend 34 = .ok (.iload_n 1, 1) := by decide +kernel
theorem dX11_dividend_35 : decode cX11_dividend 35 = .ok (.baload, 1) := by decide +kernel
theorem dX11_dividend_36 : decode cX11_dividend 36 = .ok (.ifCond .ne 6, 3) := by decide +kernel
theorem dX11_dividend_39 : decode cX11_dividend 39 = .ok (.bipush (-6), 2) := by decide +kernel
theorem dX11_dividend_41 : decode cX11_dividend 41 = .ok (.ireturn, 1) := by decide +kernel
theorem dX11_dividend_42 : decode cX11_dividend 42 = .ok (.iconst 0, 1) := by decide +kernel
theorem dX11_dividend_43 : decode cX11_dividend 43 = .ok (.istore 6, 2) := by decide +kernel
theorem dX11_dividend_45 : decode cX11_dividend 45 = .ok (.iload 6, 2) := by decide +kernel
theorem dX11_dividend_47 : decode cX11_dividend 47 = .ok (.aload_n 0, 1) := by decide +kernel
theorem dX11_dividend_48 : decode cX11_dividend 48 = .ok (.getfield 205, 3) := by decide +kernel
theorem dX11_dividend_51 : decode cX11_dividend 51 = .ok (.if_icmp .ge 41, 3) := by decide +kernel
theorem dX11_dividend_54 : decode cX11_dividend 54 = .ok (.aload_n 0, 1) := by decide +kernel
theorem dX11_dividend_55 : decode cX11_dividend 55 = .ok (.getfield 92, 3) := by decide +kernel
theorem dX11_dividend_58 : decode cX11_dividend 58 = .ok (.iload 6, 2) := by decide +kernel
theorem dX11_dividend_60 : decode cX11_dividend 60 = .ok (.baload, 1) := by decide +kernel
theorem dX11_dividend_61 : decode cX11_dividend 61 = .ok (.ifCond .eq 25, 3) := by decide +kernel
theorem dX11_dividend_64 : decode cX11_dividend 64 = .ok (.aload_n 0, 1) := by decide +kernel
theorem dX11_dividend_65 : decode cX11_dividend 65 = .ok (.iload 6, 2) := by decide +kernel
theorem dX11_dividend_67 : decode cX11_dividend 67 = .ok (.iload_n 1, 1) := by decide +kernel
theorem dX11_dividend_68 : decode cX11_dividend 68 = .ok (.iload_n 2, 1) := by decide +kernel
theorem dX11_dividend_69 : decode cX11_dividend 69 = .ok (.iload_n 3, 1) := by decide +kernel
theorem dX11_dividend_70 : decode cX11_dividend 70 = .ok (.iload 4, 2) := by decide +kernel
theorem dX11_dividend_72 : decode cX11_dividend 72 = .ok (.invokevirtual 303, 3) := by decide +kernel
theorem dX11_dividend_75 : decode cX11_dividend 75 = .ok (.ifCond .eq 11, 3) := by decide +kernel
theorem dX11_dividend_78 : decode cX11_dividend 78 = .ok (.aload_n 0, 1) := by decide +kernel
theorem dX11_dividend_79 : decode cX11_dividend 79 = .ok (.getfield 89, 3) := by decide +kernel
theorem dX11_dividend_82 : decode cX11_dividend 82 = .ok (.iload 6, 2) := by decide +kernel
theorem dX11_dividend_84 : decode cX11_dividend 84 = .ok (.iaload, 1) := by decide +kernel
theorem dX11_dividend_85 : decode cX11_dividend 85 = .ok (.ireturn, 1) := by decide +kernel
theorem dX11_dividend_86 : decode cX11_dividend 86 = .ok (.iinc 6 1, 3) := by decide +kernel
theorem dX11_dividend_89 : decode cX11_dividend 89 = .ok (.goto (-44), 3) := by decide +kernel
theorem dX11_dividend_92 : decode cX11_dividend 92 = .ok (.iconst 0, 1) := by decide +kernel
theorem dX11_dividend_93 : decode cX11_dividend 93 = .ok (.ireturn, 1) := by decide +kernel
theorem dX5_areRow_0 : decode cX5_areRow 0 = .ok (.iload_n 1, 1) := by decide +kernel
theorem dX5_areRow_1 : decode cX5_areRow 1 = .ok (.iload_n 2, 1) := by decide +kernel
theorem dX5_areRow_2 : decode cX5_areRow 2 = .ok (.if_icmp .eq 41, 3) := by decide +kernel
theorem dX5_areRow_5 : decode cX5_areRow 5 = .ok (.iload_n 1, 1) := by decide +kernel
theorem dX5_areRow_6 : decode cX5_areRow 6 = .ok (.iload_n 3, 1) := by decide +kernel
theorem dX5_areRow_7 : decode cX5_areRow 7 = .ok (.if_icmp .eq 36, 3) := by decide +kernel
theorem dX5_areRow_10 : decode cX5_areRow 10 = .ok (.iload_n 2, 1) := by decide +kernel
theorem dX5_areRow_11 : decode cX5_areRow 11 = .ok (.iload_n 3, 1) := by decide +kernel
theorem dX5_areRow_12 : decode cX5_areRow 12 = .ok (.if_icmp .eq 31, 3) := by decide +kernel
theorem dX5_areRow_15 : decode cX5_areRow 15 = .ok (.aload_n 0, 1) := by decide +kernel
theorem dX5_areRow_16 : decode cX5_areRow 16 = .ok (.iload_n 1, 1) := by decide +kernel
theorem dX5_areRow_17 : decode cX5_areRow 17 = .ok (.invokevirtual 43, 3) := by decide +kernel
theorem dX5_areRow_20 : decode cX5_areRow 20 = .ok (.ifCond .ne 23, 3) := by decide +kernel
theorem dX5_areRow_23 : decode cX5_areRow 23 = .ok (.aload_n 0, 1) := by decide +kernel
theorem dX5_areRow_24 : decode cX5_areRow 24 = .ok (.iload_n 2, 1) := by decide +kernel
theorem dX5_areRow_25 : decode cX5_areRow 25 = .ok (.invokevirtual 43, 3) := by decide +kernel
theorem dX5_areRow_28 : decode cX5_areRow 28 = .ok (.ifCond .ne 15, 3) := by decide +kernel
theorem dX5_areRow_31 : decode cX5_areRow 31 = .ok (.aload_n 0, 1) := by decide +kernel
theorem dX5_areRow_32 : decode cX5_areRow 32 = .ok (.iload_n 3, 1) := by decide +kernel
theorem dX5_areRow_33 : decode cX5_areRow 33 = .ok (.invokevirtual 43, 3) := by decide +kernel
theorem dX5_areRow_36 : decode cX5_areRow 36 = .ok (.ifCond .ne 7, 3) := by decide +kernel
theorem dX5_areRow_39 : decode cX5_areRow 39 = .ok (.iconst 1, 1) := by decide +kernel
theorem dX5_areRow_40 : decode cX5_areRow 40 = .ok (.goto 4, 3) := by decide +kernel
theorem dX5_areRow_43 : decode cX5_areRow 43 = .ok (.iconst 0, 1) := by decide +kernel
theorem dX5_areRow_44 : decode cX5_areRow 44 = .ok (.ireturn, 1) := by decide +kernel
theorem dX10_suppose_0 : decode cX10_suppose 0 = .ok (.aload_n 0, 1) := by decide +kernel
theorem dX10_suppose_1 : decode cX10_suppose 1 = .ok (.getfield 49, 3) := by decide +kernel
theorem dX10_suppose_4 : decode cX10_suppose 4 = .ok (.aload_n 1, 1) := by decide +kernel
theorem dX10_suppose_5 : decode cX10_suppose 5 = .ok (.getfield 116, 3) := by decide +kernel
theorem dX10_suppose_8 : decode cX10_suppose 8 = .ok (.invokevirtual 434, 3) := by decide +kernel
theorem dX10_suppose_11 : decode cX10_suppose 11 = .ok (.aload_n 0, 1) := by decide +kernel
theorem dX10_suppose_12 : decode cX10_suppose 12 = .ok (.getfield 49, 3) := by decide +kernel
theorem dX10_suppose_15 : decode cX10_suppose 15 = .ok (.iload_n 2, 1) := by decide +kernel
theorem dX10_suppose_16 : decode cX10_suppose 16 = .ok (.iconst 1, 1) := by decide +kernel
theorem dX10_suppose_17 : decode cX10_suppose 17 = .ok (.invokevirtual 436, 3) := by decide +kernel
theorem dX10_suppose_20 : decode cX10_suppose 20 = .ok (.aload_n 0, 1) := by decide +kernel
theorem dX10_suppose_21 : decode cX10_suppose 21 = .ok (.getfield 49, 3) := by decide +kernel
theorem dX10_suppose_24 : decode cX10_suppose 24 = .ok (.iload_n 3, 1) := by decide +kernel
theorem dX10_suppose_25 : decode cX10_suppose 25 = .ok (.iconst 2, 1) := by decide +kernel
theorem dX10_suppose_26 : decode cX10_suppose 26 = .ok (.invokevirtual 436, 3) := by decide +kernel
theorem dX10_suppose_29 : decode cX10_suppose 29 = .ok (.iload 4, 2) := by decide +kernel
theorem dX10_suppose_31 : decode cX10_suppose 31 = .ok (.ifCond .eq 13, 3) := by decide +kernel
theorem dX10_suppose_34 : decode cX10_suppose 34 = .ok (.aload_n 0, 1) := by decide +kernel
theorem dX10_suppose_35 : decode cX10_suppose 35 = .ok (.getfield 49, 3) := by decide +kernel
theorem dX10_suppose_38 : decode cX10_suppose 38 = .ok (.iload 4, 2) := by decide +kernel
theorem dX10_suppose_40 : decode cX10_suppose 40 = .ok (.iconst 3, 1) := by decide +kernel
theorem dX10_suppose_41 : decode cX10_suppose 41 = .ok (.invokevirtual 436, 3) := by decide +kernel
theorem dX10_suppose_44 : decode cX10_suppose 44 = .ok (.return_, 1) := by decide +kernel
theorem dX7_dividendOf_0 : decode cX7_dividendOf 0 = .ok (.aload_n 0, 1) := by decide +kernel
theorem dX7_dividendOf_1 : decode cX7_dividendOf 1 = .ok (.getfield 55, 3) := by decide +kernel
theorem dX7_dividendOf_4 : decode cX7_dividendOf 4 = .ok (.ifCond .eq 7, 3) := by decide +kernel
theorem dX7_dividendOf_7 : decode cX7_dividendOf 7 = .ok (.iconst (-1), 1) := by decide +kernel
theorem dX7_dividendOf_8 : decode cX7_dividendOf 8 = .ok (.goto 8, 3) := by decide +kernel
theorem dX7_dividendOf_11 : decode cX7_dividendOf 11 = .ok (.aload_n 0, 1) := by decide +kernel
theorem dX7_dividendOf_12 : decode cX7_dividendOf 12 = .ok (.iload_n 1, 1) := by decide +kernel
theorem dX7_dividendOf_13 : decode cX7_dividendOf 13 = .ok (.invokevirtual 111, 3) := by decide +kernel
theorem dX7_dividendOf_16 : decode cX7_dividendOf 16 = .ok (.istore_n 2, 1) := by decide +kernel
theorem dX7_dividendOf_17 : decode cX7_dividendOf 17 = .ok (.iload_n 2, 1) := by decide +kernel
theorem dX7_dividendOf_18 : decode cX7_dividendOf 18 = .ok (.iconst (-1), 1) := by decide +kernel
theorem dX7_dividendOf_19 : decode cX7_dividendOf 19 = .ok (.if_icmp .ne 7, 3) := by decide +kernel
theorem dX7_dividendOf_22 : decode cX7_dividendOf 22 = .ok (.iconst 0, 1) := by decide +kernel
theorem dX7_dividendOf_23 : decode cX7_dividendOf 23 = .ok (.goto 9, 3) := by decide +kernel
theorem dX7_dividendOf_26 : decode cX7_dividendOf 26 = .ok (.aload_n 0, 1) := by decide +kernel
theorem dX7_dividendOf_27 : decode cX7_dividendOf 27 = .ok (.getfield 15, 3) := by decide +kernel
theorem dX7_dividendOf_30 : decode cX7_dividendOf 30 = .ok (.iload_n 2, 1) := by decide +kernel
theorem dX7_dividendOf_31 : decode cX7_dividendOf 31 = .ok (.iaload, 1) := by decide +kernel
theorem dX7_dividendOf_32 : decode cX7_dividendOf 32 = .ok (.ireturn, 1) := by decide +kernel
theorem dX10_odds_0 : decode cX10_odds 0 = .ok (.aload_n 0, 1) := by decide +kernel
theorem dX10_odds_1 : decode cX10_odds 1 = .ok (.iload_n 1, 1) := by decide +kernel
theorem dX10_odds_2 : decode cX10_odds 2 = .ok (.invokevirtual 158, 3) := by decide +kernel
theorem dX10_odds_5 : decode cX10_odds 5 = .ok (.astore 5, 2) := by decide +kernel
theorem dX10_odds_7 : decode cX10_odds 7 = .ok (.aload 5, 2) := by decide +kernel
theorem dX10_odds_9 : decode cX10_odds 9 = .ok (.ifnull 12, 3) := by decide +kernel
theorem dX10_odds_12 : decode cX10_odds 12 = .ok (.aload 5, 2) := by decide +kernel
theorem dX10_odds_14 : decode cX10_odds 14 = .ok (.getfield 242, 3) := by decide +kernel
theorem dX10_odds_17 : decode cX10_odds 17 = .ok (.iconst 4, 1) := by decide +kernel
theorem dX10_odds_18 : decode cX10_odds 18 = .ok (.if_icmp .ne 6, 3) := by decide +kernel
theorem dX10_odds_21 : decode cX10_odds 21 = .ok (.bipush (-2), 2) := by decide +kernel
theorem dX10_odds_23 : decode cX10_odds 23 = .ok (.ireturn, 1) := by decide +kernel
theorem dX10_odds_24 : decode cX10_odds 24 = .ok (.aload 5, 2) := by decide +kernel
theorem dX10_odds_26 : decode cX10_odds 26 = .ok (.getfield 173, 3) := by decide +kernel
theorem dX10_odds_29 : decode cX10_odds 29 = .ok (.astore 6, 2) := by decide +kernel
theorem dX10_odds_31 : decode cX10_odds 31 = .ok (.aload 6, 2) := by decide +kernel
theorem dX10_odds_33 : decode cX10_odds 33 = .ok (.iload_n 2, 1) := by decide +kernel
theorem dX10_odds_34 : decode cX10_odds 34 = .ok (.invokevirtual 151, 3) := by decide +kernel
theorem dX10_odds_37 : decode cX10_odds 37 = .ok (.ifCond .eq 27, 3) := by decide +kernel
theorem dX10_odds_40 : decode cX10_odds 40 = .ok (.aload 6, 2) := by decide +kernel
theorem dX10_odds_42 : decode cX10_odds 42 = .ok (.iload_n 3, 1) := by decide +kernel
theorem dX10_odds_43 : decode cX10_odds 43 = .ok (.invokevirtual 151, 3) := by decide +kernel
theorem dX10_odds_46 : decode cX10_odds 46 = .ok (.ifCond .eq 18, 3) := by decide +kernel
theorem dX10_odds_49 : decode cX10_odds 49 = .ok (.iload 4, 2) := by decide +kernel
theorem dX10_odds_51 : decode cX10_odds 51 = .ok (.ifCond .eq 16, 3) := by decide +kernel
theorem dX10_odds_54 : decode cX10_odds 54 = .ok (.aload 6, 2) := by decide +kernel
theorem dX10_odds_56 : decode cX10_odds 56 = .ok (.iload 4, 2) := by decide +kernel
theorem dX10_odds_58 : decode cX10_odds 58 = .ok (.invokevirtual 151, 3) := by decide +kernel
theorem dX10_odds_61 : decode cX10_odds 61 = .ok (.ifCond .ne 6, 3) := by decide +kernel
theorem dX10_odds_64 : decode cX10_odds 64 = .ok (.bipush (-3), 2) := by decide +kernel
theorem dX10_odds_66 : decode cX10_odds 66 = .ok (.ireturn, 1) := by decide +kernel
theorem dX10_odds_67 : decode cX10_odds 67 = .ok (.iload_n 2, 1) := by decide +kernel
theorem dX10_odds_68 : decode cX10_odds 68 = .ok (.iload_n 3, 1) := by decide +kernel
theorem dX10_odds_69 : decode cX10_odds 69 = .ok (.if_icmp .eq 15, 3) := by decide +kernel
theorem dX10_odds_72 : decode cX10_odds 72 = .ok (.iload_n 2, 1) := by decide +kernel
theorem dX10_odds_73 : decode cX10_odds 73 = .ok (.iload 4, 2) := by decide +kernel
theorem dX10_odds_75 : decode cX10_odds 75 = .ok (.if_icmp .eq 9, 3) := by decide +kernel
theorem dX10_odds_78 : decode cX10_odds 78 = .ok (.iload_n 3, 1) := by decide +kernel
theorem dX10_odds_79 : decode cX10_odds 79 = .ok (.iload 4, 2) := by decide +kernel
theorem dX10_odds_81 : decode cX10_odds 81 = .ok (.if_icmp .ne 6, 3) := by decide +kernel
theorem dX10_odds_84 : decode cX10_odds 84 = .ok (.bipush (-4), 2) := by decide +kernel
theorem dX10_odds_86 : decode cX10_odds 86 = .ok (.ireturn, 1) := by decide +kernel
theorem dX10_odds_87 : decode cX10_odds 87 = .ok (.aload 6, 2) := by decide +kernel
theorem dX10_odds_89 : decode cX10_odds 89 = .ok (.iload_n 2, 1) := by decide +kernel
theorem dX10_odds_90 : decode cX10_odds 90 = .ok (.iload_n 3, 1) := by decide +kernel
theorem dX10_odds_91 : decode cX10_odds 91 = .ok (.iload 4, 2) := by decide +kernel
theorem dX10_odds_93 : decode cX10_odds 93 = .ok (.invokevirtual 245, 3) := by decide +kernel
theorem dX10_odds_96 : decode cX10_odds 96 = .ok (.ifCond .ne 6, 3) := by decide +kernel
theorem dX10_odds_99 : decode cX10_odds 99 = .ok (.bipush (-5), 2) := by decide +kernel
theorem dX10_odds_101 : decode cX10_odds 101 = .ok (.ireturn, 1) := by decide +kernel
theorem dX10_odds_102 : decode cX10_odds 102 = .ok (.aload 6, 2) := by decide +kernel
theorem dX10_odds_104 : decode cX10_odds 104 = .ok (.getfield 88, 3) := by decide +kernel
theorem dX10_odds_107 : decode cX10_odds 107 = .ok (.iconst 2, 1) := by decide +kernel
theorem dX10_odds_108 : decode cX10_odds 108 = .ok (.if_icmp .ne 6, 3) := by decide +kernel
theorem dX10_odds_111 : decode cX10_odds 111 = .ok (.bipush (-6), 2) := by decide +kernel
theorem dX10_odds_113 : decode cX10_odds 113 = .ok (.ireturn, 1) := by decide +kernel
theorem dX10_odds_114 : decode cX10_odds 114 = .ok (.aload_n 0, 1) := by decide +kernel
theorem dX10_odds_115 : decode cX10_odds 115 = .ok (.aload 6, 2) := by decide +kernel
theorem dX10_odds_117 : decode cX10_odds 117 = .ok (.iload_n 2, 1) := by decide +kernel
theorem dX10_odds_118 : decode cX10_odds 118 = .ok (.iload_n 3, 1) := by decide +kernel
theorem dX10_odds_119 : decode cX10_odds 119 = .ok (.iload 4, 2) := by decide +kernel
theorem dX10_odds_121 : decode cX10_odds 121 = .ok (.invokevirtual 248, 3) := by decide +kernel
theorem dX10_odds_124 : decode cX10_odds 124 = .ok (.aload_n 0, 1) := by decide +kernel
theorem dX10_odds_125 : decode cX10_odds 125 = .ok (.getfield 56, 3) := by decide +kernel
theorem dX10_odds_128 : decode cX10_odds 128 = .ok (.aload 5, 2) := by decide +kernel
theorem dX10_odds_130 : decode cX10_odds 130 = .ok (.aload_n 0, 1) := by decide +kernel
theorem dX10_odds_131 : decode cX10_odds 131 = .ok (.getfield 49, 3) := by decide +kernel
theorem dX10_odds_134 : decode cX10_odds 134 = .ok (.aload_n 0, 1) := by decide +kernel
theorem dX10_odds_135 : decode cX10_odds 135 = .ok (.getfield 49, 3) := by decide +kernel
theorem dX10_odds_138 : decode cX10_odds 138 = .ok (.invokevirtual 252, 3) := by decide +kernel
theorem dX10_odds_141 : decode cX10_odds 141 = .ok (.aload_n 0, 1) := by decide +kernel
theorem dX10_odds_142 : decode cX10_odds 142 = .ok (.getfield 56, 3) := by decide +kernel
theorem dX10_odds_145 : decode cX10_odds 145 = .ok (.aload 5, 2) := by decide +kernel
theorem dX10_odds_147 : decode cX10_odds 147 = .ok (.iload_n 2, 1) := by decide +kernel
theorem dX10_odds_148 : decode cX10_odds 148 = .ok (.iload_n 3, 1) := by decide +kernel
theorem dX10_odds_149 : decode cX10_odds 149 = .ok (.iload 4, 2) := by decide +kernel
theorem dX10_odds_151 : decode cX10_odds 151 = .ok (.invokevirtual 233, 3) := by decide +kernel
theorem dX10_odds_154 : decode cX10_odds 154 = .ok (.invokevirtual 256, 3) := by decide +kernel
theorem dX10_odds_157 : decode cX10_odds 157 = .ok (.ireturn, 1) := by decide +kernel
theorem dX11_suppose_0 : decode cX11_suppose 0 = .ok (.iconst 0, 1) := by decide +kernel
theorem dX11_suppose_1 : decode cX11_suppose 1 = .ok (.istore 4, 2) := by decide +kernel
theorem dX11_suppose_3 : decode cX11_suppose 3 = .ok (.iload 4, 2) := by decide +kernel
theorem dX11_suppose_5 : decode cX11_suppose 5 = .ok (.bipush 13, 2) := by decide +kernel
theorem dX11_suppose_7 : decode cX11_suppose 7 = .ok (.if_icmp .ge 56, 3) := by decide +kernel
theorem dX11_suppose_10 : decode cX11_suppose 10 = .ok (.aload_n 0, 1) := by decide +kernel
theorem dX11_suppose_11 : decode cX11_suppose 11 = .ok (.getfield 95, 3) := by decide +kernel
theorem dX11_suppose_14 : decode cX11_suppose 14 = .ok (.iload 4, 2) := by decide +kernel
theorem dX11_suppose_16 : decode cX11_suppose 16 = .ok (.iload 4, 2) := by decide +kernel
theorem dX11_suppose_18 : decode cX11_suppose 18 = .ok (.ifCond .ne 7, 3) := by decide +kernel
theorem dX11_suppose_21 : decode cX11_suppose 21 = .ok (.iconst 0, 1) := by decide +kernel
theorem dX11_suppose_22 : decode cX11_suppose 22 = .ok (.goto 34, 3) := by decide +kernel
theorem dX11_suppose_25 : decode cX11_suppose 25 = .ok (.iload 4, 2) := by decide +kernel
theorem dX11_suppose_27 : decode cX11_suppose 27 = .ok (.iload_n 1, 1) := by decide +kernel
theorem dX11_suppose_28 : decode cX11_suppose 28 = .ok (.if_icmp .ne 7, 3) := by decide +kernel
theorem dX11_suppose_31 : decode cX11_suppose 31 = .ok (.iconst 1, 1) := by decide +kernel
theorem dX11_suppose_32 : decode cX11_suppose 32 = .ok (.goto 24, 3) := by decide +kernel
theorem dX11_suppose_35 : decode cX11_suppose 35 = .ok (.iload 4, 2) := by decide +kernel
theorem dX11_suppose_37 : decode cX11_suppose 37 = .ok (.iload_n 2, 1) := by decide +kernel
theorem dX11_suppose_38 : decode cX11_suppose 38 = .ok (.if_icmp .ne 7, 3) := by decide +kernel
theorem dX11_suppose_41 : decode cX11_suppose 41 = .ok (.iconst 2, 1) := by decide +kernel
theorem dX11_suppose_42 : decode cX11_suppose 42 = .ok (.goto 14, 3) := by decide +kernel
theorem dX11_suppose_45 : decode cX11_suppose 45 = .ok (.iload 4, 2) := by decide +kernel
theorem dX11_suppose_47 : decode cX11_suppose 47 = .ok (.iload_n 3, 1) := by decide +kernel
theorem dX11_suppose_48 : decode cX11_suppose 48 = .ok (.if_icmp .ne 7, 3) := by decide +kernel
theorem dX11_suppose_51 : decode cX11_suppose 51 = .ok (.iconst 3, 1) := by decide +kernel
theorem dX11_suppose_52 : decode cX11_suppose 52 = .ok (.goto 4, 3) := by decide +kernel
theorem dX11_suppose_55 : decode cX11_suppose 55 = .ok (.iconst 0, 1) := by decide +kernel
theorem dX11_suppose_56 : decode cX11_suppose 56 = .ok (.iastore, 1) := by decide +kernel
theorem dX11_suppose_57 : decode cX11_suppose 57 = .ok (.iinc 4 1, 3) := by decide +kernel
theorem dX11_suppose_60 : decode cX11_suppose 60 = .ok (.goto (-57), 3) := by decide +kernel
theorem dX11_suppose_63 : decode cX11_suppose 63 = .ok (.return_, 1) := by decide +kernel
theorem dX11_odds_0 : decode cX11_odds 0 = .ok (.aload_n 0, 1) := by decide +kernel
theorem dX11_odds_1 : decode cX11_odds 1 = .ok (.iload_n 1, 1) := by decide +kernel
theorem dX11_odds_2 : decode cX11_odds 2 = .ok (.invokevirtual 281, 3) := by decide +kernel
theorem dX11_odds_5 : decode cX11_odds 5 = .ok (.ifCond .eq 9, 3) := by decide +kernel
theorem dX11_odds_8 : decode cX11_odds 8 = .ok (.iload_n 1, 1) := by decide +kernel
theorem dX11_odds_9 : decode cX11_odds 9 = .ok (.bipush 48, 2) := by decide +kernel
theorem dX11_odds_11 : decode cX11_odds 11 = .ok (.if_icmp .ne 6, 3) := by decide +kernel
theorem dX11_odds_14 : decode cX11_odds 14 = .ok (.bipush (-2), 2) := by decide +kernel
theorem dX11_odds_16 : decode cX11_odds 16 = .ok (.ireturn, 1) := by decide +kernel
theorem dX11_odds_17 : decode cX11_odds 17 = .ok (.iload_n 1, 1) := by decide +kernel
theorem dX11_odds_18 : decode cX11_odds 18 = .ok (.iconst 4, 1) := by decide +kernel
theorem dX11_odds_19 : decode cX11_odds 19 = .ok (.idiv, 1) := by decide +kernel
theorem dX11_odds_20 : decode cX11_odds 20 = .ok (.istore 5, 2) := by decide +kernel
theorem dX11_odds_22 : decode cX11_odds 22 = .ok (.aload_n 0, 1) := by decide +kernel
theorem dX11_odds_23 : decode cX11_odds 23 = .ok (.iload 5, 2) := by decide +kernel
theorem dX11_odds_25 : decode cX11_odds 25 = .ok (.iload_n 2, 1) := by decide +kernel
theorem dX11_odds_26 : decode cX11_odds 26 = .ok (.invokevirtual 194, 3) := by decide +kernel
theorem dX11_odds_29 : decode cX11_odds 29 = .ok (.ifCond .eq 29, 3) := by decide +kernel
theorem dX11_odds_32 : decode cX11_odds 32 = .ok (.aload_n 0, 1) := by decide +kernel
theorem dX11_odds_33 : decode cX11_odds 33 = .ok (.iload 5, 2) := by decide +kernel
theorem dX11_odds_35 : decode cX11_odds 35 = .ok (.iload_n 3, 1) := by decide +kernel
theorem dX11_odds_36 : decode cX11_odds 36 = .ok (.invokevirtual 194, 3) := by decide +kernel
theorem dX11_odds_39 : decode cX11_odds 39 = .ok (.ifCond .eq 19, 3) := by decide +kernel
theorem dX11_odds_42 : decode cX11_odds 42 = .ok (.iload 4, 2) := by decide +kernel
theorem dX11_odds_44 : decode cX11_odds 44 = .ok (.ifCond .eq 17, 3) := by decide +kernel
theorem dX11_odds_47 : decode cX11_odds 47 = .ok (.aload_n 0, 1) := by decide +kernel
theorem dX11_odds_48 : decode cX11_odds 48 = .ok (.iload 5, 2) := by decide +kernel
theorem dX11_odds_50 : decode cX11_odds 50 = .ok (.iload 4, 2) := by decide +kernel
theorem dX11_odds_52 : decode cX11_odds 52 = .ok (.invokevirtual 194, 3) := by decide +kernel
theorem dX11_odds_55 : decode cX11_odds 55 = .ok (.ifCond .ne 6, 3) := by decide +kernel
theorem dX11_odds_58 : decode cX11_odds 58 = .ok (.bipush (-3), 2) := by decide +kernel
theorem dX11_odds_60 : decode cX11_odds 60 = .ok (.ireturn, 1) := by decide +kernel
theorem dX11_odds_61 : decode cX11_odds 61 = .ok (.iload_n 2, 1) := by decide +kernel
theorem dX11_odds_62 : decode cX11_odds 62 = .ok (.iload_n 3, 1) := by decide +kernel
theorem dX11_odds_63 : decode cX11_odds 63 = .ok (.if_icmp .eq 15, 3) := by decide +kernel
theorem dX11_odds_66 : decode cX11_odds 66 = .ok (.iload_n 2, 1) := by decide +kernel
theorem dX11_odds_67 : decode cX11_odds 67 = .ok (.iload 4, 2) := by decide +kernel
theorem dX11_odds_69 : decode cX11_odds 69 = .ok (.if_icmp .eq 9, 3) := by decide +kernel
theorem dX11_odds_72 : decode cX11_odds 72 = .ok (.iload_n 3, 1) := by decide +kernel
theorem dX11_odds_73 : decode cX11_odds 73 = .ok (.iload 4, 2) := by decide +kernel
theorem dX11_odds_75 : decode cX11_odds 75 = .ok (.if_icmp .ne 6, 3) := by decide +kernel
theorem dX11_odds_78 : decode cX11_odds 78 = .ok (.bipush (-4), 2) := by decide +kernel
theorem dX11_odds_80 : decode cX11_odds 80 = .ok (.ireturn, 1) := by decide +kernel
theorem dX11_odds_81 : decode cX11_odds 81 = .ok (.aload_n 0, 1) := by decide +kernel
theorem dX11_odds_82 : decode cX11_odds 82 = .ok (.iload 5, 2) := by decide +kernel
theorem dX11_odds_84 : decode cX11_odds 84 = .ok (.iload_n 2, 1) := by decide +kernel
theorem dX11_odds_85 : decode cX11_odds 85 = .ok (.invokevirtual 288, 3) := by decide +kernel
theorem dX11_odds_88 : decode cX11_odds 88 = .ok (.ifCond .ne 24, 3) := by decide +kernel
theorem dX11_odds_91 : decode cX11_odds 91 = .ok (.aload_n 0, 1) := by decide +kernel
theorem dX11_odds_92 : decode cX11_odds 92 = .ok (.iload 5, 2) := by decide +kernel
theorem dX11_odds_94 : decode cX11_odds 94 = .ok (.iload_n 3, 1) := by decide +kernel
theorem dX11_odds_95 : decode cX11_odds 95 = .ok (.invokevirtual 288, 3) := by decide +kernel
theorem dX11_odds_98 : decode cX11_odds 98 = .ok (.ifCond .ne 14, 3) := by decide +kernel
theorem dX11_odds_101 : decode cX11_odds 101 = .ok (.aload_n 0, 1) := by decide +kernel
theorem dX11_odds_102 : decode cX11_odds 102 = .ok (.iload 5, 2) := by decide +kernel
theorem dX11_odds_104 : decode cX11_odds 104 = .ok (.iload 4, 2) := by decide +kernel
theorem dX11_odds_106 : decode cX11_odds 106 = .ok (.invokevirtual 288, 3) := by decide +kernel
theorem dX11_odds_109 : decode cX11_odds 109 = .ok (.ifCond .eq 6, 3) := by decide +kernel
theorem dX11_odds_112 : decode cX11_odds 112 = .ok (.bipush (-5), 2) := by decide +kernel
theorem dX11_odds_114 : decode cX11_odds 114 = .ok (.ireturn, 1) := by decide +kernel
theorem dX11_odds_115 : decode cX11_odds 115 = .ok (.aload_n 0, 1) := by decide +kernel
theorem dX11_odds_116 : decode cX11_odds 116 = .ok (.getfield 7, 3) := by decide +kernel
theorem dX11_odds_119 : decode cX11_odds 119 = .ok (.iload 5, 2) := by decide +kernel
theorem dX11_odds_121 : decode cX11_odds 121 = .ok (.iaload, 1) := by decide +kernel
theorem dX11_odds_122 : decode cX11_odds 122 = .ok (.iconst 2, 1) := by decide +kernel
theorem dX11_odds_123 : decode cX11_odds 123 = .ok (.if_icmp .ne 6, 3) := by decide +kernel
theorem dX11_odds_126 : decode cX11_odds 126 = .ok (.bipush (-6), 2) := by decide +kernel
theorem dX11_odds_128 : decode cX11_odds 128 = .ok (.ireturn, 1) := by decide +kernel
theorem dX11_odds_129 : decode cX11_odds 129 = .ok (.aload_n 0, 1) := by decide +kernel
theorem dX11_odds_130 : decode cX11_odds 130 = .ok (.iload_n 2, 1) := by decide +kernel
theorem dX11_odds_131 : decode cX11_odds 131 = .ok (.iload_n 3, 1) := by decide +kernel
theorem dX11_odds_132 : decode cX11_odds 132 = .ok (.iload 4, 2) := by decide +kernel
theorem dX11_odds_134 : decode cX11_odds 134 = .ok (.invokevirtual 307, 3) := by decide +kernel
theorem dX11_odds_137 : decode cX11_odds 137 = .ok (.aload_n 0, 1) := by decide +kernel
theorem dX11_odds_138 : decode cX11_odds 138 = .ok (.iconst 0, 1) := by decide +kernel
theorem dX11_odds_139 : decode cX11_odds 139 = .ok (.putfield 215, 3) := by decide +kernel
theorem dX11_odds_142 : decode cX11_odds 142 = .ok (.aload_n 0, 1) := by decide +kernel
theorem dX11_odds_143 : decode cX11_odds 143 = .ok (.iload_n 1, 1) := by decide +kernel
theorem dX11_odds_144 : decode cX11_odds 144 = .ok (.invokevirtual 255, 3) := by decide +kernel
theorem dX11_odds_147 : decode cX11_odds 147 = .ok (.aload_n 0, 1) := by decide +kernel
theorem dX11_odds_148 : decode cX11_odds 148 = .ok (.iload_n 1, 1) := by decide +kernel
theorem dX11_odds_149 : decode cX11_odds 149 = .ok (.iconst 0, 1) := by decide +kernel
theorem dX11_odds_150 : decode cX11_odds 150 = .ok (.aload_n 0, 1) := by decide +kernel
theorem dX11_odds_151 : decode cX11_odds 151 = .ok (.getfield 215, 3) := by decide +kernel
theorem dX11_odds_154 : decode cX11_odds 154 = .ok (.invokevirtual 258, 3) := by decide +kernel
theorem dX11_odds_157 : decode cX11_odds 157 = .ok (.iload_n 1, 1) := by decide +kernel
theorem dX11_odds_158 : decode cX11_odds 158 = .ok (.invokestatic 218, 3) := by decide +kernel
theorem dX11_odds_161 : decode cX11_odds 161 = .ok (.istore 6, 2) := by decide +kernel
theorem dX11_odds_163 : decode cX11_odds 163 = .ok (.iload 6, 2) := by decide +kernel
theorem dX11_odds_165 : decode cX11_odds 165 = .ok (.iconst 2, 1) := by decide +kernel
theorem dX11_odds_166 : decode cX11_odds 166 = .ok (.if_icmp .ne 12, 3) := by decide +kernel
theorem dX11_odds_169 : decode cX11_odds 169 = .ok (.iload_n 3, 1) := by decide +kernel
theorem dX11_odds_170 : decode cX11_odds 170 = .ok (.iload_n 2, 1) := by decide +kernel
theorem dX11_odds_171 : decode cX11_odds 171 = .ok (.if_icmp .ge 7, 3) := by decide +kernel
theorem dX11_odds_174 : decode cX11_odds 174 = .ok (.iconst 1, 1) := by decide +kernel
theorem dX11_odds_175 : decode cX11_odds 175 = .ok (.goto 4, 3) := by decide +kernel
theorem dX11_odds_178 : decode cX11_odds 178 = .ok (.iconst 0, 1) := by decide +kernel
theorem dX11_odds_179 : decode cX11_odds 179 = .ok (.istore 7, 2) := by decide +kernel
theorem dX11_odds_181 : decode cX11_odds 181 = .ok (.iload 7, 2) := by decide +kernel
theorem dX11_odds_183 : decode cX11_odds 183 = .ok (.ifCond .eq 7, 3) := by decide +kernel
theorem dX11_odds_186 : decode cX11_odds 186 = .ok (.iload_n 3, 1) := by decide +kernel
theorem dX11_odds_187 : decode cX11_odds 187 = .ok (.goto 4, 3) := by decide +kernel
theorem dX11_odds_190 : decode cX11_odds 190 = .ok (.iload_n 2, 1) := by decide +kernel
theorem dX11_odds_191 : decode cX11_odds 191 = .ok (.istore 8, 2) := by decide +kernel
theorem dX11_odds_193 : decode cX11_odds 193 = .ok (.iload 6, 2) := by decide +kernel
theorem dX11_odds_195 : decode cX11_odds 195 = .ok (.iconst 2, 1) := by decide +kernel
theorem dX11_odds_196 : decode cX11_odds 196 = .ok (.if_icmp .ge 7, 3) := by decide +kernel
theorem dX11_odds_199 : decode cX11_odds 199 = .ok (.iconst 0, 1) := by decide +kernel
theorem dX11_odds_200 : decode cX11_odds 200 = .ok (.goto 13, 3) := by decide +kernel
theorem dX11_odds_203 : decode cX11_odds 203 = .ok (.iload 7, 2) := by decide +kernel
theorem dX11_odds_205 : decode cX11_odds 205 = .ok (.ifCond .eq 7, 3) := by decide +kernel
theorem dX11_odds_208 : decode cX11_odds 208 = .ok (.iload_n 2, 1) := by decide +kernel
theorem dX11_odds_209 : decode cX11_odds 209 = .ok (.goto 4, 3) := by decide +kernel
theorem dX11_odds_212 : decode cX11_odds 212 = .ok (.iload_n 3, 1) := by decide +kernel
theorem dX11_odds_213 : decode cX11_odds 213 = .ok (.istore 9, 2) := by decide +kernel
theorem dX11_odds_215 : decode cX11_odds 215 = .ok (.iload 6, 2) := by decide +kernel
theorem dX11_odds_217 : decode cX11_odds 217 = .ok (.iconst 3, 1) := by decide +kernel
theorem dX11_odds_218 : decode cX11_odds 218 = .ok (.if_icmp .ne 8, 3) := by decide +kernel
theorem dX11_odds_221 : decode cX11_odds 221 = .ok (.iload 4, 2) := by decide +kernel
theorem dX11_odds_223 : decode cX11_odds 223 = .ok (.goto 4, 3) := by decide +kernel
theorem dX11_odds_226 : decode cX11_odds 226 = .ok (.iconst 0, 1) := by decide +kernel
theorem dX11_odds_227 : decode cX11_odds 227 = .ok (.istore 10, 2) := by decide +kernel
theorem dX11_odds_229 : decode cX11_odds 229 = .ok (.iconst 0, 1) := by decide +kernel
theorem dX11_odds_230 : decode cX11_odds 230 = .ok (.istore 11, 2) := by decide +kernel
theorem dX11_odds_232 : decode cX11_odds 232 = .ok (.iload 11, 2) := by decide +kernel
theorem dX11_odds_234 : decode cX11_odds 234 = .ok (.aload_n 0, 1) := by decide +kernel
theorem dX11_odds_235 : decode cX11_odds 235 = .ok (.getfield 215, 3) := by decide +kernel
theorem dX11_odds_238 : decode cX11_odds 238 = .ok (.if_icmp .ge 60, 3) := by decide +kernel
theorem dX11_odds_241 : decode cX11_odds 241 = .ok (.aload_n 0, 1) := by decide +kernel
theorem dX11_odds_242 : decode cX11_odds 242 = .ok (.getfield 225, 3) := by decide +kernel
theorem dX11_odds_245 : decode cX11_odds 245 = .ok (.ifCond .le 53, 3) := by decide +kernel
theorem dX11_odds_248 : decode cX11_odds 248 = .ok (.aload_n 0, 1) := by decide +kernel
theorem dX11_odds_249 : decode cX11_odds 249 = .ok (.getfield 101, 3) := by decide +kernel
theorem dX11_odds_252 : decode cX11_odds 252 = .ok (.iload 11, 2) := by decide +kernel
theorem dX11_odds_254 : decode cX11_odds 254 = .ok (.iaload, 1) := by decide +kernel
theorem dX11_odds_255 : decode cX11_odds 255 = .ok (.iload 8, 2) := by decide +kernel
theorem dX11_odds_257 : decode cX11_odds 257 = .ok (.if_icmp .ne 35, 3) := by decide +kernel
theorem dX11_odds_260 : decode cX11_odds 260 = .ok (.aload_n 0, 1) := by decide +kernel
theorem dX11_odds_261 : decode cX11_odds 261 = .ok (.getfield 104, 3) := by decide +kernel
theorem dX11_odds_264 : decode cX11_odds 264 = .ok (.iload 11, 2) := by decide +kernel
theorem dX11_odds_266 : decode cX11_odds 266 = .ok (.iaload, 1) := by decide +kernel
theorem dX11_odds_267 : decode cX11_odds 267 = .ok (.iload 9, 2) := by decide +kernel
theorem dX11_odds_269 : decode cX11_odds 269 = .ok (.if_icmp .ne 23, 3) := by decide +kernel
theorem dX11_odds_272 : decode cX11_odds 272 = .ok (.aload_n 0, 1) := by decide +kernel
theorem dX11_odds_273 : decode cX11_odds 273 = .ok (.getfield 107, 3) := by decide +kernel
theorem dX11_odds_276 : decode cX11_odds 276 = .ok (.iload 11, 2) := by decide +kernel
theorem dX11_odds_278 : decode cX11_odds 278 = .ok (.iaload, 1) := by decide +kernel
theorem dX11_odds_279 : decode cX11_odds 279 = .ok (.iload 10, 2) := by decide +kernel
theorem dX11_odds_281 : decode cX11_odds 281 = .ok (.if_icmp .ne 11, 3) := by decide +kernel
theorem dX11_odds_284 : decode cX11_odds 284 = .ok (.aload_n 0, 1) := by decide +kernel
theorem dX11_odds_285 : decode cX11_odds 285 = .ok (.getfield 113, 3) := by decide +kernel
theorem dX11_odds_288 : decode cX11_odds 288 = .ok (.iload 11, 2) := by decide +kernel
theorem dX11_odds_290 : decode cX11_odds 290 = .ok (.iaload, 1) := by decide +kernel
theorem dX11_odds_291 : decode cX11_odds 291 = .ok (.ireturn, 1) := by decide +kernel
theorem dX11_odds_292 : decode cX11_odds 292 = .ok (.iinc 11 1, 3) := by decide +kernel
theorem dX11_odds_295 : decode cX11_odds 295 = .ok (.goto (-63), 3) := by decide +kernel
theorem dX11_odds_298 : decode cX11_odds 298 = .ok (.iconst 0, 1) := by decide +kernel
theorem dX11_odds_299 : decode cX11_odds 299 = .ok (.ireturn, 1) := by decide +kernel
theorem dX10_book_0 : decode cX10_book 0 = .ok (.aload_n 0, 1) := by decide +kernel
theorem dX10_book_1 : decode cX10_book 1 = .ok (.iload_n 1, 1) := by decide +kernel
theorem dX10_book_2 : decode cX10_book 2 = .ok (.invokevirtual 158, 3) := by decide +kernel
theorem dX10_book_5 : decode cX10_book 5 = .ok (.astore_n 3, 1) := by decide +kernel
theorem dX10_book_6 : decode cX10_book 6 = .ok (.aload_n 3, 1) := by decide +kernel
theorem dX10_book_7 : decode cX10_book 7 = .ok (.ifnonnull 6, 3) := by decide +kernel
theorem dX10_book_10 : decode cX10_book 10 = .ok (.bipush (-2), 2) := by decide +kernel
theorem dX10_book_12 : decode cX10_book 12 = .ok (.ireturn, 1) := by decide +kernel
theorem dX10_book_13 : decode cX10_book 13 = .ok (.iload_n 2, 1) := by decide +kernel
theorem dX10_book_14 : decode cX10_book 14 = .ok (.ifCond .lt 9, 3) := by decide +kernel
theorem dX10_book_17 : decode cX10_book 17 = .ok (.iload_n 2, 1) := by decide +kernel
theorem dX10_book_18 : decode cX10_book 18 = .ok (.bipush 11, 2) := by decide +kernel
theorem dX10_book_20 : decode cX10_book 20 = .ok (.if_icmp .lt 8, 3) := by decide +kernel
theorem dX10_book_23 : decode cX10_book 23 = .ok (.bipush (-3), 2) := by decide +kernel
theorem dX10_book_25 : decode cX10_book 25 = .ok (.goto 9, 3) := by decide +kernel
theorem dX10_book_28 : decode cX10_book 28 = .ok (.aload_n 3, 1) := by decide +kernel
theorem dX10_book_29 : decode cX10_book 29 = .ok (.getfield 259, 3) := by decide +kernel
theorem dX10_book_32 : decode cX10_book 32 = .ok (.iload_n 2, 1) := by decide +kernel
theorem dX10_book_33 : decode cX10_book 33 = .ok (.iaload, 1) := by decide +kernel
theorem dX10_book_34 : decode cX10_book 34 = .ok (.ireturn, 1) := by decide +kernel
theorem dX11_book_0 : decode cX11_book 0 = .ok (.aload_n 0, 1) := by decide +kernel
theorem dX11_book_1 : decode cX11_book 1 = .ok (.iload_n 1, 1) := by decide +kernel
theorem dX11_book_2 : decode cX11_book 2 = .ok (.invokevirtual 281, 3) := by decide +kernel
theorem dX11_book_5 : decode cX11_book 5 = .ok (.ifCond .ne 6, 3) := by decide +kernel
theorem dX11_book_8 : decode cX11_book 8 = .ok (.bipush (-2), 2) := by decide +kernel
theorem dX11_book_10 : decode cX11_book 10 = .ok (.ireturn, 1) := by decide +kernel
theorem dX11_book_11 : decode cX11_book 11 = .ok (.iload_n 2, 1) := by decide +kernel
theorem dX11_book_12 : decode cX11_book 12 = .ok (.tableswitch 145 0 10 #[60, 67, 74, 81, 88, 95, 102, 109, 116, 123, 130], 60) := by decide +kernel
theorem dX11_book_72 : decode cX11_book 72 = .ok (.aload_n 0, 1) := by decide +kernel
theorem dX11_book_73 : decode cX11_book 73 = .ok (.getfield 38, 3) := by decide +kernel
theorem dX11_book_76 : decode cX11_book 76 = .ok (.iload_n 1, 1) := by decide +kernel
theorem dX11_book_77 : decode cX11_book 77 = .ok (.iaload, 1) := by decide +kernel
theorem dX11_book_78 : decode cX11_book 78 = .ok (.ireturn, 1) := by decide +kernel
theorem dX11_book_79 : decode cX11_book 79 = .ok (.aload_n 0, 1) := by decide +kernel
theorem dX11_book_80 : decode cX11_book 80 = .ok (.getfield 41, 3) := by decide +kernel
theorem dX11_book_83 : decode cX11_book 83 = .ok (.iload_n 1, 1) := by decide +kernel
theorem dX11_book_84 : decode cX11_book 84 = .ok (.iaload, 1) := by decide +kernel
theorem dX11_book_85 : decode cX11_book 85 = .ok (.ireturn, 1) := by decide +kernel
theorem dX11_book_86 : decode cX11_book 86 = .ok (.aload_n 0, 1) := by decide +kernel
theorem dX11_book_87 : decode cX11_book 87 = .ok (.getfield 44, 3) := by decide +kernel
theorem dX11_book_90 : decode cX11_book 90 = .ok (.iload_n 1, 1) := by decide +kernel
theorem dX11_book_91 : decode cX11_book 91 = .ok (.iaload, 1) := by decide +kernel
theorem dX11_book_92 : decode cX11_book 92 = .ok (.ireturn, 1) := by decide +kernel
theorem dX11_book_93 : decode cX11_book 93 = .ok (.aload_n 0, 1) := by decide +kernel
theorem dX11_book_94 : decode cX11_book 94 = .ok (.getfield 47, 3) := by decide +kernel
theorem dX11_book_97 : decode cX11_book 97 = .ok (.iload_n 1, 1) := by decide +kernel
theorem dX11_book_98 : decode cX11_book 98 = .ok (.iaload, 1) := by decide +kernel
theorem dX11_book_99 : decode cX11_book 99 = .ok (.ireturn, 1) := by decide +kernel
theorem dX11_book_100 : decode cX11_book 100 = .ok (.aload_n 0, 1) := by decide +kernel
theorem dX11_book_101 : decode cX11_book 101 = .ok (.getfield 50, 3) := by decide +kernel
theorem dX11_book_104 : decode cX11_book 104 = .ok (.iload_n 1, 1) := by decide +kernel
theorem dX11_book_105 : decode cX11_book 105 = .ok (.iaload, 1) := by decide +kernel
theorem dX11_book_106 : decode cX11_book 106 = .ok (.ireturn, 1) := by decide +kernel
theorem dX11_book_107 : decode cX11_book 107 = .ok (.aload_n 0, 1) := by decide +kernel
theorem dX11_book_108 : decode cX11_book 108 = .ok (.getfield 53, 3) := by decide +kernel
theorem dX11_book_111 : decode cX11_book 111 = .ok (.iload_n 1, 1) := by decide +kernel
theorem dX11_book_112 : decode cX11_book 112 = .ok (.iaload, 1) := by decide +kernel
theorem dX11_book_113 : decode cX11_book 113 = .ok (.ireturn, 1) := by decide +kernel
theorem dX11_book_114 : decode cX11_book 114 = .ok (.aload_n 0, 1) := by decide +kernel
theorem dX11_book_115 : decode cX11_book 115 = .ok (.getfield 56, 3) := by decide +kernel
theorem dX11_book_118 : decode cX11_book 118 = .ok (.iload_n 1, 1) := by decide +kernel
theorem dX11_book_119 : decode cX11_book 119 = .ok (.iaload, 1) := by decide +kernel
theorem dX11_book_120 : decode cX11_book 120 = .ok (.ireturn, 1) := by decide +kernel
theorem dX11_book_121 : decode cX11_book 121 = .ok (.aload_n 0, 1) := by decide +kernel
theorem dX11_book_122 : decode cX11_book 122 = .ok (.getfield 59, 3) := by decide +kernel
theorem dX11_book_125 : decode cX11_book 125 = .ok (.iload_n 1, 1) := by decide +kernel
theorem dX11_book_126 : decode cX11_book 126 = .ok (.iaload, 1) := by decide +kernel
theorem dX11_book_127 : decode cX11_book 127 = .ok (.ireturn, 1) := by decide +kernel
theorem dX11_book_128 : decode cX11_book 128 = .ok (.aload_n 0, 1) := by decide +kernel
theorem dX11_book_129 : decode cX11_book 129 = .ok (.getfield 62, 3) := by decide +kernel
theorem dX11_book_132 : decode cX11_book 132 = .ok (.iload_n 1, 1) := by decide +kernel
theorem dX11_book_133 : decode cX11_book 133 = .ok (.iaload, 1) := by decide +kernel
theorem dX11_book_134 : decode cX11_book 134 = .ok (.ireturn, 1) := by decide +kernel
theorem dX11_book_135 : decode cX11_book 135 = .ok (.aload_n 0, 1) := by decide +kernel
theorem dX11_book_136 : decode cX11_book 136 = .ok (.getfield 65, 3) := by decide +kernel
theorem dX11_book_139 : decode cX11_book 139 = .ok (.iload_n 1, 1) := by decide +kernel
theorem dX11_book_140 : decode cX11_book 140 = .ok (.iaload, 1) := by decide +kernel
theorem dX11_book_141 : decode cX11_book 141 = .ok (.ireturn, 1) := by decide +kernel
theorem dX11_book_142 : decode cX11_book 142 = .ok (.aload_n 0, 1) := by decide +kernel
theorem dX11_book_143 : decode cX11_book 143 = .ok (.getfield 35, 3) := by decide +kernel
theorem dX11_book_146 : decode cX11_book 146 = .ok (.iload_n 1, 1) := by decide +kernel
theorem dX11_book_147 : decode cX11_book 147 = .ok (.baload, 1) := by decide +kernel
theorem dX11_book_148 : decode cX11_book 148 = .ok (.ifCond .eq 7, 3) := by decide +kernel
theorem dX11_book_151 : decode cX11_book 151 = .ok (.iconst 1, 1) := by decide +kernel
theorem dX11_book_152 : decode cX11_book 152 = .ok (.goto 4, 3) := by decide +kernel
theorem dX11_book_155 : decode cX11_book 155 = .ok (.iconst 0, 1) := by decide +kernel
theorem dX11_book_156 : decode cX11_book 156 = .ok (.ireturn, 1) := by decide +kernel
theorem dX11_book_157 : decode cX11_book 157 = .ok (.bipush (-3), 2) := by decide +kernel
theorem dX11_book_159 : decode cX11_book 159 = .ok (.ireturn, 1) := by decide +kernel
theorem dX10_rest_0 : decode cX10_rest 0 = .ok (.aload_n 0, 1) := by decide +kernel
theorem dX10_rest_1 : decode cX10_rest 1 = .ok (.getfield 262, 3) := by decide +kernel
theorem dX10_rest_4 : decode cX10_rest 4 = .ok (.ireturn, 1) := by decide +kernel
theorem dX11_rest_0 : decode cX11_rest 0 = .ok (.aload_n 0, 1) := by decide +kernel
theorem dX11_rest_1 : decode cX11_rest 1 = .ok (.getfield 252, 3) := by decide +kernel
theorem dX11_rest_4 : decode cX11_rest 4 = .ok (.ireturn, 1) := by decide +kernel
theorem dX10_unclaimed_0 : decode cX10_unclaimed 0 = .ok (.iconst 0, 1) := by decide +kernel
theorem dX10_unclaimed_1 : decode cX10_unclaimed 1 = .ok (.istore_n 1, 1) := by decide +kernel
theorem dX10_unclaimed_2 : decode cX10_unclaimed 2 = .ok (.iconst 0, 1) := by decide +kernel
theorem dX10_unclaimed_3 : decode cX10_unclaimed 3 = .ok (.istore_n 2, 1) := by decide +kernel
theorem dX10_unclaimed_4 : decode cX10_unclaimed 4 = .ok (.iload_n 2, 1) := by decide +kernel
theorem dX10_unclaimed_5 : decode cX10_unclaimed 5 = .ok (.aload_n 0, 1) := by decide +kernel
theorem dX10_unclaimed_6 : decode cX10_unclaimed 6 = .ok (.getfield 104, 3) := by decide +kernel
theorem dX10_unclaimed_9 : decode cX10_unclaimed 9 = .ok (.if_icmp .ge 33, 3) := by decide +kernel
theorem dX10_unclaimed_12 : decode cX10_unclaimed 12 = .ok (.aload_n 0, 1) := by decide +kernel
theorem dX10_unclaimed_13 : decode cX10_unclaimed 13 = .ok (.getfield 23, 3) := by decide +kernel
theorem dX10_unclaimed_16 : decode cX10_unclaimed 16 = .ok (.iload_n 2, 1) := by decide +kernel
theorem dX10_unclaimed_17 : decode cX10_unclaimed 17 = .ok (.aaload, 1) := by decide +kernel
theorem dX10_unclaimed_18 : decode cX10_unclaimed 18 = .ok (.invokevirtual 202, 3) := by decide +kernel
theorem dX10_unclaimed_21 : decode cX10_unclaimed 21 = .ok (.ifCond .eq 15, 3) := by decide +kernel
theorem dX10_unclaimed_24 : decode cX10_unclaimed 24 = .ok (.iload_n 1, 1) := by decide +kernel
theorem dX10_unclaimed_25 : decode cX10_unclaimed 25 = .ok (.aload_n 0, 1) := by decide +kernel
theorem dX10_unclaimed_26 : decode cX10_unclaimed 26 = .ok (.getfield 23, 3) := by decide +kernel
theorem dX10_unclaimed_29 : decode cX10_unclaimed 29 = .ok (.iload_n 2, 1) := by decide +kernel
theorem dX10_unclaimed_30 : decode cX10_unclaimed 30 = .ok (.aaload, 1) := by decide +kernel
theorem dX10_unclaimed_31 : decode cX10_unclaimed 31 = .ok (.invokevirtual 227, 3) := by decide +kernel
theorem dX10_unclaimed_34 : decode cX10_unclaimed 34 = .ok (.iadd, 1) := by decide +kernel
theorem dX10_unclaimed_35 : decode cX10_unclaimed 35 = .ok (.istore_n 1, 1) := by decide +kernel
theorem dX10_unclaimed_36 : decode cX10_unclaimed 36 = .ok (.iinc 2 1, 3) := by decide +kernel
theorem dX10_unclaimed_39 : decode cX10_unclaimed 39 = .ok (.goto (-35), 3) := by decide +kernel
theorem dX10_unclaimed_42 : decode cX10_unclaimed 42 = .ok (.iload_n 1, 1) := by decide +kernel
theorem dX10_unclaimed_43 : decode cX10_unclaimed 43 = .ok (.ireturn, 1) := by decide +kernel
theorem dX11_unclaimed_0 : decode cX11_unclaimed 0 = .ok (.iconst 0, 1) := by decide +kernel
theorem dX11_unclaimed_1 : decode cX11_unclaimed 1 = .ok (.istore_n 1, 1) := by decide +kernel
theorem dX11_unclaimed_2 : decode cX11_unclaimed 2 = .ok (.iconst 0, 1) := by decide +kernel
theorem dX11_unclaimed_3 : decode cX11_unclaimed 3 = .ok (.istore_n 2, 1) := by decide +kernel
theorem dX11_unclaimed_4 : decode cX11_unclaimed 4 = .ok (.iload_n 2, 1) := by decide +kernel
theorem dX11_unclaimed_5 : decode cX11_unclaimed 5 = .ok (.aload_n 0, 1) := by decide +kernel
theorem dX11_unclaimed_6 : decode cX11_unclaimed 6 = .ok (.getfield 205, 3) := by decide +kernel
theorem dX11_unclaimed_9 : decode cX11_unclaimed 9 = .ok (.if_icmp .ge 29, 3) := by decide +kernel
theorem dX11_unclaimed_12 : decode cX11_unclaimed 12 = .ok (.iload_n 1, 1) := by decide +kernel
theorem dX11_unclaimed_13 : decode cX11_unclaimed 13 = .ok (.aload_n 0, 1) := by decide +kernel
theorem dX11_unclaimed_14 : decode cX11_unclaimed 14 = .ok (.iload_n 2, 1) := by decide +kernel
theorem dX11_unclaimed_15 : decode cX11_unclaimed 15 = .ok (.invokevirtual 297, 3) := by decide +kernel
theorem dX11_unclaimed_18 : decode cX11_unclaimed 18 = .ok (.ifCond .eq 11, 3) := by decide +kernel
theorem dX11_unclaimed_21 : decode cX11_unclaimed 21 = .ok (.aload_n 0, 1) := by decide +kernel
theorem dX11_unclaimed_22 : decode cX11_unclaimed 22 = .ok (.iload_n 2, 1) := by decide +kernel
theorem dX11_unclaimed_23 : decode cX11_unclaimed 23 = .ok (.invokevirtual 294, 3) := by decide +kernel
theorem dX11_unclaimed_26 : decode cX11_unclaimed 26 = .ok (.goto 4, 3) := by decide +kernel
theorem dX11_unclaimed_29 : decode cX11_unclaimed 29 = .ok (.iconst 0, 1) := by decide +kernel
theorem dX11_unclaimed_30 : decode cX11_unclaimed 30 = .ok (.iadd, 1) := by decide +kernel
theorem dX11_unclaimed_31 : decode cX11_unclaimed 31 = .ok (.istore_n 1, 1) := by decide +kernel
theorem dX11_unclaimed_32 : decode cX11_unclaimed 32 = .ok (.iinc 2 1, 3) := by decide +kernel
theorem dX11_unclaimed_35 : decode cX11_unclaimed 35 = .ok (.goto (-31), 3) := by decide +kernel
theorem dX11_unclaimed_38 : decode cX11_unclaimed 38 = .ok (.iload_n 1, 1) := by decide +kernel
theorem dX11_unclaimed_39 : decode cX11_unclaimed 39 = .ok (.ireturn, 1) := by decide +kernel
theorem dX10_dueIf_0 : decode cX10_dueIf 0 = .ok (.aload_n 0, 1) := by decide +kernel
theorem dX10_dueIf_1 : decode cX10_dueIf 1 = .ok (.aload_n 2, 1) := by decide +kernel
theorem dX10_dueIf_2 : decode cX10_dueIf 2 = .ok (.iload_n 3, 1) := by decide +kernel
theorem dX10_dueIf_3 : decode cX10_dueIf 3 = .ok (.iload 4, 2) := by decide +kernel
theorem dX10_dueIf_5 : decode cX10_dueIf 5 = .ok (.iload 5, 2) := by decide +kernel
theorem dX10_dueIf_7 : decode cX10_dueIf 7 = .ok (.invokevirtual 248, 3) := by decide +kernel
theorem dX10_dueIf_10 : decode cX10_dueIf 10 = .ok (.iconst 0, 1) := by decide +kernel
theorem dX10_dueIf_11 : decode cX10_dueIf 11 = .ok (.istore 6, 2) := by decide +kernel
theorem dX10_dueIf_13 : decode cX10_dueIf 13 = .ok (.iconst 0, 1) := by decide +kernel
theorem dX10_dueIf_14 : decode cX10_dueIf 14 = .ok (.istore 7, 2) := by decide +kernel
theorem dX10_dueIf_16 : decode cX10_dueIf 16 = .ok (.iload 7, 2) := by decide +kernel
theorem dX10_dueIf_18 : decode cX10_dueIf 18 = .ok (.iconst 3, 1) := by decide +kernel
theorem dX10_dueIf_19 : decode cX10_dueIf 19 = .ok (.if_icmp .gt 56, 3) := by decide +kernel
theorem dX10_dueIf_22 : decode cX10_dueIf 22 = .ok (.aload_n 0, 1) := by decide +kernel
theorem dX10_dueIf_23 : decode cX10_dueIf 23 = .ok (.getfield 17, 3) := by decide +kernel
theorem dX10_dueIf_26 : decode cX10_dueIf 26 = .ok (.iload_n 1, 1) := by decide +kernel
theorem dX10_dueIf_27 : decode cX10_dueIf 27 = .ok (.iload 7, 2) := by decide +kernel
theorem dX10_dueIf_29 : decode cX10_dueIf 29 = .ok (.invokestatic 84, 3) := by decide +kernel
theorem dX10_dueIf_32 : decode cX10_dueIf 32 = .ok (.aaload, 1) := by decide +kernel
theorem dX10_dueIf_33 : decode cX10_dueIf 33 = .ok (.astore 8, 2) := by decide +kernel
theorem dX10_dueIf_35 : decode cX10_dueIf 35 = .ok (.aload 8, 2) := by decide +kernel
theorem dX10_dueIf_37 : decode cX10_dueIf 37 = .ok (.ifnull 32, 3) := by decide +kernel
theorem dX10_dueIf_40 : decode cX10_dueIf 40 = .ok (.aload_n 0, 1) := by decide +kernel
theorem dX10_dueIf_41 : decode cX10_dueIf 41 = .ok (.getfield 56, 3) := by decide +kernel
theorem dX10_dueIf_44 : decode cX10_dueIf 44 = .ok (.aload 8, 2) := by decide +kernel
theorem dX10_dueIf_46 : decode cX10_dueIf 46 = .ok (.aload_n 0, 1) := by decide +kernel
theorem dX10_dueIf_47 : decode cX10_dueIf 47 = .ok (.getfield 49, 3) := by decide +kernel
theorem dX10_dueIf_50 : decode cX10_dueIf 50 = .ok (.aload_n 0, 1) := by decide +kernel
theorem dX10_dueIf_51 : decode cX10_dueIf 51 = .ok (.getfield 49, 3) := by decide +kernel
theorem dX10_dueIf_54 : decode cX10_dueIf 54 = .ok (.invokevirtual 252, 3) := by decide +kernel
theorem dX10_dueIf_57 : decode cX10_dueIf 57 = .ok (.iload 6, 2) := by decide +kernel
theorem dX10_dueIf_59 : decode cX10_dueIf 59 = .ok (.aload_n 0, 1) := by decide +kernel
theorem dX10_dueIf_60 : decode cX10_dueIf 60 = .ok (.getfield 56, 3) := by decide +kernel
theorem dX10_dueIf_63 : decode cX10_dueIf 63 = .ok (.getfield 439, 3) := by decide +kernel
theorem dX10_dueIf_66 : decode cX10_dueIf 66 = .ok (.iadd, 1) := by decide +kernel
theorem dX10_dueIf_67 : decode cX10_dueIf 67 = .ok (.istore 6, 2) := by decide +kernel
theorem dX10_dueIf_69 : decode cX10_dueIf 69 = .ok (.iinc 7 1, 3) := by decide +kernel
theorem dX10_dueIf_72 : decode cX10_dueIf 72 = .ok (.goto (-56), 3) := by decide +kernel
theorem dX10_dueIf_75 : decode cX10_dueIf 75 = .ok (.iload 6, 2) := by decide +kernel
theorem dX10_dueIf_77 : decode cX10_dueIf 77 = .ok (.ireturn, 1) := by decide +kernel
theorem dX10_worst_0 : decode cX10_worst 0 = .ok (.aload_n 0, 1) := by decide +kernel
theorem dX10_worst_1 : decode cX10_worst 1 = .ok (.iload_n 1, 1) := by decide +kernel
theorem dX10_worst_2 : decode cX10_worst 2 = .ok (.invokevirtual 76, 3) := by decide +kernel
theorem dX10_worst_5 : decode cX10_worst 5 = .ok (.astore_n 2, 1) := by decide +kernel
theorem dX10_worst_6 : decode cX10_worst 6 = .ok (.aload_n 2, 1) := by decide +kernel
theorem dX10_worst_7 : decode cX10_worst 7 = .ok (.ifnonnull 6, 3) := by decide +kernel
theorem dX10_worst_10 : decode cX10_worst 10 = .ok (.bipush (-2), 2) := by decide +kernel
theorem dX10_worst_12 : decode cX10_worst 12 = .ok (.ireturn, 1) := by decide +kernel
theorem dX10_worst_13 : decode cX10_worst 13 = .ok (.aload_n 2, 1) := by decide +kernel
theorem dX10_worst_14 : decode cX10_worst 14 = .ok (.getfield 88, 3) := by decide +kernel
theorem dX10_worst_17 : decode cX10_worst 17 = .ok (.iconst 2, 1) := by decide +kernel
theorem dX10_worst_18 : decode cX10_worst 18 = .ok (.if_icmp .ne 6, 3) := by decide +kernel
theorem dX10_worst_21 : decode cX10_worst 21 = .ok (.bipush (-6), 2) := by decide +kernel
theorem dX10_worst_23 : decode cX10_worst 23 = .ok (.ireturn, 1) := by decide +kernel
theorem dX10_worst_24 : decode cX10_worst 24 = .ok (.aload_n 2, 1) := by decide +kernel
theorem dX10_worst_25 : decode cX10_worst 25 = .ok (.getfield 116, 3) := by decide +kernel
theorem dX10_worst_28 : decode cX10_worst 28 = .ok (.iconst 2, 1) := by decide +kernel
theorem dX10_worst_29 : decode cX10_worst 29 = .ok (.if_icmp .ge 6, 3) := by decide +kernel
theorem dX10_worst_32 : decode cX10_worst 32 = .ok (.bipush (-5), 2) := by decide +kernel
theorem dX10_worst_34 : decode cX10_worst 34 = .ok (.ireturn, 1) := by decide +kernel
theorem dX10_worst_35 : decode cX10_worst 35 = .ok (.aload_n 2, 1) := by decide +kernel
theorem dX10_worst_36 : decode cX10_worst 36 = .ok (.getfield 116, 3) := by decide +kernel
theorem dX10_worst_39 : decode cX10_worst 39 = .ok (.iconst 2, 1) := by decide +kernel
theorem dX10_worst_40 : decode cX10_worst 40 = .ok (.if_icmp .le 10, 3) := by decide +kernel
theorem dX10_worst_43 : decode cX10_worst 43 = .ok (.aload_n 2, 1) := by decide +kernel
theorem dX10_worst_44 : decode cX10_worst 44 = .ok (.getfield 144, 3) := by decide +kernel
theorem dX10_worst_47 : decode cX10_worst 47 = .ok (.goto 4, 3) := by decide +kernel
theorem dX10_worst_50 : decode cX10_worst 50 = .ok (.iconst 0, 1) := by decide +kernel
theorem dX10_worst_51 : decode cX10_worst 51 = .ok (.istore_n 3, 1) := by decide +kernel
theorem dX10_worst_52 : decode cX10_worst 52 = .ok (.iconst (-1), 1) := by decide +kernel
theorem dX10_worst_53 : decode cX10_worst 53 = .ok (.istore 4, 2) := by decide +kernel
theorem dX10_worst_55 : decode cX10_worst 55 = .ok (.iconst 1, 1) := by decide +kernel
theorem dX10_worst_56 : decode cX10_worst 56 = .ok (.istore 5, 2) := by decide +kernel
theorem dX10_worst_58 : decode cX10_worst 58 = .ok (.iload 5, 2) := by decide +kernel
theorem dX10_worst_60 : decode cX10_worst 60 = .ok (.aload_n 2, 1) := by decide +kernel
theorem dX10_worst_61 : decode cX10_worst 61 = .ok (.getfield 144, 3) := by decide +kernel
theorem dX10_worst_64 : decode cX10_worst 64 = .ok (.if_icmp .gt 111, 3) := by decide +kernel
theorem dX10_worst_67 : decode cX10_worst 67 = .ok (.iconst 1, 1) := by decide +kernel
theorem dX10_worst_68 : decode cX10_worst 68 = .ok (.istore 6, 2) := by decide +kernel
theorem dX10_worst_70 : decode cX10_worst 70 = .ok (.iload 6, 2) := by decide +kernel
theorem dX10_worst_72 : decode cX10_worst 72 = .ok (.aload_n 2, 1) := by decide +kernel
theorem dX10_worst_73 : decode cX10_worst 73 = .ok (.getfield 144, 3) := by decide +kernel
theorem dX10_worst_76 : decode cX10_worst 76 = .ok (.if_icmp .gt 93, 3) := by decide +kernel
theorem dX10_worst_79 : decode cX10_worst 79 = .ok (.iconst 1, 1) := by decide +kernel
theorem dX10_worst_80 : decode cX10_worst 80 = .ok (.iload_n 3, 1) := by decide +kernel
theorem dX10_worst_81 : decode cX10_worst 81 = .ok (.invokestatic 135, 3) := by decide +kernel
theorem dX10_worst_84 : decode cX10_worst 84 = .ok (.istore 7, 2) := by decide +kernel
theorem dX10_worst_86 : decode cX10_worst 86 = .ok (.iload 7, 2) := by decide +kernel
theorem dX10_worst_88 : decode cX10_worst 88 = .ok (.iload_n 3, 1) := by decide +kernel
theorem dX10_worst_89 : decode cX10_worst 89 = .ok (.if_icmp .gt 74, 3) := by decide +kernel
theorem dX10_worst_92 : decode cX10_worst 92 = .ok (.aload_n 2, 1) := by decide +kernel
theorem dX10_worst_93 : decode cX10_worst 93 = .ok (.iload 5, 2) := by decide +kernel
theorem dX10_worst_95 : decode cX10_worst 95 = .ok (.iload 6, 2) := by decide +kernel
theorem dX10_worst_97 : decode cX10_worst 97 = .ok (.iload 7, 2) := by decide +kernel
theorem dX10_worst_99 : decode cX10_worst 99 = .ok (.invokevirtual 245, 3) := by decide +kernel
theorem dX10_worst_102 : decode cX10_worst 102 = .ok (.ifCond .eq 55, 3) := by decide +kernel
theorem dX10_worst_105 : decode cX10_worst 105 = .ok (.aload_n 0, 1) := by decide +kernel
theorem dX10_worst_106 : decode cX10_worst 106 = .ok (.iload_n 1, 1) := by decide +kernel
theorem dX10_worst_107 : decode cX10_worst 107 = .ok (.aload_n 2, 1) := by decide +kernel
theorem dX10_worst_108 : decode cX10_worst 108 = .ok (.iload 5, 2) := by decide +kernel
theorem dX10_worst_110 : decode cX10_worst 110 = .ok (.iload 6, 2) := by decide +kernel
theorem dX10_worst_112 : decode cX10_worst 112 = .ok (.iload 7, 2) := by decide +kernel
theorem dX10_worst_114 : decode cX10_worst 114 = .ok (.invokevirtual 265, 3) := by decide +kernel
theorem dX10_worst_117 : decode cX10_worst 117 = .ok (.istore 8, 2) := by decide +kernel
theorem dX10_worst_119 : decode cX10_worst 119 = .ok (.iload 4, 2) := by decide +kernel
theorem dX10_worst_121 : decode cX10_worst 121 = .ok (.iconst (-1), 1) := by decide +kernel
theorem dX10_worst_122 : decode cX10_worst 122 = .ok (.if_icmp .eq 12, 3) := by decide +kernel
theorem dX10_worst_125 : decode cX10_worst 125 = .ok (.iload 8, 2) := by decide +kernel
theorem dX10_worst_127 : decode cX10_worst 127 = .ok (.aload_n 0, 1) := by decide +kernel
theorem dX10_worst_128 : decode cX10_worst 128 = .ok (.getfield 269, 3) := by decide +kernel
theorem dX10_worst_131 : decode cX10_worst 131 = .ok (.if_icmp .le 26, 3) := by decide +kernel
theorem dX10_worst_134 : decode cX10_worst 134 = .ok (.aload_n 0, 1) := by decide +kernel
theorem dX10_worst_135 : decode cX10_worst 135 = .ok (.iload 8, 2) := by decide +kernel
theorem dX10_worst_137 : decode cX10_worst 137 = .ok (.putfield 269, 3) := by decide +kernel
theorem dX10_worst_140 : decode cX10_worst 140 = .ok (.sipush 10000, 3) := by decide +kernel
theorem dX10_worst_143 : decode cX10_worst 143 = .ok (.iload 5, 2) := by decide +kernel
theorem dX10_worst_145 : decode cX10_worst 145 = .ok (.imul, 1) := by decide +kernel
theorem dX10_worst_146 : decode cX10_worst 146 = .ok (.bipush 100, 2) := by decide +kernel
theorem dX10_worst_148 : decode cX10_worst 148 = .ok (.iload 6, 2) := by decide +kernel
theorem dX10_worst_150 : decode cX10_worst 150 = .ok (.imul, 1) := by decide +kernel
theorem dX10_worst_151 : decode cX10_worst 151 = .ok (.iadd, 1) := by decide +kernel
theorem dX10_worst_152 : decode cX10_worst 152 = .ok (.iload 7, 2) := by decide +kernel
theorem dX10_worst_154 : decode cX10_worst 154 = .ok (.iadd, 1) := by decide +kernel
theorem dX10_worst_155 : decode cX10_worst 155 = .ok (.istore 4, 2) := by decide +kernel
theorem dX10_worst_157 : decode cX10_worst 157 = .ok (.iinc 7 1, 3) := by decide +kernel
theorem dX10_worst_160 : decode cX10_worst 160 = .ok (.goto (-74), 3) := by decide +kernel
theorem dX10_worst_163 : decode cX10_worst 163 = .ok (.iinc 6 1, 3) := by decide +kernel
theorem dX10_worst_166 : decode cX10_worst 166 = .ok (.goto (-96), 3) := by decide +kernel
theorem dX10_worst_169 : decode cX10_worst 169 = .ok (.iinc 5 1, 3) := by decide +kernel
theorem dX10_worst_172 : decode cX10_worst 172 = .ok (.goto (-114), 3) := by decide +kernel
theorem dX10_worst_175 : decode cX10_worst 175 = .ok (.iload 4, 2) := by decide +kernel
theorem dX10_worst_177 : decode cX10_worst 177 = .ok (.ireturn, 1) := by decide +kernel
theorem dX11_dueNow_0 : decode cX11_dueNow 0 = .ok (.iconst 0, 1) := by decide +kernel
theorem dX11_dueNow_1 : decode cX11_dueNow 1 = .ok (.istore_n 2, 1) := by decide +kernel
theorem dX11_dueNow_2 : decode cX11_dueNow 2 = .ok (.iconst 0, 1) := by decide +kernel
theorem dX11_dueNow_3 : decode cX11_dueNow 3 = .ok (.istore_n 3, 1) := by decide +kernel
theorem dX11_dueNow_4 : decode cX11_dueNow 4 = .ok (.iload_n 3, 1) := by decide +kernel
theorem dX11_dueNow_5 : decode cX11_dueNow 5 = .ok (.iconst 4, 1) := by decide +kernel
theorem dX11_dueNow_6 : decode cX11_dueNow 6 = .ok (.if_icmp .ge 52, 3) := by decide +kernel
theorem dX11_dueNow_9 : decode cX11_dueNow 9 = .ok (.aload_n 0, 1) := by decide +kernel
theorem dX11_dueNow_10 : decode cX11_dueNow 10 = .ok (.getfield 26, 3) := by decide +kernel
theorem dX11_dueNow_13 : decode cX11_dueNow 13 = .ok (.iconst 4, 1) := by decide +kernel
theorem dX11_dueNow_14 : decode cX11_dueNow 14 = .ok (.iload_n 1, 1) := by decide +kernel
theorem dX11_dueNow_15 : decode cX11_dueNow 15 = .ok (.imul, 1) := by decide +kernel
theorem dX11_dueNow_16 : decode cX11_dueNow 16 = .ok (.iload_n 3, 1) := by decide +kernel
theorem dX11_dueNow_17 : decode cX11_dueNow 17 = .ok (.iadd, 1) := by decide +kernel
theorem dX11_dueNow_18 : decode cX11_dueNow 18 = .ok (.baload, 1) := by decide +kernel
theorem dX11_dueNow_19 : decode cX11_dueNow 19 = .ok (.ifCond .eq 33, 3) := by decide +kernel
theorem dX11_dueNow_22 : decode cX11_dueNow 22 = .ok (.aload_n 0, 1) := by decide +kernel
theorem dX11_dueNow_23 : decode cX11_dueNow 23 = .ok (.iconst 4, 1) := by decide +kernel
theorem dX11_dueNow_24 : decode cX11_dueNow 24 = .ok (.iload_n 1, 1) := by decide +kernel
theorem dX11_dueNow_25 : decode cX11_dueNow 25 = .ok (.imul, 1) := by decide +kernel
theorem dX11_dueNow_26 : decode cX11_dueNow 26 = .ok (.iload_n 3, 1) := by decide +kernel
theorem dX11_dueNow_27 : decode cX11_dueNow 27 = .ok (.iadd, 1) := by decide +kernel
theorem dX11_dueNow_28 : decode cX11_dueNow 28 = .ok (.aload_n 0, 1) := by decide +kernel
theorem dX11_dueNow_29 : decode cX11_dueNow 29 = .ok (.getfield 116, 3) := by decide +kernel
theorem dX11_dueNow_32 : decode cX11_dueNow 32 = .ok (.iload_n 3, 1) := by decide +kernel
theorem dX11_dueNow_33 : decode cX11_dueNow 33 = .ok (.iaload, 1) := by decide +kernel
theorem dX11_dueNow_34 : decode cX11_dueNow 34 = .ok (.aload_n 0, 1) := by decide +kernel
theorem dX11_dueNow_35 : decode cX11_dueNow 35 = .ok (.getfield 116, 3) := by decide +kernel
theorem dX11_dueNow_38 : decode cX11_dueNow 38 = .ok (.iload_n 3, 1) := by decide +kernel
theorem dX11_dueNow_39 : decode cX11_dueNow 39 = .ok (.iconst 1, 1) := by decide +kernel
theorem dX11_dueNow_40 : decode cX11_dueNow 40 = .ok (.iadd, 1) := by decide +kernel
theorem dX11_dueNow_41 : decode cX11_dueNow 41 = .ok (.iaload, 1) := by decide +kernel
theorem dX11_dueNow_42 : decode cX11_dueNow 42 = .ok (.invokevirtual 258, 3) := by decide +kernel
theorem dX11_dueNow_45 : decode cX11_dueNow 45 = .ok (.iload_n 2, 1) := by decide +kernel
theorem dX11_dueNow_46 : decode cX11_dueNow 46 = .ok (.aload_n 0, 1) := by decide +kernel
theorem dX11_dueNow_47 : decode cX11_dueNow 47 = .ok (.getfield 246, 3) := by decide +kernel
theorem dX11_dueNow_50 : decode cX11_dueNow 50 = .ok (.iadd, 1) := by decide +kernel
theorem dX11_dueNow_51 : decode cX11_dueNow 51 = .ok (.istore_n 2, 1) := by decide +kernel
theorem dX11_dueNow_52 : decode cX11_dueNow 52 = .ok (.iinc 3 1, 3) := by decide +kernel
theorem dX11_dueNow_55 : decode cX11_dueNow 55 = .ok (.goto (-51), 3) := by decide +kernel
theorem dX11_dueNow_58 : decode cX11_dueNow 58 = .ok (.iload_n 2, 1) := by decide +kernel
theorem dX11_dueNow_59 : decode cX11_dueNow 59 = .ok (.ireturn, 1) := by decide +kernel
theorem dX11_worst_0 : decode cX11_worst 0 = .ok (.aload_n 0, 1) := by decide +kernel
theorem dX11_worst_1 : decode cX11_worst 1 = .ok (.iload_n 1, 1) := by decide +kernel
theorem dX11_worst_2 : decode cX11_worst 2 = .ok (.invokevirtual 179, 3) := by decide +kernel
theorem dX11_worst_5 : decode cX11_worst 5 = .ok (.ifCond .ne 6, 3) := by decide +kernel
theorem dX11_worst_8 : decode cX11_worst 8 = .ok (.bipush (-2), 2) := by decide +kernel
theorem dX11_worst_10 : decode cX11_worst 10 = .ok (.ireturn, 1) := by decide +kernel
theorem dX11_worst_11 : decode cX11_worst 11 = .ok (.aload_n 0, 1) := by decide +kernel
theorem dX11_worst_12 : decode cX11_worst 12 = .ok (.getfield 7, 3) := by decide +kernel
theorem dX11_worst_15 : decode cX11_worst 15 = .ok (.iload_n 1, 1) := by decide +kernel
theorem dX11_worst_16 : decode cX11_worst 16 = .ok (.iaload, 1) := by decide +kernel
theorem dX11_worst_17 : decode cX11_worst 17 = .ok (.iconst 2, 1) := by decide +kernel
theorem dX11_worst_18 : decode cX11_worst 18 = .ok (.if_icmp .ne 6, 3) := by decide +kernel
theorem dX11_worst_21 : decode cX11_worst 21 = .ok (.bipush (-6), 2) := by decide +kernel
theorem dX11_worst_23 : decode cX11_worst 23 = .ok (.ireturn, 1) := by decide +kernel
theorem dX11_worst_24 : decode cX11_worst 24 = .ok (.aload_n 0, 1) := by decide +kernel
theorem dX11_worst_25 : decode cX11_worst 25 = .ok (.iload_n 1, 1) := by decide +kernel
theorem dX11_worst_26 : decode cX11_worst 26 = .ok (.invokevirtual 212, 3) := by decide +kernel
theorem dX11_worst_29 : decode cX11_worst 29 = .ok (.istore_n 2, 1) := by decide +kernel
theorem dX11_worst_30 : decode cX11_worst 30 = .ok (.iload_n 2, 1) := by decide +kernel
theorem dX11_worst_31 : decode cX11_worst 31 = .ok (.iconst 2, 1) := by decide +kernel
theorem dX11_worst_32 : decode cX11_worst 32 = .ok (.if_icmp .ge 6, 3) := by decide +kernel
theorem dX11_worst_35 : decode cX11_worst 35 = .ok (.bipush (-5), 2) := by decide +kernel
theorem dX11_worst_37 : decode cX11_worst 37 = .ok (.ireturn, 1) := by decide +kernel
theorem dX11_worst_38 : decode cX11_worst 38 = .ok (.aload_n 0, 1) := by decide +kernel
theorem dX11_worst_39 : decode cX11_worst 39 = .ok (.iconst 0, 1) := by decide +kernel
theorem dX11_worst_40 : decode cX11_worst 40 = .ok (.putfield 215, 3) := by decide +kernel
theorem dX11_worst_43 : decode cX11_worst 43 = .ok (.iconst 0, 1) := by decide +kernel
theorem dX11_worst_44 : decode cX11_worst 44 = .ok (.istore_n 3, 1) := by decide +kernel
theorem dX11_worst_45 : decode cX11_worst 45 = .ok (.iload_n 3, 1) := by decide +kernel
theorem dX11_worst_46 : decode cX11_worst 46 = .ok (.iconst 4, 1) := by decide +kernel
theorem dX11_worst_47 : decode cX11_worst 47 = .ok (.if_icmp .ge 41, 3) := by decide +kernel
theorem dX11_worst_50 : decode cX11_worst 50 = .ok (.aload_n 0, 1) := by decide +kernel
theorem dX11_worst_51 : decode cX11_worst 51 = .ok (.getfield 116, 3) := by decide +kernel
theorem dX11_worst_54 : decode cX11_worst 54 = .ok (.iload_n 3, 1) := by decide +kernel
theorem dX11_worst_55 : decode cX11_worst 55 = .ok (.aload_n 0, 1) := by decide +kernel
theorem dX11_worst_56 : decode cX11_worst 56 = .ok (.getfield 215, 3) := by decide +kernel
theorem dX11_worst_59 : decode cX11_worst 59 = .ok (.iastore, 1) := by decide +kernel
theorem dX11_worst_60 : decode cX11_worst 60 = .ok (.aload_n 0, 1) := by decide +kernel
theorem dX11_worst_61 : decode cX11_worst 61 = .ok (.getfield 26, 3) := by decide +kernel
theorem dX11_worst_64 : decode cX11_worst 64 = .ok (.iconst 4, 1) := by decide +kernel
theorem dX11_worst_65 : decode cX11_worst 65 = .ok (.iload_n 1, 1) := by decide +kernel
theorem dX11_worst_66 : decode cX11_worst 66 = .ok (.imul, 1) := by decide +kernel
theorem dX11_worst_67 : decode cX11_worst 67 = .ok (.iload_n 3, 1) := by decide +kernel
theorem dX11_worst_68 : decode cX11_worst 68 = .ok (.iadd, 1) := by decide +kernel
theorem dX11_worst_69 : decode cX11_worst 69 = .ok (.baload, 1) := by decide +kernel
theorem dX11_worst_70 : decode cX11_worst 70 = .ok (.ifCond .eq 12, 3) := by decide +kernel
theorem dX11_worst_73 : decode cX11_worst 73 = .ok (.aload_n 0, 1) := by decide +kernel
theorem dX11_worst_74 : decode cX11_worst 74 = .ok (.iconst 4, 1) := by decide +kernel
theorem dX11_worst_75 : decode cX11_worst 75 = .ok (.iload_n 1, 1) := by decide +kernel
theorem dX11_worst_76 : decode cX11_worst 76 = .ok (.imul, 1) := by decide +kernel
theorem dX11_worst_77 : decode cX11_worst 77 = .ok (.iload_n 3, 1) := by decide +kernel
theorem dX11_worst_78 : decode cX11_worst 78 = .ok (.iadd, 1) := by decide +kernel
theorem dX11_worst_79 : decode cX11_worst 79 = .ok (.invokevirtual 255, 3) := by decide +kernel
theorem dX11_worst_82 : decode cX11_worst 82 = .ok (.iinc 3 1, 3) := by decide +kernel
theorem dX11_worst_85 : decode cX11_worst 85 = .ok (.goto (-40), 3) := by decide +kernel
theorem dX11_worst_88 : decode cX11_worst 88 = .ok (.aload_n 0, 1) := by decide +kernel
theorem dX11_worst_89 : decode cX11_worst 89 = .ok (.getfield 116, 3) := by decide +kernel
theorem dX11_worst_92 : decode cX11_worst 92 = .ok (.iconst 4, 1) := by decide +kernel
theorem dX11_worst_93 : decode cX11_worst 93 = .ok (.aload_n 0, 1) := by decide +kernel
theorem dX11_worst_94 : decode cX11_worst 94 = .ok (.getfield 215, 3) := by decide +kernel
theorem dX11_worst_97 : decode cX11_worst 97 = .ok (.iastore, 1) := by decide +kernel
theorem dX11_worst_98 : decode cX11_worst 98 = .ok (.aload_n 0, 1) := by decide +kernel
theorem dX11_worst_99 : decode cX11_worst 99 = .ok (.getfield 13, 3) := by decide +kernel
theorem dX11_worst_102 : decode cX11_worst 102 = .ok (.iload_n 1, 1) := by decide +kernel
theorem dX11_worst_103 : decode cX11_worst 103 = .ok (.iaload, 1) := by decide +kernel
theorem dX11_worst_104 : decode cX11_worst 104 = .ok (.istore_n 3, 1) := by decide +kernel
theorem dX11_worst_105 : decode cX11_worst 105 = .ok (.iconst (-1), 1) := by decide +kernel
theorem dX11_worst_106 : decode cX11_worst 106 = .ok (.istore 4, 2) := by decide +kernel
theorem dX11_worst_108 : decode cX11_worst 108 = .ok (.aload_n 0, 1) := by decide +kernel
theorem dX11_worst_109 : decode cX11_worst 109 = .ok (.iconst 0, 1) := by decide +kernel
theorem dX11_worst_110 : decode cX11_worst 110 = .ok (.putfield 310, 3) := by decide +kernel
theorem dX11_worst_113 : decode cX11_worst 113 = .ok (.iconst 1, 1) := by decide +kernel
theorem dX11_worst_114 : decode cX11_worst 114 = .ok (.istore 5, 2) := by decide +kernel
theorem dX11_worst_116 : decode cX11_worst 116 = .ok (.iload 5, 2) := by decide +kernel
theorem dX11_worst_118 : decode cX11_worst 118 = .ok (.iload_n 3, 1) := by decide +kernel
theorem dX11_worst_119 : decode cX11_worst 119 = .ok (.if_icmp .gt 175, 3) := by decide +kernel
theorem dX11_worst_122 : decode cX11_worst 122 = .ok (.iconst 1, 1) := by decide +kernel
theorem dX11_worst_123 : decode cX11_worst 123 = .ok (.istore 6, 2) := by decide +kernel
theorem dX11_worst_125 : decode cX11_worst 125 = .ok (.iload 6, 2) := by decide +kernel
theorem dX11_worst_127 : decode cX11_worst 127 = .ok (.iload_n 3, 1) := by decide +kernel
theorem dX11_worst_128 : decode cX11_worst 128 = .ok (.if_icmp .gt 160, 3) := by decide +kernel
theorem dX11_worst_131 : decode cX11_worst 131 = .ok (.iload_n 2, 1) := by decide +kernel
theorem dX11_worst_132 : decode cX11_worst 132 = .ok (.iconst 2, 1) := by decide +kernel
theorem dX11_worst_133 : decode cX11_worst 133 = .ok (.if_icmp .ne 7, 3) := by decide +kernel
theorem dX11_worst_136 : decode cX11_worst 136 = .ok (.iconst 0, 1) := by decide +kernel
theorem dX11_worst_137 : decode cX11_worst 137 = .ok (.goto 4, 3) := by decide +kernel
theorem dX11_worst_140 : decode cX11_worst 140 = .ok (.iconst 1, 1) := by decide +kernel
theorem dX11_worst_141 : decode cX11_worst 141 = .ok (.istore 7, 2) := by decide +kernel
theorem dX11_worst_143 : decode cX11_worst 143 = .ok (.iload 7, 2) := by decide +kernel
theorem dX11_worst_145 : decode cX11_worst 145 = .ok (.iload_n 2, 1) := by decide +kernel
theorem dX11_worst_146 : decode cX11_worst 146 = .ok (.iconst 2, 1) := by decide +kernel
theorem dX11_worst_147 : decode cX11_worst 147 = .ok (.if_icmp .ne 7, 3) := by decide +kernel
theorem dX11_worst_150 : decode cX11_worst 150 = .ok (.iconst 0, 1) := by decide +kernel
theorem dX11_worst_151 : decode cX11_worst 151 = .ok (.goto 4, 3) := by decide +kernel
theorem dX11_worst_154 : decode cX11_worst 154 = .ok (.iload_n 3, 1) := by decide +kernel
theorem dX11_worst_155 : decode cX11_worst 155 = .ok (.if_icmp .gt 127, 3) := by decide +kernel
theorem dX11_worst_158 : decode cX11_worst 158 = .ok (.iload 5, 2) := by decide +kernel
theorem dX11_worst_160 : decode cX11_worst 160 = .ok (.iload 6, 2) := by decide +kernel
theorem dX11_worst_162 : decode cX11_worst 162 = .ok (.if_icmp .eq 51, 3) := by decide +kernel
theorem dX11_worst_165 : decode cX11_worst 165 = .ok (.iload 5, 2) := by decide +kernel
theorem dX11_worst_167 : decode cX11_worst 167 = .ok (.iload 7, 2) := by decide +kernel
theorem dX11_worst_169 : decode cX11_worst 169 = .ok (.if_icmp .eq 44, 3) := by decide +kernel
theorem dX11_worst_172 : decode cX11_worst 172 = .ok (.iload 6, 2) := by decide +kernel
theorem dX11_worst_174 : decode cX11_worst 174 = .ok (.iload 7, 2) := by decide +kernel
theorem dX11_worst_176 : decode cX11_worst 176 = .ok (.if_icmp .eq 37, 3) := by decide +kernel
theorem dX11_worst_179 : decode cX11_worst 179 = .ok (.aload_n 0, 1) := by decide +kernel
theorem dX11_worst_180 : decode cX11_worst 180 = .ok (.iload_n 1, 1) := by decide +kernel
theorem dX11_worst_181 : decode cX11_worst 181 = .ok (.iload 5, 2) := by decide +kernel
theorem dX11_worst_183 : decode cX11_worst 183 = .ok (.invokevirtual 288, 3) := by decide +kernel
theorem dX11_worst_186 : decode cX11_worst 186 = .ok (.ifCond .ne 27, 3) := by decide +kernel
theorem dX11_worst_189 : decode cX11_worst 189 = .ok (.aload_n 0, 1) := by decide +kernel
theorem dX11_worst_190 : decode cX11_worst 190 = .ok (.iload_n 1, 1) := by decide +kernel
theorem dX11_worst_191 : decode cX11_worst 191 = .ok (.iload 6, 2) := by decide +kernel
theorem dX11_worst_193 : decode cX11_worst 193 = .ok (.invokevirtual 288, 3) := by decide +kernel
theorem dX11_worst_196 : decode cX11_worst 196 = .ok (.ifCond .ne 17, 3) := by decide +kernel
theorem dX11_worst_199 : decode cX11_worst 199 = .ok (.aload_n 0, 1) := by decide +kernel
theorem dX11_worst_200 : decode cX11_worst 200 = .ok (.iload_n 1, 1) := by decide +kernel
theorem dX11_worst_201 : decode cX11_worst 201 = .ok (.iload 7, 2) := by decide +kernel
theorem dX11_worst_203 : decode cX11_worst 203 = .ok (.invokevirtual 288, 3) := by decide +kernel
theorem dX11_worst_206 : decode cX11_worst 206 = .ok (.ifCond .ne 7, 3) := by decide +kernel
theorem dX11_worst_209 : decode cX11_worst 209 = .ok (.iconst 1, 1) := by decide +kernel
theorem dX11_worst_210 : decode cX11_worst 210 = .ok (.goto 4, 3) := by decide +kernel
theorem dX11_worst_213 : decode cX11_worst 213 = .ok (.iconst 0, 1) := by decide +kernel
theorem dX11_worst_214 : decode cX11_worst 214 = .ok (.istore 8, 2) := by decide +kernel
theorem dX11_worst_216 : decode cX11_worst 216 = .ok (.iload 8, 2) := by decide +kernel
theorem dX11_worst_218 : decode cX11_worst 218 = .ok (.ifCond .eq 58, 3) := by decide +kernel
theorem dX11_worst_221 : decode cX11_worst 221 = .ok (.aload_n 0, 1) := by decide +kernel
theorem dX11_worst_222 : decode cX11_worst 222 = .ok (.iload 5, 2) := by decide +kernel
theorem dX11_worst_224 : decode cX11_worst 224 = .ok (.iload 6, 2) := by decide +kernel
theorem dX11_worst_226 : decode cX11_worst 226 = .ok (.iload 7, 2) := by decide +kernel
theorem dX11_worst_228 : decode cX11_worst 228 = .ok (.invokevirtual 307, 3) := by decide +kernel
theorem dX11_worst_231 : decode cX11_worst 231 = .ok (.aload_n 0, 1) := by decide +kernel
theorem dX11_worst_232 : decode cX11_worst 232 = .ok (.iload_n 1, 1) := by decide +kernel
theorem dX11_worst_233 : decode cX11_worst 233 = .ok (.invokevirtual 313, 3) := by decide +kernel
theorem dX11_worst_236 : decode cX11_worst 236 = .ok (.istore 9, 2) := by decide +kernel
theorem dX11_worst_238 : decode cX11_worst 238 = .ok (.iload 4, 2) := by decide +kernel
theorem dX11_worst_240 : decode cX11_worst 240 = .ok (.iconst (-1), 1) := by decide +kernel
theorem dX11_worst_241 : decode cX11_worst 241 = .ok (.if_icmp .eq 12, 3) := by decide +kernel
theorem dX11_worst_244 : decode cX11_worst 244 = .ok (.iload 9, 2) := by decide +kernel
theorem dX11_worst_246 : decode cX11_worst 246 = .ok (.aload_n 0, 1) := by decide +kernel
theorem dX11_worst_247 : decode cX11_worst 247 = .ok (.getfield 310, 3) := by decide +kernel
theorem dX11_worst_250 : decode cX11_worst 250 = .ok (.if_icmp .le 26, 3) := by decide +kernel
theorem dX11_worst_253 : decode cX11_worst 253 = .ok (.sipush 10000, 3) := by decide +kernel
theorem dX11_worst_256 : decode cX11_worst 256 = .ok (.iload 5, 2) := by decide +kernel
theorem dX11_worst_258 : decode cX11_worst 258 = .ok (.imul, 1) := by decide +kernel
theorem dX11_worst_259 : decode cX11_worst 259 = .ok (.bipush 100, 2) := by decide +kernel
theorem dX11_worst_261 : decode cX11_worst 261 = .ok (.iload 6, 2) := by decide +kernel
theorem dX11_worst_263 : decode cX11_worst 263 = .ok (.imul, 1) := by decide +kernel
theorem dX11_worst_264 : decode cX11_worst 264 = .ok (.iadd, 1) := by decide +kernel
theorem dX11_worst_265 : decode cX11_worst 265 = .ok (.iload 7, 2) := by decide +kernel
theorem dX11_worst_267 : decode cX11_worst 267 = .ok (.iadd, 1) := by decide +kernel
theorem dX11_worst_268 : decode cX11_worst 268 = .ok (.istore 4, 2) := by decide +kernel
theorem dX11_worst_270 : decode cX11_worst 270 = .ok (.aload_n 0, 1) := by decide +kernel
theorem dX11_worst_271 : decode cX11_worst 271 = .ok (.iload 9, 2) := by decide +kernel
theorem dX11_worst_273 : decode cX11_worst 273 = .ok (.putfield 310, 3) := by decide +kernel
theorem dX11_worst_276 : decode cX11_worst 276 = .ok (.iinc 7 1, 3) := by decide +kernel
theorem dX11_worst_279 : decode cX11_worst 279 = .ok (.goto (-136), 3) := by decide +kernel
theorem dX11_worst_282 : decode cX11_worst 282 = .ok (.iinc 6 1, 3) := by decide +kernel
theorem dX11_worst_285 : decode cX11_worst 285 = .ok (.goto (-160), 3) := by decide +kernel
theorem dX11_worst_288 : decode cX11_worst 288 = .ok (.iinc 5 1, 3) := by decide +kernel
theorem dX11_worst_291 : decode cX11_worst 291 = .ok (.goto (-175), 3) := by decide +kernel
theorem dX11_worst_294 : decode cX11_worst 294 = .ok (.iload 4, 2) := by decide +kernel
theorem dX11_worst_296 : decode cX11_worst 296 = .ok (.ireturn, 1) := by decide +kernel
theorem dX10_worstDue_0 : decode cX10_worstDue 0 = .ok (.aload_n 0, 1) := by decide +kernel
theorem dX10_worstDue_1 : decode cX10_worstDue 1 = .ok (.getfield 269, 3) := by decide +kernel
theorem dX10_worstDue_4 : decode cX10_worstDue 4 = .ok (.ireturn, 1) := by decide +kernel
theorem dX11_worstDue_0 : decode cX11_worstDue 0 = .ok (.aload_n 0, 1) := by decide +kernel
theorem dX11_worstDue_1 : decode cX11_worstDue 1 = .ok (.getfield 310, 3) := by decide +kernel
theorem dX11_worstDue_4 : decode cX11_worstDue 4 = .ok (.ireturn, 1) := by decide +kernel
theorem dX10_found_0 : decode cX10_found 0 = .ok (.aload_n 0, 1) := by decide +kernel
theorem dX10_found_1 : decode cX10_found 1 = .ok (.iload_n 1, 1) := by decide +kernel
theorem dX10_found_2 : decode cX10_found 2 = .ok (.putfield 397, 3) := by decide +kernel
theorem dX10_found_5 : decode cX10_found 5 = .ok (.aload_n 0, 1) := by decide +kernel
theorem dX10_found_6 : decode cX10_found 6 = .ok (.getfield 64, 3) := by decide +kernel
theorem dX10_found_9 : decode cX10_found 9 = .ok (.iload_n 1, 1) := by decide +kernel
theorem dX10_found_10 : decode cX10_found 10 = .ok (.dup2, 1) := by decide +kernel
theorem dX10_found_11 : decode cX10_found 11 = .ok (.iaload, 1) := by decide +kernel
theorem dX10_found_12 : decode cX10_found 12 = .ok (.iconst 1, 1) := by decide +kernel
theorem dX10_found_13 : decode cX10_found 13 = .ok (.iadd, 1) := by decide +kernel
theorem dX10_found_14 : decode cX10_found 14 = .ok (.iastore, 1) := by decide +kernel
theorem dX10_found_15 : decode cX10_found 15 = .ok (.bipush (-10), 2) := by decide +kernel
theorem dX10_found_17 : decode cX10_found 17 = .ok (.iload_n 1, 1) := by decide +kernel
theorem dX10_found_18 : decode cX10_found 18 = .ok (.isub, 1) := by decide +kernel
theorem dX10_found_19 : decode cX10_found 19 = .ok (.ireturn, 1) := by decide +kernel
theorem dX10_allDeducted_0 : decode cX10_allDeducted 0 = .ok (.lconst 0, 1) := by decide +kernel
theorem dX10_allDeducted_1 : decode cX10_allDeducted 1 = .ok (.lstore_n 1, 1) := by decide +kernel
theorem dX10_allDeducted_2 : decode cX10_allDeducted 2 = .ok (.iconst 0, 1) := by decide +kernel
theorem dX10_allDeducted_3 : decode cX10_allDeducted 3 = .ok (.istore_n 3, 1) := by decide +kernel
theorem dX10_allDeducted_4 : decode cX10_allDeducted 4 = .ok (.iload_n 3, 1) := by decide +kernel
theorem dX10_allDeducted_5 : decode cX10_allDeducted 5 = .ok (.bipush 48, 2) := by decide +kernel
theorem dX10_allDeducted_7 : decode cX10_allDeducted 7 = .ok (.if_icmp .gt 37, 3) := by decide +kernel
theorem dX10_allDeducted_10 : decode cX10_allDeducted 10 = .ok (.lload_n 1, 1) := by decide +kernel
theorem dX10_allDeducted_11 : decode cX10_allDeducted 11 = .ok (.aload_n 0, 1) := by decide +kernel
theorem dX10_allDeducted_12 : decode cX10_allDeducted 12 = .ok (.getfield 17, 3) := by decide +kernel
theorem dX10_allDeducted_15 : decode cX10_allDeducted 15 = .ok (.iload_n 3, 1) := by decide +kernel
theorem dX10_allDeducted_16 : decode cX10_allDeducted 16 = .ok (.aaload, 1) := by decide +kernel
theorem dX10_allDeducted_17 : decode cX10_allDeducted 17 = .ok (.ifnonnull 7, 3) := by decide +kernel
theorem dX10_allDeducted_20 : decode cX10_allDeducted 20 = .ok (.lconst 0, 1) := by decide +kernel
theorem dX10_allDeducted_21 : decode cX10_allDeducted 21 = .ok (.goto 15, 3) := by decide +kernel
theorem dX10_allDeducted_24 : decode cX10_allDeducted 24 = .ok (.aload_n 0, 1) := by decide +kernel
theorem dX10_allDeducted_25 : decode cX10_allDeducted 25 = .ok (.getfield 17, 3) := by decide +kernel
theorem dX10_allDeducted_28 : decode cX10_allDeducted 28 = .ok (.iload_n 3, 1) := by decide +kernel
theorem dX10_allDeducted_29 : decode cX10_allDeducted 29 = .ok (.aaload, 1) := by decide +kernel
theorem dX10_allDeducted_30 : decode cX10_allDeducted 30 = .ok (.getfield 259, 3) := by decide +kernel
theorem dX10_allDeducted_33 : decode cX10_allDeducted 33 = .ok (.iconst 3, 1) := by decide +kernel
theorem dX10_allDeducted_34 : decode cX10_allDeducted 34 = .ok (.iaload, 1) := by decide +kernel
theorem dX10_allDeducted_35 : decode cX10_allDeducted 35 = .ok (.i2l, 1) := by decide +kernel
theorem dX10_allDeducted_36 : decode cX10_allDeducted 36 = .ok (.ladd, 1) := by decide +kernel
theorem dX10_allDeducted_37 : decode cX10_allDeducted 37 = .ok (.lstore_n 1, 1) := by decide +kernel
theorem dX10_allDeducted_38 : decode cX10_allDeducted 38 = .ok (.iinc 3 1, 3) := by decide +kernel
theorem dX10_allDeducted_41 : decode cX10_allDeducted 41 = .ok (.goto (-37), 3) := by decide +kernel
theorem dX10_allDeducted_44 : decode cX10_allDeducted 44 = .ok (.lload_n 1, 1) := by decide +kernel
theorem dX10_allDeducted_45 : decode cX10_allDeducted 45 = .ok (.lreturn, 1) := by decide +kernel
theorem dX10_premium_0 : decode cX10_premium 0 = .ok (.iload_n 1, 1) := by decide +kernel
theorem dX10_premium_1 : decode cX10_premium 1 = .ok (.invokestatic 162, 3) := by decide +kernel
theorem dX10_premium_4 : decode cX10_premium 4 = .ok (.ifCond .ne 6, 3) := by decide +kernel
theorem dX10_premium_7 : decode cX10_premium 7 = .ok (.bipush (-2), 2) := by decide +kernel
theorem dX10_premium_9 : decode cX10_premium 9 = .ok (.ireturn, 1) := by decide +kernel
theorem dX10_premium_10 : decode cX10_premium 10 = .ok (.lconst 0, 1) := by decide +kernel
theorem dX10_premium_11 : decode cX10_premium 11 = .ok (.lstore_n 2, 1) := by decide +kernel
theorem dX10_premium_12 : decode cX10_premium 12 = .ok (.lconst 0, 1) := by decide +kernel
theorem dX10_premium_13 : decode cX10_premium 13 = .ok (.lstore 4, 2) := by decide +kernel
theorem dX10_premium_15 : decode cX10_premium 15 = .ok (.iconst 0, 1) := by decide +kernel
theorem dX10_premium_16 : decode cX10_premium 16 = .ok (.istore 6, 2) := by decide +kernel
theorem dX10_premium_18 : decode cX10_premium 18 = .ok (.iload 6, 2) := by decide +kernel
theorem dX10_premium_20 : decode cX10_premium 20 = .ok (.aload_n 0, 1) := by decide +kernel
theorem dX10_premium_21 : decode cX10_premium 21 = .ok (.getfield 104, 3) := by decide +kernel
theorem dX10_premium_24 : decode cX10_premium 24 = .ok (.if_icmp .ge 57, 3) := by decide +kernel
theorem dX10_premium_27 : decode cX10_premium 27 = .ok (.lload 4, 2) := by decide +kernel
theorem dX10_premium_29 : decode cX10_premium 29 = .ok (.aload_n 0, 1) := by decide +kernel
theorem dX10_premium_30 : decode cX10_premium 30 = .ok (.getfield 23, 3) := by decide +kernel
theorem dX10_premium_33 : decode cX10_premium 33 = .ok (.iload 6, 2) := by decide +kernel
theorem dX10_premium_35 : decode cX10_premium 35 = .ok (.aaload, 1) := by decide +kernel
theorem dX10_premium_36 : decode cX10_premium 36 = .ok (.getfield 221, 3) := by decide +kernel
theorem dX10_premium_39 : decode cX10_premium 39 = .ok (.i2l, 1) := by decide +kernel
theorem dX10_premium_40 : decode cX10_premium 40 = .ok (.ladd, 1) := by decide +kernel
theorem dX10_premium_41 : decode cX10_premium 41 = .ok (.lstore 4, 2) := by decide +kernel
theorem dX10_premium_43 : decode cX10_premium 43 = .ok (.lload_n 2, 1) := by decide +kernel
theorem dX10_premium_44 : decode cX10_premium 44 = .ok (.aload_n 0, 1) := by decide +kernel
theorem dX10_premium_45 : decode cX10_premium 45 = .ok (.getfield 23, 3) := by decide +kernel
theorem dX10_premium_48 : decode cX10_premium 48 = .ok (.iload 6, 2) := by decide +kernel
theorem dX10_premium_50 : decode cX10_premium 50 = .ok (.aaload, 1) := by decide +kernel
theorem dX10_premium_51 : decode cX10_premium 51 = .ok (.getfield 224, 3) := by decide +kernel
theorem dX10_premium_54 : decode cX10_premium 54 = .ok (.iload_n 1, 1) := by decide +kernel
theorem dX10_premium_55 : decode cX10_premium 55 = .ok (.if_icmp .ne 17, 3) := by decide +kernel
theorem dX10_premium_58 : decode cX10_premium 58 = .ok (.aload_n 0, 1) := by decide +kernel
theorem dX10_premium_59 : decode cX10_premium 59 = .ok (.getfield 23, 3) := by decide +kernel
theorem dX10_premium_62 : decode cX10_premium 62 = .ok (.iload 6, 2) := by decide +kernel
theorem dX10_premium_64 : decode cX10_premium 64 = .ok (.aaload, 1) := by decide +kernel
theorem dX10_premium_65 : decode cX10_premium 65 = .ok (.getfield 221, 3) := by decide +kernel
theorem dX10_premium_68 : decode cX10_premium 68 = .ok (.i2l, 1) := by decide +kernel
theorem dX10_premium_69 : decode cX10_premium 69 = .ok (.goto 4, 3) := by decide +kernel
theorem dX10_premium_72 : decode cX10_premium 72 = .ok (.lconst 0, 1) := by decide +kernel
theorem dX10_premium_73 : decode cX10_premium 73 = .ok (.ladd, 1) := by decide +kernel
theorem dX10_premium_74 : decode cX10_premium 74 = .ok (.lstore_n 2, 1) := by decide +kernel
theorem dX10_premium_75 : decode cX10_premium 75 = .ok (.iinc 6 1, 3) := by decide +kernel
theorem dX10_premium_78 : decode cX10_premium 78 = .ok (.goto (-60), 3) := by decide +kernel
theorem dX10_premium_81 : decode cX10_premium 81 = .ok (.lload 4, 2) := by decide +kernel
theorem dX10_premium_83 : decode cX10_premium 83 = .ok (.lconst 0, 1) := by decide +kernel
theorem dX10_premium_84 : decode cX10_premium 84 = .ok (.lcmp, 1) := by decide +kernel
theorem dX10_premium_85 : decode cX10_premium 85 = .ok (.ifCond .ne 10, 3) := by decide +kernel
theorem dX10_premium_88 : decode cX10_premium 88 = .ok (.aload_n 0, 1) := by decide +kernel
theorem dX10_premium_89 : decode cX10_premium 89 = .ok (.bipush 6, 2) := by decide +kernel
theorem dX10_premium_91 : decode cX10_premium 91 = .ok (.invokevirtual 272, 3) := by decide +kernel
theorem dX10_premium_94 : decode cX10_premium 94 = .ok (.ireturn, 1) := by decide +kernel
theorem dX10_premium_95 : decode cX10_premium 95 = .ok (.aload_n 0, 1) := by decide +kernel
theorem dX10_premium_96 : decode cX10_premium 96 = .ok (.invokevirtual 275, 3) := by decide +kernel
theorem dX10_premium_99 : decode cX10_premium 99 = .ok (.lload_n 2, 1) := by decide +kernel
theorem dX10_premium_100 : decode cX10_premium 100 = .ok (.lmul, 1) := by decide +kernel
theorem dX10_premium_101 : decode cX10_premium 101 = .ok (.lload 4, 2) := by decide +kernel
theorem dX10_premium_103 : decode cX10_premium 103 = .ok (.ldiv, 1) := by decide +kernel
theorem dX10_premium_104 : decode cX10_premium 104 = .ok (.l2i, 1) := by decide +kernel
theorem dX10_premium_105 : decode cX10_premium 105 = .ok (.ireturn, 1) := by decide +kernel
theorem dX11_meets_0 : decode cX11_meets 0 = .ok (.aload_n 0, 1) := by decide +kernel
theorem dX11_meets_1 : decode cX11_meets 1 = .ok (.iload_n 1, 1) := by decide +kernel
theorem dX11_meets_2 : decode cX11_meets 2 = .ok (.putfield 323, 3) := by decide +kernel
theorem dX11_meets_5 : decode cX11_meets 5 = .ok (.aload_n 0, 1) := by decide +kernel
theorem dX11_meets_6 : decode cX11_meets 6 = .ok (.getfield 119, 3) := by decide +kernel
theorem dX11_meets_9 : decode cX11_meets 9 = .ok (.iload_n 1, 1) := by decide +kernel
theorem dX11_meets_10 : decode cX11_meets 10 = .ok (.dup2, 1) := by decide +kernel
theorem dX11_meets_11 : decode cX11_meets 11 = .ok (.iaload, 1) := by decide +kernel
theorem dX11_meets_12 : decode cX11_meets 12 = .ok (.iconst 1, 1) := by decide +kernel
theorem dX11_meets_13 : decode cX11_meets 13 = .ok (.iadd, 1) := by decide +kernel
theorem dX11_meets_14 : decode cX11_meets 14 = .ok (.iastore, 1) := by decide +kernel
theorem dX11_meets_15 : decode cX11_meets 15 = .ok (.bipush (-10), 2) := by decide +kernel
theorem dX11_meets_17 : decode cX11_meets 17 = .ok (.iload_n 1, 1) := by decide +kernel
theorem dX11_meets_18 : decode cX11_meets 18 = .ok (.isub, 1) := by decide +kernel
theorem dX11_meets_19 : decode cX11_meets 19 = .ok (.ireturn, 1) := by decide +kernel
theorem dX11_allDeducted_0 : decode cX11_allDeducted 0 = .ok (.iconst 0, 1) := by decide +kernel
theorem dX11_allDeducted_1 : decode cX11_allDeducted 1 = .ok (.istore_n 1, 1) := by decide +kernel
theorem dX11_allDeducted_2 : decode cX11_allDeducted 2 = .ok (.iconst 0, 1) := by decide +kernel
theorem dX11_allDeducted_3 : decode cX11_allDeducted 3 = .ok (.istore_n 2, 1) := by decide +kernel
theorem dX11_allDeducted_4 : decode cX11_allDeducted 4 = .ok (.iload_n 2, 1) := by decide +kernel
theorem dX11_allDeducted_5 : decode cX11_allDeducted 5 = .ok (.bipush 49, 2) := by decide +kernel
theorem dX11_allDeducted_7 : decode cX11_allDeducted 7 = .ok (.if_icmp .ge 18, 3) := by decide +kernel
theorem dX11_allDeducted_10 : decode cX11_allDeducted 10 = .ok (.iload_n 1, 1) := by decide +kernel
theorem dX11_allDeducted_11 : decode cX11_allDeducted 11 = .ok (.aload_n 0, 1) := by decide +kernel
theorem dX11_allDeducted_12 : decode cX11_allDeducted 12 = .ok (.getfield 47, 3) := by decide +kernel
theorem dX11_allDeducted_15 : decode cX11_allDeducted 15 = .ok (.iload_n 2, 1) := by decide +kernel
theorem dX11_allDeducted_16 : decode cX11_allDeducted 16 = .ok (.iaload, 1) := by decide +kernel
theorem dX11_allDeducted_17 : decode cX11_allDeducted 17 = .ok (.iadd, 1) := by decide +kernel
theorem dX11_allDeducted_18 : decode cX11_allDeducted 18 = .ok (.istore_n 1, 1) := by decide +kernel
theorem dX11_allDeducted_19 : decode cX11_allDeducted 19 = .ok (.iinc 2 1, 3) := by decide +kernel
theorem dX11_allDeducted_22 : decode cX11_allDeducted 22 = .ok (.goto (-18), 3) := by decide +kernel
theorem dX11_allDeducted_25 : decode cX11_allDeducted 25 = .ok (.iload_n 1, 1) := by decide +kernel
theorem dX11_allDeducted_26 : decode cX11_allDeducted 26 = .ok (.ireturn, 1) := by decide +kernel
theorem dX11_premium_0 : decode cX11_premium 0 = .ok (.iload_n 1, 1) := by decide +kernel
theorem dX11_premium_1 : decode cX11_premium 1 = .ok (.iconst 0, 1) := by decide +kernel
theorem dX11_premium_2 : decode cX11_premium 2 = .ok (.iconst 5, 1) := by decide +kernel
theorem dX11_premium_3 : decode cX11_premium 3 = .ok (.invokestatic 172, 3) := by decide +kernel
theorem dX11_premium_6 : decode cX11_premium 6 = .ok (.ifCond .ne 6, 3) := by decide +kernel
theorem dX11_premium_9 : decode cX11_premium 9 = .ok (.bipush (-2), 2) := by decide +kernel
theorem dX11_premium_11 : decode cX11_premium 11 = .ok (.ireturn, 1) := by decide +kernel
theorem dX11_premium_12 : decode cX11_premium 12 = .ok (.aload_n 0, 1) := by decide +kernel
theorem dX11_premium_13 : decode cX11_premium 13 = .ok (.getfield 205, 3) := by decide +kernel
theorem dX11_premium_16 : decode cX11_premium 16 = .ok (.ifCond .ne 10, 3) := by decide +kernel
theorem dX11_premium_19 : decode cX11_premium 19 = .ok (.aload_n 0, 1) := by decide +kernel
theorem dX11_premium_20 : decode cX11_premium 20 = .ok (.bipush 6, 2) := by decide +kernel
theorem dX11_premium_22 : decode cX11_premium 22 = .ok (.invokevirtual 316, 3) := by decide +kernel
theorem dX11_premium_25 : decode cX11_premium 25 = .ok (.ireturn, 1) := by decide +kernel
theorem dX11_premium_26 : decode cX11_premium 26 = .ok (.lconst 0, 1) := by decide +kernel
theorem dX11_premium_27 : decode cX11_premium 27 = .ok (.lstore_n 2, 1) := by decide +kernel
theorem dX11_premium_28 : decode cX11_premium 28 = .ok (.lconst 0, 1) := by decide +kernel
theorem dX11_premium_29 : decode cX11_premium 29 = .ok (.lstore 4, 2) := by decide +kernel
theorem dX11_premium_31 : decode cX11_premium 31 = .ok (.iconst 0, 1) := by decide +kernel
theorem dX11_premium_32 : decode cX11_premium 32 = .ok (.istore 6, 2) := by decide +kernel
theorem dX11_premium_34 : decode cX11_premium 34 = .ok (.iload 6, 2) := by decide +kernel
theorem dX11_premium_36 : decode cX11_premium 36 = .ok (.aload_n 0, 1) := by decide +kernel
theorem dX11_premium_37 : decode cX11_premium 37 = .ok (.getfield 205, 3) := by decide +kernel
theorem dX11_premium_40 : decode cX11_premium 40 = .ok (.if_icmp .ge 48, 3) := by decide +kernel
theorem dX11_premium_43 : decode cX11_premium 43 = .ok (.lload_n 2, 1) := by decide +kernel
theorem dX11_premium_44 : decode cX11_premium 44 = .ok (.aload_n 0, 1) := by decide +kernel
theorem dX11_premium_45 : decode cX11_premium 45 = .ok (.getfield 80, 3) := by decide +kernel
theorem dX11_premium_48 : decode cX11_premium 48 = .ok (.iload 6, 2) := by decide +kernel
theorem dX11_premium_50 : decode cX11_premium 50 = .ok (.iaload, 1) := by decide +kernel
theorem dX11_premium_51 : decode cX11_premium 51 = .ok (.i2l, 1) := by decide +kernel
theorem dX11_premium_52 : decode cX11_premium 52 = .ok (.ladd, 1) := by decide +kernel
theorem dX11_premium_53 : decode cX11_premium 53 = .ok (.lstore_n 2, 1) := by decide +kernel
theorem dX11_premium_54 : decode cX11_premium 54 = .ok (.lload 4, 2) := by decide +kernel
theorem dX11_premium_56 : decode cX11_premium 56 = .ok (.aload_n 0, 1) := by decide +kernel
theorem dX11_premium_57 : decode cX11_premium 57 = .ok (.getfield 86, 3) := by decide +kernel
theorem dX11_premium_60 : decode cX11_premium 60 = .ok (.iload 6, 2) := by decide +kernel
theorem dX11_premium_62 : decode cX11_premium 62 = .ok (.iaload, 1) := by decide +kernel
theorem dX11_premium_63 : decode cX11_premium 63 = .ok (.iload_n 1, 1) := by decide +kernel
theorem dX11_premium_64 : decode cX11_premium 64 = .ok (.if_icmp .ne 14, 3) := by decide +kernel
theorem dX11_premium_67 : decode cX11_premium 67 = .ok (.aload_n 0, 1) := by decide +kernel
theorem dX11_premium_68 : decode cX11_premium 68 = .ok (.getfield 80, 3) := by decide +kernel
theorem dX11_premium_71 : decode cX11_premium 71 = .ok (.iload 6, 2) := by decide +kernel
theorem dX11_premium_73 : decode cX11_premium 73 = .ok (.iaload, 1) := by decide +kernel
theorem dX11_premium_74 : decode cX11_premium 74 = .ok (.i2l, 1) := by decide +kernel
theorem dX11_premium_75 : decode cX11_premium 75 = .ok (.goto 4, 3) := by decide +kernel
theorem dX11_premium_78 : decode cX11_premium 78 = .ok (.lconst 0, 1) := by decide +kernel
theorem dX11_premium_79 : decode cX11_premium 79 = .ok (.ladd, 1) := by decide +kernel
theorem dX11_premium_80 : decode cX11_premium 80 = .ok (.lstore 4, 2) := by decide +kernel
theorem dX11_premium_82 : decode cX11_premium 82 = .ok (.iinc 6 1, 3) := by decide +kernel
theorem dX11_premium_85 : decode cX11_premium 85 = .ok (.goto (-51), 3) := by decide +kernel
theorem dX11_premium_88 : decode cX11_premium 88 = .ok (.aload_n 0, 1) := by decide +kernel
theorem dX11_premium_89 : decode cX11_premium 89 = .ok (.invokevirtual 319, 3) := by decide +kernel
theorem dX11_premium_92 : decode cX11_premium 92 = .ok (.i2l, 1) := by decide +kernel
theorem dX11_premium_93 : decode cX11_premium 93 = .ok (.lload 4, 2) := by decide +kernel
theorem dX11_premium_95 : decode cX11_premium 95 = .ok (.lmul, 1) := by decide +kernel
theorem dX11_premium_96 : decode cX11_premium 96 = .ok (.lload_n 2, 1) := by decide +kernel
theorem dX11_premium_97 : decode cX11_premium 97 = .ok (.ldiv, 1) := by decide +kernel
theorem dX11_premium_98 : decode cX11_premium 98 = .ok (.l2i, 1) := by decide +kernel
theorem dX11_premium_99 : decode cX11_premium 99 = .ok (.ireturn, 1) := by decide +kernel
theorem dX8_holdNothing_0 : decode cX8_holdNothing 0 = .ok (.aload_n 0, 1) := by decide +kernel
theorem dX8_holdNothing_1 : decode cX8_holdNothing 1 = .ok (.iconst 0, 1) := by decide +kernel
theorem dX8_holdNothing_2 : decode cX8_holdNothing 2 = .ok (.putfield 15, 3) := by decide +kernel
theorem dX8_holdNothing_5 : decode cX8_holdNothing 5 = .ok (.return_, 1) := by decide +kernel
theorem dX1_open_0 : decode cX1_open 0 = .ok (.aload_n 0, 1) := by decide +kernel
theorem dX1_open_1 : decode cX1_open 1 = .ok (.iload_n 1, 1) := by decide +kernel
theorem dX1_open_2 : decode cX1_open 2 = .ok (.putfield 17, 3) := by decide +kernel
theorem dX1_open_5 : decode cX1_open 5 = .ok (.iconst 0, 1) := by decide +kernel
theorem dX1_open_6 : decode cX1_open 6 = .ok (.istore_n 2, 1) := by decide +kernel
theorem dX1_open_7 : decode cX1_open 7 = .ok (.iload_n 2, 1) := by decide +kernel
theorem dX1_open_8 : decode cX1_open 8 = .ok (.iload_n 1, 1) := by decide +kernel
theorem dX1_open_9 : decode cX1_open 9 = .ok (.if_icmp .ge 18, 3) := by decide +kernel
theorem dX1_open_12 : decode cX1_open 12 = .ok (.aload_n 0, 1) := by decide +kernel
theorem dX1_open_13 : decode cX1_open 13 = .ok (.getfield 11, 3) := by decide +kernel
theorem dX1_open_16 : decode cX1_open 16 = .ok (.iload_n 2, 1) := by decide +kernel
theorem dX1_open_17 : decode cX1_open 17 = .ok (.aaload, 1) := by decide +kernel
theorem dX1_open_18 : decode cX1_open 18 = .ok (.invokevirtual 22, 3) := by decide +kernel
theorem dX1_open_21 : decode cX1_open 21 = .ok (.iinc 2 1, 3) := by decide +kernel
theorem dX1_open_24 : decode cX1_open 24 = .ok (.goto (-17), 3) := by decide +kernel
theorem dX1_open_27 : decode cX1_open 27 = .ok (.return_, 1) := by decide +kernel
theorem dX10_drawer_0 : decode cX10_drawer 0 = .ok (.iload_n 1, 1) := by decide +kernel
theorem dX10_drawer_1 : decode cX10_drawer 1 = .ok (.invokestatic 162, 3) := by decide +kernel
theorem dX10_drawer_4 : decode cX10_drawer 4 = .ok (.ifCond .ne 6, 3) := by decide +kernel
theorem dX10_drawer_7 : decode cX10_drawer 7 = .ok (.bipush (-2), 2) := by decide +kernel
theorem dX10_drawer_9 : decode cX10_drawer 9 = .ok (.ireturn, 1) := by decide +kernel
theorem dX10_drawer_10 : decode cX10_drawer 10 = .ok (.iload_n 2, 1) := by decide +kernel
theorem dX10_drawer_11 : decode cX10_drawer 11 = .ok (.bipush 12, 2) := by decide +kernel
theorem dX10_drawer_13 : decode cX10_drawer 13 = .ok (.if_icmp .le 6, 3) := by decide +kernel
theorem dX10_drawer_16 : decode cX10_drawer 16 = .ok (.bipush (-3), 2) := by decide +kernel
theorem dX10_drawer_18 : decode cX10_drawer 18 = .ok (.ireturn, 1) := by decide +kernel
theorem dX10_drawer_19 : decode cX10_drawer 19 = .ok (.iload_n 2, 1) := by decide +kernel
theorem dX10_drawer_20 : decode cX10_drawer 20 = .ok (.ifCond .ge 9, 3) := by decide +kernel
theorem dX10_drawer_23 : decode cX10_drawer 23 = .ok (.aload_n 0, 1) := by decide +kernel
theorem dX10_drawer_24 : decode cX10_drawer 24 = .ok (.iconst 5, 1) := by decide +kernel
theorem dX10_drawer_25 : decode cX10_drawer 25 = .ok (.invokevirtual 272, 3) := by decide +kernel
theorem dX10_drawer_28 : decode cX10_drawer 28 = .ok (.ireturn, 1) := by decide +kernel
theorem dX10_drawer_29 : decode cX10_drawer 29 = .ok (.aload_n 0, 1) := by decide +kernel
theorem dX10_drawer_30 : decode cX10_drawer 30 = .ok (.getfield 29, 3) := by decide +kernel
theorem dX10_drawer_33 : decode cX10_drawer 33 = .ok (.iload_n 1, 1) := by decide +kernel
theorem dX10_drawer_34 : decode cX10_drawer 34 = .ok (.aaload, 1) := by decide +kernel
theorem dX10_drawer_35 : decode cX10_drawer 35 = .ok (.iload_n 2, 1) := by decide +kernel
theorem dX10_drawer_36 : decode cX10_drawer 36 = .ok (.invokevirtual 279, 3) := by decide +kernel
theorem dX10_drawer_39 : decode cX10_drawer 39 = .ok (.iload_n 2, 1) := by decide +kernel
theorem dX10_drawer_40 : decode cX10_drawer 40 = .ok (.ireturn, 1) := by decide +kernel
theorem dX11_isWindow_0 : decode cX11_isWindow 0 = .ok (.iload_n 0, 1) := by decide +kernel
theorem dX11_isWindow_1 : decode cX11_isWindow 1 = .ok (.iconst 0, 1) := by decide +kernel
theorem dX11_isWindow_2 : decode cX11_isWindow 2 = .ok (.iconst 5, 1) := by decide +kernel
theorem dX11_isWindow_3 : decode cX11_isWindow 3 = .ok (.invokestatic 172, 3) := by decide +kernel
theorem dX11_isWindow_6 : decode cX11_isWindow 6 = .ok (.ireturn, 1) := by decide +kernel
theorem dX11_drawer_0 : decode cX11_drawer 0 = .ok (.iload_n 1, 1) := by decide +kernel
theorem dX11_drawer_1 : decode cX11_drawer 1 = .ok (.invokestatic 326, 3) := by decide +kernel
theorem dX11_drawer_4 : decode cX11_drawer 4 = .ok (.ifCond .ne 6, 3) := by decide +kernel
theorem dX11_drawer_7 : decode cX11_drawer 7 = .ok (.bipush (-2), 2) := by decide +kernel
theorem dX11_drawer_9 : decode cX11_drawer 9 = .ok (.ireturn, 1) := by decide +kernel
theorem dX11_drawer_10 : decode cX11_drawer 10 = .ok (.iload_n 2, 1) := by decide +kernel
theorem dX11_drawer_11 : decode cX11_drawer 11 = .ok (.bipush 12, 2) := by decide +kernel
theorem dX11_drawer_13 : decode cX11_drawer 13 = .ok (.if_icmp .le 6, 3) := by decide +kernel
theorem dX11_drawer_16 : decode cX11_drawer 16 = .ok (.bipush (-3), 2) := by decide +kernel
theorem dX11_drawer_18 : decode cX11_drawer 18 = .ok (.ireturn, 1) := by decide +kernel
theorem dX11_drawer_19 : decode cX11_drawer 19 = .ok (.iload_n 2, 1) := by decide +kernel
theorem dX11_drawer_20 : decode cX11_drawer 20 = .ok (.ifCond .ge 9, 3) := by decide +kernel
theorem dX11_drawer_23 : decode cX11_drawer 23 = .ok (.aload_n 0, 1) := by decide +kernel
theorem dX11_drawer_24 : decode cX11_drawer 24 = .ok (.iconst 5, 1) := by decide +kernel
theorem dX11_drawer_25 : decode cX11_drawer 25 = .ok (.invokevirtual 316, 3) := by decide +kernel
theorem dX11_drawer_28 : decode cX11_drawer 28 = .ok (.ireturn, 1) := by decide +kernel
theorem dX11_drawer_29 : decode cX11_drawer 29 = .ok (.aload_n 0, 1) := by decide +kernel
theorem dX11_drawer_30 : decode cX11_drawer 30 = .ok (.getfield 122, 3) := by decide +kernel
theorem dX11_drawer_33 : decode cX11_drawer 33 = .ok (.iload_n 1, 1) := by decide +kernel
theorem dX11_drawer_34 : decode cX11_drawer 34 = .ok (.iconst 1, 1) := by decide +kernel
theorem dX11_drawer_35 : decode cX11_drawer 35 = .ok (.bastore, 1) := by decide +kernel
theorem dX11_drawer_36 : decode cX11_drawer 36 = .ok (.aload_n 0, 1) := by decide +kernel
theorem dX11_drawer_37 : decode cX11_drawer 37 = .ok (.getfield 125, 3) := by decide +kernel
theorem dX11_drawer_40 : decode cX11_drawer 40 = .ok (.iload_n 1, 1) := by decide +kernel
theorem dX11_drawer_41 : decode cX11_drawer 41 = .ok (.iload_n 2, 1) := by decide +kernel
theorem dX11_drawer_42 : decode cX11_drawer 42 = .ok (.iastore, 1) := by decide +kernel
theorem dX11_drawer_43 : decode cX11_drawer 43 = .ok (.iconst 0, 1) := by decide +kernel
theorem dX11_drawer_44 : decode cX11_drawer 44 = .ok (.istore_n 3, 1) := by decide +kernel
theorem dX11_drawer_45 : decode cX11_drawer 45 = .ok (.iload_n 3, 1) := by decide +kernel
theorem dX11_drawer_46 : decode cX11_drawer 46 = .ok (.bipush 12, 2) := by decide +kernel
theorem dX11_drawer_48 : decode cX11_drawer 48 = .ok (.if_icmp .ge 21, 3) := by decide +kernel
theorem dX11_drawer_51 : decode cX11_drawer 51 = .ok (.aload_n 0, 1) := by decide +kernel
theorem dX11_drawer_52 : decode cX11_drawer 52 = .ok (.getfield 128, 3) := by decide +kernel
theorem dX11_drawer_55 : decode cX11_drawer 55 = .ok (.bipush 12, 2) := by decide +kernel
theorem dX11_drawer_57 : decode cX11_drawer 57 = .ok (.iload_n 1, 1) := by decide +kernel
theorem dX11_drawer_58 : decode cX11_drawer 58 = .ok (.imul, 1) := by decide +kernel
theorem dX11_drawer_59 : decode cX11_drawer 59 = .ok (.iload_n 3, 1) := by decide +kernel
theorem dX11_drawer_60 : decode cX11_drawer 60 = .ok (.iadd, 1) := by decide +kernel
theorem dX11_drawer_61 : decode cX11_drawer 61 = .ok (.iconst 0, 1) := by decide +kernel
theorem dX11_drawer_62 : decode cX11_drawer 62 = .ok (.iastore, 1) := by decide +kernel
theorem dX11_drawer_63 : decode cX11_drawer 63 = .ok (.iinc 3 1, 3) := by decide +kernel
theorem dX11_drawer_66 : decode cX11_drawer 66 = .ok (.goto (-21), 3) := by decide +kernel
theorem dX11_drawer_69 : decode cX11_drawer 69 = .ok (.iload_n 2, 1) := by decide +kernel
theorem dX11_drawer_70 : decode cX11_drawer 70 = .ok (.ireturn, 1) := by decide +kernel
theorem dX10_lose_0 : decode cX10_lose 0 = .ok (.iload_n 1, 1) := by decide +kernel
theorem dX10_lose_1 : decode cX10_lose 1 = .ok (.invokestatic 162, 3) := by decide +kernel
theorem dX10_lose_4 : decode cX10_lose 4 = .ok (.ifCond .ne 6, 3) := by decide +kernel
theorem dX10_lose_7 : decode cX10_lose 7 = .ok (.bipush (-2), 2) := by decide +kernel
theorem dX10_lose_9 : decode cX10_lose 9 = .ok (.ireturn, 1) := by decide +kernel
theorem dX10_lose_10 : decode cX10_lose 10 = .ok (.aload_n 0, 1) := by decide +kernel
theorem dX10_lose_11 : decode cX10_lose 11 = .ok (.getfield 29, 3) := by decide +kernel
theorem dX10_lose_14 : decode cX10_lose 14 = .ok (.iload_n 1, 1) := by decide +kernel
theorem dX10_lose_15 : decode cX10_lose 15 = .ok (.aaload, 1) := by decide +kernel
theorem dX10_lose_16 : decode cX10_lose 16 = .ok (.getfield 282, 3) := by decide +kernel
theorem dX10_lose_19 : decode cX10_lose 19 = .ok (.istore_n 2, 1) := by decide +kernel
theorem dX10_lose_20 : decode cX10_lose 20 = .ok (.iload_n 2, 1) := by decide +kernel
theorem dX10_lose_21 : decode cX10_lose 21 = .ok (.iconst (-1), 1) := by decide +kernel
theorem dX10_lose_22 : decode cX10_lose 22 = .ok (.if_icmp .ne 9, 3) := by decide +kernel
theorem dX10_lose_25 : decode cX10_lose 25 = .ok (.aload_n 0, 1) := by decide +kernel
theorem dX10_lose_26 : decode cX10_lose 26 = .ok (.iconst 1, 1) := by decide +kernel
theorem dX10_lose_27 : decode cX10_lose 27 = .ok (.invokevirtual 272, 3) := by decide +kernel
theorem dX10_lose_30 : decode cX10_lose 30 = .ok (.ireturn, 1) := by decide +kernel
theorem dX10_lose_31 : decode cX10_lose 31 = .ok (.aload_n 0, 1) := by decide +kernel
theorem dX10_lose_32 : decode cX10_lose 32 = .ok (.getfield 29, 3) := by decide +kernel
theorem dX10_lose_35 : decode cX10_lose 35 = .ok (.iload_n 1, 1) := by decide +kernel
theorem dX10_lose_36 : decode cX10_lose 36 = .ok (.aaload, 1) := by decide +kernel
theorem dX10_lose_37 : decode cX10_lose 37 = .ok (.iconst (-1), 1) := by decide +kernel
theorem dX10_lose_38 : decode cX10_lose 38 = .ok (.putfield 282, 3) := by decide +kernel
theorem dX10_lose_41 : decode cX10_lose 41 = .ok (.iload_n 2, 1) := by decide +kernel
theorem dX10_lose_42 : decode cX10_lose 42 = .ok (.ireturn, 1) := by decide +kernel
theorem dX11_lose_0 : decode cX11_lose 0 = .ok (.iload_n 1, 1) := by decide +kernel
theorem dX11_lose_1 : decode cX11_lose 1 = .ok (.invokestatic 326, 3) := by decide +kernel
theorem dX11_lose_4 : decode cX11_lose 4 = .ok (.ifCond .ne 6, 3) := by decide +kernel
theorem dX11_lose_7 : decode cX11_lose 7 = .ok (.bipush (-2), 2) := by decide +kernel
theorem dX11_lose_9 : decode cX11_lose 9 = .ok (.ireturn, 1) := by decide +kernel
theorem dX11_lose_10 : decode cX11_lose 10 = .ok (.aload_n 0, 1) := by decide +kernel
theorem dX11_lose_11 : decode cX11_lose 11 = .ok (.getfield 122, 3) := by decide +kernel
theorem dX11_lose_14 : decode cX11_lose 14 = .ok (.iload_n 1, 1) := by decide +kernel
theorem dX11_lose_15 : decode cX11_lose 15 = .ok (.baload, 1) := by decide +kernel
theorem dX11_lose_16 : decode cX11_lose 16 = .ok (.ifCond .ne 9, 3) := by decide +kernel
theorem dX11_lose_19 : decode cX11_lose 19 = .ok (.aload_n 0, 1) := by decide +kernel
theorem dX11_lose_20 : decode cX11_lose 20 = .ok (.iconst 1, 1) := by decide +kernel
theorem dX11_lose_21 : decode cX11_lose 21 = .ok (.invokevirtual 316, 3) := by decide +kernel
theorem dX11_lose_24 : decode cX11_lose 24 = .ok (.ireturn, 1) := by decide +kernel
theorem dX11_lose_25 : decode cX11_lose 25 = .ok (.aload_n 0, 1) := by decide +kernel
theorem dX11_lose_26 : decode cX11_lose 26 = .ok (.getfield 122, 3) := by decide +kernel
theorem dX11_lose_29 : decode cX11_lose 29 = .ok (.iload_n 1, 1) := by decide +kernel
theorem dX11_lose_30 : decode cX11_lose 30 = .ok (.iconst 0, 1) := by decide +kernel
theorem dX11_lose_31 : decode cX11_lose 31 = .ok (.bastore, 1) := by decide +kernel
theorem dX11_lose_32 : decode cX11_lose 32 = .ok (.aload_n 0, 1) := by decide +kernel
theorem dX11_lose_33 : decode cX11_lose 33 = .ok (.getfield 125, 3) := by decide +kernel
theorem dX11_lose_36 : decode cX11_lose 36 = .ok (.iload_n 1, 1) := by decide +kernel
theorem dX11_lose_37 : decode cX11_lose 37 = .ok (.iaload, 1) := by decide +kernel
theorem dX11_lose_38 : decode cX11_lose 38 = .ok (.ireturn, 1) := by decide +kernel
theorem dX10_refuseSlip_0 : decode cX10_refuseSlip 0 = .ok (.iload_n 1, 1) := by decide +kernel
theorem dX10_refuseSlip_1 : decode cX10_refuseSlip 1 = .ok (.invokestatic 162, 3) := by decide +kernel
theorem dX10_refuseSlip_4 : decode cX10_refuseSlip 4 = .ok (.ifCond .ne 6, 3) := by decide +kernel
theorem dX10_refuseSlip_7 : decode cX10_refuseSlip 7 = .ok (.bipush (-2), 2) := by decide +kernel
theorem dX10_refuseSlip_9 : decode cX10_refuseSlip 9 = .ok (.ireturn, 1) := by decide +kernel
theorem dX10_refuseSlip_10 : decode cX10_refuseSlip 10 = .ok (.aload_n 0, 1) := by decide +kernel
theorem dX10_refuseSlip_11 : decode cX10_refuseSlip 11 = .ok (.getfield 29, 3) := by decide +kernel
theorem dX10_refuseSlip_14 : decode cX10_refuseSlip 14 = .ok (.iload_n 1, 1) := by decide +kernel
theorem dX10_refuseSlip_15 : decode cX10_refuseSlip 15 = .ok (.aaload, 1) := by decide +kernel
theorem dX10_refuseSlip_16 : decode cX10_refuseSlip 16 = .ok (.getfield 282, 3) := by decide +kernel
theorem dX10_refuseSlip_19 : decode cX10_refuseSlip 19 = .ok (.iconst (-1), 1) := by decide +kernel
theorem dX10_refuseSlip_20 : decode cX10_refuseSlip 20 = .ok (.if_icmp .ne 9, 3) := by decide +kernel
theorem dX10_refuseSlip_23 : decode cX10_refuseSlip 23 = .ok (.aload_n 0, 1) := by decide +kernel
theorem dX10_refuseSlip_24 : decode cX10_refuseSlip 24 = .ok (.iconst 1, 1) := by decide +kernel
theorem dX10_refuseSlip_25 : decode cX10_refuseSlip 25 = .ok (.invokevirtual 272, 3) := by decide +kernel
theorem dX10_refuseSlip_28 : decode cX10_refuseSlip 28 = .ok (.ireturn, 1) := by decide +kernel
theorem dX10_refuseSlip_29 : decode cX10_refuseSlip 29 = .ok (.iload_n 2, 1) := by decide +kernel
theorem dX10_refuseSlip_30 : decode cX10_refuseSlip 30 = .ok (.ifCond .lt 16, 3) := by decide +kernel
theorem dX10_refuseSlip_33 : decode cX10_refuseSlip 33 = .ok (.iload_n 2, 1) := by decide +kernel
theorem dX10_refuseSlip_34 : decode cX10_refuseSlip 34 = .ok (.aload_n 0, 1) := by decide +kernel
theorem dX10_refuseSlip_35 : decode cX10_refuseSlip 35 = .ok (.getfield 29, 3) := by decide +kernel
theorem dX10_refuseSlip_38 : decode cX10_refuseSlip 38 = .ok (.iload_n 1, 1) := by decide +kernel
theorem dX10_refuseSlip_39 : decode cX10_refuseSlip 39 = .ok (.aaload, 1) := by decide +kernel
theorem dX10_refuseSlip_40 : decode cX10_refuseSlip 40 = .ok (.getfield 282, 3) := by decide +kernel
theorem dX10_refuseSlip_43 : decode cX10_refuseSlip 43 = .ok (.if_icmp .lt 11, 3) := by decide +kernel
theorem dX10_refuseSlip_46 : decode cX10_refuseSlip 46 = .ok (.aload_n 0, 1) := by decide +kernel
theorem dX10_refuseSlip_47 : decode cX10_refuseSlip 47 = .ok (.iconst 2, 1) := by decide +kernel
theorem dX10_refuseSlip_48 : decode cX10_refuseSlip 48 = .ok (.invokevirtual 272, 3) := by decide +kernel
theorem dX10_refuseSlip_51 : decode cX10_refuseSlip 51 = .ok (.goto 4, 3) := by decide +kernel
theorem dX10_refuseSlip_54 : decode cX10_refuseSlip 54 = .ok (.iconst 0, 1) := by decide +kernel
theorem dX10_refuseSlip_55 : decode cX10_refuseSlip 55 = .ok (.ireturn, 1) := by decide +kernel
theorem dX8_holdTicket_0 : decode cX8_holdTicket 0 = .ok (.aload_n 0, 1) := by decide +kernel
theorem dX8_holdTicket_1 : decode cX8_holdTicket 1 = .ok (.iconst 1, 1) := by decide +kernel
theorem dX8_holdTicket_2 : decode cX8_holdTicket 2 = .ok (.putfield 15, 3) := by decide +kernel
theorem dX8_holdTicket_5 : decode cX8_holdTicket 5 = .ok (.aload_n 0, 1) := by decide +kernel
theorem dX8_holdTicket_6 : decode cX8_holdTicket 6 = .ok (.iload_n 1, 1) := by decide +kernel
theorem dX8_holdTicket_7 : decode cX8_holdTicket 7 = .ok (.putfield 19, 3) := by decide +kernel
theorem dX8_holdTicket_10 : decode cX8_holdTicket 10 = .ok (.return_, 1) := by decide +kernel
theorem dX10_keep_0 : decode cX10_keep 0 = .ok (.iload_n 1, 1) := by decide +kernel
theorem dX10_keep_1 : decode cX10_keep 1 = .ok (.invokestatic 162, 3) := by decide +kernel
theorem dX10_keep_4 : decode cX10_keep 4 = .ok (.ifCond .eq 11, 3) := by decide +kernel
theorem dX10_keep_7 : decode cX10_keep 7 = .ok (.aload_n 0, 1) := by decide +kernel
theorem dX10_keep_8 : decode cX10_keep 8 = .ok (.iload_n 3, 1) := by decide +kernel
theorem dX10_keep_9 : decode cX10_keep 9 = .ok (.invokevirtual 187, 3) := by decide +kernel
theorem dX10_keep_12 : decode cX10_keep 12 = .ok (.ifnonnull 6, 3) := by decide +kernel
theorem dX10_keep_15 : decode cX10_keep 15 = .ok (.bipush (-2), 2) := by decide +kernel
theorem dX10_keep_17 : decode cX10_keep 17 = .ok (.ireturn, 1) := by decide +kernel
theorem dX10_keep_18 : decode cX10_keep 18 = .ok (.aload_n 0, 1) := by decide +kernel
theorem dX10_keep_19 : decode cX10_keep 19 = .ok (.iload_n 1, 1) := by decide +kernel
theorem dX10_keep_20 : decode cX10_keep 20 = .ok (.iload_n 2, 1) := by decide +kernel
theorem dX10_keep_21 : decode cX10_keep 21 = .ok (.invokevirtual 285, 3) := by decide +kernel
theorem dX10_keep_24 : decode cX10_keep 24 = .ok (.istore 4, 2) := by decide +kernel
theorem dX10_keep_26 : decode cX10_keep 26 = .ok (.iload 4, 2) := by decide +kernel
theorem dX10_keep_28 : decode cX10_keep 28 = .ok (.ifCond .eq 6, 3) := by decide +kernel
theorem dX10_keep_31 : decode cX10_keep 31 = .ok (.iload 4, 2) := by decide +kernel
theorem dX10_keep_33 : decode cX10_keep 33 = .ok (.ireturn, 1) := by decide +kernel
theorem dX10_keep_34 : decode cX10_keep 34 = .ok (.aload_n 0, 1) := by decide +kernel
theorem dX10_keep_35 : decode cX10_keep 35 = .ok (.getfield 29, 3) := by decide +kernel
theorem dX10_keep_38 : decode cX10_keep 38 = .ok (.iload_n 1, 1) := by decide +kernel
theorem dX10_keep_39 : decode cX10_keep 39 = .ok (.aaload, 1) := by decide +kernel
theorem dX10_keep_40 : decode cX10_keep 40 = .ok (.getfield 288, 3) := by decide +kernel
theorem dX10_keep_43 : decode cX10_keep 43 = .ok (.iload_n 2, 1) := by decide +kernel
theorem dX10_keep_44 : decode cX10_keep 44 = .ok (.aaload, 1) := by decide +kernel
theorem dX10_keep_45 : decode cX10_keep 45 = .ok (.iload_n 3, 1) := by decide +kernel
theorem dX10_keep_46 : decode cX10_keep 46 = .ok (.invokevirtual 292, 3) := by decide +kernel
theorem dX10_keep_49 : decode cX10_keep 49 = .ok (.iconst 1, 1) := by decide +kernel
theorem dX10_keep_50 : decode cX10_keep 50 = .ok (.ireturn, 1) := by decide +kernel
theorem dX11_lacks_0 : decode cX11_lacks 0 = .ok (.aload_n 0, 1) := by decide +kernel
theorem dX11_lacks_1 : decode cX11_lacks 1 = .ok (.getfield 122, 3) := by decide +kernel
theorem dX11_lacks_4 : decode cX11_lacks 4 = .ok (.iload_n 1, 1) := by decide +kernel
theorem dX11_lacks_5 : decode cX11_lacks 5 = .ok (.baload, 1) := by decide +kernel
theorem dX11_lacks_6 : decode cX11_lacks 6 = .ok (.ifCond .ne 7, 3) := by decide +kernel
theorem dX11_lacks_9 : decode cX11_lacks 9 = .ok (.iconst 1, 1) := by decide +kernel
theorem dX11_lacks_10 : decode cX11_lacks 10 = .ok (.goto 24, 3) := by decide +kernel
theorem dX11_lacks_13 : decode cX11_lacks 13 = .ok (.iload_n 2, 1) := by decide +kernel
theorem dX11_lacks_14 : decode cX11_lacks 14 = .ok (.iconst 0, 1) := by decide +kernel
theorem dX11_lacks_15 : decode cX11_lacks 15 = .ok (.aload_n 0, 1) := by decide +kernel
theorem dX11_lacks_16 : decode cX11_lacks 16 = .ok (.getfield 125, 3) := by decide +kernel
theorem dX11_lacks_19 : decode cX11_lacks 19 = .ok (.iload_n 1, 1) := by decide +kernel
theorem dX11_lacks_20 : decode cX11_lacks 20 = .ok (.iaload, 1) := by decide +kernel
theorem dX11_lacks_21 : decode cX11_lacks 21 = .ok (.iconst 1, 1) := by decide +kernel
theorem dX11_lacks_22 : decode cX11_lacks 22 = .ok (.isub, 1) := by decide +kernel
theorem dX11_lacks_23 : decode cX11_lacks 23 = .ok (.invokestatic 172, 3) := by decide +kernel
theorem dX11_lacks_26 : decode cX11_lacks 26 = .ok (.ifCond .eq 7, 3) := by decide +kernel
theorem dX11_lacks_29 : decode cX11_lacks 29 = .ok (.iconst 0, 1) := by decide +kernel
theorem dX11_lacks_30 : decode cX11_lacks 30 = .ok (.goto 4, 3) := by decide +kernel
theorem dX11_lacks_33 : decode cX11_lacks 33 = .ok (.iconst 2, 1) := by decide +kernel
theorem dX11_lacks_34 : decode cX11_lacks 34 = .ok (.ireturn, 1) := by decide +kernel
theorem dX11_keep_0 : decode cX11_keep 0 = .ok (.iload_n 1, 1) := by decide +kernel
theorem dX11_keep_1 : decode cX11_keep 1 = .ok (.invokestatic 326, 3) := by decide +kernel
theorem dX11_keep_4 : decode cX11_keep 4 = .ok (.ifCond .eq 11, 3) := by decide +kernel
theorem dX11_keep_7 : decode cX11_keep 7 = .ok (.aload_n 0, 1) := by decide +kernel
theorem dX11_keep_8 : decode cX11_keep 8 = .ok (.iload_n 3, 1) := by decide +kernel
theorem dX11_keep_9 : decode cX11_keep 9 = .ok (.invokevirtual 291, 3) := by decide +kernel
theorem dX11_keep_12 : decode cX11_keep 12 = .ok (.ifCond .ne 6, 3) := by decide +kernel
theorem dX11_keep_15 : decode cX11_keep 15 = .ok (.bipush (-2), 2) := by decide +kernel
theorem dX11_keep_17 : decode cX11_keep 17 = .ok (.ireturn, 1) := by decide +kernel
theorem dX11_keep_18 : decode cX11_keep 18 = .ok (.aload_n 0, 1) := by decide +kernel
theorem dX11_keep_19 : decode cX11_keep 19 = .ok (.iload_n 1, 1) := by decide +kernel
theorem dX11_keep_20 : decode cX11_keep 20 = .ok (.iload_n 2, 1) := by decide +kernel
theorem dX11_keep_21 : decode cX11_keep 21 = .ok (.invokevirtual 329, 3) := by decide +kernel
theorem dX11_keep_24 : decode cX11_keep 24 = .ok (.istore 4, 2) := by decide +kernel
theorem dX11_keep_26 : decode cX11_keep 26 = .ok (.iload 4, 2) := by decide +kernel
theorem dX11_keep_28 : decode cX11_keep 28 = .ok (.ifCond .le 10, 3) := by decide +kernel
theorem dX11_keep_31 : decode cX11_keep 31 = .ok (.aload_n 0, 1) := by decide +kernel
theorem dX11_keep_32 : decode cX11_keep 32 = .ok (.iload 4, 2) := by decide +kernel
theorem dX11_keep_34 : decode cX11_keep 34 = .ok (.invokevirtual 316, 3) := by decide +kernel
theorem dX11_keep_37 : decode cX11_keep 37 = .ok (.ireturn, 1) := by decide +kernel
theorem dX11_keep_38 : decode cX11_keep 38 = .ok (.aload_n 0, 1) := by decide +kernel
theorem dX11_keep_39 : decode cX11_keep 39 = .ok (.getfield 128, 3) := by decide +kernel
theorem dX11_keep_42 : decode cX11_keep 42 = .ok (.bipush 12, 2) := by decide +kernel
theorem dX11_keep_44 : decode cX11_keep 44 = .ok (.iload_n 1, 1) := by decide +kernel
theorem dX11_keep_45 : decode cX11_keep 45 = .ok (.imul, 1) := by decide +kernel
theorem dX11_keep_46 : decode cX11_keep 46 = .ok (.iload_n 2, 1) := by decide +kernel
theorem dX11_keep_47 : decode cX11_keep 47 = .ok (.iadd, 1) := by decide +kernel
theorem dX11_keep_48 : decode cX11_keep 48 = .ok (.iconst 1, 1) := by decide +kernel
theorem dX11_keep_49 : decode cX11_keep 49 = .ok (.iastore, 1) := by decide +kernel
theorem dX11_keep_50 : decode cX11_keep 50 = .ok (.aload_n 0, 1) := by decide +kernel
theorem dX11_keep_51 : decode cX11_keep 51 = .ok (.getfield 131, 3) := by decide +kernel
theorem dX11_keep_54 : decode cX11_keep 54 = .ok (.bipush 12, 2) := by decide +kernel
theorem dX11_keep_56 : decode cX11_keep 56 = .ok (.iload_n 1, 1) := by decide +kernel
theorem dX11_keep_57 : decode cX11_keep 57 = .ok (.imul, 1) := by decide +kernel
theorem dX11_keep_58 : decode cX11_keep 58 = .ok (.iload_n 2, 1) := by decide +kernel
theorem dX11_keep_59 : decode cX11_keep 59 = .ok (.iadd, 1) := by decide +kernel
theorem dX11_keep_60 : decode cX11_keep 60 = .ok (.iload_n 3, 1) := by decide +kernel
theorem dX11_keep_61 : decode cX11_keep 61 = .ok (.iastore, 1) := by decide +kernel
theorem dX11_keep_62 : decode cX11_keep 62 = .ok (.iconst 1, 1) := by decide +kernel
theorem dX11_keep_63 : decode cX11_keep 63 = .ok (.ireturn, 1) := by decide +kernel
theorem dX8_holdNote_0 : decode cX8_holdNote 0 = .ok (.aload_n 0, 1) := by decide +kernel
theorem dX8_holdNote_1 : decode cX8_holdNote 1 = .ok (.iconst 2, 1) := by decide +kernel
theorem dX8_holdNote_2 : decode cX8_holdNote 2 = .ok (.putfield 15, 3) := by decide +kernel
theorem dX8_holdNote_5 : decode cX8_holdNote 5 = .ok (.aload_n 0, 1) := by decide +kernel
theorem dX8_holdNote_6 : decode cX8_holdNote 6 = .ok (.iload_n 3, 1) := by decide +kernel
theorem dX8_holdNote_7 : decode cX8_holdNote 7 = .ok (.putfield 22, 3) := by decide +kernel
theorem dX8_holdNote_10 : decode cX8_holdNote 10 = .ok (.iconst 0, 1) := by decide +kernel
theorem dX8_holdNote_11 : decode cX8_holdNote 11 = .ok (.istore 4, 2) := by decide +kernel
theorem dX8_holdNote_13 : decode cX8_holdNote 13 = .ok (.iload 4, 2) := by decide +kernel
theorem dX8_holdNote_15 : decode cX8_holdNote 15 = .ok (.iload_n 3, 1) := by decide +kernel
theorem dX8_holdNote_16 : decode cX8_holdNote 16 = .ok (.if_icmp .ge 31, 3) := by decide +kernel
theorem dX8_holdNote_19 : decode cX8_holdNote 19 = .ok (.aload_n 0, 1) := by decide +kernel
theorem dX8_holdNote_20 : decode cX8_holdNote 20 = .ok (.getfield 9, 3) := by decide +kernel
theorem dX8_holdNote_23 : decode cX8_holdNote 23 = .ok (.iload 4, 2) := by decide +kernel
theorem dX8_holdNote_25 : decode cX8_holdNote 25 = .ok (.lload_n 1, 1) := by decide +kernel
theorem dX8_holdNote_26 : decode cX8_holdNote 26 = .ok (.bipush 16, 2) := by decide +kernel
theorem dX8_holdNote_28 : decode cX8_holdNote 28 = .ok (.iload_n 3, 1) := by decide +kernel
theorem dX8_holdNote_29 : decode cX8_holdNote 29 = .ok (.iconst 1, 1) := by decide +kernel
theorem dX8_holdNote_30 : decode cX8_holdNote 30 = .ok (.isub, 1) := by decide +kernel
theorem dX8_holdNote_31 : decode cX8_holdNote 31 = .ok (.iload 4, 2) := by decide +kernel
theorem dX8_holdNote_33 : decode cX8_holdNote 33 = .ok (.isub, 1) := by decide +kernel
theorem dX8_holdNote_34 : decode cX8_holdNote 34 = .ok (.imul, 1) := by decide +kernel
theorem dX8_holdNote_35 : decode cX8_holdNote 35 = .ok (.lushr, 1) := by decide +kernel
theorem dX8_holdNote_36 : decode cX8_holdNote 36 = .ok (.l2i, 1) := by decide +kernel
theorem dX8_holdNote_37 : decode cX8_holdNote 37 = .ok (.ldc 25, 2) := by decide +kernel
theorem dX8_holdNote_39 : decode cX8_holdNote 39 = .ok (.iand, 1) := by decide +kernel
theorem dX8_holdNote_40 : decode cX8_holdNote 40 = .ok (.iastore, 1) := by decide +kernel
theorem dX8_holdNote_41 : decode cX8_holdNote 41 = .ok (.iinc 4 1, 3) := by decide +kernel
theorem dX8_holdNote_44 : decode cX8_holdNote 44 = .ok (.goto (-31), 3) := by decide +kernel
theorem dX8_holdNote_47 : decode cX8_holdNote 47 = .ok (.return_, 1) := by decide +kernel
theorem dX10_note_0 : decode cX10_note 0 = .ok (.iload_n 1, 1) := by decide +kernel
theorem dX10_note_1 : decode cX10_note 1 = .ok (.invokestatic 162, 3) := by decide +kernel
theorem dX10_note_4 : decode cX10_note 4 = .ok (.ifCond .ne 6, 3) := by decide +kernel
theorem dX10_note_7 : decode cX10_note 7 = .ok (.bipush (-2), 2) := by decide +kernel
theorem dX10_note_9 : decode cX10_note 9 = .ok (.ireturn, 1) := by decide +kernel
theorem dX10_note_10 : decode cX10_note 10 = .ok (.iload 5, 2) := by decide +kernel
theorem dX10_note_12 : decode cX10_note 12 = .ok (.iconst 1, 1) := by decide +kernel
theorem dX10_note_13 : decode cX10_note 13 = .ok (.if_icmp .lt 9, 3) := by decide +kernel
theorem dX10_note_16 : decode cX10_note 16 = .ok (.iload 5, 2) := by decide +kernel
theorem dX10_note_18 : decode cX10_note 18 = .ok (.iconst 4, 1) := by decide +kernel
theorem dX10_note_19 : decode cX10_note 19 = .ok (.if_icmp .le 6, 3) := by decide +kernel
theorem dX10_note_22 : decode cX10_note 22 = .ok (.bipush (-3), 2) := by decide +kernel
theorem dX10_note_24 : decode cX10_note 24 = .ok (.ireturn, 1) := by decide +kernel
theorem dX10_note_25 : decode cX10_note 25 = .ok (.aload_n 0, 1) := by decide +kernel
theorem dX10_note_26 : decode cX10_note 26 = .ok (.iload_n 1, 1) := by decide +kernel
theorem dX10_note_27 : decode cX10_note 27 = .ok (.iload_n 2, 1) := by decide +kernel
theorem dX10_note_28 : decode cX10_note 28 = .ok (.invokevirtual 285, 3) := by decide +kernel
theorem dX10_note_31 : decode cX10_note 31 = .ok (.istore 6, 2) := by decide +kernel
theorem dX10_note_33 : decode cX10_note 33 = .ok (.iload 6, 2) := by decide +kernel
theorem dX10_note_35 : decode cX10_note 35 = .ok (.ifCond .eq 6, 3) := by decide +kernel
theorem dX10_note_38 : decode cX10_note 38 = .ok (.iload 6, 2) := by decide +kernel
theorem dX10_note_40 : decode cX10_note 40 = .ok (.ireturn, 1) := by decide +kernel
theorem dX10_note_41 : decode cX10_note 41 = .ok (.aload_n 0, 1) := by decide +kernel
theorem dX10_note_42 : decode cX10_note 42 = .ok (.getfield 29, 3) := by decide +kernel
theorem dX10_note_45 : decode cX10_note 45 = .ok (.iload_n 1, 1) := by decide +kernel
theorem dX10_note_46 : decode cX10_note 46 = .ok (.aaload, 1) := by decide +kernel
theorem dX10_note_47 : decode cX10_note 47 = .ok (.getfield 288, 3) := by decide +kernel
theorem dX10_note_50 : decode cX10_note 50 = .ok (.iload_n 2, 1) := by decide +kernel
theorem dX10_note_51 : decode cX10_note 51 = .ok (.aaload, 1) := by decide +kernel
theorem dX10_note_52 : decode cX10_note 52 = .ok (.lload_n 3, 1) := by decide +kernel
theorem dX10_note_53 : decode cX10_note 53 = .ok (.iload 5, 2) := by decide +kernel
theorem dX10_note_55 : decode cX10_note 55 = .ok (.invokevirtual 297, 3) := by decide +kernel
theorem dX10_note_58 : decode cX10_note 58 = .ok (.iload 5, 2) := by decide +kernel
theorem dX10_note_60 : decode cX10_note 60 = .ok (.ireturn, 1) := by decide +kernel
theorem dX11_note_0 : decode cX11_note 0 = .ok (.iload_n 1, 1) := by decide +kernel
theorem dX11_note_1 : decode cX11_note 1 = .ok (.invokestatic 326, 3) := by decide +kernel
theorem dX11_note_4 : decode cX11_note 4 = .ok (.ifCond .ne 6, 3) := by decide +kernel
theorem dX11_note_7 : decode cX11_note 7 = .ok (.bipush (-2), 2) := by decide +kernel
theorem dX11_note_9 : decode cX11_note 9 = .ok (.ireturn, 1) := by decide +kernel
theorem dX11_note_10 : decode cX11_note 10 = .ok (.iload 5, 2) := by decide +kernel
theorem dX11_note_12 : decode cX11_note 12 = .ok (.iconst 1, 1) := by decide +kernel
theorem dX11_note_13 : decode cX11_note 13 = .ok (.iconst 4, 1) := by decide +kernel
theorem dX11_note_14 : decode cX11_note 14 = .ok (.invokestatic 172, 3) := by decide +kernel
theorem dX11_note_17 : decode cX11_note 17 = .ok (.ifCond .ne 6, 3) := by decide +kernel
theorem dX11_note_20 : decode cX11_note 20 = .ok (.bipush (-3), 2) := by decide +kernel
theorem dX11_note_22 : decode cX11_note 22 = .ok (.ireturn, 1) := by decide +kernel
theorem dX11_note_23 : decode cX11_note 23 = .ok (.aload_n 0, 1) := by decide +kernel
theorem dX11_note_24 : decode cX11_note 24 = .ok (.iload_n 1, 1) := by decide +kernel
theorem dX11_note_25 : decode cX11_note 25 = .ok (.iload_n 2, 1) := by decide +kernel
theorem dX11_note_26 : decode cX11_note 26 = .ok (.invokevirtual 329, 3) := by decide +kernel
theorem dX11_note_29 : decode cX11_note 29 = .ok (.istore 6, 2) := by decide +kernel
theorem dX11_note_31 : decode cX11_note 31 = .ok (.iload 6, 2) := by decide +kernel
theorem dX11_note_33 : decode cX11_note 33 = .ok (.ifCond .le 10, 3) := by decide +kernel
theorem dX11_note_36 : decode cX11_note 36 = .ok (.aload_n 0, 1) := by decide +kernel
theorem dX11_note_37 : decode cX11_note 37 = .ok (.iload 6, 2) := by decide +kernel
theorem dX11_note_39 : decode cX11_note 39 = .ok (.invokevirtual 316, 3) := by decide +kernel
theorem dX11_note_42 : decode cX11_note 42 = .ok (.ireturn, 1) := by decide +kernel
theorem dX11_note_43 : decode cX11_note 43 = .ok (.bipush 12, 2) := by decide +kernel
theorem dX11_note_45 : decode cX11_note 45 = .ok (.iload_n 1, 1) := by decide +kernel
theorem dX11_note_46 : decode cX11_note 46 = .ok (.imul, 1) := by decide +kernel
theorem dX11_note_47 : decode cX11_note 47 = .ok (.iload_n 2, 1) := by decide +kernel
theorem dX11_note_48 : decode cX11_note 48 = .ok (.iadd, 1) := by decide +kernel
theorem dX11_note_49 : decode cX11_note 49 = .ok (.istore 7, 2) := by decide +kernel
theorem dX11_note_51 : decode cX11_note 51 = .ok (.aload_n 0, 1) := by decide +kernel
theorem dX11_note_52 : decode cX11_note 52 = .ok (.getfield 128, 3) := by decide +kernel
theorem dX11_note_55 : decode cX11_note 55 = .ok (.iload 7, 2) := by decide +kernel
theorem dX11_note_57 : decode cX11_note 57 = .ok (.iconst 2, 1) := by decide +kernel
theorem dX11_note_58 : decode cX11_note 58 = .ok (.iastore, 1) := by decide +kernel
theorem dX11_note_59 : decode cX11_note 59 = .ok (.aload_n 0, 1) := by decide +kernel
theorem dX11_note_60 : decode cX11_note 60 = .ok (.getfield 134, 3) := by decide +kernel
theorem dX11_note_63 : decode cX11_note 63 = .ok (.iload 7, 2) := by decide +kernel
theorem dX11_note_65 : decode cX11_note 65 = .ok (.iload 5, 2) := by decide +kernel
theorem dX11_note_67 : decode cX11_note 67 = .ok (.iastore, 1) := by decide +kernel
theorem dX11_note_68 : decode cX11_note 68 = .ok (.iconst 0, 1) := by decide +kernel
theorem dX11_note_69 : decode cX11_note 69 = .ok (.istore 8, 2) := by decide +kernel
theorem dX11_note_71 : decode cX11_note 71 = .ok (.iload 8, 2) := by decide +kernel
theorem dX11_note_73 : decode cX11_note 73 = .ok (.iload 5, 2) := by decide +kernel
theorem dX11_note_75 : decode cX11_note 75 = .ok (.if_icmp .ge 38, 3) := by decide +kernel
theorem dX11_note_78 : decode cX11_note 78 = .ok (.aload_n 0, 1) := by decide +kernel
theorem dX11_note_79 : decode cX11_note 79 = .ok (.getfield 137, 3) := by decide +kernel
theorem dX11_note_82 : decode cX11_note 82 = .ok (.iconst 4, 1) := by decide +kernel
theorem dX11_note_83 : decode cX11_note 83 = .ok (.iload 7, 2) := by decide +kernel
theorem dX11_note_85 : decode cX11_note 85 = .ok (.imul, 1) := by decide +kernel
theorem dX11_note_86 : decode cX11_note 86 = .ok (.iload 8, 2) := by decide +kernel
theorem dX11_note_88 : decode cX11_note 88 = .ok (.iadd, 1) := by decide +kernel
theorem dX11_note_89 : decode cX11_note 89 = .ok (.lload_n 3, 1) := by decide +kernel
theorem dX11_note_90 : decode cX11_note 90 = .ok (.bipush 16, 2) := by decide +kernel
theorem dX11_note_92 : decode cX11_note 92 = .ok (.iload 5, 2) := by decide +kernel
theorem dX11_note_94 : decode cX11_note 94 = .ok (.iconst 1, 1) := by decide +kernel
theorem dX11_note_95 : decode cX11_note 95 = .ok (.isub, 1) := by decide +kernel
theorem dX11_note_96 : decode cX11_note 96 = .ok (.iload 8, 2) := by decide +kernel
theorem dX11_note_98 : decode cX11_note 98 = .ok (.isub, 1) := by decide +kernel
theorem dX11_note_99 : decode cX11_note 99 = .ok (.imul, 1) := by decide +kernel
theorem dX11_note_100 : decode cX11_note 100 = .ok (.lshr, 1) := by decide +kernel
theorem dX11_note_101 : decode cX11_note 101 = .ok (.ldc2_w 332, 3) := by decide +kernel
theorem dX11_note_104 : decode cX11_note 104 = .ok (.land, 1) := by decide +kernel
theorem dX11_note_105 : decode cX11_note 105 = .ok (.l2i, 1) := by decide +kernel
theorem dX11_note_106 : decode cX11_note 106 = .ok (.iastore, 1) := by decide +kernel
theorem dX11_note_107 : decode cX11_note 107 = .ok (.iinc 8 1, 3) := by decide +kernel
theorem dX11_note_110 : decode cX11_note 110 = .ok (.goto (-39), 3) := by decide +kernel
theorem dX11_note_113 : decode cX11_note 113 = .ok (.iload 5, 2) := by decide +kernel
theorem dX11_note_115 : decode cX11_note 115 = .ok (.ireturn, 1) := by decide +kernel
theorem dJ7_fill_53178_0 : decode cJ7_fill_53178 0 = .ok (.iconst 0, 1) := by decide +kernel
theorem dJ7_fill_53178_1 : decode cJ7_fill_53178 1 = .ok (.istore_n 2, 1) := by decide +kernel
theorem dJ7_fill_53178_2 : decode cJ7_fill_53178 2 = .ok (.aload_n 0, 1) := by decide +kernel
theorem dJ7_fill_53178_3 : decode cJ7_fill_53178 3 = .ok (.arraylength, 1) := by decide +kernel
theorem dJ7_fill_53178_4 : decode cJ7_fill_53178 4 = .ok (.istore_n 3, 1) := by decide +kernel
theorem dJ7_fill_53178_5 : decode cJ7_fill_53178 5 = .ok (.iload_n 2, 1) := by decide +kernel
theorem dJ7_fill_53178_6 : decode cJ7_fill_53178 6 = .ok (.iload_n 3, 1) := by decide +kernel
theorem dJ7_fill_53178_7 : decode cJ7_fill_53178 7 = .ok (.if_icmp .ge 13, 3) := by decide +kernel
theorem dJ7_fill_53178_10 : decode cJ7_fill_53178 10 = .ok (.aload_n 0, 1) := by decide +kernel
theorem dJ7_fill_53178_11 : decode cJ7_fill_53178 11 = .ok (.iload_n 2, 1) := by decide +kernel
theorem dJ7_fill_53178_12 : decode cJ7_fill_53178 12 = .ok (.iload_n 1, 1) := by decide +kernel
theorem dJ7_fill_53178_13 : decode cJ7_fill_53178 13 = .ok (.iastore, 1) := by decide +kernel
theorem dJ7_fill_53178_14 : decode cJ7_fill_53178 14 = .ok (.iinc 2 1, 3) := by decide +kernel
theorem dJ7_fill_53178_17 : decode cJ7_fill_53178 17 = .ok (.goto (-12), 3) := by decide +kernel
theorem dJ7_fill_53178_20 : decode cJ7_fill_53178 20 = .ok (.return_, 1) := by decide +kernel
theorem dX8_holdCoins_0 : decode cX8_holdCoins 0 = .ok (.aload_n 0, 1) := by decide +kernel
theorem dX8_holdCoins_1 : decode cX8_holdCoins 1 = .ok (.iconst 3, 1) := by decide +kernel
theorem dX8_holdCoins_2 : decode cX8_holdCoins 2 = .ok (.putfield 15, 3) := by decide +kernel
theorem dX8_holdCoins_5 : decode cX8_holdCoins 5 = .ok (.aload_n 0, 1) := by decide +kernel
theorem dX8_holdCoins_6 : decode cX8_holdCoins 6 = .ok (.iload_n 1, 1) := by decide +kernel
theorem dX8_holdCoins_7 : decode cX8_holdCoins 7 = .ok (.putfield 22, 3) := by decide +kernel
theorem dX8_holdCoins_10 : decode cX8_holdCoins 10 = .ok (.aload_n 0, 1) := by decide +kernel
theorem dX8_holdCoins_11 : decode cX8_holdCoins 11 = .ok (.getfield 9, 3) := by decide +kernel
theorem dX8_holdCoins_14 : decode cX8_holdCoins 14 = .ok (.iconst 0, 1) := by decide +kernel
theorem dX8_holdCoins_15 : decode cX8_holdCoins 15 = .ok (.invokestatic 26, 3) := by decide +kernel
theorem dX8_holdCoins_18 : decode cX8_holdCoins 18 = .ok (.return_, 1) := by decide +kernel
theorem dX10_coins_0 : decode cX10_coins 0 = .ok (.iload_n 1, 1) := by decide +kernel
theorem dX10_coins_1 : decode cX10_coins 1 = .ok (.invokestatic 162, 3) := by decide +kernel
theorem dX10_coins_4 : decode cX10_coins 4 = .ok (.ifCond .ne 6, 3) := by decide +kernel
theorem dX10_coins_7 : decode cX10_coins 7 = .ok (.bipush (-2), 2) := by decide +kernel
theorem dX10_coins_9 : decode cX10_coins 9 = .ok (.ireturn, 1) := by decide +kernel
theorem dX10_coins_10 : decode cX10_coins 10 = .ok (.iload_n 3, 1) := by decide +kernel
theorem dX10_coins_11 : decode cX10_coins 11 = .ok (.bipush 8, 2) := by decide +kernel
theorem dX10_coins_13 : decode cX10_coins 13 = .ok (.if_icmp .le 6, 3) := by decide +kernel
theorem dX10_coins_16 : decode cX10_coins 16 = .ok (.bipush (-3), 2) := by decide +kernel
theorem dX10_coins_18 : decode cX10_coins 18 = .ok (.ireturn, 1) := by decide +kernel
theorem dX10_coins_19 : decode cX10_coins 19 = .ok (.aload_n 0, 1) := by decide +kernel
theorem dX10_coins_20 : decode cX10_coins 20 = .ok (.iload_n 1, 1) := by decide +kernel
theorem dX10_coins_21 : decode cX10_coins 21 = .ok (.iload_n 2, 1) := by decide +kernel
theorem dX10_coins_22 : decode cX10_coins 22 = .ok (.invokevirtual 285, 3) := by decide +kernel
theorem dX10_coins_25 : decode cX10_coins 25 = .ok (.istore 4, 2) := by decide +kernel
theorem dX10_coins_27 : decode cX10_coins 27 = .ok (.iload 4, 2) := by decide +kernel
theorem dX10_coins_29 : decode cX10_coins 29 = .ok (.ifCond .eq 6, 3) := by decide +kernel
theorem dX10_coins_32 : decode cX10_coins 32 = .ok (.iload 4, 2) := by decide +kernel
theorem dX10_coins_34 : decode cX10_coins 34 = .ok (.ireturn, 1) := by decide +kernel
theorem dX10_coins_35 : decode cX10_coins 35 = .ok (.iload_n 3, 1) := by decide +kernel
theorem dX10_coins_36 : decode cX10_coins 36 = .ok (.ifCond .ge 9, 3) := by decide +kernel
theorem dX10_coins_39 : decode cX10_coins 39 = .ok (.aload_n 0, 1) := by decide +kernel
theorem dX10_coins_40 : decode cX10_coins 40 = .ok (.iconst 5, 1) := by decide +kernel
theorem dX10_coins_41 : decode cX10_coins 41 = .ok (.invokevirtual 272, 3) := by decide +kernel
theorem dX10_coins_44 : decode cX10_coins 44 = .ok (.ireturn, 1) := by decide +kernel
theorem dX10_coins_45 : decode cX10_coins 45 = .ok (.aload_n 0, 1) := by decide +kernel
theorem dX10_coins_46 : decode cX10_coins 46 = .ok (.getfield 29, 3) := by decide +kernel
theorem dX10_coins_49 : decode cX10_coins 49 = .ok (.iload_n 1, 1) := by decide +kernel
theorem dX10_coins_50 : decode cX10_coins 50 = .ok (.aaload, 1) := by decide +kernel
theorem dX10_coins_51 : decode cX10_coins 51 = .ok (.getfield 288, 3) := by decide +kernel
theorem dX10_coins_54 : decode cX10_coins 54 = .ok (.iload_n 2, 1) := by decide +kernel
theorem dX10_coins_55 : decode cX10_coins 55 = .ok (.aaload, 1) := by decide +kernel
theorem dX10_coins_56 : decode cX10_coins 56 = .ok (.iload_n 3, 1) := by decide +kernel
theorem dX10_coins_57 : decode cX10_coins 57 = .ok (.invokevirtual 301, 3) := by decide +kernel
theorem dX10_coins_60 : decode cX10_coins 60 = .ok (.iload_n 3, 1) := by decide +kernel
theorem dX10_coins_61 : decode cX10_coins 61 = .ok (.ireturn, 1) := by decide +kernel
theorem dX11_coins_0 : decode cX11_coins 0 = .ok (.iload_n 1, 1) := by decide +kernel
theorem dX11_coins_1 : decode cX11_coins 1 = .ok (.invokestatic 326, 3) := by decide +kernel
theorem dX11_coins_4 : decode cX11_coins 4 = .ok (.ifCond .ne 6, 3) := by decide +kernel
theorem dX11_coins_7 : decode cX11_coins 7 = .ok (.bipush (-2), 2) := by decide +kernel
theorem dX11_coins_9 : decode cX11_coins 9 = .ok (.ireturn, 1) := by decide +kernel
theorem dX11_coins_10 : decode cX11_coins 10 = .ok (.iload_n 3, 1) := by decide +kernel
theorem dX11_coins_11 : decode cX11_coins 11 = .ok (.bipush 8, 2) := by decide +kernel
theorem dX11_coins_13 : decode cX11_coins 13 = .ok (.if_icmp .le 6, 3) := by decide +kernel
theorem dX11_coins_16 : decode cX11_coins 16 = .ok (.bipush (-3), 2) := by decide +kernel
theorem dX11_coins_18 : decode cX11_coins 18 = .ok (.ireturn, 1) := by decide +kernel
theorem dX11_coins_19 : decode cX11_coins 19 = .ok (.aload_n 0, 1) := by decide +kernel
theorem dX11_coins_20 : decode cX11_coins 20 = .ok (.iload_n 1, 1) := by decide +kernel
theorem dX11_coins_21 : decode cX11_coins 21 = .ok (.iload_n 2, 1) := by decide +kernel
theorem dX11_coins_22 : decode cX11_coins 22 = .ok (.invokevirtual 329, 3) := by decide +kernel
theorem dX11_coins_25 : decode cX11_coins 25 = .ok (.istore 4, 2) := by decide +kernel
theorem dX11_coins_27 : decode cX11_coins 27 = .ok (.iload 4, 2) := by decide +kernel
theorem dX11_coins_29 : decode cX11_coins 29 = .ok (.ifCond .ne 11, 3) := by decide +kernel
theorem dX11_coins_32 : decode cX11_coins 32 = .ok (.iload_n 3, 1) := by decide +kernel
theorem dX11_coins_33 : decode cX11_coins 33 = .ok (.ifCond .ge 7, 3) := by decide +kernel
theorem dX11_coins_36 : decode cX11_coins 36 = .ok (.iconst 5, 1) := by decide +kernel
theorem dX11_coins_37 : decode cX11_coins 37 = .ok (.goto 5, 3) := by decide +kernel
theorem dX11_coins_40 : decode cX11_coins 40 = .ok (.iload 4, 2) := by decide +kernel
theorem dX11_coins_42 : decode cX11_coins 42 = .ok (.istore 4, 2) := by decide +kernel
theorem dX11_coins_44 : decode cX11_coins 44 = .ok (.iload 4, 2) := by decide +kernel
theorem dX11_coins_46 : decode cX11_coins 46 = .ok (.ifCond .le 10, 3) := by decide +kernel
theorem dX11_coins_49 : decode cX11_coins 49 = .ok (.aload_n 0, 1) := by decide +kernel
theorem dX11_coins_50 : decode cX11_coins 50 = .ok (.iload 4, 2) := by decide +kernel
theorem dX11_coins_52 : decode cX11_coins 52 = .ok (.invokevirtual 316, 3) := by decide +kernel
theorem dX11_coins_55 : decode cX11_coins 55 = .ok (.ireturn, 1) := by decide +kernel
theorem dX11_coins_56 : decode cX11_coins 56 = .ok (.bipush 12, 2) := by decide +kernel
theorem dX11_coins_58 : decode cX11_coins 58 = .ok (.iload_n 1, 1) := by decide +kernel
theorem dX11_coins_59 : decode cX11_coins 59 = .ok (.imul, 1) := by decide +kernel
theorem dX11_coins_60 : decode cX11_coins 60 = .ok (.iload_n 2, 1) := by decide +kernel
theorem dX11_coins_61 : decode cX11_coins 61 = .ok (.iadd, 1) := by decide +kernel
theorem dX11_coins_62 : decode cX11_coins 62 = .ok (.istore 5, 2) := by decide +kernel
theorem dX11_coins_64 : decode cX11_coins 64 = .ok (.aload_n 0, 1) := by decide +kernel
theorem dX11_coins_65 : decode cX11_coins 65 = .ok (.getfield 128, 3) := by decide +kernel
theorem dX11_coins_68 : decode cX11_coins 68 = .ok (.iload 5, 2) := by decide +kernel
theorem dX11_coins_70 : decode cX11_coins 70 = .ok (.iconst 3, 1) := by decide +kernel
theorem dX11_coins_71 : decode cX11_coins 71 = .ok (.iastore, 1) := by decide +kernel
theorem dX11_coins_72 : decode cX11_coins 72 = .ok (.aload_n 0, 1) := by decide +kernel
theorem dX11_coins_73 : decode cX11_coins 73 = .ok (.getfield 134, 3) := by decide +kernel
theorem dX11_coins_76 : decode cX11_coins 76 = .ok (.iload 5, 2) := by decide +kernel
theorem dX11_coins_78 : decode cX11_coins 78 = .ok (.iload_n 3, 1) := by decide +kernel
theorem dX11_coins_79 : decode cX11_coins 79 = .ok (.iastore, 1) := by decide +kernel
theorem dX11_coins_80 : decode cX11_coins 80 = .ok (.iconst 0, 1) := by decide +kernel
theorem dX11_coins_81 : decode cX11_coins 81 = .ok (.istore 6, 2) := by decide +kernel
theorem dX11_coins_83 : decode cX11_coins 83 = .ok (.iload 6, 2) := by decide +kernel
theorem dX11_coins_85 : decode cX11_coins 85 = .ok (.iload_n 3, 1) := by decide +kernel
theorem dX11_coins_86 : decode cX11_coins 86 = .ok (.if_icmp .ge 23, 3) := by decide +kernel
theorem dX11_coins_89 : decode cX11_coins 89 = .ok (.aload_n 0, 1) := by decide +kernel
theorem dX11_coins_90 : decode cX11_coins 90 = .ok (.getfield 140, 3) := by decide +kernel
theorem dX11_coins_93 : decode cX11_coins 93 = .ok (.bipush 8, 2) := by decide +kernel
theorem dX11_coins_95 : decode cX11_coins 95 = .ok (.iload 5, 2) := by decide +kernel
theorem dX11_coins_97 : decode cX11_coins 97 = .ok (.imul, 1) := by decide +kernel
theorem dX11_coins_98 : decode cX11_coins 98 = .ok (.iload 6, 2) := by decide +kernel
theorem dX11_coins_100 : decode cX11_coins 100 = .ok (.iadd, 1) := by decide +kernel
theorem dX11_coins_101 : decode cX11_coins 101 = .ok (.iconst 0, 1) := by decide +kernel
theorem dX11_coins_102 : decode cX11_coins 102 = .ok (.iastore, 1) := by decide +kernel
theorem dX11_coins_103 : decode cX11_coins 103 = .ok (.iinc 6 1, 3) := by decide +kernel
theorem dX11_coins_106 : decode cX11_coins 106 = .ok (.goto (-23), 3) := by decide +kernel
theorem dX11_coins_109 : decode cX11_coins 109 = .ok (.iload_n 3, 1) := by decide +kernel
theorem dX11_coins_110 : decode cX11_coins 110 = .ok (.ireturn, 1) := by decide +kernel
theorem dX10_kindOf_0 : decode cX10_kindOf 0 = .ok (.aload_n 0, 1) := by decide +kernel
theorem dX10_kindOf_1 : decode cX10_kindOf 1 = .ok (.aload_n 1, 1) := by decide +kernel
theorem dX10_kindOf_2 : decode cX10_kindOf 2 = .ok (.getfield 314, 3) := by decide +kernel
theorem dX10_kindOf_5 : decode cX10_kindOf 5 = .ok (.invokevirtual 187, 3) := by decide +kernel
theorem dX10_kindOf_8 : decode cX10_kindOf 8 = .ok (.astore_n 2, 1) := by decide +kernel
theorem dX10_kindOf_9 : decode cX10_kindOf 9 = .ok (.aload_n 1, 1) := by decide +kernel
theorem dX10_kindOf_10 : decode cX10_kindOf 10 = .ok (.getfield 441, 3) := by decide +kernel
theorem dX10_kindOf_13 : decode cX10_kindOf 13 = .ok (.tableswitch 48 1 3 #[27, 43, 45], 27) := by decide +kernel
theorem dX10_kindOf_40 : decode cX10_kindOf 40 = .ok (.aload_n 2, 1) := by decide +kernel
theorem dX10_kindOf_41 : decode cX10_kindOf 41 = .ok (.ifnonnull 7, 3) := by decide +kernel
theorem dX10_kindOf_44 : decode cX10_kindOf 44 = .ok (.iconst (-1), 1) := by decide +kernel
theorem dX10_kindOf_45 : decode cX10_kindOf 45 = .ok (.goto 10, 3) := by decide +kernel
theorem dX10_kindOf_48 : decode cX10_kindOf 48 = .ok (.aload_n 2, 1) := by decide +kernel
theorem dX10_kindOf_49 : decode cX10_kindOf 49 = .ok (.getfield 191, 3) := by decide +kernel
theorem dX10_kindOf_52 : decode cX10_kindOf 52 = .ok (.getfield 242, 3) := by decide +kernel
theorem dX10_kindOf_55 : decode cX10_kindOf 55 = .ok (.ireturn, 1) := by decide +kernel
theorem dX10_kindOf_56 : decode cX10_kindOf 56 = .ok (.iconst 5, 1) := by decide +kernel
theorem dX10_kindOf_57 : decode cX10_kindOf 57 = .ok (.ireturn, 1) := by decide +kernel
theorem dX10_kindOf_58 : decode cX10_kindOf 58 = .ok (.bipush 6, 2) := by decide +kernel
theorem dX10_kindOf_60 : decode cX10_kindOf 60 = .ok (.ireturn, 1) := by decide +kernel
theorem dX10_kindOf_61 : decode cX10_kindOf 61 = .ok (.iconst (-1), 1) := by decide +kernel
theorem dX10_kindOf_62 : decode cX10_kindOf 62 = .ok (.ireturn, 1) := by decide +kernel
theorem dX10_clear_0 : decode cX10_clear 0 = .ok (.aload_n 0, 1) := by decide +kernel
theorem dX10_clear_1 : decode cX10_clear 1 = .ok (.iload_n 1, 1) := by decide +kernel
theorem dX10_clear_2 : decode cX10_clear 2 = .ok (.iload_n 2, 1) := by decide +kernel
theorem dX10_clear_3 : decode cX10_clear 3 = .ok (.invokevirtual 285, 3) := by decide +kernel
theorem dX10_clear_6 : decode cX10_clear 6 = .ok (.istore_n 3, 1) := by decide +kernel
theorem dX10_clear_7 : decode cX10_clear 7 = .ok (.iload_n 3, 1) := by decide +kernel
theorem dX10_clear_8 : decode cX10_clear 8 = .ok (.ifCond .eq 5, 3) := by decide +kernel
theorem dX10_clear_11 : decode cX10_clear 11 = .ok (.iload_n 3, 1) := by decide +kernel
theorem dX10_clear_12 : decode cX10_clear 12 = .ok (.ireturn, 1) := by decide +kernel
theorem dX10_clear_13 : decode cX10_clear 13 = .ok (.aload_n 0, 1) := by decide +kernel
theorem dX10_clear_14 : decode cX10_clear 14 = .ok (.aload_n 0, 1) := by decide +kernel
theorem dX10_clear_15 : decode cX10_clear 15 = .ok (.getfield 29, 3) := by decide +kernel
theorem dX10_clear_18 : decode cX10_clear 18 = .ok (.iload_n 1, 1) := by decide +kernel
theorem dX10_clear_19 : decode cX10_clear 19 = .ok (.aaload, 1) := by decide +kernel
theorem dX10_clear_20 : decode cX10_clear 20 = .ok (.getfield 288, 3) := by decide +kernel
theorem dX10_clear_23 : decode cX10_clear 23 = .ok (.iload_n 2, 1) := by decide +kernel
theorem dX10_clear_24 : decode cX10_clear 24 = .ok (.aaload, 1) := by decide +kernel
theorem dX10_clear_25 : decode cX10_clear 25 = .ok (.invokevirtual 304, 3) := by decide +kernel
theorem dX10_clear_28 : decode cX10_clear 28 = .ok (.istore 4, 2) := by decide +kernel
theorem dX10_clear_30 : decode cX10_clear 30 = .ok (.aload_n 0, 1) := by decide +kernel
theorem dX10_clear_31 : decode cX10_clear 31 = .ok (.getfield 29, 3) := by decide +kernel
theorem dX10_clear_34 : decode cX10_clear 34 = .ok (.iload_n 1, 1) := by decide +kernel
theorem dX10_clear_35 : decode cX10_clear 35 = .ok (.aaload, 1) := by decide +kernel
theorem dX10_clear_36 : decode cX10_clear 36 = .ok (.getfield 288, 3) := by decide +kernel
theorem dX10_clear_39 : decode cX10_clear 39 = .ok (.iload_n 2, 1) := by decide +kernel
theorem dX10_clear_40 : decode cX10_clear 40 = .ok (.aaload, 1) := by decide +kernel
theorem dX10_clear_41 : decode cX10_clear 41 = .ok (.invokevirtual 308, 3) := by decide +kernel
theorem dX10_clear_44 : decode cX10_clear 44 = .ok (.iload 4, 2) := by decide +kernel
theorem dX10_clear_46 : decode cX10_clear 46 = .ok (.ireturn, 1) := by decide +kernel
theorem dX11_kindAt_0 : decode cX11_kindAt 0 = .ok (.aload_n 0, 1) := by decide +kernel
theorem dX11_kindAt_1 : decode cX11_kindAt 1 = .ok (.getfield 128, 3) := by decide +kernel
theorem dX11_kindAt_4 : decode cX11_kindAt 4 = .ok (.iload_n 1, 1) := by decide +kernel
theorem dX11_kindAt_5 : decode cX11_kindAt 5 = .ok (.iaload, 1) := by decide +kernel
theorem dX11_kindAt_6 : decode cX11_kindAt 6 = .ok (.ifCond .ne 7, 3) := by decide +kernel
theorem dX11_kindAt_9 : decode cX11_kindAt 9 = .ok (.iconst (-1), 1) := by decide +kernel
theorem dX11_kindAt_10 : decode cX11_kindAt 10 = .ok (.goto 46, 3) := by decide +kernel
theorem dX11_kindAt_13 : decode cX11_kindAt 13 = .ok (.aload_n 0, 1) := by decide +kernel
theorem dX11_kindAt_14 : decode cX11_kindAt 14 = .ok (.getfield 128, 3) := by decide +kernel
theorem dX11_kindAt_17 : decode cX11_kindAt 17 = .ok (.iload_n 1, 1) := by decide +kernel
theorem dX11_kindAt_18 : decode cX11_kindAt 18 = .ok (.iaload, 1) := by decide +kernel
theorem dX11_kindAt_19 : decode cX11_kindAt 19 = .ok (.iconst 1, 1) := by decide +kernel
theorem dX11_kindAt_20 : decode cX11_kindAt 20 = .ok (.if_icmp .ne 20, 3) := by decide +kernel
theorem dX11_kindAt_23 : decode cX11_kindAt 23 = .ok (.aload_n 0, 1) := by decide +kernel
theorem dX11_kindAt_24 : decode cX11_kindAt 24 = .ok (.getfield 68, 3) := by decide +kernel
theorem dX11_kindAt_27 : decode cX11_kindAt 27 = .ok (.aload_n 0, 1) := by decide +kernel
theorem dX11_kindAt_28 : decode cX11_kindAt 28 = .ok (.getfield 131, 3) := by decide +kernel
theorem dX11_kindAt_31 : decode cX11_kindAt 31 = .ok (.iload_n 1, 1) := by decide +kernel
theorem dX11_kindAt_32 : decode cX11_kindAt 32 = .ok (.iaload, 1) := by decide +kernel
theorem dX11_kindAt_33 : decode cX11_kindAt 33 = .ok (.iaload, 1) := by decide +kernel
theorem dX11_kindAt_34 : decode cX11_kindAt 34 = .ok (.invokestatic 218, 3) := by decide +kernel
theorem dX11_kindAt_37 : decode cX11_kindAt 37 = .ok (.goto 19, 3) := by decide +kernel
theorem dX11_kindAt_40 : decode cX11_kindAt 40 = .ok (.aload_n 0, 1) := by decide +kernel
theorem dX11_kindAt_41 : decode cX11_kindAt 41 = .ok (.getfield 128, 3) := by decide +kernel
theorem dX11_kindAt_44 : decode cX11_kindAt 44 = .ok (.iload_n 1, 1) := by decide +kernel
theorem dX11_kindAt_45 : decode cX11_kindAt 45 = .ok (.iaload, 1) := by decide +kernel
theorem dX11_kindAt_46 : decode cX11_kindAt 46 = .ok (.iconst 2, 1) := by decide +kernel
theorem dX11_kindAt_47 : decode cX11_kindAt 47 = .ok (.if_icmp .ne 7, 3) := by decide +kernel
theorem dX11_kindAt_50 : decode cX11_kindAt 50 = .ok (.iconst 5, 1) := by decide +kernel
theorem dX11_kindAt_51 : decode cX11_kindAt 51 = .ok (.goto 5, 3) := by decide +kernel
theorem dX11_kindAt_54 : decode cX11_kindAt 54 = .ok (.bipush 6, 2) := by decide +kernel
theorem dX11_kindAt_56 : decode cX11_kindAt 56 = .ok (.ireturn, 1) := by decide +kernel
theorem dX11_clear_0 : decode cX11_clear 0 = .ok (.iload_n 1, 1) := by decide +kernel
theorem dX11_clear_1 : decode cX11_clear 1 = .ok (.invokestatic 326, 3) := by decide +kernel
theorem dX11_clear_4 : decode cX11_clear 4 = .ok (.ifCond .ne 6, 3) := by decide +kernel
theorem dX11_clear_7 : decode cX11_clear 7 = .ok (.bipush (-2), 2) := by decide +kernel
theorem dX11_clear_9 : decode cX11_clear 9 = .ok (.ireturn, 1) := by decide +kernel
theorem dX11_clear_10 : decode cX11_clear 10 = .ok (.aload_n 0, 1) := by decide +kernel
theorem dX11_clear_11 : decode cX11_clear 11 = .ok (.iload_n 1, 1) := by decide +kernel
theorem dX11_clear_12 : decode cX11_clear 12 = .ok (.iload_n 2, 1) := by decide +kernel
theorem dX11_clear_13 : decode cX11_clear 13 = .ok (.invokevirtual 329, 3) := by decide +kernel
theorem dX11_clear_16 : decode cX11_clear 16 = .ok (.istore_n 3, 1) := by decide +kernel
theorem dX11_clear_17 : decode cX11_clear 17 = .ok (.iload_n 3, 1) := by decide +kernel
theorem dX11_clear_18 : decode cX11_clear 18 = .ok (.ifCond .le 9, 3) := by decide +kernel
theorem dX11_clear_21 : decode cX11_clear 21 = .ok (.aload_n 0, 1) := by decide +kernel
theorem dX11_clear_22 : decode cX11_clear 22 = .ok (.iload_n 3, 1) := by decide +kernel
theorem dX11_clear_23 : decode cX11_clear 23 = .ok (.invokevirtual 316, 3) := by decide +kernel
theorem dX11_clear_26 : decode cX11_clear 26 = .ok (.ireturn, 1) := by decide +kernel
theorem dX11_clear_27 : decode cX11_clear 27 = .ok (.aload_n 0, 1) := by decide +kernel
theorem dX11_clear_28 : decode cX11_clear 28 = .ok (.bipush 12, 2) := by decide +kernel
theorem dX11_clear_30 : decode cX11_clear 30 = .ok (.iload_n 1, 1) := by decide +kernel
theorem dX11_clear_31 : decode cX11_clear 31 = .ok (.imul, 1) := by decide +kernel
theorem dX11_clear_32 : decode cX11_clear 32 = .ok (.iload_n 2, 1) := by decide +kernel
theorem dX11_clear_33 : decode cX11_clear 33 = .ok (.iadd, 1) := by decide +kernel
theorem dX11_clear_34 : decode cX11_clear 34 = .ok (.invokevirtual 334, 3) := by decide +kernel
theorem dX11_clear_37 : decode cX11_clear 37 = .ok (.istore 4, 2) := by decide +kernel
theorem dX11_clear_39 : decode cX11_clear 39 = .ok (.aload_n 0, 1) := by decide +kernel
theorem dX11_clear_40 : decode cX11_clear 40 = .ok (.getfield 128, 3) := by decide +kernel
theorem dX11_clear_43 : decode cX11_clear 43 = .ok (.bipush 12, 2) := by decide +kernel
theorem dX11_clear_45 : decode cX11_clear 45 = .ok (.iload_n 1, 1) := by decide +kernel
theorem dX11_clear_46 : decode cX11_clear 46 = .ok (.imul, 1) := by decide +kernel
theorem dX11_clear_47 : decode cX11_clear 47 = .ok (.iload_n 2, 1) := by decide +kernel
theorem dX11_clear_48 : decode cX11_clear 48 = .ok (.iadd, 1) := by decide +kernel
theorem dX11_clear_49 : decode cX11_clear 49 = .ok (.iconst 0, 1) := by decide +kernel
theorem dX11_clear_50 : decode cX11_clear 50 = .ok (.iastore, 1) := by decide +kernel
theorem dX11_clear_51 : decode cX11_clear 51 = .ok (.iload 4, 2) := by decide +kernel
theorem dX11_clear_53 : decode cX11_clear 53 = .ok (.ireturn, 1) := by decide +kernel
theorem dX10_kind_0 : decode cX10_kind 0 = .ok (.aload_n 0, 1) := by decide +kernel
theorem dX10_kind_1 : decode cX10_kind 1 = .ok (.iload_n 1, 1) := by decide +kernel
theorem dX10_kind_2 : decode cX10_kind 2 = .ok (.iload_n 2, 1) := by decide +kernel
theorem dX10_kind_3 : decode cX10_kind 3 = .ok (.invokevirtual 285, 3) := by decide +kernel
theorem dX10_kind_6 : decode cX10_kind 6 = .ok (.istore_n 3, 1) := by decide +kernel
theorem dX10_kind_7 : decode cX10_kind 7 = .ok (.iload_n 3, 1) := by decide +kernel
theorem dX10_kind_8 : decode cX10_kind 8 = .ok (.ifCond .eq 7, 3) := by decide +kernel
theorem dX10_kind_11 : decode cX10_kind 11 = .ok (.iload_n 3, 1) := by decide +kernel
theorem dX10_kind_12 : decode cX10_kind 12 = .ok (.goto 18, 3) := by decide +kernel
theorem dX10_kind_15 : decode cX10_kind 15 = .ok (.aload_n 0, 1) := by decide +kernel
theorem dX10_kind_16 : decode cX10_kind 16 = .ok (.aload_n 0, 1) := by decide +kernel
theorem dX10_kind_17 : decode cX10_kind 17 = .ok (.getfield 29, 3) := by decide +kernel
theorem dX10_kind_20 : decode cX10_kind 20 = .ok (.iload_n 1, 1) := by decide +kernel
theorem dX10_kind_21 : decode cX10_kind 21 = .ok (.aaload, 1) := by decide +kernel
theorem dX10_kind_22 : decode cX10_kind 22 = .ok (.getfield 288, 3) := by decide +kernel
theorem dX10_kind_25 : decode cX10_kind 25 = .ok (.iload_n 2, 1) := by decide +kernel
theorem dX10_kind_26 : decode cX10_kind 26 = .ok (.aaload, 1) := by decide +kernel
theorem dX10_kind_27 : decode cX10_kind 27 = .ok (.invokevirtual 304, 3) := by decide +kernel
theorem dX10_kind_30 : decode cX10_kind 30 = .ok (.ireturn, 1) := by decide +kernel
theorem dX11_kind_0 : decode cX11_kind 0 = .ok (.iload_n 1, 1) := by decide +kernel
theorem dX11_kind_1 : decode cX11_kind 1 = .ok (.invokestatic 326, 3) := by decide +kernel
theorem dX11_kind_4 : decode cX11_kind 4 = .ok (.ifCond .ne 6, 3) := by decide +kernel
theorem dX11_kind_7 : decode cX11_kind 7 = .ok (.bipush (-2), 2) := by decide +kernel
theorem dX11_kind_9 : decode cX11_kind 9 = .ok (.ireturn, 1) := by decide +kernel
theorem dX11_kind_10 : decode cX11_kind 10 = .ok (.aload_n 0, 1) := by decide +kernel
theorem dX11_kind_11 : decode cX11_kind 11 = .ok (.iload_n 1, 1) := by decide +kernel
theorem dX11_kind_12 : decode cX11_kind 12 = .ok (.iload_n 2, 1) := by decide +kernel
theorem dX11_kind_13 : decode cX11_kind 13 = .ok (.invokevirtual 329, 3) := by decide +kernel
theorem dX11_kind_16 : decode cX11_kind 16 = .ok (.istore_n 3, 1) := by decide +kernel
theorem dX11_kind_17 : decode cX11_kind 17 = .ok (.iload_n 3, 1) := by decide +kernel
theorem dX11_kind_18 : decode cX11_kind 18 = .ok (.ifCond .le 11, 3) := by decide +kernel
theorem dX11_kind_21 : decode cX11_kind 21 = .ok (.aload_n 0, 1) := by decide +kernel
theorem dX11_kind_22 : decode cX11_kind 22 = .ok (.iload_n 3, 1) := by decide +kernel
theorem dX11_kind_23 : decode cX11_kind 23 = .ok (.invokevirtual 316, 3) := by decide +kernel
theorem dX11_kind_26 : decode cX11_kind 26 = .ok (.goto 13, 3) := by decide +kernel
theorem dX11_kind_29 : decode cX11_kind 29 = .ok (.aload_n 0, 1) := by decide +kernel
theorem dX11_kind_30 : decode cX11_kind 30 = .ok (.bipush 12, 2) := by decide +kernel
theorem dX11_kind_32 : decode cX11_kind 32 = .ok (.iload_n 1, 1) := by decide +kernel
theorem dX11_kind_33 : decode cX11_kind 33 = .ok (.imul, 1) := by decide +kernel
theorem dX11_kind_34 : decode cX11_kind 34 = .ok (.iload_n 2, 1) := by decide +kernel
theorem dX11_kind_35 : decode cX11_kind 35 = .ok (.iadd, 1) := by decide +kernel
theorem dX11_kind_36 : decode cX11_kind 36 = .ok (.invokevirtual 334, 3) := by decide +kernel
theorem dX11_kind_39 : decode cX11_kind 39 = .ok (.ireturn, 1) := by decide +kernel
theorem dX10_refuseHeld_0 : decode cX10_refuseHeld 0 = .ok (.aload_n 0, 1) := by decide +kernel
theorem dX10_refuseHeld_1 : decode cX10_refuseHeld 1 = .ok (.iload_n 1, 1) := by decide +kernel
theorem dX10_refuseHeld_2 : decode cX10_refuseHeld 2 = .ok (.iload_n 2, 1) := by decide +kernel
theorem dX10_refuseHeld_3 : decode cX10_refuseHeld 3 = .ok (.invokevirtual 285, 3) := by decide +kernel
theorem dX10_refuseHeld_6 : decode cX10_refuseHeld 6 = .ok (.istore 4, 2) := by decide +kernel
theorem dX10_refuseHeld_8 : decode cX10_refuseHeld 8 = .ok (.iload 4, 2) := by decide +kernel
theorem dX10_refuseHeld_10 : decode cX10_refuseHeld 10 = .ok (.ifCond .eq 6, 3) := by decide +kernel
theorem dX10_refuseHeld_13 : decode cX10_refuseHeld 13 = .ok (.iload 4, 2) := by decide +kernel
theorem dX10_refuseHeld_15 : decode cX10_refuseHeld 15 = .ok (.ireturn, 1) := by decide +kernel
theorem dX10_refuseHeld_16 : decode cX10_refuseHeld 16 = .ok (.aload_n 0, 1) := by decide +kernel
theorem dX10_refuseHeld_17 : decode cX10_refuseHeld 17 = .ok (.getfield 29, 3) := by decide +kernel
theorem dX10_refuseHeld_20 : decode cX10_refuseHeld 20 = .ok (.iload_n 1, 1) := by decide +kernel
theorem dX10_refuseHeld_21 : decode cX10_refuseHeld 21 = .ok (.aaload, 1) := by decide +kernel
theorem dX10_refuseHeld_22 : decode cX10_refuseHeld 22 = .ok (.getfield 288, 3) := by decide +kernel
theorem dX10_refuseHeld_25 : decode cX10_refuseHeld 25 = .ok (.iload_n 2, 1) := by decide +kernel
theorem dX10_refuseHeld_26 : decode cX10_refuseHeld 26 = .ok (.aaload, 1) := by decide +kernel
theorem dX10_refuseHeld_27 : decode cX10_refuseHeld 27 = .ok (.getfield 441, 3) := by decide +kernel
theorem dX10_refuseHeld_30 : decode cX10_refuseHeld 30 = .ok (.istore 5, 2) := by decide +kernel
theorem dX10_refuseHeld_32 : decode cX10_refuseHeld 32 = .ok (.iload 5, 2) := by decide +kernel
theorem dX10_refuseHeld_34 : decode cX10_refuseHeld 34 = .ok (.ifCond .ne 9, 3) := by decide +kernel
theorem dX10_refuseHeld_37 : decode cX10_refuseHeld 37 = .ok (.aload_n 0, 1) := by decide +kernel
theorem dX10_refuseHeld_38 : decode cX10_refuseHeld 38 = .ok (.iconst 1, 1) := by decide +kernel
theorem dX10_refuseHeld_39 : decode cX10_refuseHeld 39 = .ok (.invokevirtual 272, 3) := by decide +kernel
theorem dX10_refuseHeld_42 : decode cX10_refuseHeld 42 = .ok (.ireturn, 1) := by decide +kernel
theorem dX10_refuseHeld_43 : decode cX10_refuseHeld 43 = .ok (.iload 5, 2) := by decide +kernel
theorem dX10_refuseHeld_45 : decode cX10_refuseHeld 45 = .ok (.iload_n 3, 1) := by decide +kernel
theorem dX10_refuseHeld_46 : decode cX10_refuseHeld 46 = .ok (.if_icmp .ne 7, 3) := by decide +kernel
theorem dX10_refuseHeld_49 : decode cX10_refuseHeld 49 = .ok (.iconst 0, 1) := by decide +kernel
theorem dX10_refuseHeld_50 : decode cX10_refuseHeld 50 = .ok (.goto 8, 3) := by decide +kernel
theorem dX10_refuseHeld_53 : decode cX10_refuseHeld 53 = .ok (.aload_n 0, 1) := by decide +kernel
theorem dX10_refuseHeld_54 : decode cX10_refuseHeld 54 = .ok (.iconst 3, 1) := by decide +kernel
theorem dX10_refuseHeld_55 : decode cX10_refuseHeld 55 = .ok (.invokevirtual 272, 3) := by decide +kernel
theorem dX10_refuseHeld_58 : decode cX10_refuseHeld 58 = .ok (.ireturn, 1) := by decide +kernel
theorem dX10_read_0 : decode cX10_read 0 = .ok (.aload_n 0, 1) := by decide +kernel
theorem dX10_read_1 : decode cX10_read 1 = .ok (.iload_n 1, 1) := by decide +kernel
theorem dX10_read_2 : decode cX10_read 2 = .ok (.iload_n 2, 1) := by decide +kernel
theorem dX10_read_3 : decode cX10_read 3 = .ok (.iconst 1, 1) := by decide +kernel
theorem dX10_read_4 : decode cX10_read 4 = .ok (.invokevirtual 311, 3) := by decide +kernel
theorem dX10_read_7 : decode cX10_read 7 = .ok (.istore_n 3, 1) := by decide +kernel
theorem dX10_read_8 : decode cX10_read 8 = .ok (.iload_n 3, 1) := by decide +kernel
theorem dX10_read_9 : decode cX10_read 9 = .ok (.ifCond .eq 7, 3) := by decide +kernel
theorem dX10_read_12 : decode cX10_read 12 = .ok (.iload_n 3, 1) := by decide +kernel
theorem dX10_read_13 : decode cX10_read 13 = .ok (.goto 17, 3) := by decide +kernel
theorem dX10_read_16 : decode cX10_read 16 = .ok (.aload_n 0, 1) := by decide +kernel
theorem dX10_read_17 : decode cX10_read 17 = .ok (.getfield 29, 3) := by decide +kernel
theorem dX10_read_20 : decode cX10_read 20 = .ok (.iload_n 1, 1) := by decide +kernel
theorem dX10_read_21 : decode cX10_read 21 = .ok (.aaload, 1) := by decide +kernel
theorem dX10_read_22 : decode cX10_read 22 = .ok (.getfield 288, 3) := by decide +kernel
theorem dX10_read_25 : decode cX10_read 25 = .ok (.iload_n 2, 1) := by decide +kernel
theorem dX10_read_26 : decode cX10_read 26 = .ok (.aaload, 1) := by decide +kernel
theorem dX10_read_27 : decode cX10_read 27 = .ok (.getfield 314, 3) := by decide +kernel
theorem dX10_read_30 : decode cX10_read 30 = .ok (.ireturn, 1) := by decide +kernel
theorem dX11_lacksAs_0 : decode cX11_lacksAs 0 = .ok (.aload_n 0, 1) := by decide +kernel
theorem dX11_lacksAs_1 : decode cX11_lacksAs 1 = .ok (.iload_n 1, 1) := by decide +kernel
theorem dX11_lacksAs_2 : decode cX11_lacksAs 2 = .ok (.iload_n 2, 1) := by decide +kernel
theorem dX11_lacksAs_3 : decode cX11_lacksAs 3 = .ok (.invokevirtual 329, 3) := by decide +kernel
theorem dX11_lacksAs_6 : decode cX11_lacksAs 6 = .ok (.istore 4, 2) := by decide +kernel
theorem dX11_lacksAs_8 : decode cX11_lacksAs 8 = .ok (.iload 4, 2) := by decide +kernel
theorem dX11_lacksAs_10 : decode cX11_lacksAs 10 = .ok (.ifCond .le 6, 3) := by decide +kernel
theorem dX11_lacksAs_13 : decode cX11_lacksAs 13 = .ok (.iload 4, 2) := by decide +kernel
theorem dX11_lacksAs_15 : decode cX11_lacksAs 15 = .ok (.ireturn, 1) := by decide +kernel
theorem dX11_lacksAs_16 : decode cX11_lacksAs 16 = .ok (.aload_n 0, 1) := by decide +kernel
theorem dX11_lacksAs_17 : decode cX11_lacksAs 17 = .ok (.getfield 128, 3) := by decide +kernel
theorem dX11_lacksAs_20 : decode cX11_lacksAs 20 = .ok (.bipush 12, 2) := by decide +kernel
theorem dX11_lacksAs_22 : decode cX11_lacksAs 22 = .ok (.iload_n 1, 1) := by decide +kernel
theorem dX11_lacksAs_23 : decode cX11_lacksAs 23 = .ok (.imul, 1) := by decide +kernel
theorem dX11_lacksAs_24 : decode cX11_lacksAs 24 = .ok (.iload_n 2, 1) := by decide +kernel
theorem dX11_lacksAs_25 : decode cX11_lacksAs 25 = .ok (.iadd, 1) := by decide +kernel
theorem dX11_lacksAs_26 : decode cX11_lacksAs 26 = .ok (.iaload, 1) := by decide +kernel
theorem dX11_lacksAs_27 : decode cX11_lacksAs 27 = .ok (.istore 5, 2) := by decide +kernel
theorem dX11_lacksAs_29 : decode cX11_lacksAs 29 = .ok (.iload 5, 2) := by decide +kernel
theorem dX11_lacksAs_31 : decode cX11_lacksAs 31 = .ok (.ifCond .ne 7, 3) := by decide +kernel
theorem dX11_lacksAs_34 : decode cX11_lacksAs 34 = .ok (.iconst 1, 1) := by decide +kernel
theorem dX11_lacksAs_35 : decode cX11_lacksAs 35 = .ok (.goto 14, 3) := by decide +kernel
theorem dX11_lacksAs_38 : decode cX11_lacksAs 38 = .ok (.iload 5, 2) := by decide +kernel
theorem dX11_lacksAs_40 : decode cX11_lacksAs 40 = .ok (.iload_n 3, 1) := by decide +kernel
theorem dX11_lacksAs_41 : decode cX11_lacksAs 41 = .ok (.if_icmp .ne 7, 3) := by decide +kernel
theorem dX11_lacksAs_44 : decode cX11_lacksAs 44 = .ok (.iconst 0, 1) := by decide +kernel
theorem dX11_lacksAs_45 : decode cX11_lacksAs 45 = .ok (.goto 4, 3) := by decide +kernel
theorem dX11_lacksAs_48 : decode cX11_lacksAs 48 = .ok (.iconst 3, 1) := by decide +kernel
theorem dX11_lacksAs_49 : decode cX11_lacksAs 49 = .ok (.ireturn, 1) := by decide +kernel
theorem dX11_read_0 : decode cX11_read 0 = .ok (.iload_n 1, 1) := by decide +kernel
theorem dX11_read_1 : decode cX11_read 1 = .ok (.invokestatic 326, 3) := by decide +kernel
theorem dX11_read_4 : decode cX11_read 4 = .ok (.ifCond .ne 6, 3) := by decide +kernel
theorem dX11_read_7 : decode cX11_read 7 = .ok (.bipush (-2), 2) := by decide +kernel
theorem dX11_read_9 : decode cX11_read 9 = .ok (.ireturn, 1) := by decide +kernel
theorem dX11_read_10 : decode cX11_read 10 = .ok (.aload_n 0, 1) := by decide +kernel
theorem dX11_read_11 : decode cX11_read 11 = .ok (.iload_n 1, 1) := by decide +kernel
theorem dX11_read_12 : decode cX11_read 12 = .ok (.iload_n 2, 1) := by decide +kernel
theorem dX11_read_13 : decode cX11_read 13 = .ok (.iconst 1, 1) := by decide +kernel
theorem dX11_read_14 : decode cX11_read 14 = .ok (.invokevirtual 337, 3) := by decide +kernel
theorem dX11_read_17 : decode cX11_read 17 = .ok (.istore_n 3, 1) := by decide +kernel
theorem dX11_read_18 : decode cX11_read 18 = .ok (.iload_n 3, 1) := by decide +kernel
theorem dX11_read_19 : decode cX11_read 19 = .ok (.ifCond .le 11, 3) := by decide +kernel
theorem dX11_read_22 : decode cX11_read 22 = .ok (.aload_n 0, 1) := by decide +kernel
theorem dX11_read_23 : decode cX11_read 23 = .ok (.iload_n 3, 1) := by decide +kernel
theorem dX11_read_24 : decode cX11_read 24 = .ok (.invokevirtual 316, 3) := by decide +kernel
theorem dX11_read_27 : decode cX11_read 27 = .ok (.goto 14, 3) := by decide +kernel
theorem dX11_read_30 : decode cX11_read 30 = .ok (.aload_n 0, 1) := by decide +kernel
theorem dX11_read_31 : decode cX11_read 31 = .ok (.getfield 131, 3) := by decide +kernel
theorem dX11_read_34 : decode cX11_read 34 = .ok (.bipush 12, 2) := by decide +kernel
theorem dX11_read_36 : decode cX11_read 36 = .ok (.iload_n 1, 1) := by decide +kernel
theorem dX11_read_37 : decode cX11_read 37 = .ok (.imul, 1) := by decide +kernel
theorem dX11_read_38 : decode cX11_read 38 = .ok (.iload_n 2, 1) := by decide +kernel
theorem dX11_read_39 : decode cX11_read 39 = .ok (.iadd, 1) := by decide +kernel
theorem dX11_read_40 : decode cX11_read 40 = .ok (.iaload, 1) := by decide +kernel
theorem dX11_read_41 : decode cX11_read 41 = .ok (.ireturn, 1) := by decide +kernel
theorem dX10_refuseCell_0 : decode cX10_refuseCell 0 = .ok (.aload_n 0, 1) := by decide +kernel
theorem dX10_refuseCell_1 : decode cX10_refuseCell 1 = .ok (.iload_n 1, 1) := by decide +kernel
theorem dX10_refuseCell_2 : decode cX10_refuseCell 2 = .ok (.iload_n 2, 1) := by decide +kernel
theorem dX10_refuseCell_3 : decode cX10_refuseCell 3 = .ok (.iload_n 3, 1) := by decide +kernel
theorem dX10_refuseCell_4 : decode cX10_refuseCell 4 = .ok (.invokevirtual 311, 3) := by decide +kernel
theorem dX10_refuseCell_7 : decode cX10_refuseCell 7 = .ok (.istore 5, 2) := by decide +kernel
theorem dX10_refuseCell_9 : decode cX10_refuseCell 9 = .ok (.iload 5, 2) := by decide +kernel
theorem dX10_refuseCell_11 : decode cX10_refuseCell 11 = .ok (.ifCond .eq 6, 3) := by decide +kernel
theorem dX10_refuseCell_14 : decode cX10_refuseCell 14 = .ok (.iload 5, 2) := by decide +kernel
theorem dX10_refuseCell_16 : decode cX10_refuseCell 16 = .ok (.ireturn, 1) := by decide +kernel
theorem dX10_refuseCell_17 : decode cX10_refuseCell 17 = .ok (.iload 4, 2) := by decide +kernel
theorem dX10_refuseCell_19 : decode cX10_refuseCell 19 = .ok (.ifCond .lt 22, 3) := by decide +kernel
theorem dX10_refuseCell_22 : decode cX10_refuseCell 22 = .ok (.iload 4, 2) := by decide +kernel
theorem dX10_refuseCell_24 : decode cX10_refuseCell 24 = .ok (.aload_n 0, 1) := by decide +kernel
theorem dX10_refuseCell_25 : decode cX10_refuseCell 25 = .ok (.getfield 29, 3) := by decide +kernel
theorem dX10_refuseCell_28 : decode cX10_refuseCell 28 = .ok (.iload_n 1, 1) := by decide +kernel
theorem dX10_refuseCell_29 : decode cX10_refuseCell 29 = .ok (.aaload, 1) := by decide +kernel
theorem dX10_refuseCell_30 : decode cX10_refuseCell 30 = .ok (.getfield 288, 3) := by decide +kernel
theorem dX10_refuseCell_33 : decode cX10_refuseCell 33 = .ok (.iload_n 2, 1) := by decide +kernel
theorem dX10_refuseCell_34 : decode cX10_refuseCell 34 = .ok (.aaload, 1) := by decide +kernel
theorem dX10_refuseCell_35 : decode cX10_refuseCell 35 = .ok (.getfield 444, 3) := by decide +kernel
theorem dX10_refuseCell_38 : decode cX10_refuseCell 38 = .ok (.if_icmp .lt 11, 3) := by decide +kernel
theorem dX10_refuseCell_41 : decode cX10_refuseCell 41 = .ok (.aload_n 0, 1) := by decide +kernel
theorem dX10_refuseCell_42 : decode cX10_refuseCell 42 = .ok (.iconst 2, 1) := by decide +kernel
theorem dX10_refuseCell_43 : decode cX10_refuseCell 43 = .ok (.invokevirtual 272, 3) := by decide +kernel
theorem dX10_refuseCell_46 : decode cX10_refuseCell 46 = .ok (.goto 4, 3) := by decide +kernel
theorem dX10_refuseCell_49 : decode cX10_refuseCell 49 = .ok (.iconst 0, 1) := by decide +kernel
theorem dX10_refuseCell_50 : decode cX10_refuseCell 50 = .ok (.ireturn, 1) := by decide +kernel
theorem dX10_letter_0 : decode cX10_letter 0 = .ok (.aload_n 0, 1) := by decide +kernel
theorem dX10_letter_1 : decode cX10_letter 1 = .ok (.iload_n 1, 1) := by decide +kernel
theorem dX10_letter_2 : decode cX10_letter 2 = .ok (.iload_n 2, 1) := by decide +kernel
theorem dX10_letter_3 : decode cX10_letter 3 = .ok (.iconst 2, 1) := by decide +kernel
theorem dX10_letter_4 : decode cX10_letter 4 = .ok (.iload_n 3, 1) := by decide +kernel
theorem dX10_letter_5 : decode cX10_letter 5 = .ok (.invokevirtual 317, 3) := by decide +kernel
theorem dX10_letter_8 : decode cX10_letter 8 = .ok (.istore 4, 2) := by decide +kernel
theorem dX10_letter_10 : decode cX10_letter 10 = .ok (.iload 4, 2) := by decide +kernel
theorem dX10_letter_12 : decode cX10_letter 12 = .ok (.ifCond .eq 8, 3) := by decide +kernel
theorem dX10_letter_15 : decode cX10_letter 15 = .ok (.iload 4, 2) := by decide +kernel
theorem dX10_letter_17 : decode cX10_letter 17 = .ok (.goto 19, 3) := by decide +kernel
theorem dX10_letter_20 : decode cX10_letter 20 = .ok (.aload_n 0, 1) := by decide +kernel
theorem dX10_letter_21 : decode cX10_letter 21 = .ok (.getfield 29, 3) := by decide +kernel
theorem dX10_letter_24 : decode cX10_letter 24 = .ok (.iload_n 1, 1) := by decide +kernel
theorem dX10_letter_25 : decode cX10_letter 25 = .ok (.aaload, 1) := by decide +kernel
theorem dX10_letter_26 : decode cX10_letter 26 = .ok (.getfield 288, 3) := by decide +kernel
theorem dX10_letter_29 : decode cX10_letter 29 = .ok (.iload_n 2, 1) := by decide +kernel
theorem dX10_letter_30 : decode cX10_letter 30 = .ok (.aaload, 1) := by decide +kernel
theorem dX10_letter_31 : decode cX10_letter 31 = .ok (.getfield 321, 3) := by decide +kernel
theorem dX10_letter_34 : decode cX10_letter 34 = .ok (.iload_n 3, 1) := by decide +kernel
theorem dX10_letter_35 : decode cX10_letter 35 = .ok (.iaload, 1) := by decide +kernel
theorem dX10_letter_36 : decode cX10_letter 36 = .ok (.ireturn, 1) := by decide +kernel
theorem dX11_lacksItem_0 : decode cX11_lacksItem 0 = .ok (.aload_n 0, 1) := by decide +kernel
theorem dX11_lacksItem_1 : decode cX11_lacksItem 1 = .ok (.iload_n 1, 1) := by decide +kernel
theorem dX11_lacksItem_2 : decode cX11_lacksItem 2 = .ok (.iload_n 2, 1) := by decide +kernel
theorem dX11_lacksItem_3 : decode cX11_lacksItem 3 = .ok (.iload_n 3, 1) := by decide +kernel
theorem dX11_lacksItem_4 : decode cX11_lacksItem 4 = .ok (.invokevirtual 337, 3) := by decide +kernel
theorem dX11_lacksItem_7 : decode cX11_lacksItem 7 = .ok (.istore 5, 2) := by decide +kernel
theorem dX11_lacksItem_9 : decode cX11_lacksItem 9 = .ok (.iload 5, 2) := by decide +kernel
theorem dX11_lacksItem_11 : decode cX11_lacksItem 11 = .ok (.ifCond .le 8, 3) := by decide +kernel
theorem dX11_lacksItem_14 : decode cX11_lacksItem 14 = .ok (.iload 5, 2) := by decide +kernel
theorem dX11_lacksItem_16 : decode cX11_lacksItem 16 = .ok (.goto 30, 3) := by decide +kernel
theorem dX11_lacksItem_19 : decode cX11_lacksItem 19 = .ok (.iload 4, 2) := by decide +kernel
theorem dX11_lacksItem_21 : decode cX11_lacksItem 21 = .ok (.iconst 0, 1) := by decide +kernel
theorem dX11_lacksItem_22 : decode cX11_lacksItem 22 = .ok (.aload_n 0, 1) := by decide +kernel
theorem dX11_lacksItem_23 : decode cX11_lacksItem 23 = .ok (.getfield 134, 3) := by decide +kernel
theorem dX11_lacksItem_26 : decode cX11_lacksItem 26 = .ok (.bipush 12, 2) := by decide +kernel
theorem dX11_lacksItem_28 : decode cX11_lacksItem 28 = .ok (.iload_n 1, 1) := by decide +kernel
theorem dX11_lacksItem_29 : decode cX11_lacksItem 29 = .ok (.imul, 1) := by decide +kernel
theorem dX11_lacksItem_30 : decode cX11_lacksItem 30 = .ok (.iload_n 2, 1) := by decide +kernel
theorem dX11_lacksItem_31 : decode cX11_lacksItem 31 = .ok (.iadd, 1) := by decide +kernel
theorem dX11_lacksItem_32 : decode cX11_lacksItem 32 = .ok (.iaload, 1) := by decide +kernel
theorem dX11_lacksItem_33 : decode cX11_lacksItem 33 = .ok (.iconst 1, 1) := by decide +kernel
theorem dX11_lacksItem_34 : decode cX11_lacksItem 34 = .ok (.isub, 1) := by decide +kernel
theorem dX11_lacksItem_35 : decode cX11_lacksItem 35 = .ok (.invokestatic 172, 3) := by decide +kernel
theorem dX11_lacksItem_38 : decode cX11_lacksItem 38 = .ok (.ifCond .eq 7, 3) := by decide +kernel
theorem dX11_lacksItem_41 : decode cX11_lacksItem 41 = .ok (.iconst 0, 1) := by decide +kernel
theorem dX11_lacksItem_42 : decode cX11_lacksItem 42 = .ok (.goto 4, 3) := by decide +kernel
theorem dX11_lacksItem_45 : decode cX11_lacksItem 45 = .ok (.iconst 2, 1) := by decide +kernel
theorem dX11_lacksItem_46 : decode cX11_lacksItem 46 = .ok (.ireturn, 1) := by decide +kernel
theorem dX11_letter_0 : decode cX11_letter 0 = .ok (.iload_n 1, 1) := by decide +kernel
theorem dX11_letter_1 : decode cX11_letter 1 = .ok (.invokestatic 326, 3) := by decide +kernel
theorem dX11_letter_4 : decode cX11_letter 4 = .ok (.ifCond .ne 6, 3) := by decide +kernel
theorem dX11_letter_7 : decode cX11_letter 7 = .ok (.bipush (-2), 2) := by decide +kernel
theorem dX11_letter_9 : decode cX11_letter 9 = .ok (.ireturn, 1) := by decide +kernel
theorem dX11_letter_10 : decode cX11_letter 10 = .ok (.aload_n 0, 1) := by decide +kernel
theorem dX11_letter_11 : decode cX11_letter 11 = .ok (.iload_n 1, 1) := by decide +kernel
theorem dX11_letter_12 : decode cX11_letter 12 = .ok (.iload_n 2, 1) := by decide +kernel
theorem dX11_letter_13 : decode cX11_letter 13 = .ok (.iconst 2, 1) := by decide +kernel
theorem dX11_letter_14 : decode cX11_letter 14 = .ok (.iload_n 3, 1) := by decide +kernel
theorem dX11_letter_15 : decode cX11_letter 15 = .ok (.invokevirtual 341, 3) := by decide +kernel
theorem dX11_letter_18 : decode cX11_letter 18 = .ok (.istore 4, 2) := by decide +kernel
theorem dX11_letter_20 : decode cX11_letter 20 = .ok (.iload 4, 2) := by decide +kernel
theorem dX11_letter_22 : decode cX11_letter 22 = .ok (.ifCond .le 12, 3) := by decide +kernel
theorem dX11_letter_25 : decode cX11_letter 25 = .ok (.aload_n 0, 1) := by decide +kernel
theorem dX11_letter_26 : decode cX11_letter 26 = .ok (.iload 4, 2) := by decide +kernel
theorem dX11_letter_28 : decode cX11_letter 28 = .ok (.invokevirtual 316, 3) := by decide +kernel
theorem dX11_letter_31 : decode cX11_letter 31 = .ok (.goto 18, 3) := by decide +kernel
theorem dX11_letter_34 : decode cX11_letter 34 = .ok (.aload_n 0, 1) := by decide +kernel
theorem dX11_letter_35 : decode cX11_letter 35 = .ok (.getfield 137, 3) := by decide +kernel
theorem dX11_letter_38 : decode cX11_letter 38 = .ok (.iconst 4, 1) := by decide +kernel
theorem dX11_letter_39 : decode cX11_letter 39 = .ok (.bipush 12, 2) := by decide +kernel
theorem dX11_letter_41 : decode cX11_letter 41 = .ok (.iload_n 1, 1) := by decide +kernel
theorem dX11_letter_42 : decode cX11_letter 42 = .ok (.imul, 1) := by decide +kernel
theorem dX11_letter_43 : decode cX11_letter 43 = .ok (.iload_n 2, 1) := by decide +kernel
theorem dX11_letter_44 : decode cX11_letter 44 = .ok (.iadd, 1) := by decide +kernel
theorem dX11_letter_45 : decode cX11_letter 45 = .ok (.imul, 1) := by decide +kernel
theorem dX11_letter_46 : decode cX11_letter 46 = .ok (.iload_n 3, 1) := by decide +kernel
theorem dX11_letter_47 : decode cX11_letter 47 = .ok (.iadd, 1) := by decide +kernel
theorem dX11_letter_48 : decode cX11_letter 48 = .ok (.iaload, 1) := by decide +kernel
theorem dX11_letter_49 : decode cX11_letter 49 = .ok (.ireturn, 1) := by decide +kernel
theorem dX10_coin_0 : decode cX10_coin 0 = .ok (.aload_n 0, 1) := by decide +kernel
theorem dX10_coin_1 : decode cX10_coin 1 = .ok (.iload_n 1, 1) := by decide +kernel
theorem dX10_coin_2 : decode cX10_coin 2 = .ok (.iload_n 2, 1) := by decide +kernel
theorem dX10_coin_3 : decode cX10_coin 3 = .ok (.iconst 3, 1) := by decide +kernel
theorem dX10_coin_4 : decode cX10_coin 4 = .ok (.iload_n 3, 1) := by decide +kernel
theorem dX10_coin_5 : decode cX10_coin 5 = .ok (.invokevirtual 317, 3) := by decide +kernel
theorem dX10_coin_8 : decode cX10_coin 8 = .ok (.istore 5, 2) := by decide +kernel
theorem dX10_coin_10 : decode cX10_coin 10 = .ok (.iload 5, 2) := by decide +kernel
theorem dX10_coin_12 : decode cX10_coin 12 = .ok (.ifCond .eq 6, 3) := by decide +kernel
theorem dX10_coin_15 : decode cX10_coin 15 = .ok (.iload 5, 2) := by decide +kernel
theorem dX10_coin_17 : decode cX10_coin 17 = .ok (.ireturn, 1) := by decide +kernel
theorem dX10_coin_18 : decode cX10_coin 18 = .ok (.aload_n 0, 1) := by decide +kernel
theorem dX10_coin_19 : decode cX10_coin 19 = .ok (.getfield 29, 3) := by decide +kernel
theorem dX10_coin_22 : decode cX10_coin 22 = .ok (.iload_n 1, 1) := by decide +kernel
theorem dX10_coin_23 : decode cX10_coin 23 = .ok (.aaload, 1) := by decide +kernel
theorem dX10_coin_24 : decode cX10_coin 24 = .ok (.getfield 288, 3) := by decide +kernel
theorem dX10_coin_27 : decode cX10_coin 27 = .ok (.iload_n 2, 1) := by decide +kernel
theorem dX10_coin_28 : decode cX10_coin 28 = .ok (.aaload, 1) := by decide +kernel
theorem dX10_coin_29 : decode cX10_coin 29 = .ok (.getfield 321, 3) := by decide +kernel
theorem dX10_coin_32 : decode cX10_coin 32 = .ok (.iload_n 3, 1) := by decide +kernel
theorem dX10_coin_33 : decode cX10_coin 33 = .ok (.iload 4, 2) := by decide +kernel
theorem dX10_coin_35 : decode cX10_coin 35 = .ok (.iastore, 1) := by decide +kernel
theorem dX10_coin_36 : decode cX10_coin 36 = .ok (.iconst 1, 1) := by decide +kernel
theorem dX10_coin_37 : decode cX10_coin 37 = .ok (.ireturn, 1) := by decide +kernel
theorem dX11_coin_0 : decode cX11_coin 0 = .ok (.iload_n 1, 1) := by decide +kernel
theorem dX11_coin_1 : decode cX11_coin 1 = .ok (.invokestatic 326, 3) := by decide +kernel
theorem dX11_coin_4 : decode cX11_coin 4 = .ok (.ifCond .ne 6, 3) := by decide +kernel
theorem dX11_coin_7 : decode cX11_coin 7 = .ok (.bipush (-2), 2) := by decide +kernel
theorem dX11_coin_9 : decode cX11_coin 9 = .ok (.ireturn, 1) := by decide +kernel
theorem dX11_coin_10 : decode cX11_coin 10 = .ok (.aload_n 0, 1) := by decide +kernel
theorem dX11_coin_11 : decode cX11_coin 11 = .ok (.iload_n 1, 1) := by decide +kernel
theorem dX11_coin_12 : decode cX11_coin 12 = .ok (.iload_n 2, 1) := by decide +kernel
theorem dX11_coin_13 : decode cX11_coin 13 = .ok (.iconst 3, 1) := by decide +kernel
theorem dX11_coin_14 : decode cX11_coin 14 = .ok (.iload_n 3, 1) := by decide +kernel
theorem dX11_coin_15 : decode cX11_coin 15 = .ok (.invokevirtual 341, 3) := by decide +kernel
theorem dX11_coin_18 : decode cX11_coin 18 = .ok (.istore 5, 2) := by decide +kernel
theorem dX11_coin_20 : decode cX11_coin 20 = .ok (.iload 5, 2) := by decide +kernel
theorem dX11_coin_22 : decode cX11_coin 22 = .ok (.ifCond .le 10, 3) := by decide +kernel
theorem dX11_coin_25 : decode cX11_coin 25 = .ok (.aload_n 0, 1) := by decide +kernel
theorem dX11_coin_26 : decode cX11_coin 26 = .ok (.iload 5, 2) := by decide +kernel
theorem dX11_coin_28 : decode cX11_coin 28 = .ok (.invokevirtual 316, 3) := by decide +kernel
theorem dX11_coin_31 : decode cX11_coin 31 = .ok (.ireturn, 1) := by decide +kernel
theorem dX11_coin_32 : decode cX11_coin 32 = .ok (.aload_n 0, 1) := by decide +kernel
theorem dX11_coin_33 : decode cX11_coin 33 = .ok (.getfield 140, 3) := by decide +kernel
theorem dX11_coin_36 : decode cX11_coin 36 = .ok (.bipush 8, 2) := by decide +kernel
theorem dX11_coin_38 : decode cX11_coin 38 = .ok (.bipush 12, 2) := by decide +kernel
theorem dX11_coin_40 : decode cX11_coin 40 = .ok (.iload_n 1, 1) := by decide +kernel
theorem dX11_coin_41 : decode cX11_coin 41 = .ok (.imul, 1) := by decide +kernel
theorem dX11_coin_42 : decode cX11_coin 42 = .ok (.iload_n 2, 1) := by decide +kernel
theorem dX11_coin_43 : decode cX11_coin 43 = .ok (.iadd, 1) := by decide +kernel
theorem dX11_coin_44 : decode cX11_coin 44 = .ok (.imul, 1) := by decide +kernel
theorem dX11_coin_45 : decode cX11_coin 45 = .ok (.iload_n 3, 1) := by decide +kernel
theorem dX11_coin_46 : decode cX11_coin 46 = .ok (.iadd, 1) := by decide +kernel
theorem dX11_coin_47 : decode cX11_coin 47 = .ok (.iload 4, 2) := by decide +kernel
theorem dX11_coin_49 : decode cX11_coin 49 = .ok (.iastore, 1) := by decide +kernel
theorem dX11_coin_50 : decode cX11_coin 50 = .ok (.iconst 1, 1) := by decide +kernel
theorem dX11_coin_51 : decode cX11_coin 51 = .ok (.ireturn, 1) := by decide +kernel
theorem dX10_coinAt_0 : decode cX10_coinAt 0 = .ok (.aload_n 0, 1) := by decide +kernel
theorem dX10_coinAt_1 : decode cX10_coinAt 1 = .ok (.iload_n 1, 1) := by decide +kernel
theorem dX10_coinAt_2 : decode cX10_coinAt 2 = .ok (.iload_n 2, 1) := by decide +kernel
theorem dX10_coinAt_3 : decode cX10_coinAt 3 = .ok (.iconst 3, 1) := by decide +kernel
theorem dX10_coinAt_4 : decode cX10_coinAt 4 = .ok (.iload_n 3, 1) := by decide +kernel
theorem dX10_coinAt_5 : decode cX10_coinAt 5 = .ok (.invokevirtual 317, 3) := by decide +kernel
theorem dX10_coinAt_8 : decode cX10_coinAt 8 = .ok (.istore 4, 2) := by decide +kernel
theorem dX10_coinAt_10 : decode cX10_coinAt 10 = .ok (.iload 4, 2) := by decide +kernel
theorem dX10_coinAt_12 : decode cX10_coinAt 12 = .ok (.ifCond .eq 7, 3) := by decide +kernel
theorem dX10_coinAt_15 : decode cX10_coinAt 15 = .ok (.iconst 0, 1) := by decide +kernel
theorem dX10_coinAt_16 : decode cX10_coinAt 16 = .ok (.goto 19, 3) := by decide +kernel
theorem dX10_coinAt_19 : decode cX10_coinAt 19 = .ok (.aload_n 0, 1) := by decide +kernel
theorem dX10_coinAt_20 : decode cX10_coinAt 20 = .ok (.getfield 29, 3) := by decide +kernel
theorem dX10_coinAt_23 : decode cX10_coinAt 23 = .ok (.iload_n 1, 1) := by decide +kernel
theorem dX10_coinAt_24 : decode cX10_coinAt 24 = .ok (.aaload, 1) := by decide +kernel
theorem dX10_coinAt_25 : decode cX10_coinAt 25 = .ok (.getfield 288, 3) := by decide +kernel
theorem dX10_coinAt_28 : decode cX10_coinAt 28 = .ok (.iload_n 2, 1) := by decide +kernel
theorem dX10_coinAt_29 : decode cX10_coinAt 29 = .ok (.aaload, 1) := by decide +kernel
theorem dX10_coinAt_30 : decode cX10_coinAt 30 = .ok (.getfield 321, 3) := by decide +kernel
theorem dX10_coinAt_33 : decode cX10_coinAt 33 = .ok (.iload_n 3, 1) := by decide +kernel
theorem dX10_coinAt_34 : decode cX10_coinAt 34 = .ok (.iaload, 1) := by decide +kernel
theorem dX10_coinAt_35 : decode cX10_coinAt 35 = .ok (.ireturn, 1) := by decide +kernel
theorem dX11_none_0 : decode cX11_none 0 = .ok (.aload_n 0, 1) := by decide +kernel
theorem dX11_none_1 : decode cX11_none 1 = .ok (.iload_n 1, 1) := by decide +kernel
theorem dX11_none_2 : decode cX11_none 2 = .ok (.invokevirtual 316, 3) := by decide +kernel
theorem dX11_none_5 : decode cX11_none 5 = .ok (.istore_n 2, 1) := by decide +kernel
theorem dX11_none_6 : decode cX11_none 6 = .ok (.iconst 0, 1) := by decide +kernel
theorem dX11_none_7 : decode cX11_none 7 = .ok (.ireturn, 1) := by decide +kernel
theorem dX11_coinAt_0 : decode cX11_coinAt 0 = .ok (.iload_n 1, 1) := by decide +kernel
theorem dX11_coinAt_1 : decode cX11_coinAt 1 = .ok (.invokestatic 326, 3) := by decide +kernel
theorem dX11_coinAt_4 : decode cX11_coinAt 4 = .ok (.ifCond .ne 5, 3) := by decide +kernel
theorem dX11_coinAt_7 : decode cX11_coinAt 7 = .ok (.iconst 0, 1) := by decide +kernel
theorem dX11_coinAt_8 : decode cX11_coinAt 8 = .ok (.ireturn, 1) := by decide +kernel
theorem dX11_coinAt_9 : decode cX11_coinAt 9 = .ok (.aload_n 0, 1) := by decide +kernel
theorem dX11_coinAt_10 : decode cX11_coinAt 10 = .ok (.iload_n 1, 1) := by decide +kernel
theorem dX11_coinAt_11 : decode cX11_coinAt 11 = .ok (.iload_n 2, 1) := by decide +kernel
theorem dX11_coinAt_12 : decode cX11_coinAt 12 = .ok (.iconst 3, 1) := by decide +kernel
theorem dX11_coinAt_13 : decode cX11_coinAt 13 = .ok (.iload_n 3, 1) := by decide +kernel
theorem dX11_coinAt_14 : decode cX11_coinAt 14 = .ok (.invokevirtual 341, 3) := by decide +kernel
theorem dX11_coinAt_17 : decode cX11_coinAt 17 = .ok (.istore 4, 2) := by decide +kernel
theorem dX11_coinAt_19 : decode cX11_coinAt 19 = .ok (.iload 4, 2) := by decide +kernel
theorem dX11_coinAt_21 : decode cX11_coinAt 21 = .ok (.ifCond .le 12, 3) := by decide +kernel
theorem dX11_coinAt_24 : decode cX11_coinAt 24 = .ok (.aload_n 0, 1) := by decide +kernel
theorem dX11_coinAt_25 : decode cX11_coinAt 25 = .ok (.iload 4, 2) := by decide +kernel
theorem dX11_coinAt_27 : decode cX11_coinAt 27 = .ok (.invokevirtual 344, 3) := by decide +kernel
