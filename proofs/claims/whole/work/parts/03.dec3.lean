theorem dX11_coinAt_30 : decode cX11_coinAt 30 = .ok (.goto 19, 3) := by decide +kernel
theorem dX11_coinAt_33 : decode cX11_coinAt 33 = .ok (.aload_n 0, 1) := by decide +kernel
theorem dX11_coinAt_34 : decode cX11_coinAt 34 = .ok (.getfield 140, 3) := by decide +kernel
theorem dX11_coinAt_37 : decode cX11_coinAt 37 = .ok (.bipush 8, 2) := by decide +kernel
theorem dX11_coinAt_39 : decode cX11_coinAt 39 = .ok (.bipush 12, 2) := by decide +kernel
theorem dX11_coinAt_41 : decode cX11_coinAt 41 = .ok (.iload_n 1, 1) := by decide +kernel
theorem dX11_coinAt_42 : decode cX11_coinAt 42 = .ok (.imul, 1) := by decide +kernel
theorem dX11_coinAt_43 : decode cX11_coinAt 43 = .ok (.iload_n 2, 1) := by decide +kernel
theorem dX11_coinAt_44 : decode cX11_coinAt 44 = .ok (.iadd, 1) := by decide +kernel
theorem dX11_coinAt_45 : decode cX11_coinAt 45 = .ok (.imul, 1) := by decide +kernel
theorem dX11_coinAt_46 : decode cX11_coinAt 46 = .ok (.iload_n 3, 1) := by decide +kernel
theorem dX11_coinAt_47 : decode cX11_coinAt 47 = .ok (.iadd, 1) := by decide +kernel
theorem dX11_coinAt_48 : decode cX11_coinAt 48 = .ok (.iaload, 1) := by decide +kernel
theorem dX11_coinAt_49 : decode cX11_coinAt 49 = .ok (.ireturn, 1) := by decide +kernel
theorem dX10_change_0 : decode cX10_change 0 = .ok (.aload_n 0, 1) := by decide +kernel
theorem dX10_change_1 : decode cX10_change 1 = .ok (.iload_n 1, 1) := by decide +kernel
theorem dX10_change_2 : decode cX10_change 2 = .ok (.iload_n 2, 1) := by decide +kernel
theorem dX10_change_3 : decode cX10_change 3 = .ok (.iconst 3, 1) := by decide +kernel
theorem dX10_change_4 : decode cX10_change 4 = .ok (.iload_n 3, 1) := by decide +kernel
theorem dX10_change_5 : decode cX10_change 5 = .ok (.invokevirtual 317, 3) := by decide +kernel
theorem dX10_change_8 : decode cX10_change 8 = .ok (.ifCond .ne 15, 3) := by decide +kernel
theorem dX10_change_11 : decode cX10_change 11 = .ok (.aload_n 0, 1) := by decide +kernel
theorem dX10_change_12 : decode cX10_change 12 = .ok (.iload_n 1, 1) := by decide +kernel
theorem dX10_change_13 : decode cX10_change 13 = .ok (.iload_n 2, 1) := by decide +kernel
theorem dX10_change_14 : decode cX10_change 14 = .ok (.iconst 3, 1) := by decide +kernel
theorem dX10_change_15 : decode cX10_change 15 = .ok (.iload 4, 2) := by decide +kernel
theorem dX10_change_17 : decode cX10_change 17 = .ok (.invokevirtual 317, 3) := by decide +kernel
theorem dX10_change_20 : decode cX10_change 20 = .ok (.ifCond .eq 5, 3) := by decide +kernel
theorem dX10_change_23 : decode cX10_change 23 = .ok (.iconst 0, 1) := by decide +kernel
theorem dX10_change_24 : decode cX10_change 24 = .ok (.ireturn, 1) := by decide +kernel
theorem dX10_change_25 : decode cX10_change 25 = .ok (.aload_n 0, 1) := by decide +kernel
theorem dX10_change_26 : decode cX10_change 26 = .ok (.getfield 29, 3) := by decide +kernel
theorem dX10_change_29 : decode cX10_change 29 = .ok (.iload_n 1, 1) := by decide +kernel
theorem dX10_change_30 : decode cX10_change 30 = .ok (.aaload, 1) := by decide +kernel
theorem dX10_change_31 : decode cX10_change 31 = .ok (.getfield 288, 3) := by decide +kernel
theorem dX10_change_34 : decode cX10_change 34 = .ok (.iload_n 2, 1) := by decide +kernel
theorem dX10_change_35 : decode cX10_change 35 = .ok (.aaload, 1) := by decide +kernel
theorem dX10_change_36 : decode cX10_change 36 = .ok (.getfield 321, 3) := by decide +kernel
theorem dX10_change_39 : decode cX10_change 39 = .ok (.iload 4, 2) := by decide +kernel
theorem dX10_change_41 : decode cX10_change 41 = .ok (.iaload, 1) := by decide +kernel
theorem dX10_change_42 : decode cX10_change 42 = .ok (.istore 5, 2) := by decide +kernel
theorem dX10_change_44 : decode cX10_change 44 = .ok (.iload 5, 2) := by decide +kernel
theorem dX10_change_46 : decode cX10_change 46 = .ok (.ifCond .ne 12, 3) := by decide +kernel
theorem dX10_change_49 : decode cX10_change 49 = .ok (.aload_n 0, 1) := by decide +kernel
theorem dX10_change_50 : decode cX10_change 50 = .ok (.bipush 6, 2) := by decide +kernel
theorem dX10_change_52 : decode cX10_change 52 = .ok (.invokevirtual 272, 3) := by decide +kernel
theorem dX10_change_55 : decode cX10_change 55 = .ok (.pop, 1) := by decide +kernel
theorem dX10_change_56 : decode cX10_change 56 = .ok (.iconst 0, 1) := by decide +kernel
theorem dX10_change_57 : decode cX10_change 57 = .ok (.ireturn, 1) := by decide +kernel
theorem dX10_change_58 : decode cX10_change 58 = .ok (.aload_n 0, 1) := by decide +kernel
theorem dX10_change_59 : decode cX10_change 59 = .ok (.getfield 29, 3) := by decide +kernel
theorem dX10_change_62 : decode cX10_change 62 = .ok (.iload_n 1, 1) := by decide +kernel
theorem dX10_change_63 : decode cX10_change 63 = .ok (.aaload, 1) := by decide +kernel
theorem dX10_change_64 : decode cX10_change 64 = .ok (.getfield 288, 3) := by decide +kernel
theorem dX10_change_67 : decode cX10_change 67 = .ok (.iload_n 2, 1) := by decide +kernel
theorem dX10_change_68 : decode cX10_change 68 = .ok (.aaload, 1) := by decide +kernel
theorem dX10_change_69 : decode cX10_change 69 = .ok (.getfield 321, 3) := by decide +kernel
theorem dX10_change_72 : decode cX10_change 72 = .ok (.iload_n 3, 1) := by decide +kernel
theorem dX10_change_73 : decode cX10_change 73 = .ok (.iaload, 1) := by decide +kernel
theorem dX10_change_74 : decode cX10_change 74 = .ok (.iload 5, 2) := by decide +kernel
theorem dX10_change_76 : decode cX10_change 76 = .ok (.idiv, 1) := by decide +kernel
theorem dX10_change_77 : decode cX10_change 77 = .ok (.ireturn, 1) := by decide +kernel
theorem dX11_change_0 : decode cX11_change 0 = .ok (.iload_n 1, 1) := by decide +kernel
theorem dX11_change_1 : decode cX11_change 1 = .ok (.invokestatic 326, 3) := by decide +kernel
theorem dX11_change_4 : decode cX11_change 4 = .ok (.ifCond .ne 5, 3) := by decide +kernel
theorem dX11_change_7 : decode cX11_change 7 = .ok (.iconst 0, 1) := by decide +kernel
theorem dX11_change_8 : decode cX11_change 8 = .ok (.ireturn, 1) := by decide +kernel
theorem dX11_change_9 : decode cX11_change 9 = .ok (.aload_n 0, 1) := by decide +kernel
theorem dX11_change_10 : decode cX11_change 10 = .ok (.iload_n 1, 1) := by decide +kernel
theorem dX11_change_11 : decode cX11_change 11 = .ok (.iload_n 2, 1) := by decide +kernel
theorem dX11_change_12 : decode cX11_change 12 = .ok (.iconst 3, 1) := by decide +kernel
theorem dX11_change_13 : decode cX11_change 13 = .ok (.iload_n 3, 1) := by decide +kernel
theorem dX11_change_14 : decode cX11_change 14 = .ok (.invokevirtual 341, 3) := by decide +kernel
theorem dX11_change_17 : decode cX11_change 17 = .ok (.istore 5, 2) := by decide +kernel
theorem dX11_change_19 : decode cX11_change 19 = .ok (.iload 5, 2) := by decide +kernel
theorem dX11_change_21 : decode cX11_change 21 = .ok (.ifCond .le 8, 3) := by decide +kernel
theorem dX11_change_24 : decode cX11_change 24 = .ok (.iload 5, 2) := by decide +kernel
theorem dX11_change_26 : decode cX11_change 26 = .ok (.goto 12, 3) := by decide +kernel
theorem dX11_change_29 : decode cX11_change 29 = .ok (.aload_n 0, 1) := by decide +kernel
theorem dX11_change_30 : decode cX11_change 30 = .ok (.iload_n 1, 1) := by decide +kernel
theorem dX11_change_31 : decode cX11_change 31 = .ok (.iload_n 2, 1) := by decide +kernel
theorem dX11_change_32 : decode cX11_change 32 = .ok (.iconst 3, 1) := by decide +kernel
theorem dX11_change_33 : decode cX11_change 33 = .ok (.iload 4, 2) := by decide +kernel
theorem dX11_change_35 : decode cX11_change 35 = .ok (.invokevirtual 341, 3) := by decide +kernel
theorem dX11_change_38 : decode cX11_change 38 = .ok (.istore 5, 2) := by decide +kernel
theorem dX11_change_40 : decode cX11_change 40 = .ok (.iload 5, 2) := by decide +kernel
theorem dX11_change_42 : decode cX11_change 42 = .ok (.ifCond .le 10, 3) := by decide +kernel
theorem dX11_change_45 : decode cX11_change 45 = .ok (.aload_n 0, 1) := by decide +kernel
theorem dX11_change_46 : decode cX11_change 46 = .ok (.iload 5, 2) := by decide +kernel
theorem dX11_change_48 : decode cX11_change 48 = .ok (.invokevirtual 344, 3) := by decide +kernel
theorem dX11_change_51 : decode cX11_change 51 = .ok (.ireturn, 1) := by decide +kernel
theorem dX11_change_52 : decode cX11_change 52 = .ok (.aload_n 0, 1) := by decide +kernel
theorem dX11_change_53 : decode cX11_change 53 = .ok (.getfield 140, 3) := by decide +kernel
theorem dX11_change_56 : decode cX11_change 56 = .ok (.bipush 8, 2) := by decide +kernel
theorem dX11_change_58 : decode cX11_change 58 = .ok (.bipush 12, 2) := by decide +kernel
theorem dX11_change_60 : decode cX11_change 60 = .ok (.iload_n 1, 1) := by decide +kernel
theorem dX11_change_61 : decode cX11_change 61 = .ok (.imul, 1) := by decide +kernel
theorem dX11_change_62 : decode cX11_change 62 = .ok (.iload_n 2, 1) := by decide +kernel
theorem dX11_change_63 : decode cX11_change 63 = .ok (.iadd, 1) := by decide +kernel
theorem dX11_change_64 : decode cX11_change 64 = .ok (.imul, 1) := by decide +kernel
theorem dX11_change_65 : decode cX11_change 65 = .ok (.iload 4, 2) := by decide +kernel
theorem dX11_change_67 : decode cX11_change 67 = .ok (.iadd, 1) := by decide +kernel
theorem dX11_change_68 : decode cX11_change 68 = .ok (.iaload, 1) := by decide +kernel
theorem dX11_change_69 : decode cX11_change 69 = .ok (.istore 6, 2) := by decide +kernel
theorem dX11_change_71 : decode cX11_change 71 = .ok (.iload 6, 2) := by decide +kernel
theorem dX11_change_73 : decode cX11_change 73 = .ok (.ifCond .ne 12, 3) := by decide +kernel
theorem dX11_change_76 : decode cX11_change 76 = .ok (.aload_n 0, 1) := by decide +kernel
theorem dX11_change_77 : decode cX11_change 77 = .ok (.bipush 6, 2) := by decide +kernel
theorem dX11_change_79 : decode cX11_change 79 = .ok (.invokevirtual 344, 3) := by decide +kernel
theorem dX11_change_82 : decode cX11_change 82 = .ok (.goto 22, 3) := by decide +kernel
theorem dX11_change_85 : decode cX11_change 85 = .ok (.aload_n 0, 1) := by decide +kernel
theorem dX11_change_86 : decode cX11_change 86 = .ok (.getfield 140, 3) := by decide +kernel
theorem dX11_change_89 : decode cX11_change 89 = .ok (.bipush 8, 2) := by decide +kernel
theorem dX11_change_91 : decode cX11_change 91 = .ok (.bipush 12, 2) := by decide +kernel
theorem dX11_change_93 : decode cX11_change 93 = .ok (.iload_n 1, 1) := by decide +kernel
theorem dX11_change_94 : decode cX11_change 94 = .ok (.imul, 1) := by decide +kernel
theorem dX11_change_95 : decode cX11_change 95 = .ok (.iload_n 2, 1) := by decide +kernel
theorem dX11_change_96 : decode cX11_change 96 = .ok (.iadd, 1) := by decide +kernel
theorem dX11_change_97 : decode cX11_change 97 = .ok (.imul, 1) := by decide +kernel
theorem dX11_change_98 : decode cX11_change 98 = .ok (.iload_n 3, 1) := by decide +kernel
theorem dX11_change_99 : decode cX11_change 99 = .ok (.iadd, 1) := by decide +kernel
theorem dX11_change_100 : decode cX11_change 100 = .ok (.iaload, 1) := by decide +kernel
theorem dX11_change_101 : decode cX11_change 101 = .ok (.iload 6, 2) := by decide +kernel
theorem dX11_change_103 : decode cX11_change 103 = .ok (.idiv, 1) := by decide +kernel
theorem dX11_change_104 : decode cX11_change 104 = .ok (.ireturn, 1) := by decide +kernel
theorem dX10_isSatchel_0 : decode cX10_isSatchel 0 = .ok (.iload_n 0, 1) := by decide +kernel
theorem dX10_isSatchel_1 : decode cX10_isSatchel 1 = .ok (.ifCond .lt 12, 3) := by decide +kernel
theorem dX10_isSatchel_4 : decode cX10_isSatchel 4 = .ok (.iload_n 0, 1) := by decide +kernel
theorem dX10_isSatchel_5 : decode cX10_isSatchel 5 = .ok (.iconst 4, 1) := by decide +kernel
theorem dX10_isSatchel_6 : decode cX10_isSatchel 6 = .ok (.if_icmp .ge 7, 3) := by decide +kernel
theorem dX10_isSatchel_9 : decode cX10_isSatchel 9 = .ok (.iconst 1, 1) := by decide +kernel
theorem dX10_isSatchel_10 : decode cX10_isSatchel 10 = .ok (.goto 4, 3) := by decide +kernel
theorem dX10_isSatchel_13 : decode cX10_isSatchel 13 = .ok (.iconst 0, 1) := by decide +kernel
theorem dX10_isSatchel_14 : decode cX10_isSatchel 14 = .ok (.ireturn, 1) := by decide +kernel
theorem dX6_begin_0 : decode cX6_begin 0 = .ok (.aload_n 0, 1) := by decide +kernel
theorem dX6_begin_1 : decode cX6_begin 1 = .ok (.iload_n 1, 1) := by decide +kernel
theorem dX6_begin_2 : decode cX6_begin 2 = .ok (.putfield 19, 3) := by decide +kernel
theorem dX6_begin_5 : decode cX6_begin 5 = .ok (.aload_n 0, 1) := by decide +kernel
theorem dX6_begin_6 : decode cX6_begin 6 = .ok (.iload_n 2, 1) := by decide +kernel
theorem dX6_begin_7 : decode cX6_begin 7 = .ok (.putfield 15, 3) := by decide +kernel
theorem dX6_begin_10 : decode cX6_begin 10 = .ok (.aload_n 0, 1) := by decide +kernel
theorem dX6_begin_11 : decode cX6_begin 11 = .ok (.getfield 9, 3) := by decide +kernel
theorem dX6_begin_14 : decode cX6_begin 14 = .ok (.iconst (-1), 1) := by decide +kernel
theorem dX6_begin_15 : decode cX6_begin 15 = .ok (.invokestatic 22, 3) := by decide +kernel
theorem dX6_begin_18 : decode cX6_begin 18 = .ok (.return_, 1) := by decide +kernel
theorem dX10_satchel_0 : decode cX10_satchel 0 = .ok (.iload_n 1, 1) := by decide +kernel
theorem dX10_satchel_1 : decode cX10_satchel 1 = .ok (.invokestatic 324, 3) := by decide +kernel
theorem dX10_satchel_4 : decode cX10_satchel 4 = .ok (.ifCond .ne 6, 3) := by decide +kernel
theorem dX10_satchel_7 : decode cX10_satchel 7 = .ok (.bipush (-2), 2) := by decide +kernel
theorem dX10_satchel_9 : decode cX10_satchel 9 = .ok (.ireturn, 1) := by decide +kernel
theorem dX10_satchel_10 : decode cX10_satchel 10 = .ok (.iload_n 2, 1) := by decide +kernel
theorem dX10_satchel_11 : decode cX10_satchel 11 = .ok (.ifCond .lt 14, 3) := by decide +kernel
theorem dX10_satchel_14 : decode cX10_satchel 14 = .ok (.iload_n 2, 1) := by decide +kernel
theorem dX10_satchel_15 : decode cX10_satchel 15 = .ok (.iconst 5, 1) := by decide +kernel
theorem dX10_satchel_16 : decode cX10_satchel 16 = .ok (.if_icmp .gt 9, 3) := by decide +kernel
theorem dX10_satchel_19 : decode cX10_satchel 19 = .ok (.iload_n 3, 1) := by decide +kernel
theorem dX10_satchel_20 : decode cX10_satchel 20 = .ok (.bipush 10, 2) := by decide +kernel
theorem dX10_satchel_22 : decode cX10_satchel 22 = .ok (.if_icmp .le 6, 3) := by decide +kernel
theorem dX10_satchel_25 : decode cX10_satchel 25 = .ok (.bipush (-3), 2) := by decide +kernel
theorem dX10_satchel_27 : decode cX10_satchel 27 = .ok (.ireturn, 1) := by decide +kernel
theorem dX10_satchel_28 : decode cX10_satchel 28 = .ok (.iload_n 3, 1) := by decide +kernel
theorem dX10_satchel_29 : decode cX10_satchel 29 = .ok (.ifCond .ge 9, 3) := by decide +kernel
theorem dX10_satchel_32 : decode cX10_satchel 32 = .ok (.aload_n 0, 1) := by decide +kernel
theorem dX10_satchel_33 : decode cX10_satchel 33 = .ok (.iconst 5, 1) := by decide +kernel
theorem dX10_satchel_34 : decode cX10_satchel 34 = .ok (.invokevirtual 272, 3) := by decide +kernel
theorem dX10_satchel_37 : decode cX10_satchel 37 = .ok (.ireturn, 1) := by decide +kernel
theorem dX10_satchel_38 : decode cX10_satchel 38 = .ok (.aload_n 0, 1) := by decide +kernel
theorem dX10_satchel_39 : decode cX10_satchel 39 = .ok (.getfield 35, 3) := by decide +kernel
theorem dX10_satchel_42 : decode cX10_satchel 42 = .ok (.iload_n 1, 1) := by decide +kernel
theorem dX10_satchel_43 : decode cX10_satchel 43 = .ok (.aaload, 1) := by decide +kernel
theorem dX10_satchel_44 : decode cX10_satchel 44 = .ok (.iload_n 2, 1) := by decide +kernel
theorem dX10_satchel_45 : decode cX10_satchel 45 = .ok (.iload_n 3, 1) := by decide +kernel
theorem dX10_satchel_46 : decode cX10_satchel 46 = .ok (.invokevirtual 327, 3) := by decide +kernel
theorem dX10_satchel_49 : decode cX10_satchel 49 = .ok (.iload_n 3, 1) := by decide +kernel
theorem dX10_satchel_50 : decode cX10_satchel 50 = .ok (.ireturn, 1) := by decide +kernel
theorem dX11_isSatchel_0 : decode cX11_isSatchel 0 = .ok (.iload_n 0, 1) := by decide +kernel
theorem dX11_isSatchel_1 : decode cX11_isSatchel 1 = .ok (.iconst 0, 1) := by decide +kernel
theorem dX11_isSatchel_2 : decode cX11_isSatchel 2 = .ok (.iconst 3, 1) := by decide +kernel
theorem dX11_isSatchel_3 : decode cX11_isSatchel 3 = .ok (.invokestatic 172, 3) := by decide +kernel
theorem dX11_isSatchel_6 : decode cX11_isSatchel 6 = .ok (.ireturn, 1) := by decide +kernel
theorem dX11_satchel_0 : decode cX11_satchel 0 = .ok (.iload_n 1, 1) := by decide +kernel
theorem dX11_satchel_1 : decode cX11_satchel 1 = .ok (.invokestatic 347, 3) := by decide +kernel
theorem dX11_satchel_4 : decode cX11_satchel 4 = .ok (.ifCond .ne 6, 3) := by decide +kernel
theorem dX11_satchel_7 : decode cX11_satchel 7 = .ok (.bipush (-2), 2) := by decide +kernel
theorem dX11_satchel_9 : decode cX11_satchel 9 = .ok (.ireturn, 1) := by decide +kernel
theorem dX11_satchel_10 : decode cX11_satchel 10 = .ok (.iload_n 2, 1) := by decide +kernel
theorem dX11_satchel_11 : decode cX11_satchel 11 = .ok (.iconst 0, 1) := by decide +kernel
theorem dX11_satchel_12 : decode cX11_satchel 12 = .ok (.iconst 5, 1) := by decide +kernel
theorem dX11_satchel_13 : decode cX11_satchel 13 = .ok (.invokestatic 172, 3) := by decide +kernel
theorem dX11_satchel_16 : decode cX11_satchel 16 = .ok (.ifCond .eq 9, 3) := by decide +kernel
theorem dX11_satchel_19 : decode cX11_satchel 19 = .ok (.iload_n 3, 1) := by decide +kernel
theorem dX11_satchel_20 : decode cX11_satchel 20 = .ok (.bipush 10, 2) := by decide +kernel
theorem dX11_satchel_22 : decode cX11_satchel 22 = .ok (.if_icmp .le 6, 3) := by decide +kernel
theorem dX11_satchel_25 : decode cX11_satchel 25 = .ok (.bipush (-3), 2) := by decide +kernel
theorem dX11_satchel_27 : decode cX11_satchel 27 = .ok (.ireturn, 1) := by decide +kernel
theorem dX11_satchel_28 : decode cX11_satchel 28 = .ok (.iload_n 3, 1) := by decide +kernel
theorem dX11_satchel_29 : decode cX11_satchel 29 = .ok (.ifCond .ge 9, 3) := by decide +kernel
theorem dX11_satchel_32 : decode cX11_satchel 32 = .ok (.aload_n 0, 1) := by decide +kernel
theorem dX11_satchel_33 : decode cX11_satchel 33 = .ok (.iconst 5, 1) := by decide +kernel
theorem dX11_satchel_34 : decode cX11_satchel 34 = .ok (.invokevirtual 316, 3) := by decide +kernel
theorem dX11_satchel_37 : decode cX11_satchel 37 = .ok (.ireturn, 1) := by decide +kernel
theorem dX11_satchel_38 : decode cX11_satchel 38 = .ok (.aload_n 0, 1) := by decide +kernel
theorem dX11_satchel_39 : decode cX11_satchel 39 = .ok (.getfield 143, 3) := by decide +kernel
theorem dX11_satchel_42 : decode cX11_satchel 42 = .ok (.iload_n 1, 1) := by decide +kernel
theorem dX11_satchel_43 : decode cX11_satchel 43 = .ok (.iconst 1, 1) := by decide +kernel
theorem dX11_satchel_44 : decode cX11_satchel 44 = .ok (.bastore, 1) := by decide +kernel
theorem dX11_satchel_45 : decode cX11_satchel 45 = .ok (.aload_n 0, 1) := by decide +kernel
theorem dX11_satchel_46 : decode cX11_satchel 46 = .ok (.getfield 146, 3) := by decide +kernel
theorem dX11_satchel_49 : decode cX11_satchel 49 = .ok (.iload_n 1, 1) := by decide +kernel
theorem dX11_satchel_50 : decode cX11_satchel 50 = .ok (.iload_n 2, 1) := by decide +kernel
theorem dX11_satchel_51 : decode cX11_satchel 51 = .ok (.iastore, 1) := by decide +kernel
theorem dX11_satchel_52 : decode cX11_satchel 52 = .ok (.aload_n 0, 1) := by decide +kernel
theorem dX11_satchel_53 : decode cX11_satchel 53 = .ok (.getfield 149, 3) := by decide +kernel
theorem dX11_satchel_56 : decode cX11_satchel 56 = .ok (.iload_n 1, 1) := by decide +kernel
theorem dX11_satchel_57 : decode cX11_satchel 57 = .ok (.iload_n 3, 1) := by decide +kernel
theorem dX11_satchel_58 : decode cX11_satchel 58 = .ok (.iastore, 1) := by decide +kernel
theorem dX11_satchel_59 : decode cX11_satchel 59 = .ok (.iconst 0, 1) := by decide +kernel
theorem dX11_satchel_60 : decode cX11_satchel 60 = .ok (.istore 4, 2) := by decide +kernel
theorem dX11_satchel_62 : decode cX11_satchel 62 = .ok (.iload 4, 2) := by decide +kernel
theorem dX11_satchel_64 : decode cX11_satchel 64 = .ok (.bipush 10, 2) := by decide +kernel
theorem dX11_satchel_66 : decode cX11_satchel 66 = .ok (.if_icmp .ge 22, 3) := by decide +kernel
theorem dX11_satchel_69 : decode cX11_satchel 69 = .ok (.aload_n 0, 1) := by decide +kernel
theorem dX11_satchel_70 : decode cX11_satchel 70 = .ok (.getfield 152, 3) := by decide +kernel
theorem dX11_satchel_73 : decode cX11_satchel 73 = .ok (.bipush 10, 2) := by decide +kernel
theorem dX11_satchel_75 : decode cX11_satchel 75 = .ok (.iload_n 1, 1) := by decide +kernel
theorem dX11_satchel_76 : decode cX11_satchel 76 = .ok (.imul, 1) := by decide +kernel
theorem dX11_satchel_77 : decode cX11_satchel 77 = .ok (.iload 4, 2) := by decide +kernel
theorem dX11_satchel_79 : decode cX11_satchel 79 = .ok (.iadd, 1) := by decide +kernel
theorem dX11_satchel_80 : decode cX11_satchel 80 = .ok (.iconst (-1), 1) := by decide +kernel
theorem dX11_satchel_81 : decode cX11_satchel 81 = .ok (.iastore, 1) := by decide +kernel
theorem dX11_satchel_82 : decode cX11_satchel 82 = .ok (.iinc 4 1, 3) := by decide +kernel
theorem dX11_satchel_85 : decode cX11_satchel 85 = .ok (.goto (-23), 3) := by decide +kernel
theorem dX11_satchel_88 : decode cX11_satchel 88 = .ok (.iload_n 3, 1) := by decide +kernel
theorem dX11_satchel_89 : decode cX11_satchel 89 = .ok (.ireturn, 1) := by decide +kernel
theorem dX8_brings_0 : decode cX8_brings 0 = .ok (.aload_n 0, 1) := by decide +kernel
theorem dX8_brings_1 : decode cX8_brings 1 = .ok (.getfield 15, 3) := by decide +kernel
theorem dX8_brings_4 : decode cX8_brings 4 = .ok (.ifCond .ne 5, 3) := by decide +kernel
theorem dX8_brings_7 : decode cX8_brings 7 = .ok (.iconst (-1), 1) := by decide +kernel
theorem dX8_brings_8 : decode cX8_brings 8 = .ok (.ireturn, 1) := by decide +kernel
theorem dX8_brings_9 : decode cX8_brings 9 = .ok (.aload_n 0, 1) := by decide +kernel
theorem dX8_brings_10 : decode cX8_brings 10 = .ok (.getfield 15, 3) := by decide +kernel
theorem dX8_brings_13 : decode cX8_brings 13 = .ok (.iconst 1, 1) := by decide +kernel
theorem dX8_brings_14 : decode cX8_brings 14 = .ok (.if_icmp .ne 10, 3) := by decide +kernel
theorem dX8_brings_17 : decode cX8_brings 17 = .ok (.aload_n 0, 1) := by decide +kernel
theorem dX8_brings_18 : decode cX8_brings 18 = .ok (.getfield 19, 3) := by decide +kernel
theorem dX8_brings_21 : decode cX8_brings 21 = .ok (.goto 5, 3) := by decide +kernel
theorem dX8_brings_24 : decode cX8_brings 24 = .ok (.bipush (-2), 2) := by decide +kernel
theorem dX8_brings_26 : decode cX8_brings 26 = .ok (.ireturn, 1) := by decide +kernel
theorem dX10_refusePlace_0 : decode cX10_refusePlace 0 = .ok (.aload_n 0, 1) := by decide +kernel
theorem dX10_refusePlace_1 : decode cX10_refusePlace 1 = .ok (.getfield 35, 3) := by decide +kernel
theorem dX10_refusePlace_4 : decode cX10_refusePlace 4 = .ok (.iload_n 1, 1) := by decide +kernel
theorem dX10_refusePlace_5 : decode cX10_refusePlace 5 = .ok (.aaload, 1) := by decide +kernel
theorem dX10_refusePlace_6 : decode cX10_refusePlace 6 = .ok (.getfield 339, 3) := by decide +kernel
theorem dX10_refusePlace_9 : decode cX10_refusePlace 9 = .ok (.iconst (-1), 1) := by decide +kernel
theorem dX10_refusePlace_10 : decode cX10_refusePlace 10 = .ok (.if_icmp .ne 9, 3) := by decide +kernel
theorem dX10_refusePlace_13 : decode cX10_refusePlace 13 = .ok (.aload_n 0, 1) := by decide +kernel
theorem dX10_refusePlace_14 : decode cX10_refusePlace 14 = .ok (.iconst 1, 1) := by decide +kernel
theorem dX10_refusePlace_15 : decode cX10_refusePlace 15 = .ok (.invokevirtual 272, 3) := by decide +kernel
theorem dX10_refusePlace_18 : decode cX10_refusePlace 18 = .ok (.ireturn, 1) := by decide +kernel
theorem dX10_refusePlace_19 : decode cX10_refusePlace 19 = .ok (.iload_n 2, 1) := by decide +kernel
theorem dX10_refusePlace_20 : decode cX10_refusePlace 20 = .ok (.ifCond .lt 16, 3) := by decide +kernel
theorem dX10_refusePlace_23 : decode cX10_refusePlace 23 = .ok (.iload_n 2, 1) := by decide +kernel
theorem dX10_refusePlace_24 : decode cX10_refusePlace 24 = .ok (.aload_n 0, 1) := by decide +kernel
theorem dX10_refusePlace_25 : decode cX10_refusePlace 25 = .ok (.getfield 35, 3) := by decide +kernel
theorem dX10_refusePlace_28 : decode cX10_refusePlace 28 = .ok (.iload_n 1, 1) := by decide +kernel
theorem dX10_refusePlace_29 : decode cX10_refusePlace 29 = .ok (.aaload, 1) := by decide +kernel
theorem dX10_refusePlace_30 : decode cX10_refusePlace 30 = .ok (.getfield 339, 3) := by decide +kernel
theorem dX10_refusePlace_33 : decode cX10_refusePlace 33 = .ok (.if_icmp .lt 11, 3) := by decide +kernel
theorem dX10_refusePlace_36 : decode cX10_refusePlace 36 = .ok (.aload_n 0, 1) := by decide +kernel
theorem dX10_refusePlace_37 : decode cX10_refusePlace 37 = .ok (.iconst 2, 1) := by decide +kernel
theorem dX10_refusePlace_38 : decode cX10_refusePlace 38 = .ok (.invokevirtual 272, 3) := by decide +kernel
theorem dX10_refusePlace_41 : decode cX10_refusePlace 41 = .ok (.goto 4, 3) := by decide +kernel
theorem dX10_refusePlace_44 : decode cX10_refusePlace 44 = .ok (.iconst 0, 1) := by decide +kernel
theorem dX10_refusePlace_45 : decode cX10_refusePlace 45 = .ok (.ireturn, 1) := by decide +kernel
theorem dX6_takes_0 : decode cX6_takes 0 = .ok (.aload_n 0, 1) := by decide +kernel
theorem dX6_takes_1 : decode cX6_takes 1 = .ok (.getfield 19, 3) := by decide +kernel
theorem dX6_takes_4 : decode cX6_takes 4 = .ok (.tableswitch 100 1 5 #[36, 51, 67, 78, 89], 36) := by decide +kernel
theorem dX6_takes_40 : decode cX6_takes 40 = .ok (.iload_n 1, 1) := by decide +kernel
theorem dX6_takes_41 : decode cX6_takes 41 = .ok (.ifCond .eq 8, 3) := by decide +kernel
theorem dX6_takes_44 : decode cX6_takes 44 = .ok (.iload_n 1, 1) := by decide +kernel
theorem dX6_takes_45 : decode cX6_takes 45 = .ok (.iconst 1, 1) := by decide +kernel
theorem dX6_takes_46 : decode cX6_takes 46 = .ok (.if_icmp .ne 7, 3) := by decide +kernel
theorem dX6_takes_49 : decode cX6_takes 49 = .ok (.iconst 1, 1) := by decide +kernel
theorem dX6_takes_50 : decode cX6_takes 50 = .ok (.goto 4, 3) := by decide +kernel
theorem dX6_takes_53 : decode cX6_takes 53 = .ok (.iconst 0, 1) := by decide +kernel
theorem dX6_takes_54 : decode cX6_takes 54 = .ok (.ireturn, 1) := by decide +kernel
theorem dX6_takes_55 : decode cX6_takes 55 = .ok (.iload_n 1, 1) := by decide +kernel
theorem dX6_takes_56 : decode cX6_takes 56 = .ok (.iconst 2, 1) := by decide +kernel
theorem dX6_takes_57 : decode cX6_takes 57 = .ok (.if_icmp .eq 8, 3) := by decide +kernel
theorem dX6_takes_60 : decode cX6_takes 60 = .ok (.iload_n 1, 1) := by decide +kernel
theorem dX6_takes_61 : decode cX6_takes 61 = .ok (.iconst 3, 1) := by decide +kernel
theorem dX6_takes_62 : decode cX6_takes 62 = .ok (.if_icmp .ne 7, 3) := by decide +kernel
theorem dX6_takes_65 : decode cX6_takes 65 = .ok (.iconst 1, 1) := by decide +kernel
theorem dX6_takes_66 : decode cX6_takes 66 = .ok (.goto 4, 3) := by decide +kernel
theorem dX6_takes_69 : decode cX6_takes 69 = .ok (.iconst 0, 1) := by decide +kernel
theorem dX6_takes_70 : decode cX6_takes 70 = .ok (.ireturn, 1) := by decide +kernel
theorem dX6_takes_71 : decode cX6_takes 71 = .ok (.iload_n 1, 1) := by decide +kernel
theorem dX6_takes_72 : decode cX6_takes 72 = .ok (.iconst 3, 1) := by decide +kernel
theorem dX6_takes_73 : decode cX6_takes 73 = .ok (.if_icmp .ne 7, 3) := by decide +kernel
theorem dX6_takes_76 : decode cX6_takes 76 = .ok (.iconst 1, 1) := by decide +kernel
theorem dX6_takes_77 : decode cX6_takes 77 = .ok (.goto 4, 3) := by decide +kernel
theorem dX6_takes_80 : decode cX6_takes 80 = .ok (.iconst 0, 1) := by decide +kernel
theorem dX6_takes_81 : decode cX6_takes 81 = .ok (.ireturn, 1) := by decide +kernel
theorem dX6_takes_82 : decode cX6_takes 82 = .ok (.iload_n 1, 1) := by decide +kernel
theorem dX6_takes_83 : decode cX6_takes 83 = .ok (.iconst 4, 1) := by decide +kernel
theorem dX6_takes_84 : decode cX6_takes 84 = .ok (.if_icmp .ne 7, 3) := by decide +kernel
theorem dX6_takes_87 : decode cX6_takes 87 = .ok (.iconst 1, 1) := by decide +kernel
theorem dX6_takes_88 : decode cX6_takes 88 = .ok (.goto 4, 3) := by decide +kernel
theorem dX6_takes_91 : decode cX6_takes 91 = .ok (.iconst 0, 1) := by decide +kernel
theorem dX6_takes_92 : decode cX6_takes 92 = .ok (.ireturn, 1) := by decide +kernel
theorem dX6_takes_93 : decode cX6_takes 93 = .ok (.iload_n 1, 1) := by decide +kernel
theorem dX6_takes_94 : decode cX6_takes 94 = .ok (.iconst 1, 1) := by decide +kernel
theorem dX6_takes_95 : decode cX6_takes 95 = .ok (.if_icmp .ne 7, 3) := by decide +kernel
theorem dX6_takes_98 : decode cX6_takes 98 = .ok (.iconst 1, 1) := by decide +kernel
theorem dX6_takes_99 : decode cX6_takes 99 = .ok (.goto 4, 3) := by decide +kernel
theorem dX6_takes_102 : decode cX6_takes 102 = .ok (.iconst 0, 1) := by decide +kernel
theorem dX6_takes_103 : decode cX6_takes 103 = .ok (.ireturn, 1) := by decide +kernel
theorem dX6_takes_104 : decode cX6_takes 104 = .ok (.iconst 1, 1) := by decide +kernel
theorem dX6_takes_105 : decode cX6_takes 105 = .ok (.ireturn, 1) := by decide +kernel
theorem dX10_putIn_0 : decode cX10_putIn 0 = .ok (.aload_n 0, 1) := by decide +kernel
theorem dX10_putIn_1 : decode cX10_putIn 1 = .ok (.iload_n 1, 1) := by decide +kernel
theorem dX10_putIn_2 : decode cX10_putIn 2 = .ok (.iload_n 2, 1) := by decide +kernel
theorem dX10_putIn_3 : decode cX10_putIn 3 = .ok (.invokevirtual 349, 3) := by decide +kernel
theorem dX10_putIn_6 : decode cX10_putIn 6 = .ok (.istore 4, 2) := by decide +kernel
theorem dX10_putIn_8 : decode cX10_putIn 8 = .ok (.iload 4, 2) := by decide +kernel
theorem dX10_putIn_10 : decode cX10_putIn 10 = .ok (.ifCond .eq 6, 3) := by decide +kernel
theorem dX10_putIn_13 : decode cX10_putIn 13 = .ok (.iload 4, 2) := by decide +kernel
theorem dX10_putIn_15 : decode cX10_putIn 15 = .ok (.ireturn, 1) := by decide +kernel
theorem dX10_putIn_16 : decode cX10_putIn 16 = .ok (.aload_n 0, 1) := by decide +kernel
theorem dX10_putIn_17 : decode cX10_putIn 17 = .ok (.iload_n 3, 1) := by decide +kernel
theorem dX10_putIn_18 : decode cX10_putIn 18 = .ok (.invokevirtual 187, 3) := by decide +kernel
theorem dX10_putIn_21 : decode cX10_putIn 21 = .ok (.astore 5, 2) := by decide +kernel
theorem dX10_putIn_23 : decode cX10_putIn 23 = .ok (.aload 5, 2) := by decide +kernel
theorem dX10_putIn_25 : decode cX10_putIn 25 = .ok (.ifnonnull 16, 3) := by decide +kernel
theorem dX10_putIn_28 : decode cX10_putIn 28 = .ok (.iload_n 3, 1) := by decide +kernel
theorem dX10_putIn_29 : decode cX10_putIn 29 = .ok (.iconst (-1), 1) := by decide +kernel
theorem dX10_putIn_30 : decode cX10_putIn 30 = .ok (.if_icmp .ne 7, 3) := by decide +kernel
theorem dX10_putIn_33 : decode cX10_putIn 33 = .ok (.iconst 1, 1) := by decide +kernel
theorem dX10_putIn_34 : decode cX10_putIn 34 = .ok (.goto 24, 3) := by decide +kernel
theorem dX10_putIn_37 : decode cX10_putIn 37 = .ok (.iconst 0, 1) := by decide +kernel
theorem dX10_putIn_38 : decode cX10_putIn 38 = .ok (.goto 20, 3) := by decide +kernel
theorem dX10_putIn_41 : decode cX10_putIn 41 = .ok (.aload_n 0, 1) := by decide +kernel
theorem dX10_putIn_42 : decode cX10_putIn 42 = .ok (.getfield 35, 3) := by decide +kernel
theorem dX10_putIn_45 : decode cX10_putIn 45 = .ok (.iload_n 1, 1) := by decide +kernel
theorem dX10_putIn_46 : decode cX10_putIn 46 = .ok (.aaload, 1) := by decide +kernel
theorem dX10_putIn_47 : decode cX10_putIn 47 = .ok (.aload 5, 2) := by decide +kernel
theorem dX10_putIn_49 : decode cX10_putIn 49 = .ok (.getfield 191, 3) := by decide +kernel
theorem dX10_putIn_52 : decode cX10_putIn 52 = .ok (.getfield 242, 3) := by decide +kernel
theorem dX10_putIn_55 : decode cX10_putIn 55 = .ok (.invokevirtual 445, 3) := by decide +kernel
theorem dX10_putIn_58 : decode cX10_putIn 58 = .ok (.istore 6, 2) := by decide +kernel
theorem dX10_putIn_60 : decode cX10_putIn 60 = .ok (.iload 6, 2) := by decide +kernel
theorem dX10_putIn_62 : decode cX10_putIn 62 = .ok (.ifCond .ne 9, 3) := by decide +kernel
theorem dX10_putIn_65 : decode cX10_putIn 65 = .ok (.aload_n 0, 1) := by decide +kernel
theorem dX10_putIn_66 : decode cX10_putIn 66 = .ok (.iconst 4, 1) := by decide +kernel
theorem dX10_putIn_67 : decode cX10_putIn 67 = .ok (.invokevirtual 272, 3) := by decide +kernel
theorem dX10_putIn_70 : decode cX10_putIn 70 = .ok (.ireturn, 1) := by decide +kernel
theorem dX10_putIn_71 : decode cX10_putIn 71 = .ok (.aload_n 0, 1) := by decide +kernel
theorem dX10_putIn_72 : decode cX10_putIn 72 = .ok (.getfield 35, 3) := by decide +kernel
theorem dX10_putIn_75 : decode cX10_putIn 75 = .ok (.iload_n 1, 1) := by decide +kernel
theorem dX10_putIn_76 : decode cX10_putIn 76 = .ok (.aaload, 1) := by decide +kernel
theorem dX10_putIn_77 : decode cX10_putIn 77 = .ok (.getfield 340, 3) := by decide +kernel
theorem dX10_putIn_80 : decode cX10_putIn 80 = .ok (.iload_n 2, 1) := by decide +kernel
theorem dX10_putIn_81 : decode cX10_putIn 81 = .ok (.iload_n 3, 1) := by decide +kernel
theorem dX10_putIn_82 : decode cX10_putIn 82 = .ok (.iastore, 1) := by decide +kernel
theorem dX10_putIn_83 : decode cX10_putIn 83 = .ok (.iconst 0, 1) := by decide +kernel
theorem dX10_putIn_84 : decode cX10_putIn 84 = .ok (.ireturn, 1) := by decide +kernel
theorem dX10_gather_0 : decode cX10_gather 0 = .ok (.iload_n 1, 1) := by decide +kernel
theorem dX10_gather_1 : decode cX10_gather 1 = .ok (.invokestatic 324, 3) := by decide +kernel
theorem dX10_gather_4 : decode cX10_gather 4 = .ok (.ifCond .eq 10, 3) := by decide +kernel
theorem dX10_gather_7 : decode cX10_gather 7 = .ok (.iload_n 3, 1) := by decide +kernel
theorem dX10_gather_8 : decode cX10_gather 8 = .ok (.invokestatic 162, 3) := by decide +kernel
theorem dX10_gather_11 : decode cX10_gather 11 = .ok (.ifCond .ne 6, 3) := by decide +kernel
theorem dX10_gather_14 : decode cX10_gather 14 = .ok (.bipush (-2), 2) := by decide +kernel
theorem dX10_gather_16 : decode cX10_gather 16 = .ok (.ireturn, 1) := by decide +kernel
theorem dX10_gather_17 : decode cX10_gather 17 = .ok (.iload 5, 2) := by decide +kernel
theorem dX10_gather_19 : decode cX10_gather 19 = .ok (.ifCond .lt 10, 3) := by decide +kernel
theorem dX10_gather_22 : decode cX10_gather 22 = .ok (.iload 5, 2) := by decide +kernel
theorem dX10_gather_24 : decode cX10_gather 24 = .ok (.bipush 12, 2) := by decide +kernel
theorem dX10_gather_26 : decode cX10_gather 26 = .ok (.if_icmp .le 6, 3) := by decide +kernel
theorem dX10_gather_29 : decode cX10_gather 29 = .ok (.bipush (-3), 2) := by decide +kernel
theorem dX10_gather_31 : decode cX10_gather 31 = .ok (.ireturn, 1) := by decide +kernel
theorem dX10_gather_32 : decode cX10_gather 32 = .ok (.aload_n 0, 1) := by decide +kernel
theorem dX10_gather_33 : decode cX10_gather 33 = .ok (.iconst 0, 1) := by decide +kernel
theorem dX10_gather_34 : decode cX10_gather 34 = .ok (.putfield 330, 3) := by decide +kernel
theorem dX10_gather_37 : decode cX10_gather 37 = .ok (.iconst 0, 1) := by decide +kernel
theorem dX10_gather_38 : decode cX10_gather 38 = .ok (.istore 6, 2) := by decide +kernel
theorem dX10_gather_40 : decode cX10_gather 40 = .ok (.iload 6, 2) := by decide +kernel
theorem dX10_gather_42 : decode cX10_gather 42 = .ok (.iload 5, 2) := by decide +kernel
theorem dX10_gather_44 : decode cX10_gather 44 = .ok (.if_icmp .ge 73, 3) := by decide +kernel
theorem dX10_gather_47 : decode cX10_gather 47 = .ok (.aload_n 0, 1) := by decide +kernel
theorem dX10_gather_48 : decode cX10_gather 48 = .ok (.iload_n 3, 1) := by decide +kernel
theorem dX10_gather_49 : decode cX10_gather 49 = .ok (.iload 4, 2) := by decide +kernel
theorem dX10_gather_51 : decode cX10_gather 51 = .ok (.iload 6, 2) := by decide +kernel
theorem dX10_gather_53 : decode cX10_gather 53 = .ok (.iadd, 1) := by decide +kernel
theorem dX10_gather_54 : decode cX10_gather 54 = .ok (.invokevirtual 285, 3) := by decide +kernel
theorem dX10_gather_57 : decode cX10_gather 57 = .ok (.istore 7, 2) := by decide +kernel
theorem dX10_gather_59 : decode cX10_gather 59 = .ok (.iload 7, 2) := by decide +kernel
theorem dX10_gather_61 : decode cX10_gather 61 = .ok (.ifCond .ne 32, 3) := by decide +kernel
theorem dX10_gather_64 : decode cX10_gather 64 = .ok (.aload_n 0, 1) := by decide +kernel
theorem dX10_gather_65 : decode cX10_gather 65 = .ok (.iload_n 1, 1) := by decide +kernel
theorem dX10_gather_66 : decode cX10_gather 66 = .ok (.iload_n 2, 1) := by decide +kernel
theorem dX10_gather_67 : decode cX10_gather 67 = .ok (.iload 6, 2) := by decide +kernel
theorem dX10_gather_69 : decode cX10_gather 69 = .ok (.iadd, 1) := by decide +kernel
theorem dX10_gather_70 : decode cX10_gather 70 = .ok (.aload_n 0, 1) := by decide +kernel
theorem dX10_gather_71 : decode cX10_gather 71 = .ok (.getfield 29, 3) := by decide +kernel
theorem dX10_gather_74 : decode cX10_gather 74 = .ok (.iload_n 3, 1) := by decide +kernel
theorem dX10_gather_75 : decode cX10_gather 75 = .ok (.aaload, 1) := by decide +kernel
theorem dX10_gather_76 : decode cX10_gather 76 = .ok (.getfield 288, 3) := by decide +kernel
theorem dX10_gather_79 : decode cX10_gather 79 = .ok (.iload 4, 2) := by decide +kernel
theorem dX10_gather_81 : decode cX10_gather 81 = .ok (.iload 6, 2) := by decide +kernel
theorem dX10_gather_83 : decode cX10_gather 83 = .ok (.iadd, 1) := by decide +kernel
theorem dX10_gather_84 : decode cX10_gather 84 = .ok (.aaload, 1) := by decide +kernel
theorem dX10_gather_85 : decode cX10_gather 85 = .ok (.invokevirtual 333, 3) := by decide +kernel
theorem dX10_gather_88 : decode cX10_gather 88 = .ok (.invokevirtual 336, 3) := by decide +kernel
theorem dX10_gather_91 : decode cX10_gather 91 = .ok (.istore 7, 2) := by decide +kernel
theorem dX10_gather_93 : decode cX10_gather 93 = .ok (.iload 7, 2) := by decide +kernel
theorem dX10_gather_95 : decode cX10_gather 95 = .ok (.ifCond .eq 6, 3) := by decide +kernel
theorem dX10_gather_98 : decode cX10_gather 98 = .ok (.iload 7, 2) := by decide +kernel
theorem dX10_gather_100 : decode cX10_gather 100 = .ok (.ireturn, 1) := by decide +kernel
theorem dX10_gather_101 : decode cX10_gather 101 = .ok (.aload_n 0, 1) := by decide +kernel
theorem dX10_gather_102 : decode cX10_gather 102 = .ok (.dup, 1) := by decide +kernel
theorem dX10_gather_103 : decode cX10_gather 103 = .ok (.getfield 330, 3) := by decide +kernel
theorem dX10_gather_106 : decode cX10_gather 106 = .ok (.iconst 1, 1) := by decide +kernel
theorem dX10_gather_107 : decode cX10_gather 107 = .ok (.iadd, 1) := by decide +kernel
theorem dX10_gather_108 : decode cX10_gather 108 = .ok (.putfield 330, 3) := by decide +kernel
theorem dX10_gather_111 : decode cX10_gather 111 = .ok (.iinc 6 1, 3) := by decide +kernel
theorem dX10_gather_114 : decode cX10_gather 114 = .ok (.goto (-74), 3) := by decide +kernel
theorem dX10_gather_117 : decode cX10_gather 117 = .ok (.iload 5, 2) := by decide +kernel
theorem dX10_gather_119 : decode cX10_gather 119 = .ok (.ireturn, 1) := by decide +kernel
theorem dX11_takes_0 : decode cX11_takes 0 = .ok (.iload_n 2, 1) := by decide +kernel
theorem dX11_takes_1 : decode cX11_takes 1 = .ok (.iconst (-1), 1) := by decide +kernel
theorem dX11_takes_2 : decode cX11_takes 2 = .ok (.if_icmp .ne 5, 3) := by decide +kernel
theorem dX11_takes_5 : decode cX11_takes 5 = .ok (.iconst 1, 1) := by decide +kernel
theorem dX11_takes_6 : decode cX11_takes 6 = .ok (.ireturn, 1) := by decide +kernel
theorem dX11_takes_7 : decode cX11_takes 7 = .ok (.aload_n 0, 1) := by decide +kernel
theorem dX11_takes_8 : decode cX11_takes 8 = .ok (.getfield 68, 3) := by decide +kernel
theorem dX11_takes_11 : decode cX11_takes 11 = .ok (.iload_n 2, 1) := by decide +kernel
theorem dX11_takes_12 : decode cX11_takes 12 = .ok (.iaload, 1) := by decide +kernel
theorem dX11_takes_13 : decode cX11_takes 13 = .ok (.invokestatic 218, 3) := by decide +kernel
theorem dX11_takes_16 : decode cX11_takes 16 = .ok (.istore_n 3, 1) := by decide +kernel
theorem dX11_takes_17 : decode cX11_takes 17 = .ok (.aload_n 0, 1) := by decide +kernel
theorem dX11_takes_18 : decode cX11_takes 18 = .ok (.getfield 146, 3) := by decide +kernel
theorem dX11_takes_21 : decode cX11_takes 21 = .ok (.iload_n 1, 1) := by decide +kernel
theorem dX11_takes_22 : decode cX11_takes 22 = .ok (.iaload, 1) := by decide +kernel
theorem dX11_takes_23 : decode cX11_takes 23 = .ok (.tableswitch 88 0 4 #[33, 35, 50, 66, 77], 33) := by decide +kernel
theorem dX11_takes_56 : decode cX11_takes 56 = .ok (.iconst 1, 1) := by decide +kernel
theorem dX11_takes_57 : decode cX11_takes 57 = .ok (.ireturn, 1) := by decide +kernel
theorem dX11_takes_58 : decode cX11_takes 58 = .ok (.iload_n 3, 1) := by decide +kernel
theorem dX11_takes_59 : decode cX11_takes 59 = .ok (.ifCond .eq 8, 3) := by decide +kernel
theorem dX11_takes_62 : decode cX11_takes 62 = .ok (.iload_n 3, 1) := by decide +kernel
theorem dX11_takes_63 : decode cX11_takes 63 = .ok (.iconst 1, 1) := by decide +kernel
theorem dX11_takes_64 : decode cX11_takes 64 = .ok (.if_icmp .ne 7, 3) := by decide +kernel
theorem dX11_takes_67 : decode cX11_takes 67 = .ok (.iconst 1, 1) := by decide +kernel
theorem dX11_takes_68 : decode cX11_takes 68 = .ok (.goto 4, 3) := by decide +kernel
theorem dX11_takes_71 : decode cX11_takes 71 = .ok (.iconst 0, 1) := by decide +kernel
theorem dX11_takes_72 : decode cX11_takes 72 = .ok (.ireturn, 1) := by decide +kernel
theorem dX11_takes_73 : decode cX11_takes 73 = .ok (.iload_n 3, 1) := by decide +kernel
theorem dX11_takes_74 : decode cX11_takes 74 = .ok (.iconst 2, 1) := by decide +kernel
theorem dX11_takes_75 : decode cX11_takes 75 = .ok (.if_icmp .eq 8, 3) := by decide +kernel
theorem dX11_takes_78 : decode cX11_takes 78 = .ok (.iload_n 3, 1) := by decide +kernel
theorem dX11_takes_79 : decode cX11_takes 79 = .ok (.iconst 3, 1) := by decide +kernel
theorem dX11_takes_80 : decode cX11_takes 80 = .ok (.if_icmp .ne 7, 3) := by decide +kernel
theorem dX11_takes_83 : decode cX11_takes 83 = .ok (.iconst 1, 1) := by decide +kernel
theorem dX11_takes_84 : decode cX11_takes 84 = .ok (.goto 4, 3) := by decide +kernel
theorem dX11_takes_87 : decode cX11_takes 87 = .ok (.iconst 0, 1) := by decide +kernel
theorem dX11_takes_88 : decode cX11_takes 88 = .ok (.ireturn, 1) := by decide +kernel
theorem dX11_takes_89 : decode cX11_takes 89 = .ok (.iload_n 3, 1) := by decide +kernel
theorem dX11_takes_90 : decode cX11_takes 90 = .ok (.iconst 3, 1) := by decide +kernel
theorem dX11_takes_91 : decode cX11_takes 91 = .ok (.if_icmp .ne 7, 3) := by decide +kernel
theorem dX11_takes_94 : decode cX11_takes 94 = .ok (.iconst 1, 1) := by decide +kernel
theorem dX11_takes_95 : decode cX11_takes 95 = .ok (.goto 4, 3) := by decide +kernel
theorem dX11_takes_98 : decode cX11_takes 98 = .ok (.iconst 0, 1) := by decide +kernel
theorem dX11_takes_99 : decode cX11_takes 99 = .ok (.ireturn, 1) := by decide +kernel
theorem dX11_takes_100 : decode cX11_takes 100 = .ok (.iload_n 3, 1) := by decide +kernel
theorem dX11_takes_101 : decode cX11_takes 101 = .ok (.iconst 4, 1) := by decide +kernel
theorem dX11_takes_102 : decode cX11_takes 102 = .ok (.if_icmp .ne 7, 3) := by decide +kernel
theorem dX11_takes_105 : decode cX11_takes 105 = .ok (.iconst 1, 1) := by decide +kernel
theorem dX11_takes_106 : decode cX11_takes 106 = .ok (.goto 4, 3) := by decide +kernel
theorem dX11_takes_109 : decode cX11_takes 109 = .ok (.iconst 0, 1) := by decide +kernel
theorem dX11_takes_110 : decode cX11_takes 110 = .ok (.ireturn, 1) := by decide +kernel
theorem dX11_takes_111 : decode cX11_takes 111 = .ok (.iload_n 3, 1) := by decide +kernel
theorem dX11_takes_112 : decode cX11_takes 112 = .ok (.iconst 1, 1) := by decide +kernel
theorem dX11_takes_113 : decode cX11_takes 113 = .ok (.if_icmp .ne 7, 3) := by decide +kernel
theorem dX11_takes_116 : decode cX11_takes 116 = .ok (.iconst 1, 1) := by decide +kernel
theorem dX11_takes_117 : decode cX11_takes 117 = .ok (.goto 4, 3) := by decide +kernel
theorem dX11_takes_120 : decode cX11_takes 120 = .ok (.iconst 0, 1) := by decide +kernel
theorem dX11_takes_121 : decode cX11_takes 121 = .ok (.ireturn, 1) := by decide +kernel
theorem dX11_gather_0 : decode cX11_gather 0 = .ok (.iload_n 1, 1) := by decide +kernel
theorem dX11_gather_1 : decode cX11_gather 1 = .ok (.invokestatic 347, 3) := by decide +kernel
theorem dX11_gather_4 : decode cX11_gather 4 = .ok (.ifCond .eq 10, 3) := by decide +kernel
theorem dX11_gather_7 : decode cX11_gather 7 = .ok (.iload_n 3, 1) := by decide +kernel
theorem dX11_gather_8 : decode cX11_gather 8 = .ok (.invokestatic 326, 3) := by decide +kernel
theorem dX11_gather_11 : decode cX11_gather 11 = .ok (.ifCond .ne 6, 3) := by decide +kernel
theorem dX11_gather_14 : decode cX11_gather 14 = .ok (.bipush (-2), 2) := by decide +kernel
theorem dX11_gather_16 : decode cX11_gather 16 = .ok (.ireturn, 1) := by decide +kernel
theorem dX11_gather_17 : decode cX11_gather 17 = .ok (.iload 5, 2) := by decide +kernel
theorem dX11_gather_19 : decode cX11_gather 19 = .ok (.iconst 0, 1) := by decide +kernel
theorem dX11_gather_20 : decode cX11_gather 20 = .ok (.bipush 12, 2) := by decide +kernel
theorem dX11_gather_22 : decode cX11_gather 22 = .ok (.invokestatic 172, 3) := by decide +kernel
theorem dX11_gather_25 : decode cX11_gather 25 = .ok (.ifCond .ne 6, 3) := by decide +kernel
theorem dX11_gather_28 : decode cX11_gather 28 = .ok (.bipush (-3), 2) := by decide +kernel
theorem dX11_gather_30 : decode cX11_gather 30 = .ok (.ireturn, 1) := by decide +kernel
theorem dX11_gather_31 : decode cX11_gather 31 = .ok (.aload_n 0, 1) := by decide +kernel
theorem dX11_gather_32 : decode cX11_gather 32 = .ok (.iconst 0, 1) := by decide +kernel
theorem dX11_gather_33 : decode cX11_gather 33 = .ok (.putfield 350, 3) := by decide +kernel
theorem dX11_gather_36 : decode cX11_gather 36 = .ok (.iconst 0, 1) := by decide +kernel
theorem dX11_gather_37 : decode cX11_gather 37 = .ok (.istore 6, 2) := by decide +kernel
theorem dX11_gather_39 : decode cX11_gather 39 = .ok (.iload 6, 2) := by decide +kernel
theorem dX11_gather_41 : decode cX11_gather 41 = .ok (.iload 5, 2) := by decide +kernel
theorem dX11_gather_43 : decode cX11_gather 43 = .ok (.if_icmp .ge 171, 3) := by decide +kernel
theorem dX11_gather_46 : decode cX11_gather 46 = .ok (.aload_n 0, 1) := by decide +kernel
theorem dX11_gather_47 : decode cX11_gather 47 = .ok (.iload_n 3, 1) := by decide +kernel
theorem dX11_gather_48 : decode cX11_gather 48 = .ok (.iload 4, 2) := by decide +kernel
theorem dX11_gather_50 : decode cX11_gather 50 = .ok (.iload 6, 2) := by decide +kernel
theorem dX11_gather_52 : decode cX11_gather 52 = .ok (.iadd, 1) := by decide +kernel
theorem dX11_gather_53 : decode cX11_gather 53 = .ok (.invokevirtual 329, 3) := by decide +kernel
theorem dX11_gather_56 : decode cX11_gather 56 = .ok (.istore 7, 2) := by decide +kernel
theorem dX11_gather_58 : decode cX11_gather 58 = .ok (.iload 7, 2) := by decide +kernel
theorem dX11_gather_60 : decode cX11_gather 60 = .ok (.ifCond .le 8, 3) := by decide +kernel
theorem dX11_gather_63 : decode cX11_gather 63 = .ok (.iload 7, 2) := by decide +kernel
theorem dX11_gather_65 : decode cX11_gather 65 = .ok (.goto 40, 3) := by decide +kernel
theorem dX11_gather_68 : decode cX11_gather 68 = .ok (.aload_n 0, 1) := by decide +kernel
theorem dX11_gather_69 : decode cX11_gather 69 = .ok (.getfield 143, 3) := by decide +kernel
theorem dX11_gather_72 : decode cX11_gather 72 = .ok (.iload_n 1, 1) := by decide +kernel
theorem dX11_gather_73 : decode cX11_gather 73 = .ok (.baload, 1) := by decide +kernel
theorem dX11_gather_74 : decode cX11_gather 74 = .ok (.ifCond .ne 7, 3) := by decide +kernel
theorem dX11_gather_77 : decode cX11_gather 77 = .ok (.iconst 1, 1) := by decide +kernel
theorem dX11_gather_78 : decode cX11_gather 78 = .ok (.goto 27, 3) := by decide +kernel
theorem dX11_gather_81 : decode cX11_gather 81 = .ok (.iload_n 2, 1) := by decide +kernel
theorem dX11_gather_82 : decode cX11_gather 82 = .ok (.iload 6, 2) := by decide +kernel
theorem dX11_gather_84 : decode cX11_gather 84 = .ok (.iadd, 1) := by decide +kernel
theorem dX11_gather_85 : decode cX11_gather 85 = .ok (.iconst 0, 1) := by decide +kernel
theorem dX11_gather_86 : decode cX11_gather 86 = .ok (.aload_n 0, 1) := by decide +kernel
theorem dX11_gather_87 : decode cX11_gather 87 = .ok (.getfield 149, 3) := by decide +kernel
theorem dX11_gather_90 : decode cX11_gather 90 = .ok (.iload_n 1, 1) := by decide +kernel
theorem dX11_gather_91 : decode cX11_gather 91 = .ok (.iaload, 1) := by decide +kernel
theorem dX11_gather_92 : decode cX11_gather 92 = .ok (.iconst 1, 1) := by decide +kernel
theorem dX11_gather_93 : decode cX11_gather 93 = .ok (.isub, 1) := by decide +kernel
theorem dX11_gather_94 : decode cX11_gather 94 = .ok (.invokestatic 172, 3) := by decide +kernel
theorem dX11_gather_97 : decode cX11_gather 97 = .ok (.ifCond .eq 7, 3) := by decide +kernel
theorem dX11_gather_100 : decode cX11_gather 100 = .ok (.iconst 0, 1) := by decide +kernel
theorem dX11_gather_101 : decode cX11_gather 101 = .ok (.goto 4, 3) := by decide +kernel
theorem dX11_gather_104 : decode cX11_gather 104 = .ok (.iconst 2, 1) := by decide +kernel
theorem dX11_gather_105 : decode cX11_gather 105 = .ok (.istore 7, 2) := by decide +kernel
theorem dX11_gather_107 : decode cX11_gather 107 = .ok (.iload 7, 2) := by decide +kernel
theorem dX11_gather_109 : decode cX11_gather 109 = .ok (.ifCond .le 10, 3) := by decide +kernel
theorem dX11_gather_112 : decode cX11_gather 112 = .ok (.aload_n 0, 1) := by decide +kernel
theorem dX11_gather_113 : decode cX11_gather 113 = .ok (.iload 7, 2) := by decide +kernel
theorem dX11_gather_115 : decode cX11_gather 115 = .ok (.invokevirtual 316, 3) := by decide +kernel
theorem dX11_gather_118 : decode cX11_gather 118 = .ok (.ireturn, 1) := by decide +kernel
theorem dX11_gather_119 : decode cX11_gather 119 = .ok (.bipush 12, 2) := by decide +kernel
theorem dX11_gather_121 : decode cX11_gather 121 = .ok (.iload_n 3, 1) := by decide +kernel
theorem dX11_gather_122 : decode cX11_gather 122 = .ok (.imul, 1) := by decide +kernel
theorem dX11_gather_123 : decode cX11_gather 123 = .ok (.iload 4, 2) := by decide +kernel
theorem dX11_gather_125 : decode cX11_gather 125 = .ok (.iadd, 1) := by decide +kernel
theorem dX11_gather_126 : decode cX11_gather 126 = .ok (.iload 6, 2) := by decide +kernel
theorem dX11_gather_128 : decode cX11_gather 128 = .ok (.iadd, 1) := by decide +kernel
theorem dX11_gather_129 : decode cX11_gather 129 = .ok (.istore 8, 2) := by decide +kernel
theorem dX11_gather_131 : decode cX11_gather 131 = .ok (.aload_n 0, 1) := by decide +kernel
theorem dX11_gather_132 : decode cX11_gather 132 = .ok (.getfield 128, 3) := by decide +kernel
theorem dX11_gather_135 : decode cX11_gather 135 = .ok (.iload 8, 2) := by decide +kernel
theorem dX11_gather_137 : decode cX11_gather 137 = .ok (.iaload, 1) := by decide +kernel
theorem dX11_gather_138 : decode cX11_gather 138 = .ok (.iconst 1, 1) := by decide +kernel
theorem dX11_gather_139 : decode cX11_gather 139 = .ok (.if_icmp .ne 13, 3) := by decide +kernel
theorem dX11_gather_142 : decode cX11_gather 142 = .ok (.aload_n 0, 1) := by decide +kernel
theorem dX11_gather_143 : decode cX11_gather 143 = .ok (.getfield 131, 3) := by decide +kernel
theorem dX11_gather_146 : decode cX11_gather 146 = .ok (.iload 8, 2) := by decide +kernel
theorem dX11_gather_148 : decode cX11_gather 148 = .ok (.iaload, 1) := by decide +kernel
theorem dX11_gather_149 : decode cX11_gather 149 = .ok (.goto 4, 3) := by decide +kernel
theorem dX11_gather_152 : decode cX11_gather 152 = .ok (.iconst (-1), 1) := by decide +kernel
theorem dX11_gather_153 : decode cX11_gather 153 = .ok (.istore 9, 2) := by decide +kernel
theorem dX11_gather_155 : decode cX11_gather 155 = .ok (.aload_n 0, 1) := by decide +kernel
theorem dX11_gather_156 : decode cX11_gather 156 = .ok (.getfield 128, 3) := by decide +kernel
theorem dX11_gather_159 : decode cX11_gather 159 = .ok (.iload 8, 2) := by decide +kernel
theorem dX11_gather_161 : decode cX11_gather 161 = .ok (.iaload, 1) := by decide +kernel
theorem dX11_gather_162 : decode cX11_gather 162 = .ok (.iconst 1, 1) := by decide +kernel
theorem dX11_gather_163 : decode cX11_gather 163 = .ok (.if_icmp .gt 13, 3) := by decide +kernel
theorem dX11_gather_166 : decode cX11_gather 166 = .ok (.aload_n 0, 1) := by decide +kernel
theorem dX11_gather_167 : decode cX11_gather 167 = .ok (.iload_n 1, 1) := by decide +kernel
theorem dX11_gather_168 : decode cX11_gather 168 = .ok (.iload 9, 2) := by decide +kernel
theorem dX11_gather_170 : decode cX11_gather 170 = .ok (.invokevirtual 353, 3) := by decide +kernel
theorem dX11_gather_173 : decode cX11_gather 173 = .ok (.ifCond .ne 9, 3) := by decide +kernel
theorem dX11_gather_176 : decode cX11_gather 176 = .ok (.aload_n 0, 1) := by decide +kernel
theorem dX11_gather_177 : decode cX11_gather 177 = .ok (.iconst 4, 1) := by decide +kernel
theorem dX11_gather_178 : decode cX11_gather 178 = .ok (.invokevirtual 316, 3) := by decide +kernel
theorem dX11_gather_181 : decode cX11_gather 181 = .ok (.ireturn, 1) := by decide +kernel
theorem dX11_gather_182 : decode cX11_gather 182 = .ok (.aload_n 0, 1) := by decide +kernel
theorem dX11_gather_183 : decode cX11_gather 183 = .ok (.getfield 152, 3) := by decide +kernel
theorem dX11_gather_186 : decode cX11_gather 186 = .ok (.bipush 10, 2) := by decide +kernel
theorem dX11_gather_188 : decode cX11_gather 188 = .ok (.iload_n 1, 1) := by decide +kernel
theorem dX11_gather_189 : decode cX11_gather 189 = .ok (.imul, 1) := by decide +kernel
theorem dX11_gather_190 : decode cX11_gather 190 = .ok (.iload_n 2, 1) := by decide +kernel
theorem dX11_gather_191 : decode cX11_gather 191 = .ok (.iadd, 1) := by decide +kernel
theorem dX11_gather_192 : decode cX11_gather 192 = .ok (.iload 6, 2) := by decide +kernel
theorem dX11_gather_194 : decode cX11_gather 194 = .ok (.iadd, 1) := by decide +kernel
theorem dX11_gather_195 : decode cX11_gather 195 = .ok (.iload 9, 2) := by decide +kernel
theorem dX11_gather_197 : decode cX11_gather 197 = .ok (.iastore, 1) := by decide +kernel
theorem dX11_gather_198 : decode cX11_gather 198 = .ok (.aload_n 0, 1) := by decide +kernel
theorem dX11_gather_199 : decode cX11_gather 199 = .ok (.dup, 1) := by decide +kernel
theorem dX11_gather_200 : decode cX11_gather 200 = .ok (.getfield 350, 3) := by decide +kernel
theorem dX11_gather_203 : decode cX11_gather 203 = .ok (.iconst 1, 1) := by decide +kernel
theorem dX11_gather_204 : decode cX11_gather 204 = .ok (.iadd, 1) := by decide +kernel
theorem dX11_gather_205 : decode cX11_gather 205 = .ok (.putfield 350, 3) := by decide +kernel
theorem dX11_gather_208 : decode cX11_gather 208 = .ok (.iinc 6 1, 3) := by decide +kernel
theorem dX11_gather_211 : decode cX11_gather 211 = .ok (.goto (-172), 3) := by decide +kernel
theorem dX11_gather_214 : decode cX11_gather 214 = .ok (.iload 5, 2) := by decide +kernel
theorem dX11_gather_216 : decode cX11_gather 216 = .ok (.ireturn, 1) := by decide +kernel
theorem dX10_shift_0 : decode cX10_shift 0 = .ok (.iload_n 1, 1) := by decide +kernel
theorem dX10_shift_1 : decode cX10_shift 1 = .ok (.invokestatic 324, 3) := by decide +kernel
theorem dX10_shift_4 : decode cX10_shift 4 = .ok (.ifCond .eq 10, 3) := by decide +kernel
theorem dX10_shift_7 : decode cX10_shift 7 = .ok (.iload_n 3, 1) := by decide +kernel
theorem dX10_shift_8 : decode cX10_shift 8 = .ok (.invokestatic 324, 3) := by decide +kernel
theorem dX10_shift_11 : decode cX10_shift 11 = .ok (.ifCond .ne 6, 3) := by decide +kernel
theorem dX10_shift_14 : decode cX10_shift 14 = .ok (.bipush (-2), 2) := by decide +kernel
theorem dX10_shift_16 : decode cX10_shift 16 = .ok (.ireturn, 1) := by decide +kernel
theorem dX10_shift_17 : decode cX10_shift 17 = .ok (.iload 5, 2) := by decide +kernel
theorem dX10_shift_19 : decode cX10_shift 19 = .ok (.ifCond .lt 10, 3) := by decide +kernel
theorem dX10_shift_22 : decode cX10_shift 22 = .ok (.iload 5, 2) := by decide +kernel
theorem dX10_shift_24 : decode cX10_shift 24 = .ok (.bipush 10, 2) := by decide +kernel
theorem dX10_shift_26 : decode cX10_shift 26 = .ok (.if_icmp .le 6, 3) := by decide +kernel
theorem dX10_shift_29 : decode cX10_shift 29 = .ok (.bipush (-3), 2) := by decide +kernel
theorem dX10_shift_31 : decode cX10_shift 31 = .ok (.ireturn, 1) := by decide +kernel
theorem dX10_shift_32 : decode cX10_shift 32 = .ok (.aload_n 0, 1) := by decide +kernel
theorem dX10_shift_33 : decode cX10_shift 33 = .ok (.iconst 0, 1) := by decide +kernel
theorem dX10_shift_34 : decode cX10_shift 34 = .ok (.putfield 330, 3) := by decide +kernel
theorem dX10_shift_37 : decode cX10_shift 37 = .ok (.aload_n 0, 1) := by decide +kernel
theorem dX10_shift_38 : decode cX10_shift 38 = .ok (.getfield 35, 3) := by decide +kernel
theorem dX10_shift_41 : decode cX10_shift 41 = .ok (.iload_n 1, 1) := by decide +kernel
theorem dX10_shift_42 : decode cX10_shift 42 = .ok (.aaload, 1) := by decide +kernel
theorem dX10_shift_43 : decode cX10_shift 43 = .ok (.getfield 339, 3) := by decide +kernel
theorem dX10_shift_46 : decode cX10_shift 46 = .ok (.iconst (-1), 1) := by decide +kernel
theorem dX10_shift_47 : decode cX10_shift 47 = .ok (.if_icmp .eq 16, 3) := by decide +kernel
theorem dX10_shift_50 : decode cX10_shift 50 = .ok (.aload_n 0, 1) := by decide +kernel
theorem dX10_shift_51 : decode cX10_shift 51 = .ok (.getfield 35, 3) := by decide +kernel
theorem dX10_shift_54 : decode cX10_shift 54 = .ok (.iload_n 3, 1) := by decide +kernel
theorem dX10_shift_55 : decode cX10_shift 55 = .ok (.aaload, 1) := by decide +kernel
theorem dX10_shift_56 : decode cX10_shift 56 = .ok (.getfield 339, 3) := by decide +kernel
theorem dX10_shift_59 : decode cX10_shift 59 = .ok (.iconst (-1), 1) := by decide +kernel
theorem dX10_shift_60 : decode cX10_shift 60 = .ok (.if_icmp .ne 9, 3) := by decide +kernel
theorem dX10_shift_63 : decode cX10_shift 63 = .ok (.aload_n 0, 1) := by decide +kernel
theorem dX10_shift_64 : decode cX10_shift 64 = .ok (.iconst 1, 1) := by decide +kernel
theorem dX10_shift_65 : decode cX10_shift 65 = .ok (.invokevirtual 272, 3) := by decide +kernel
theorem dX10_shift_68 : decode cX10_shift 68 = .ok (.ireturn, 1) := by decide +kernel
theorem dX10_shift_69 : decode cX10_shift 69 = .ok (.aload_n 0, 1) := by decide +kernel
theorem dX10_shift_70 : decode cX10_shift 70 = .ok (.getfield 35, 3) := by decide +kernel
theorem dX10_shift_73 : decode cX10_shift 73 = .ok (.iload_n 1, 1) := by decide +kernel
theorem dX10_shift_74 : decode cX10_shift 74 = .ok (.aaload, 1) := by decide +kernel
theorem dX10_shift_75 : decode cX10_shift 75 = .ok (.getfield 340, 3) := by decide +kernel
theorem dX10_shift_78 : decode cX10_shift 78 = .ok (.iconst 0, 1) := by decide +kernel
theorem dX10_shift_79 : decode cX10_shift 79 = .ok (.aload_n 0, 1) := by decide +kernel
theorem dX10_shift_80 : decode cX10_shift 80 = .ok (.getfield 60, 3) := by decide +kernel
theorem dX10_shift_83 : decode cX10_shift 83 = .ok (.iconst 0, 1) := by decide +kernel
theorem dX10_shift_84 : decode cX10_shift 84 = .ok (.bipush 10, 2) := by decide +kernel
theorem dX10_shift_86 : decode cX10_shift 86 = .ok (.invokestatic 343, 3) := by decide +kernel
theorem dX10_shift_89 : decode cX10_shift 89 = .ok (.iconst 0, 1) := by decide +kernel
theorem dX10_shift_90 : decode cX10_shift 90 = .ok (.istore 6, 2) := by decide +kernel
theorem dX10_shift_92 : decode cX10_shift 92 = .ok (.iload 6, 2) := by decide +kernel
theorem dX10_shift_94 : decode cX10_shift 94 = .ok (.iload 5, 2) := by decide +kernel
theorem dX10_shift_96 : decode cX10_shift 96 = .ok (.if_icmp .ge 64, 3) := by decide +kernel
theorem dX10_shift_99 : decode cX10_shift 99 = .ok (.aload_n 0, 1) := by decide +kernel
theorem dX10_shift_100 : decode cX10_shift 100 = .ok (.iload_n 1, 1) := by decide +kernel
theorem dX10_shift_101 : decode cX10_shift 101 = .ok (.iload_n 2, 1) := by decide +kernel
theorem dX10_shift_102 : decode cX10_shift 102 = .ok (.iload 6, 2) := by decide +kernel
theorem dX10_shift_104 : decode cX10_shift 104 = .ok (.iadd, 1) := by decide +kernel
theorem dX10_shift_105 : decode cX10_shift 105 = .ok (.invokevirtual 349, 3) := by decide +kernel
theorem dX10_shift_108 : decode cX10_shift 108 = .ok (.istore 7, 2) := by decide +kernel
theorem dX10_shift_110 : decode cX10_shift 110 = .ok (.iload 7, 2) := by decide +kernel
theorem dX10_shift_112 : decode cX10_shift 112 = .ok (.ifCond .ne 24, 3) := by decide +kernel
theorem dX10_shift_115 : decode cX10_shift 115 = .ok (.aload_n 0, 1) := by decide +kernel
theorem dX10_shift_116 : decode cX10_shift 116 = .ok (.iload_n 3, 1) := by decide +kernel
theorem dX10_shift_117 : decode cX10_shift 117 = .ok (.iload 4, 2) := by decide +kernel
theorem dX10_shift_119 : decode cX10_shift 119 = .ok (.iload 6, 2) := by decide +kernel
theorem dX10_shift_121 : decode cX10_shift 121 = .ok (.iadd, 1) := by decide +kernel
theorem dX10_shift_122 : decode cX10_shift 122 = .ok (.aload_n 0, 1) := by decide +kernel
theorem dX10_shift_123 : decode cX10_shift 123 = .ok (.getfield 60, 3) := by decide +kernel
theorem dX10_shift_126 : decode cX10_shift 126 = .ok (.iload_n 2, 1) := by decide +kernel
theorem dX10_shift_127 : decode cX10_shift 127 = .ok (.iload 6, 2) := by decide +kernel
theorem dX10_shift_129 : decode cX10_shift 129 = .ok (.iadd, 1) := by decide +kernel
theorem dX10_shift_130 : decode cX10_shift 130 = .ok (.iaload, 1) := by decide +kernel
theorem dX10_shift_131 : decode cX10_shift 131 = .ok (.invokevirtual 336, 3) := by decide +kernel
theorem dX10_shift_134 : decode cX10_shift 134 = .ok (.istore 7, 2) := by decide +kernel
theorem dX10_shift_136 : decode cX10_shift 136 = .ok (.iload 7, 2) := by decide +kernel
theorem dX10_shift_138 : decode cX10_shift 138 = .ok (.ifCond .eq 6, 3) := by decide +kernel
theorem dX10_shift_141 : decode cX10_shift 141 = .ok (.iload 7, 2) := by decide +kernel
theorem dX10_shift_143 : decode cX10_shift 143 = .ok (.ireturn, 1) := by decide +kernel
theorem dX10_shift_144 : decode cX10_shift 144 = .ok (.aload_n 0, 1) := by decide +kernel
theorem dX10_shift_145 : decode cX10_shift 145 = .ok (.dup, 1) := by decide +kernel
theorem dX10_shift_146 : decode cX10_shift 146 = .ok (.getfield 330, 3) := by decide +kernel
theorem dX10_shift_149 : decode cX10_shift 149 = .ok (.iconst 1, 1) := by decide +kernel
theorem dX10_shift_150 : decode cX10_shift 150 = .ok (.iadd, 1) := by decide +kernel
theorem dX10_shift_151 : decode cX10_shift 151 = .ok (.putfield 330, 3) := by decide +kernel
theorem dX10_shift_154 : decode cX10_shift 154 = .ok (.iinc 6 1, 3) := by decide +kernel
theorem dX10_shift_157 : decode cX10_shift 157 = .ok (.goto (-65), 3) := by decide +kernel
theorem dX10_shift_160 : decode cX10_shift 160 = .ok (.iload 5, 2) := by decide +kernel
theorem dX10_shift_162 : decode cX10_shift 162 = .ok (.ireturn, 1) := by decide +kernel
theorem dX11_shift_0 : decode cX11_shift 0 = .ok (.iload_n 1, 1) := by decide +kernel
theorem dX11_shift_1 : decode cX11_shift 1 = .ok (.invokestatic 347, 3) := by decide +kernel
theorem dX11_shift_4 : decode cX11_shift 4 = .ok (.ifCond .eq 10, 3) := by decide +kernel
theorem dX11_shift_7 : decode cX11_shift 7 = .ok (.iload_n 3, 1) := by decide +kernel
theorem dX11_shift_8 : decode cX11_shift 8 = .ok (.invokestatic 347, 3) := by decide +kernel
theorem dX11_shift_11 : decode cX11_shift 11 = .ok (.ifCond .ne 6, 3) := by decide +kernel
theorem dX11_shift_14 : decode cX11_shift 14 = .ok (.bipush (-2), 2) := by decide +kernel
theorem dX11_shift_16 : decode cX11_shift 16 = .ok (.ireturn, 1) := by decide +kernel
theorem dX11_shift_17 : decode cX11_shift 17 = .ok (.iload 5, 2) := by decide +kernel
theorem dX11_shift_19 : decode cX11_shift 19 = .ok (.iconst 0, 1) := by decide +kernel
theorem dX11_shift_20 : decode cX11_shift 20 = .ok (.bipush 10, 2) := by decide +kernel
theorem dX11_shift_22 : decode cX11_shift 22 = .ok (.invokestatic 172, 3) := by decide +kernel
theorem dX11_shift_25 : decode cX11_shift 25 = .ok (.ifCond .ne 6, 3) := by decide +kernel
theorem dX11_shift_28 : decode cX11_shift 28 = .ok (.bipush (-3), 2) := by decide +kernel
theorem dX11_shift_30 : decode cX11_shift 30 = .ok (.ireturn, 1) := by decide +kernel
theorem dX11_shift_31 : decode cX11_shift 31 = .ok (.aload_n 0, 1) := by decide +kernel
theorem dX11_shift_32 : decode cX11_shift 32 = .ok (.iconst 0, 1) := by decide +kernel
theorem dX11_shift_33 : decode cX11_shift 33 = .ok (.putfield 350, 3) := by decide +kernel
theorem dX11_shift_36 : decode cX11_shift 36 = .ok (.aload_n 0, 1) := by decide +kernel
theorem dX11_shift_37 : decode cX11_shift 37 = .ok (.getfield 143, 3) := by decide +kernel
theorem dX11_shift_40 : decode cX11_shift 40 = .ok (.iload_n 1, 1) := by decide +kernel
theorem dX11_shift_41 : decode cX11_shift 41 = .ok (.baload, 1) := by decide +kernel
theorem dX11_shift_42 : decode cX11_shift 42 = .ok (.ifCond .eq 12, 3) := by decide +kernel
theorem dX11_shift_45 : decode cX11_shift 45 = .ok (.aload_n 0, 1) := by decide +kernel
theorem dX11_shift_46 : decode cX11_shift 46 = .ok (.getfield 143, 3) := by decide +kernel
theorem dX11_shift_49 : decode cX11_shift 49 = .ok (.iload_n 3, 1) := by decide +kernel
theorem dX11_shift_50 : decode cX11_shift 50 = .ok (.baload, 1) := by decide +kernel
theorem dX11_shift_51 : decode cX11_shift 51 = .ok (.ifCond .ne 9, 3) := by decide +kernel
theorem dX11_shift_54 : decode cX11_shift 54 = .ok (.aload_n 0, 1) := by decide +kernel
theorem dX11_shift_55 : decode cX11_shift 55 = .ok (.iconst 1, 1) := by decide +kernel
theorem dX11_shift_56 : decode cX11_shift 56 = .ok (.invokevirtual 316, 3) := by decide +kernel
theorem dX11_shift_59 : decode cX11_shift 59 = .ok (.ireturn, 1) := by decide +kernel
theorem dX11_shift_60 : decode cX11_shift 60 = .ok (.iconst 0, 1) := by decide +kernel
theorem dX11_shift_61 : decode cX11_shift 61 = .ok (.istore 6, 2) := by decide +kernel
theorem dX11_shift_63 : decode cX11_shift 63 = .ok (.iload 6, 2) := by decide +kernel
theorem dX11_shift_65 : decode cX11_shift 65 = .ok (.bipush 10, 2) := by decide +kernel
theorem dX11_shift_67 : decode cX11_shift 67 = .ok (.if_icmp .ge 28, 3) := by decide +kernel
theorem dX11_shift_70 : decode cX11_shift 70 = .ok (.aload_n 0, 1) := by decide +kernel
theorem dX11_shift_71 : decode cX11_shift 71 = .ok (.getfield 155, 3) := by decide +kernel
theorem dX11_shift_74 : decode cX11_shift 74 = .ok (.iload 6, 2) := by decide +kernel
theorem dX11_shift_76 : decode cX11_shift 76 = .ok (.aload_n 0, 1) := by decide +kernel
theorem dX11_shift_77 : decode cX11_shift 77 = .ok (.getfield 152, 3) := by decide +kernel
theorem dX11_shift_80 : decode cX11_shift 80 = .ok (.bipush 10, 2) := by decide +kernel
theorem dX11_shift_82 : decode cX11_shift 82 = .ok (.iload_n 1, 1) := by decide +kernel
theorem dX11_shift_83 : decode cX11_shift 83 = .ok (.imul, 1) := by decide +kernel
theorem dX11_shift_84 : decode cX11_shift 84 = .ok (.iload 6, 2) := by decide +kernel
theorem dX11_shift_86 : decode cX11_shift 86 = .ok (.iadd, 1) := by decide +kernel
theorem dX11_shift_87 : decode cX11_shift 87 = .ok (.iaload, 1) := by decide +kernel
theorem dX11_shift_88 : decode cX11_shift 88 = .ok (.iastore, 1) := by decide +kernel
theorem dX11_shift_89 : decode cX11_shift 89 = .ok (.iinc 6 1, 3) := by decide +kernel
theorem dX11_shift_92 : decode cX11_shift 92 = .ok (.goto (-29), 3) := by decide +kernel
theorem dX11_shift_95 : decode cX11_shift 95 = .ok (.iconst 0, 1) := by decide +kernel
theorem dX11_shift_96 : decode cX11_shift 96 = .ok (.istore 6, 2) := by decide +kernel
theorem dX11_shift_98 : decode cX11_shift 98 = .ok (.iload 6, 2) := by decide +kernel
theorem dX11_shift_100 : decode cX11_shift 100 = .ok (.iload 5, 2) := by decide +kernel
theorem dX11_shift_102 : decode cX11_shift 102 = .ok (.if_icmp .ge 111, 3) := by decide +kernel
theorem dX11_shift_105 : decode cX11_shift 105 = .ok (.iload_n 2, 1) := by decide +kernel
theorem dX11_shift_106 : decode cX11_shift 106 = .ok (.iload 6, 2) := by decide +kernel
theorem dX11_shift_108 : decode cX11_shift 108 = .ok (.iadd, 1) := by decide +kernel
theorem dX11_shift_109 : decode cX11_shift 109 = .ok (.iconst 0, 1) := by decide +kernel
theorem dX11_shift_110 : decode cX11_shift 110 = .ok (.aload_n 0, 1) := by decide +kernel
theorem dX11_shift_111 : decode cX11_shift 111 = .ok (.getfield 149, 3) := by decide +kernel
theorem dX11_shift_114 : decode cX11_shift 114 = .ok (.iload_n 1, 1) := by decide +kernel
theorem dX11_shift_115 : decode cX11_shift 115 = .ok (.iaload, 1) := by decide +kernel
theorem dX11_shift_116 : decode cX11_shift 116 = .ok (.iconst 1, 1) := by decide +kernel
theorem dX11_shift_117 : decode cX11_shift 117 = .ok (.isub, 1) := by decide +kernel
theorem dX11_shift_118 : decode cX11_shift 118 = .ok (.invokestatic 172, 3) := by decide +kernel
theorem dX11_shift_121 : decode cX11_shift 121 = .ok (.ifCond .eq 23, 3) := by decide +kernel
theorem dX11_shift_124 : decode cX11_shift 124 = .ok (.iload 4, 2) := by decide +kernel
theorem dX11_shift_126 : decode cX11_shift 126 = .ok (.iload 6, 2) := by decide +kernel
theorem dX11_shift_128 : decode cX11_shift 128 = .ok (.iadd, 1) := by decide +kernel
theorem dX11_shift_129 : decode cX11_shift 129 = .ok (.iconst 0, 1) := by decide +kernel
theorem dX11_shift_130 : decode cX11_shift 130 = .ok (.aload_n 0, 1) := by decide +kernel
theorem dX11_shift_131 : decode cX11_shift 131 = .ok (.getfield 149, 3) := by decide +kernel
theorem dX11_shift_134 : decode cX11_shift 134 = .ok (.iload_n 3, 1) := by decide +kernel
theorem dX11_shift_135 : decode cX11_shift 135 = .ok (.iaload, 1) := by decide +kernel
theorem dX11_shift_136 : decode cX11_shift 136 = .ok (.iconst 1, 1) := by decide +kernel
theorem dX11_shift_137 : decode cX11_shift 137 = .ok (.isub, 1) := by decide +kernel
theorem dX11_shift_138 : decode cX11_shift 138 = .ok (.invokestatic 172, 3) := by decide +kernel
theorem dX11_shift_141 : decode cX11_shift 141 = .ok (.ifCond .ne 9, 3) := by decide +kernel
theorem dX11_shift_144 : decode cX11_shift 144 = .ok (.aload_n 0, 1) := by decide +kernel
theorem dX11_shift_145 : decode cX11_shift 145 = .ok (.iconst 2, 1) := by decide +kernel
theorem dX11_shift_146 : decode cX11_shift 146 = .ok (.invokevirtual 316, 3) := by decide +kernel
theorem dX11_shift_149 : decode cX11_shift 149 = .ok (.ireturn, 1) := by decide +kernel
theorem dX11_shift_150 : decode cX11_shift 150 = .ok (.aload_n 0, 1) := by decide +kernel
theorem dX11_shift_151 : decode cX11_shift 151 = .ok (.iload_n 3, 1) := by decide +kernel
theorem dX11_shift_152 : decode cX11_shift 152 = .ok (.aload_n 0, 1) := by decide +kernel
theorem dX11_shift_153 : decode cX11_shift 153 = .ok (.getfield 155, 3) := by decide +kernel
theorem dX11_shift_156 : decode cX11_shift 156 = .ok (.iload_n 2, 1) := by decide +kernel
theorem dX11_shift_157 : decode cX11_shift 157 = .ok (.iload 6, 2) := by decide +kernel
theorem dX11_shift_159 : decode cX11_shift 159 = .ok (.iadd, 1) := by decide +kernel
theorem dX11_shift_160 : decode cX11_shift 160 = .ok (.iaload, 1) := by decide +kernel
theorem dX11_shift_161 : decode cX11_shift 161 = .ok (.invokevirtual 353, 3) := by decide +kernel
theorem dX11_shift_164 : decode cX11_shift 164 = .ok (.ifCond .ne 9, 3) := by decide +kernel
theorem dX11_shift_167 : decode cX11_shift 167 = .ok (.aload_n 0, 1) := by decide +kernel
theorem dX11_shift_168 : decode cX11_shift 168 = .ok (.iconst 4, 1) := by decide +kernel
theorem dX11_shift_169 : decode cX11_shift 169 = .ok (.invokevirtual 316, 3) := by decide +kernel
theorem dX11_shift_172 : decode cX11_shift 172 = .ok (.ireturn, 1) := by decide +kernel
theorem dX11_shift_173 : decode cX11_shift 173 = .ok (.aload_n 0, 1) := by decide +kernel
theorem dX11_shift_174 : decode cX11_shift 174 = .ok (.getfield 152, 3) := by decide +kernel
theorem dX11_shift_177 : decode cX11_shift 177 = .ok (.bipush 10, 2) := by decide +kernel
theorem dX11_shift_179 : decode cX11_shift 179 = .ok (.iload_n 3, 1) := by decide +kernel
theorem dX11_shift_180 : decode cX11_shift 180 = .ok (.imul, 1) := by decide +kernel
theorem dX11_shift_181 : decode cX11_shift 181 = .ok (.iload 4, 2) := by decide +kernel
theorem dX11_shift_183 : decode cX11_shift 183 = .ok (.iadd, 1) := by decide +kernel
theorem dX11_shift_184 : decode cX11_shift 184 = .ok (.iload 6, 2) := by decide +kernel
theorem dX11_shift_186 : decode cX11_shift 186 = .ok (.iadd, 1) := by decide +kernel
theorem dX11_shift_187 : decode cX11_shift 187 = .ok (.aload_n 0, 1) := by decide +kernel
theorem dX11_shift_188 : decode cX11_shift 188 = .ok (.getfield 155, 3) := by decide +kernel
theorem dX11_shift_191 : decode cX11_shift 191 = .ok (.iload_n 2, 1) := by decide +kernel
theorem dX11_shift_192 : decode cX11_shift 192 = .ok (.iload 6, 2) := by decide +kernel
theorem dX11_shift_194 : decode cX11_shift 194 = .ok (.iadd, 1) := by decide +kernel
theorem dX11_shift_195 : decode cX11_shift 195 = .ok (.iaload, 1) := by decide +kernel
theorem dX11_shift_196 : decode cX11_shift 196 = .ok (.iastore, 1) := by decide +kernel
theorem dX11_shift_197 : decode cX11_shift 197 = .ok (.aload_n 0, 1) := by decide +kernel
theorem dX11_shift_198 : decode cX11_shift 198 = .ok (.dup, 1) := by decide +kernel
theorem dX11_shift_199 : decode cX11_shift 199 = .ok (.getfield 350, 3) := by decide +kernel
theorem dX11_shift_202 : decode cX11_shift 202 = .ok (.iconst 1, 1) := by decide +kernel
theorem dX11_shift_203 : decode cX11_shift 203 = .ok (.iadd, 1) := by decide +kernel
theorem dX11_shift_204 : decode cX11_shift 204 = .ok (.putfield 350, 3) := by decide +kernel
theorem dX11_shift_207 : decode cX11_shift 207 = .ok (.iinc 6 1, 3) := by decide +kernel
theorem dX11_shift_210 : decode cX11_shift 210 = .ok (.goto (-112), 3) := by decide +kernel
theorem dX11_shift_213 : decode cX11_shift 213 = .ok (.iload 5, 2) := by decide +kernel
theorem dX11_shift_215 : decode cX11_shift 215 = .ok (.ireturn, 1) := by decide +kernel
theorem dX10_came_0 : decode cX10_came 0 = .ok (.aload_n 0, 1) := by decide +kernel
theorem dX10_came_1 : decode cX10_came 1 = .ok (.getfield 330, 3) := by decide +kernel
theorem dX10_came_4 : decode cX10_came 4 = .ok (.ireturn, 1) := by decide +kernel
theorem dX11_came_0 : decode cX11_came 0 = .ok (.aload_n 0, 1) := by decide +kernel
theorem dX11_came_1 : decode cX11_came 1 = .ok (.getfield 350, 3) := by decide +kernel
theorem dX11_came_4 : decode cX11_came 4 = .ok (.ireturn, 1) := by decide +kernel
theorem dX10_held_0 : decode cX10_held 0 = .ok (.iload_n 1, 1) := by decide +kernel
theorem dX10_held_1 : decode cX10_held 1 = .ok (.invokestatic 324, 3) := by decide +kernel
theorem dX10_held_4 : decode cX10_held 4 = .ok (.ifCond .ne 6, 3) := by decide +kernel
theorem dX10_held_7 : decode cX10_held 7 = .ok (.bipush (-2), 2) := by decide +kernel
theorem dX10_held_9 : decode cX10_held 9 = .ok (.ireturn, 1) := by decide +kernel
theorem dX10_held_10 : decode cX10_held 10 = .ok (.aload_n 0, 1) := by decide +kernel
theorem dX10_held_11 : decode cX10_held 11 = .ok (.iload_n 1, 1) := by decide +kernel
theorem dX10_held_12 : decode cX10_held 12 = .ok (.iload_n 2, 1) := by decide +kernel
theorem dX10_held_13 : decode cX10_held 13 = .ok (.invokevirtual 349, 3) := by decide +kernel
theorem dX10_held_16 : decode cX10_held 16 = .ok (.istore_n 3, 1) := by decide +kernel
theorem dX10_held_17 : decode cX10_held 17 = .ok (.iload_n 3, 1) := by decide +kernel
theorem dX10_held_18 : decode cX10_held 18 = .ok (.ifCond .eq 7, 3) := by decide +kernel
theorem dX10_held_21 : decode cX10_held 21 = .ok (.iload_n 3, 1) := by decide +kernel
theorem dX10_held_22 : decode cX10_held 22 = .ok (.goto 14, 3) := by decide +kernel
theorem dX10_held_25 : decode cX10_held 25 = .ok (.aload_n 0, 1) := by decide +kernel
theorem dX10_held_26 : decode cX10_held 26 = .ok (.getfield 35, 3) := by decide +kernel
theorem dX10_held_29 : decode cX10_held 29 = .ok (.iload_n 1, 1) := by decide +kernel
theorem dX10_held_30 : decode cX10_held 30 = .ok (.aaload, 1) := by decide +kernel
theorem dX10_held_31 : decode cX10_held 31 = .ok (.getfield 340, 3) := by decide +kernel
theorem dX10_held_34 : decode cX10_held 34 = .ok (.iload_n 2, 1) := by decide +kernel
theorem dX10_held_35 : decode cX10_held 35 = .ok (.iaload, 1) := by decide +kernel
theorem dX10_held_36 : decode cX10_held 36 = .ok (.ireturn, 1) := by decide +kernel
theorem dX11_held_0 : decode cX11_held 0 = .ok (.iload_n 1, 1) := by decide +kernel
theorem dX11_held_1 : decode cX11_held 1 = .ok (.invokestatic 347, 3) := by decide +kernel
theorem dX11_held_4 : decode cX11_held 4 = .ok (.ifCond .ne 6, 3) := by decide +kernel
theorem dX11_held_7 : decode cX11_held 7 = .ok (.bipush (-2), 2) := by decide +kernel
theorem dX11_held_9 : decode cX11_held 9 = .ok (.ireturn, 1) := by decide +kernel
theorem dX11_held_10 : decode cX11_held 10 = .ok (.aload_n 0, 1) := by decide +kernel
theorem dX11_held_11 : decode cX11_held 11 = .ok (.getfield 143, 3) := by decide +kernel
theorem dX11_held_14 : decode cX11_held 14 = .ok (.iload_n 1, 1) := by decide +kernel
theorem dX11_held_15 : decode cX11_held 15 = .ok (.baload, 1) := by decide +kernel
theorem dX11_held_16 : decode cX11_held 16 = .ok (.ifCond .ne 9, 3) := by decide +kernel
theorem dX11_held_19 : decode cX11_held 19 = .ok (.aload_n 0, 1) := by decide +kernel
theorem dX11_held_20 : decode cX11_held 20 = .ok (.iconst 1, 1) := by decide +kernel
theorem dX11_held_21 : decode cX11_held 21 = .ok (.invokevirtual 316, 3) := by decide +kernel
theorem dX11_held_24 : decode cX11_held 24 = .ok (.ireturn, 1) := by decide +kernel
theorem dX11_held_25 : decode cX11_held 25 = .ok (.iload_n 2, 1) := by decide +kernel
theorem dX11_held_26 : decode cX11_held 26 = .ok (.iconst 0, 1) := by decide +kernel
theorem dX11_held_27 : decode cX11_held 27 = .ok (.aload_n 0, 1) := by decide +kernel
theorem dX11_held_28 : decode cX11_held 28 = .ok (.getfield 149, 3) := by decide +kernel
theorem dX11_held_31 : decode cX11_held 31 = .ok (.iload_n 1, 1) := by decide +kernel
theorem dX11_held_32 : decode cX11_held 32 = .ok (.iaload, 1) := by decide +kernel
theorem dX11_held_33 : decode cX11_held 33 = .ok (.iconst 1, 1) := by decide +kernel
theorem dX11_held_34 : decode cX11_held 34 = .ok (.isub, 1) := by decide +kernel
theorem dX11_held_35 : decode cX11_held 35 = .ok (.invokestatic 172, 3) := by decide +kernel
theorem dX11_held_38 : decode cX11_held 38 = .ok (.ifCond .eq 17, 3) := by decide +kernel
theorem dX11_held_41 : decode cX11_held 41 = .ok (.aload_n 0, 1) := by decide +kernel
theorem dX11_held_42 : decode cX11_held 42 = .ok (.getfield 152, 3) := by decide +kernel
theorem dX11_held_45 : decode cX11_held 45 = .ok (.bipush 10, 2) := by decide +kernel
theorem dX11_held_47 : decode cX11_held 47 = .ok (.iload_n 1, 1) := by decide +kernel
theorem dX11_held_48 : decode cX11_held 48 = .ok (.imul, 1) := by decide +kernel
theorem dX11_held_49 : decode cX11_held 49 = .ok (.iload_n 2, 1) := by decide +kernel
theorem dX11_held_50 : decode cX11_held 50 = .ok (.iadd, 1) := by decide +kernel
theorem dX11_held_51 : decode cX11_held 51 = .ok (.iaload, 1) := by decide +kernel
theorem dX11_held_52 : decode cX11_held 52 = .ok (.goto 8, 3) := by decide +kernel
theorem dX11_held_55 : decode cX11_held 55 = .ok (.aload_n 0, 1) := by decide +kernel
theorem dX11_held_56 : decode cX11_held 56 = .ok (.iconst 2, 1) := by decide +kernel
theorem dX11_held_57 : decode cX11_held 57 = .ok (.invokevirtual 316, 3) := by decide +kernel
theorem dX11_held_60 : decode cX11_held 60 = .ok (.ireturn, 1) := by decide +kernel
theorem dX10_cash_0 : decode cX10_cash 0 = .ok (.iload_n 1, 1) := by decide +kernel
theorem dX10_cash_1 : decode cX10_cash 1 = .ok (.invokestatic 324, 3) := by decide +kernel
theorem dX10_cash_4 : decode cX10_cash 4 = .ok (.ifCond .ne 6, 3) := by decide +kernel
theorem dX10_cash_7 : decode cX10_cash 7 = .ok (.bipush (-2), 2) := by decide +kernel
theorem dX10_cash_9 : decode cX10_cash 9 = .ok (.ireturn, 1) := by decide +kernel
theorem dX10_cash_10 : decode cX10_cash 10 = .ok (.aload_n 0, 1) := by decide +kernel
theorem dX10_cash_11 : decode cX10_cash 11 = .ok (.getfield 35, 3) := by decide +kernel
theorem dX10_cash_14 : decode cX10_cash 14 = .ok (.iload_n 1, 1) := by decide +kernel
theorem dX10_cash_15 : decode cX10_cash 15 = .ok (.aaload, 1) := by decide +kernel
theorem dX10_cash_16 : decode cX10_cash 16 = .ok (.getfield 339, 3) := by decide +kernel
theorem dX10_cash_19 : decode cX10_cash 19 = .ok (.iconst (-1), 1) := by decide +kernel
theorem dX10_cash_20 : decode cX10_cash 20 = .ok (.if_icmp .ne 9, 3) := by decide +kernel
theorem dX10_cash_23 : decode cX10_cash 23 = .ok (.aload_n 0, 1) := by decide +kernel
theorem dX10_cash_24 : decode cX10_cash 24 = .ok (.iconst 1, 1) := by decide +kernel
theorem dX10_cash_25 : decode cX10_cash 25 = .ok (.invokevirtual 272, 3) := by decide +kernel
theorem dX10_cash_28 : decode cX10_cash 28 = .ok (.ireturn, 1) := by decide +kernel
theorem dX10_cash_29 : decode cX10_cash 29 = .ok (.iconst 0, 1) := by decide +kernel
theorem dX10_cash_30 : decode cX10_cash 30 = .ok (.istore_n 2, 1) := by decide +kernel
theorem dX10_cash_31 : decode cX10_cash 31 = .ok (.iconst 0, 1) := by decide +kernel
theorem dX10_cash_32 : decode cX10_cash 32 = .ok (.istore_n 3, 1) := by decide +kernel
theorem dX10_cash_33 : decode cX10_cash 33 = .ok (.iload_n 3, 1) := by decide +kernel
theorem dX10_cash_34 : decode cX10_cash 34 = .ok (.aload_n 0, 1) := by decide +kernel
theorem dX10_cash_35 : decode cX10_cash 35 = .ok (.getfield 35, 3) := by decide +kernel
theorem dX10_cash_38 : decode cX10_cash 38 = .ok (.iload_n 1, 1) := by decide +kernel
theorem dX10_cash_39 : decode cX10_cash 39 = .ok (.aaload, 1) := by decide +kernel
theorem dX10_cash_40 : decode cX10_cash 40 = .ok (.getfield 339, 3) := by decide +kernel
theorem dX10_cash_43 : decode cX10_cash 43 = .ok (.if_icmp .ge 47, 3) := by decide +kernel
theorem dX10_cash_46 : decode cX10_cash 46 = .ok (.aload_n 0, 1) := by decide +kernel
theorem dX10_cash_47 : decode cX10_cash 47 = .ok (.aload_n 0, 1) := by decide +kernel
theorem dX10_cash_48 : decode cX10_cash 48 = .ok (.getfield 35, 3) := by decide +kernel
theorem dX10_cash_51 : decode cX10_cash 51 = .ok (.iload_n 1, 1) := by decide +kernel
theorem dX10_cash_52 : decode cX10_cash 52 = .ok (.aaload, 1) := by decide +kernel
theorem dX10_cash_53 : decode cX10_cash 53 = .ok (.getfield 340, 3) := by decide +kernel
theorem dX10_cash_56 : decode cX10_cash 56 = .ok (.iload_n 3, 1) := by decide +kernel
theorem dX10_cash_57 : decode cX10_cash 57 = .ok (.iaload, 1) := by decide +kernel
theorem dX10_cash_58 : decode cX10_cash 58 = .ok (.invokevirtual 187, 3) := by decide +kernel
theorem dX10_cash_61 : decode cX10_cash 61 = .ok (.astore 4, 2) := by decide +kernel
theorem dX10_cash_63 : decode cX10_cash 63 = .ok (.aload 4, 2) := by decide +kernel
theorem dX10_cash_65 : decode cX10_cash 65 = .ok (.ifnull 19, 3) := by decide +kernel
theorem dX10_cash_68 : decode cX10_cash 68 = .ok (.aload 4, 2) := by decide +kernel
theorem dX10_cash_70 : decode cX10_cash 70 = .ok (.invokevirtual 202, 3) := by decide +kernel
theorem dX10_cash_73 : decode cX10_cash 73 = .ok (.ifCond .eq 11, 3) := by decide +kernel
theorem dX10_cash_76 : decode cX10_cash 76 = .ok (.iload_n 2, 1) := by decide +kernel
theorem dX10_cash_77 : decode cX10_cash 77 = .ok (.aload 4, 2) := by decide +kernel
theorem dX10_cash_79 : decode cX10_cash 79 = .ok (.invokestatic 205, 3) := by decide +kernel
theorem dX10_cash_82 : decode cX10_cash 82 = .ok (.iadd, 1) := by decide +kernel
theorem dX10_cash_83 : decode cX10_cash 83 = .ok (.istore_n 2, 1) := by decide +kernel
theorem dX10_cash_84 : decode cX10_cash 84 = .ok (.iinc 3 1, 3) := by decide +kernel
theorem dX10_cash_87 : decode cX10_cash 87 = .ok (.goto (-54), 3) := by decide +kernel
theorem dX10_cash_90 : decode cX10_cash 90 = .ok (.iload_n 2, 1) := by decide +kernel
theorem dX10_cash_91 : decode cX10_cash 91 = .ok (.ireturn, 1) := by decide +kernel
theorem dX11_cash_0 : decode cX11_cash 0 = .ok (.iload_n 1, 1) := by decide +kernel
theorem dX11_cash_1 : decode cX11_cash 1 = .ok (.invokestatic 347, 3) := by decide +kernel
theorem dX11_cash_4 : decode cX11_cash 4 = .ok (.ifCond .ne 6, 3) := by decide +kernel
theorem dX11_cash_7 : decode cX11_cash 7 = .ok (.bipush (-2), 2) := by decide +kernel
theorem dX11_cash_9 : decode cX11_cash 9 = .ok (.ireturn, 1) := by decide +kernel
theorem dX11_cash_10 : decode cX11_cash 10 = .ok (.aload_n 0, 1) := by decide +kernel
theorem dX11_cash_11 : decode cX11_cash 11 = .ok (.getfield 143, 3) := by decide +kernel
theorem dX11_cash_14 : decode cX11_cash 14 = .ok (.iload_n 1, 1) := by decide +kernel
theorem dX11_cash_15 : decode cX11_cash 15 = .ok (.baload, 1) := by decide +kernel
theorem dX11_cash_16 : decode cX11_cash 16 = .ok (.ifCond .ne 9, 3) := by decide +kernel
theorem dX11_cash_19 : decode cX11_cash 19 = .ok (.aload_n 0, 1) := by decide +kernel
theorem dX11_cash_20 : decode cX11_cash 20 = .ok (.iconst 1, 1) := by decide +kernel
theorem dX11_cash_21 : decode cX11_cash 21 = .ok (.invokevirtual 316, 3) := by decide +kernel
theorem dX11_cash_24 : decode cX11_cash 24 = .ok (.ireturn, 1) := by decide +kernel
theorem dX11_cash_25 : decode cX11_cash 25 = .ok (.iconst 0, 1) := by decide +kernel
theorem dX11_cash_26 : decode cX11_cash 26 = .ok (.istore_n 2, 1) := by decide +kernel
theorem dX11_cash_27 : decode cX11_cash 27 = .ok (.iconst 0, 1) := by decide +kernel
theorem dX11_cash_28 : decode cX11_cash 28 = .ok (.istore_n 3, 1) := by decide +kernel
theorem dX11_cash_29 : decode cX11_cash 29 = .ok (.iload_n 3, 1) := by decide +kernel
theorem dX11_cash_30 : decode cX11_cash 30 = .ok (.aload_n 0, 1) := by decide +kernel
theorem dX11_cash_31 : decode cX11_cash 31 = .ok (.getfield 149, 3) := by decide +kernel
theorem dX11_cash_34 : decode cX11_cash 34 = .ok (.iload_n 1, 1) := by decide +kernel
theorem dX11_cash_35 : decode cX11_cash 35 = .ok (.iaload, 1) := by decide +kernel
theorem dX11_cash_36 : decode cX11_cash 36 = .ok (.if_icmp .ge 50, 3) := by decide +kernel
theorem dX11_cash_39 : decode cX11_cash 39 = .ok (.aload_n 0, 1) := by decide +kernel
theorem dX11_cash_40 : decode cX11_cash 40 = .ok (.getfield 152, 3) := by decide +kernel
theorem dX11_cash_43 : decode cX11_cash 43 = .ok (.bipush 10, 2) := by decide +kernel
theorem dX11_cash_45 : decode cX11_cash 45 = .ok (.iload_n 1, 1) := by decide +kernel
theorem dX11_cash_46 : decode cX11_cash 46 = .ok (.imul, 1) := by decide +kernel
theorem dX11_cash_47 : decode cX11_cash 47 = .ok (.iload_n 3, 1) := by decide +kernel
theorem dX11_cash_48 : decode cX11_cash 48 = .ok (.iadd, 1) := by decide +kernel
theorem dX11_cash_49 : decode cX11_cash 49 = .ok (.iaload, 1) := by decide +kernel
theorem dX11_cash_50 : decode cX11_cash 50 = .ok (.istore 4, 2) := by decide +kernel
theorem dX11_cash_52 : decode cX11_cash 52 = .ok (.iload_n 2, 1) := by decide +kernel
theorem dX11_cash_53 : decode cX11_cash 53 = .ok (.iload 4, 2) := by decide +kernel
theorem dX11_cash_55 : decode cX11_cash 55 = .ok (.iconst (-1), 1) := by decide +kernel
theorem dX11_cash_56 : decode cX11_cash 56 = .ok (.if_icmp .eq 21, 3) := by decide +kernel
theorem dX11_cash_59 : decode cX11_cash 59 = .ok (.aload_n 0, 1) := by decide +kernel
theorem dX11_cash_60 : decode cX11_cash 60 = .ok (.iload 4, 2) := by decide +kernel
theorem dX11_cash_62 : decode cX11_cash 62 = .ok (.invokevirtual 297, 3) := by decide +kernel
theorem dX11_cash_65 : decode cX11_cash 65 = .ok (.ifCond .eq 12, 3) := by decide +kernel
theorem dX11_cash_68 : decode cX11_cash 68 = .ok (.aload_n 0, 1) := by decide +kernel
theorem dX11_cash_69 : decode cX11_cash 69 = .ok (.iload 4, 2) := by decide +kernel
theorem dX11_cash_71 : decode cX11_cash 71 = .ok (.invokevirtual 300, 3) := by decide +kernel
theorem dX11_cash_74 : decode cX11_cash 74 = .ok (.goto 4, 3) := by decide +kernel
theorem dX11_cash_77 : decode cX11_cash 77 = .ok (.iconst 0, 1) := by decide +kernel
theorem dX11_cash_78 : decode cX11_cash 78 = .ok (.iadd, 1) := by decide +kernel
theorem dX11_cash_79 : decode cX11_cash 79 = .ok (.istore_n 2, 1) := by decide +kernel
theorem dX11_cash_80 : decode cX11_cash 80 = .ok (.iinc 3 1, 3) := by decide +kernel
theorem dX11_cash_83 : decode cX11_cash 83 = .ok (.goto (-54), 3) := by decide +kernel
theorem dX11_cash_86 : decode cX11_cash 86 = .ok (.iload_n 2, 1) := by decide +kernel
theorem dX11_cash_87 : decode cX11_cash 87 = .ok (.ireturn, 1) := by decide +kernel
theorem dX3_isNoNumber_0 : decode cX3_isNoNumber 0 = .ok (.iload_n 0, 1) := by decide +kernel
theorem dX3_isNoNumber_1 : decode cX3_isNoNumber 1 = .ok (.ldc 10, 2) := by decide +kernel
theorem dX3_isNoNumber_3 : decode cX3_isNoNumber 3 = .ok (.iand, 1) := by decide +kernel
theorem dX3_isNoNumber_4 : decode cX3_isNoNumber 4 = .ok (.ldc 9, 2) := by decide +kernel
theorem dX3_isNoNumber_6 : decode cX3_isNoNumber 6 = .ok (.if_icmp .le 7, 3) := by decide +kernel
theorem dX3_isNoNumber_9 : decode cX3_isNoNumber 9 = .ok (.iconst 1, 1) := by decide +kernel
theorem dX3_isNoNumber_10 : decode cX3_isNoNumber 10 = .ok (.goto 4, 3) := by decide +kernel
theorem dX3_isNoNumber_13 : decode cX3_isNoNumber 13 = .ok (.iconst 0, 1) := by decide +kernel
theorem dX3_isNoNumber_14 : decode cX3_isNoNumber 14 = .ok (.ireturn, 1) := by decide +kernel
theorem dX10_lap_0 : decode cX10_lap 0 = .ok (.aload_n 0, 1) := by decide +kernel
theorem dX10_lap_1 : decode cX10_lap 1 = .ok (.iload_n 1, 1) := by decide +kernel
theorem dX10_lap_2 : decode cX10_lap 2 = .ok (.invokevirtual 76, 3) := by decide +kernel
theorem dX10_lap_5 : decode cX10_lap 5 = .ok (.astore_n 3, 1) := by decide +kernel
theorem dX10_lap_6 : decode cX10_lap 6 = .ok (.aload_n 3, 1) := by decide +kernel
theorem dX10_lap_7 : decode cX10_lap 7 = .ok (.ifnonnull 6, 3) := by decide +kernel
theorem dX10_lap_10 : decode cX10_lap 10 = .ok (.bipush (-2), 2) := by decide +kernel
theorem dX10_lap_12 : decode cX10_lap 12 = .ok (.ireturn, 1) := by decide +kernel
theorem dX10_lap_13 : decode cX10_lap 13 = .ok (.aload_n 3, 1) := by decide +kernel
theorem dX10_lap_14 : decode cX10_lap 14 = .ok (.getfield 352, 3) := by decide +kernel
theorem dX10_lap_17 : decode cX10_lap 17 = .ok (.bipush 12, 2) := by decide +kernel
theorem dX10_lap_19 : decode cX10_lap 19 = .ok (.if_icmp .lt 6, 3) := by decide +kernel
theorem dX10_lap_22 : decode cX10_lap 22 = .ok (.bipush (-7), 2) := by decide +kernel
theorem dX10_lap_24 : decode cX10_lap 24 = .ok (.ireturn, 1) := by decide +kernel
theorem dX10_lap_25 : decode cX10_lap 25 = .ok (.aload_n 3, 1) := by decide +kernel
theorem dX10_lap_26 : decode cX10_lap 26 = .ok (.getfield 355, 3) := by decide +kernel
theorem dX10_lap_29 : decode cX10_lap 29 = .ok (.aload_n 3, 1) := by decide +kernel
theorem dX10_lap_30 : decode cX10_lap 30 = .ok (.getfield 352, 3) := by decide +kernel
theorem dX10_lap_33 : decode cX10_lap 33 = .ok (.iload_n 2, 1) := by decide +kernel
theorem dX10_lap_34 : decode cX10_lap 34 = .ok (.invokestatic 358, 3) := by decide +kernel
theorem dX10_lap_37 : decode cX10_lap 37 = .ok (.ifCond .eq 9, 3) := by decide +kernel
theorem dX10_lap_40 : decode cX10_lap 40 = .ok (.ldc_w 363, 3) := by decide +kernel
theorem dX10_lap_43 : decode cX10_lap 43 = .ok (.goto 4, 3) := by decide +kernel
theorem dX10_lap_46 : decode cX10_lap 46 = .ok (.iload_n 2, 1) := by decide +kernel
theorem dX10_lap_47 : decode cX10_lap 47 = .ok (.iastore, 1) := by decide +kernel
theorem dX10_lap_48 : decode cX10_lap 48 = .ok (.aload_n 3, 1) := by decide +kernel
theorem dX10_lap_49 : decode cX10_lap 49 = .ok (.dup, 1) := by decide +kernel
theorem dX10_lap_50 : decode cX10_lap 50 = .ok (.getfield 352, 3) := by decide +kernel
theorem dX10_lap_53 : decode cX10_lap 53 = .ok (.iconst 1, 1) := by decide +kernel
theorem dX10_lap_54 : decode cX10_lap 54 = .ok (.iadd, 1) := by decide +kernel
theorem dX10_lap_55 : decode cX10_lap 55 = .ok (.putfield 352, 3) := by decide +kernel
theorem dX10_lap_58 : decode cX10_lap 58 = .ok (.aload_n 3, 1) := by decide +kernel
theorem dX10_lap_59 : decode cX10_lap 59 = .ok (.getfield 352, 3) := by decide +kernel
theorem dX10_lap_62 : decode cX10_lap 62 = .ok (.ireturn, 1) := by decide +kernel
theorem dX11_isNoNumber_0 : decode cX11_isNoNumber 0 = .ok (.iload_n 0, 1) := by decide +kernel
theorem dX11_isNoNumber_1 : decode cX11_isNoNumber 1 = .ok (.ldc_w 356, 3) := by decide +kernel
theorem dX11_isNoNumber_4 : decode cX11_isNoNumber 4 = .ok (.iand, 1) := by decide +kernel
theorem dX11_isNoNumber_5 : decode cX11_isNoNumber 5 = .ok (.ldc_w 357, 3) := by decide +kernel
theorem dX11_isNoNumber_8 : decode cX11_isNoNumber 8 = .ok (.if_icmp .le 7, 3) := by decide +kernel
theorem dX11_isNoNumber_11 : decode cX11_isNoNumber 11 = .ok (.iconst 1, 1) := by decide +kernel
theorem dX11_isNoNumber_12 : decode cX11_isNoNumber 12 = .ok (.goto 4, 3) := by decide +kernel
theorem dX11_isNoNumber_15 : decode cX11_isNoNumber 15 = .ok (.iconst 0, 1) := by decide +kernel
theorem dX11_isNoNumber_16 : decode cX11_isNoNumber 16 = .ok (.ireturn, 1) := by decide +kernel
theorem dX11_single_0 : decode cX11_single 0 = .ok (.iload_n 0, 1) := by decide +kernel
theorem dX11_single_1 : decode cX11_single 1 = .ok (.invokestatic 358, 3) := by decide +kernel
theorem dX11_single_4 : decode cX11_single 4 = .ok (.ifCond .eq 12, 3) := by decide +kernel
theorem dX11_single_7 : decode cX11_single 7 = .ok (.ldc_w 361, 3) := by decide +kernel
theorem dX11_single_10 : decode cX11_single 10 = .ok (.invokestatic 362, 3) := by decide +kernel
theorem dX11_single_13 : decode cX11_single 13 = .ok (.goto 7, 3) := by decide +kernel
theorem dX11_single_16 : decode cX11_single 16 = .ok (.iload_n 0, 1) := by decide +kernel
theorem dX11_single_17 : decode cX11_single 17 = .ok (.invokestatic 362, 3) := by decide +kernel
theorem dX11_single_20 : decode cX11_single 20 = .ok (.freturn, 1) := by decide +kernel
theorem dX11_lap_0 : decode cX11_lap 0 = .ok (.aload_n 0, 1) := by decide +kernel
theorem dX11_lap_1 : decode cX11_lap 1 = .ok (.iload_n 1, 1) := by decide +kernel
theorem dX11_lap_2 : decode cX11_lap 2 = .ok (.invokevirtual 179, 3) := by decide +kernel
theorem dX11_lap_5 : decode cX11_lap 5 = .ok (.ifCond .ne 6, 3) := by decide +kernel
theorem dX11_lap_8 : decode cX11_lap 8 = .ok (.bipush (-2), 2) := by decide +kernel
theorem dX11_lap_10 : decode cX11_lap 10 = .ok (.ireturn, 1) := by decide +kernel
theorem dX11_lap_11 : decode cX11_lap 11 = .ok (.aload_n 0, 1) := by decide +kernel
theorem dX11_lap_12 : decode cX11_lap 12 = .ok (.getfield 158, 3) := by decide +kernel
theorem dX11_lap_15 : decode cX11_lap 15 = .ok (.iload_n 1, 1) := by decide +kernel
theorem dX11_lap_16 : decode cX11_lap 16 = .ok (.iaload, 1) := by decide +kernel
theorem dX11_lap_17 : decode cX11_lap 17 = .ok (.bipush 12, 2) := by decide +kernel
theorem dX11_lap_19 : decode cX11_lap 19 = .ok (.if_icmp .ne 6, 3) := by decide +kernel
theorem dX11_lap_22 : decode cX11_lap 22 = .ok (.bipush (-7), 2) := by decide +kernel
theorem dX11_lap_24 : decode cX11_lap 24 = .ok (.ireturn, 1) := by decide +kernel
theorem dX11_lap_25 : decode cX11_lap 25 = .ok (.aload_n 0, 1) := by decide +kernel
theorem dX11_lap_26 : decode cX11_lap 26 = .ok (.getfield 161, 3) := by decide +kernel
theorem dX11_lap_29 : decode cX11_lap 29 = .ok (.bipush 12, 2) := by decide +kernel
theorem dX11_lap_31 : decode cX11_lap 31 = .ok (.iload_n 1, 1) := by decide +kernel
theorem dX11_lap_32 : decode cX11_lap 32 = .ok (.imul, 1) := by decide +kernel
theorem dX11_lap_33 : decode cX11_lap 33 = .ok (.aload_n 0, 1) := by decide +kernel
theorem dX11_lap_34 : decode cX11_lap 34 = .ok (.getfield 158, 3) := by decide +kernel
theorem dX11_lap_37 : decode cX11_lap 37 = .ok (.iload_n 1, 1) := by decide +kernel
theorem dX11_lap_38 : decode cX11_lap 38 = .ok (.iaload, 1) := by decide +kernel
theorem dX11_lap_39 : decode cX11_lap 39 = .ok (.iadd, 1) := by decide +kernel
theorem dX11_lap_40 : decode cX11_lap 40 = .ok (.iload_n 2, 1) := by decide +kernel
theorem dX11_lap_41 : decode cX11_lap 41 = .ok (.invokestatic 374, 3) := by decide +kernel
theorem dX11_lap_44 : decode cX11_lap 44 = .ok (.fastore, 1) := by decide +kernel
theorem dX11_lap_45 : decode cX11_lap 45 = .ok (.aload_n 0, 1) := by decide +kernel
theorem dX11_lap_46 : decode cX11_lap 46 = .ok (.getfield 158, 3) := by decide +kernel
theorem dX11_lap_49 : decode cX11_lap 49 = .ok (.iload_n 1, 1) := by decide +kernel
theorem dX11_lap_50 : decode cX11_lap 50 = .ok (.dup2, 1) := by decide +kernel
theorem dX11_lap_51 : decode cX11_lap 51 = .ok (.iaload, 1) := by decide +kernel
theorem dX11_lap_52 : decode cX11_lap 52 = .ok (.iconst 1, 1) := by decide +kernel
theorem dX11_lap_53 : decode cX11_lap 53 = .ok (.iadd, 1) := by decide +kernel
theorem dX11_lap_54 : decode cX11_lap 54 = .ok (.iastore, 1) := by decide +kernel
theorem dX11_lap_55 : decode cX11_lap 55 = .ok (.aload_n 0, 1) := by decide +kernel
theorem dX11_lap_56 : decode cX11_lap 56 = .ok (.getfield 158, 3) := by decide +kernel
theorem dX11_lap_59 : decode cX11_lap 59 = .ok (.iload_n 1, 1) := by decide +kernel
theorem dX11_lap_60 : decode cX11_lap 60 = .ok (.iaload, 1) := by decide +kernel
theorem dX11_lap_61 : decode cX11_lap 61 = .ok (.ireturn, 1) := by decide +kernel
theorem dX10_isLap_0 : decode cX10_isLap 0 = .ok (.iload_n 2, 1) := by decide +kernel
theorem dX10_isLap_1 : decode cX10_isLap 1 = .ok (.ifCond .lt 11, 3) := by decide +kernel
theorem dX10_isLap_4 : decode cX10_isLap 4 = .ok (.iload_n 2, 1) := by decide +kernel
theorem dX10_isLap_5 : decode cX10_isLap 5 = .ok (.aload_n 1, 1) := by decide +kernel
theorem dX10_isLap_6 : decode cX10_isLap 6 = .ok (.getfield 352, 3) := by decide +kernel
theorem dX10_isLap_9 : decode cX10_isLap 9 = .ok (.if_icmp .lt 11, 3) := by decide +kernel
theorem dX10_isLap_12 : decode cX10_isLap 12 = .ok (.aload_n 0, 1) := by decide +kernel
theorem dX10_isLap_13 : decode cX10_isLap 13 = .ok (.iconst 2, 1) := by decide +kernel
theorem dX10_isLap_14 : decode cX10_isLap 14 = .ok (.invokevirtual 272, 3) := by decide +kernel
theorem dX10_isLap_17 : decode cX10_isLap 17 = .ok (.pop, 1) := by decide +kernel
theorem dX10_isLap_18 : decode cX10_isLap 18 = .ok (.iconst 0, 1) := by decide +kernel
theorem dX10_isLap_19 : decode cX10_isLap 19 = .ok (.ireturn, 1) := by decide +kernel
theorem dX10_isLap_20 : decode cX10_isLap 20 = .ok (.iconst 1, 1) := by decide +kernel
theorem dX10_isLap_21 : decode cX10_isLap 21 = .ok (.ireturn, 1) := by decide +kernel
theorem dX10_lapAt_0 : decode cX10_lapAt 0 = .ok (.aload_n 0, 1) := by decide +kernel
theorem dX10_lapAt_1 : decode cX10_lapAt 1 = .ok (.iload_n 1, 1) := by decide +kernel
theorem dX10_lapAt_2 : decode cX10_lapAt 2 = .ok (.invokevirtual 76, 3) := by decide +kernel
theorem dX10_lapAt_5 : decode cX10_lapAt 5 = .ok (.astore_n 3, 1) := by decide +kernel
theorem dX10_lapAt_6 : decode cX10_lapAt 6 = .ok (.aload_n 3, 1) := by decide +kernel
theorem dX10_lapAt_7 : decode cX10_lapAt 7 = .ok (.ifnull 12, 3) := by decide +kernel
theorem dX10_lapAt_10 : decode cX10_lapAt 10 = .ok (.aload_n 0, 1) := by decide +kernel
theorem dX10_lapAt_11 : decode cX10_lapAt 11 = .ok (.aload_n 3, 1) := by decide +kernel
theorem dX10_lapAt_12 : decode cX10_lapAt 12 = .ok (.iload_n 2, 1) := by decide +kernel
theorem dX10_lapAt_13 : decode cX10_lapAt 13 = .ok (.invokevirtual 364, 3) := by decide +kernel
theorem dX10_lapAt_16 : decode cX10_lapAt 16 = .ok (.ifCond .ne 7, 3) := by decide +kernel
theorem dX10_lapAt_19 : decode cX10_lapAt 19 = .ok (.iconst 0, 1) := by decide +kernel
theorem dX10_lapAt_20 : decode cX10_lapAt 20 = .ok (.goto 9, 3) := by decide +kernel
theorem dX10_lapAt_23 : decode cX10_lapAt 23 = .ok (.aload_n 3, 1) := by decide +kernel
theorem dX10_lapAt_24 : decode cX10_lapAt 24 = .ok (.getfield 355, 3) := by decide +kernel
theorem dX10_lapAt_27 : decode cX10_lapAt 27 = .ok (.iload_n 2, 1) := by decide +kernel
theorem dX10_lapAt_28 : decode cX10_lapAt 28 = .ok (.iaload, 1) := by decide +kernel
theorem dX10_lapAt_29 : decode cX10_lapAt 29 = .ok (.ireturn, 1) := by decide +kernel
theorem dJxf58ca_isNaN_12338_0 : decode cJxf58ca_isNaN_12338 0 = .ok (.fload_n 0, 1) := by decide +kernel
theorem dJxf58ca_isNaN_12338_1 : decode cJxf58ca_isNaN_12338 1 = .ok (.fload_n 0, 1) := by decide +kernel
theorem dJxf58ca_isNaN_12338_2 : decode cJxf58ca_isNaN_12338 2 = .ok (.fcmp .l, 1) := by decide +kernel
theorem dJxf58ca_isNaN_12338_3 : decode cJxf58ca_isNaN_12338 3 = .ok (.ifCond .eq 7, 3) := by decide +kernel
theorem dJxf58ca_isNaN_12338_6 : decode cJxf58ca_isNaN_12338 6 = .ok (.iconst 1, 1) := by decide +kernel
theorem dJxf58ca_isNaN_12338_7 : decode cJxf58ca_isNaN_12338 7 = .ok (.goto 4, 3) := by decide +kernel
theorem dJxf58ca_isNaN_12338_10 : decode cJxf58ca_isNaN_12338 10 = .ok (.iconst 0, 1) := by decide +kernel
theorem dJxf58ca_isNaN_12338_11 : decode cJxf58ca_isNaN_12338 11 = .ok (.ireturn, 1) := by decide +kernel
theorem dJxf58ca_floatToIntBits_5c35a_0 : decode cJxf58ca_floatToIntBits_5c35a 0 = .ok (.fload_n 0, 1) := by decide +kernel
theorem dJxf58ca_floatToIntBits_5c35a_1 : decode cJxf58ca_floatToIntBits_5c35a 1 = .ok (.invokestatic 59, 3) := by decide +kernel
theorem dJxf58ca_floatToIntBits_5c35a_4 : decode cJxf58ca_floatToIntBits_5c35a 4 = .ok (.ifCond .ne 8, 3) := by decide +kernel
theorem dJxf58ca_floatToIntBits_5c35a_7 : decode cJxf58ca_floatToIntBits_5c35a 7 = .ok (.fload_n 0, 1) := by decide +kernel
theorem dJxf58ca_floatToIntBits_5c35a_8 : decode cJxf58ca_floatToIntBits_5c35a 8 = .ok (.invokestatic 74, 3) := by decide +kernel
theorem dJxf58ca_floatToIntBits_5c35a_11 : decode cJxf58ca_floatToIntBits_5c35a 11 = .ok (.ireturn, 1) := by decide +kernel
theorem dJxf58ca_floatToIntBits_5c35a_12 : decode cJxf58ca_floatToIntBits_5c35a 12 = .ok (.ldc 77, 2) := by decide +kernel
theorem dJxf58ca_floatToIntBits_5c35a_14 : decode cJxf58ca_floatToIntBits_5c35a 14 = .ok (.ireturn, 1) := by decide +kernel
theorem dX11_bitsOf_0 : decode cX11_bitsOf 0 = .ok (.fload_n 0, 1) := by decide +kernel
theorem dX11_bitsOf_1 : decode cX11_bitsOf 1 = .ok (.fload_n 0, 1) := by decide +kernel
theorem dX11_bitsOf_2 : decode cX11_bitsOf 2 = .ok (.fcmp .l, 1) := by decide +kernel
theorem dX11_bitsOf_3 : decode cX11_bitsOf 3 = .ok (.ifCond .eq 9, 3) := by decide +kernel
theorem dX11_bitsOf_6 : decode cX11_bitsOf 6 = .ok (.ldc_w 361, 3) := by decide +kernel
theorem dX11_bitsOf_9 : decode cX11_bitsOf 9 = .ok (.goto 7, 3) := by decide +kernel
theorem dX11_bitsOf_12 : decode cX11_bitsOf 12 = .ok (.fload_n 0, 1) := by decide +kernel
theorem dX11_bitsOf_13 : decode cX11_bitsOf 13 = .ok (.invokestatic 370, 3) := by decide +kernel
theorem dX11_bitsOf_16 : decode cX11_bitsOf 16 = .ok (.ireturn, 1) := by decide +kernel
theorem dX11_lapAt_0 : decode cX11_lapAt 0 = .ok (.aload_n 0, 1) := by decide +kernel
theorem dX11_lapAt_1 : decode cX11_lapAt 1 = .ok (.iload_n 1, 1) := by decide +kernel
theorem dX11_lapAt_2 : decode cX11_lapAt 2 = .ok (.invokevirtual 179, 3) := by decide +kernel
theorem dX11_lapAt_5 : decode cX11_lapAt 5 = .ok (.ifCond .ne 5, 3) := by decide +kernel
theorem dX11_lapAt_8 : decode cX11_lapAt 8 = .ok (.iconst 0, 1) := by decide +kernel
theorem dX11_lapAt_9 : decode cX11_lapAt 9 = .ok (.ireturn, 1) := by decide +kernel
theorem dX11_lapAt_10 : decode cX11_lapAt 10 = .ok (.iload_n 2, 1) := by decide +kernel
theorem dX11_lapAt_11 : decode cX11_lapAt 11 = .ok (.iconst 0, 1) := by decide +kernel
theorem dX11_lapAt_12 : decode cX11_lapAt 12 = .ok (.aload_n 0, 1) := by decide +kernel
theorem dX11_lapAt_13 : decode cX11_lapAt 13 = .ok (.getfield 158, 3) := by decide +kernel
theorem dX11_lapAt_16 : decode cX11_lapAt 16 = .ok (.iload_n 1, 1) := by decide +kernel
theorem dX11_lapAt_17 : decode cX11_lapAt 17 = .ok (.iaload, 1) := by decide +kernel
theorem dX11_lapAt_18 : decode cX11_lapAt 18 = .ok (.iconst 1, 1) := by decide +kernel
theorem dX11_lapAt_19 : decode cX11_lapAt 19 = .ok (.isub, 1) := by decide +kernel
theorem dX11_lapAt_20 : decode cX11_lapAt 20 = .ok (.invokestatic 172, 3) := by decide +kernel
theorem dX11_lapAt_23 : decode cX11_lapAt 23 = .ok (.ifCond .eq 20, 3) := by decide +kernel
theorem dX11_lapAt_26 : decode cX11_lapAt 26 = .ok (.aload_n 0, 1) := by decide +kernel
theorem dX11_lapAt_27 : decode cX11_lapAt 27 = .ok (.getfield 161, 3) := by decide +kernel
theorem dX11_lapAt_30 : decode cX11_lapAt 30 = .ok (.bipush 12, 2) := by decide +kernel
theorem dX11_lapAt_32 : decode cX11_lapAt 32 = .ok (.iload_n 1, 1) := by decide +kernel
theorem dX11_lapAt_33 : decode cX11_lapAt 33 = .ok (.imul, 1) := by decide +kernel
theorem dX11_lapAt_34 : decode cX11_lapAt 34 = .ok (.iload_n 2, 1) := by decide +kernel
theorem dX11_lapAt_35 : decode cX11_lapAt 35 = .ok (.iadd, 1) := by decide +kernel
theorem dX11_lapAt_36 : decode cX11_lapAt 36 = .ok (.faload, 1) := by decide +kernel
theorem dX11_lapAt_37 : decode cX11_lapAt 37 = .ok (.invokestatic 377, 3) := by decide +kernel
theorem dX11_lapAt_40 : decode cX11_lapAt 40 = .ok (.goto 8, 3) := by decide +kernel
theorem dX11_lapAt_43 : decode cX11_lapAt 43 = .ok (.aload_n 0, 1) := by decide +kernel
theorem dX11_lapAt_44 : decode cX11_lapAt 44 = .ok (.iconst 2, 1) := by decide +kernel
theorem dX11_lapAt_45 : decode cX11_lapAt 45 = .ok (.invokevirtual 344, 3) := by decide +kernel
theorem dX11_lapAt_48 : decode cX11_lapAt 48 = .ok (.ireturn, 1) := by decide +kernel
theorem dX3_isNumber_0 : decode cX3_isNumber 0 = .ok (.iload_n 0, 1) := by decide +kernel
theorem dX3_isNumber_1 : decode cX3_isNumber 1 = .ok (.ldc 9, 2) := by decide +kernel
theorem dX3_isNumber_3 : decode cX3_isNumber 3 = .ok (.iand, 1) := by decide +kernel
theorem dX3_isNumber_4 : decode cX3_isNumber 4 = .ok (.ldc 9, 2) := by decide +kernel
theorem dX3_isNumber_6 : decode cX3_isNumber 6 = .ok (.if_icmp .eq 7, 3) := by decide +kernel
theorem dX3_isNumber_9 : decode cX3_isNumber 9 = .ok (.iconst 1, 1) := by decide +kernel
theorem dX3_isNumber_10 : decode cX3_isNumber 10 = .ok (.goto 4, 3) := by decide +kernel
theorem dX3_isNumber_13 : decode cX3_isNumber 13 = .ok (.iconst 0, 1) := by decide +kernel
theorem dX3_isNumber_14 : decode cX3_isNumber 14 = .ok (.ireturn, 1) := by decide +kernel
theorem dX5_countNumbers_0 : decode cX5_countNumbers 0 = .ok (.iconst 0, 1) := by decide +kernel
theorem dX5_countNumbers_1 : decode cX5_countNumbers 1 = .ok (.istore_n 1, 1) := by decide +kernel
theorem dX5_countNumbers_2 : decode cX5_countNumbers 2 = .ok (.iconst 0, 1) := by decide +kernel
theorem dX5_countNumbers_3 : decode cX5_countNumbers 3 = .ok (.istore_n 2, 1) := by decide +kernel
theorem dX5_countNumbers_4 : decode cX5_countNumbers 4 = .ok (.iload_n 2, 1) := by decide +kernel
theorem dX5_countNumbers_5 : decode cX5_countNumbers 5 = .ok (.aload_n 0, 1) := by decide +kernel
theorem dX5_countNumbers_6 : decode cX5_countNumbers 6 = .ok (.getfield 54, 3) := by decide +kernel
theorem dX5_countNumbers_9 : decode cX5_countNumbers 9 = .ok (.if_icmp .ge 29, 3) := by decide +kernel
theorem dX5_countNumbers_12 : decode cX5_countNumbers 12 = .ok (.iload_n 1, 1) := by decide +kernel
theorem dX5_countNumbers_13 : decode cX5_countNumbers 13 = .ok (.aload_n 0, 1) := by decide +kernel
theorem dX5_countNumbers_14 : decode cX5_countNumbers 14 = .ok (.getfield 26, 3) := by decide +kernel
theorem dX5_countNumbers_17 : decode cX5_countNumbers 17 = .ok (.iload_n 2, 1) := by decide +kernel
theorem dX5_countNumbers_18 : decode cX5_countNumbers 18 = .ok (.iaload, 1) := by decide +kernel
theorem dX5_countNumbers_19 : decode cX5_countNumbers 19 = .ok (.invokestatic 57, 3) := by decide +kernel
theorem dX5_countNumbers_22 : decode cX5_countNumbers 22 = .ok (.ifCond .eq 7, 3) := by decide +kernel
theorem dX5_countNumbers_25 : decode cX5_countNumbers 25 = .ok (.iconst 1, 1) := by decide +kernel
theorem dX5_countNumbers_26 : decode cX5_countNumbers 26 = .ok (.goto 4, 3) := by decide +kernel
theorem dX5_countNumbers_29 : decode cX5_countNumbers 29 = .ok (.iconst 0, 1) := by decide +kernel
theorem dX5_countNumbers_30 : decode cX5_countNumbers 30 = .ok (.iadd, 1) := by decide +kernel
theorem dX5_countNumbers_31 : decode cX5_countNumbers 31 = .ok (.istore_n 1, 1) := by decide +kernel
theorem dX5_countNumbers_32 : decode cX5_countNumbers 32 = .ok (.iinc 2 1, 3) := by decide +kernel
theorem dX5_countNumbers_35 : decode cX5_countNumbers 35 = .ok (.goto (-31), 3) := by decide +kernel
theorem dX5_countNumbers_38 : decode cX5_countNumbers 38 = .ok (.iload_n 1, 1) := by decide +kernel
theorem dX5_countNumbers_39 : decode cX5_countNumbers 39 = .ok (.ireturn, 1) := by decide +kernel
theorem dX3_mantissa_0 : decode cX3_mantissa 0 = .ok (.iload_n 0, 1) := by decide +kernel
theorem dX3_mantissa_1 : decode cX3_mantissa 1 = .ok (.ldc 11, 2) := by decide +kernel
theorem dX3_mantissa_3 : decode cX3_mantissa 3 = .ok (.iand, 1) := by decide +kernel
theorem dX3_mantissa_4 : decode cX3_mantissa 4 = .ok (.istore_n 1, 1) := by decide +kernel
theorem dX3_mantissa_5 : decode cX3_mantissa 5 = .ok (.iload_n 0, 1) := by decide +kernel
theorem dX3_mantissa_6 : decode cX3_mantissa 6 = .ok (.ldc 9, 2) := by decide +kernel
theorem dX3_mantissa_8 : decode cX3_mantissa 8 = .ok (.iand, 1) := by decide +kernel
theorem dX3_mantissa_9 : decode cX3_mantissa 9 = .ok (.ifCond .ne 7, 3) := by decide +kernel
theorem dX3_mantissa_12 : decode cX3_mantissa 12 = .ok (.iload_n 1, 1) := by decide +kernel
theorem dX3_mantissa_13 : decode cX3_mantissa 13 = .ok (.goto 7, 3) := by decide +kernel
theorem dX3_mantissa_16 : decode cX3_mantissa 16 = .ok (.iload_n 1, 1) := by decide +kernel
theorem dX3_mantissa_17 : decode cX3_mantissa 17 = .ok (.ldc 12, 2) := by decide +kernel
theorem dX3_mantissa_19 : decode cX3_mantissa 19 = .ok (.ior, 1) := by decide +kernel
theorem dX3_mantissa_20 : decode cX3_mantissa 20 = .ok (.ireturn, 1) := by decide +kernel
theorem dX3_power_0 : decode cX3_power 0 = .ok (.iload_n 0, 1) := by decide +kernel
theorem dX3_power_1 : decode cX3_power 1 = .ok (.ldc 9, 2) := by decide +kernel
theorem dX3_power_3 : decode cX3_power 3 = .ok (.iand, 1) := by decide +kernel
theorem dX3_power_4 : decode cX3_power 4 = .ok (.bipush 23, 2) := by decide +kernel
theorem dX3_power_6 : decode cX3_power 6 = .ok (.ishr, 1) := by decide +kernel
theorem dX3_power_7 : decode cX3_power 7 = .ok (.istore_n 1, 1) := by decide +kernel
theorem dX3_power_8 : decode cX3_power 8 = .ok (.iload_n 1, 1) := by decide +kernel
theorem dX3_power_9 : decode cX3_power 9 = .ok (.iconst 1, 1) := by decide +kernel
theorem dX3_power_10 : decode cX3_power 10 = .ok (.invokestatic 13, 3) := by decide +kernel
theorem dX3_power_13 : decode cX3_power 13 = .ok (.iconst 1, 1) := by decide +kernel
theorem dX3_power_14 : decode cX3_power 14 = .ok (.isub, 1) := by decide +kernel
theorem dX3_power_15 : decode cX3_power 15 = .ok (.sipush (-149), 3) := by decide +kernel
theorem dX3_power_18 : decode cX3_power 18 = .ok (.iadd, 1) := by decide +kernel
theorem dX3_power_19 : decode cX3_power 19 = .ok (.ireturn, 1) := by decide +kernel
theorem dX3_toFloat_0 : decode cX3_toFloat 0 = .ok (.iload_n 0, 1) := by decide +kernel
theorem dX3_toFloat_1 : decode cX3_toFloat 1 = .ok (.invokestatic 19, 3) := by decide +kernel
theorem dX3_toFloat_4 : decode cX3_toFloat 4 = .ok (.i2f, 1) := by decide +kernel
theorem dX3_toFloat_5 : decode cX3_toFloat 5 = .ok (.fstore_n 1, 1) := by decide +kernel
theorem dX3_toFloat_6 : decode cX3_toFloat 6 = .ok (.iload_n 0, 1) := by decide +kernel
theorem dX3_toFloat_7 : decode cX3_toFloat 7 = .ok (.invokestatic 23, 3) := by decide +kernel
theorem dX3_toFloat_10 : decode cX3_toFloat 10 = .ok (.istore_n 2, 1) := by decide +kernel
theorem dX3_toFloat_11 : decode cX3_toFloat 11 = .ok (.iload_n 2, 1) := by decide +kernel
theorem dX3_toFloat_12 : decode cX3_toFloat 12 = .ok (.istore_n 3, 1) := by decide +kernel
theorem dX3_toFloat_13 : decode cX3_toFloat 13 = .ok (.iload_n 3, 1) := by decide +kernel
theorem dX3_toFloat_14 : decode cX3_toFloat 14 = .ok (.ifCond .le 13, 3) := by decide +kernel
theorem dX3_toFloat_17 : decode cX3_toFloat 17 = .ok (.fload_n 1, 1) := by decide +kernel
theorem dX3_toFloat_18 : decode cX3_toFloat 18 = .ok (.fconst 2, 1) := by decide +kernel
theorem dX3_toFloat_19 : decode cX3_toFloat 19 = .ok (.fmul, 1) := by decide +kernel
theorem dX3_toFloat_20 : decode cX3_toFloat 20 = .ok (.fstore_n 1, 1) := by decide +kernel
theorem dX3_toFloat_21 : decode cX3_toFloat 21 = .ok (.iinc 3 (-1), 3) := by decide +kernel
theorem dX3_toFloat_24 : decode cX3_toFloat 24 = .ok (.goto (-11), 3) := by decide +kernel
theorem dX3_toFloat_27 : decode cX3_toFloat 27 = .ok (.iload_n 2, 1) := by decide +kernel
theorem dX3_toFloat_28 : decode cX3_toFloat 28 = .ok (.istore_n 3, 1) := by decide +kernel
theorem dX3_toFloat_29 : decode cX3_toFloat 29 = .ok (.iload_n 3, 1) := by decide +kernel
theorem dX3_toFloat_30 : decode cX3_toFloat 30 = .ok (.ifCond .ge 14, 3) := by decide +kernel
theorem dX3_toFloat_33 : decode cX3_toFloat 33 = .ok (.fload_n 1, 1) := by decide +kernel
theorem dX3_toFloat_34 : decode cX3_toFloat 34 = .ok (.ldc 26, 2) := by decide +kernel
theorem dX3_toFloat_36 : decode cX3_toFloat 36 = .ok (.fmul, 1) := by decide +kernel
theorem dX3_toFloat_37 : decode cX3_toFloat 37 = .ok (.fstore_n 1, 1) := by decide +kernel
theorem dX3_toFloat_38 : decode cX3_toFloat 38 = .ok (.iinc 3 1, 3) := by decide +kernel
theorem dX3_toFloat_41 : decode cX3_toFloat 41 = .ok (.goto (-12), 3) := by decide +kernel
theorem dX3_toFloat_44 : decode cX3_toFloat 44 = .ok (.iload_n 0, 1) := by decide +kernel
theorem dX3_toFloat_45 : decode cX3_toFloat 45 = .ok (.ifCond .ge 8, 3) := by decide +kernel
theorem dX3_toFloat_48 : decode cX3_toFloat 48 = .ok (.fload_n 1, 1) := by decide +kernel
theorem dX3_toFloat_49 : decode cX3_toFloat 49 = .ok (.fneg, 1) := by decide +kernel
theorem dX3_toFloat_50 : decode cX3_toFloat 50 = .ok (.goto 4, 3) := by decide +kernel
theorem dX3_toFloat_53 : decode cX3_toFloat 53 = .ok (.fload_n 1, 1) := by decide +kernel
theorem dX3_toFloat_54 : decode cX3_toFloat 54 = .ok (.freturn, 1) := by decide +kernel
theorem dX5_extremeLap_0 : decode cX5_extremeLap 0 = .ok (.ldc 66, 2) := by decide +kernel
theorem dX5_extremeLap_2 : decode cX5_extremeLap 2 = .ok (.istore_n 2, 1) := by decide +kernel
theorem dX5_extremeLap_3 : decode cX5_extremeLap 3 = .ok (.iconst 0, 1) := by decide +kernel
theorem dX5_extremeLap_4 : decode cX5_extremeLap 4 = .ok (.istore_n 3, 1) := by decide +kernel
theorem dX5_extremeLap_5 : decode cX5_extremeLap 5 = .ok (.iload_n 3, 1) := by decide +kernel
theorem dX5_extremeLap_6 : decode cX5_extremeLap 6 = .ok (.aload_n 0, 1) := by decide +kernel
theorem dX5_extremeLap_7 : decode cX5_extremeLap 7 = .ok (.getfield 54, 3) := by decide +kernel
theorem dX5_extremeLap_10 : decode cX5_extremeLap 10 = .ok (.if_icmp .ge 96, 3) := by decide +kernel
theorem dX5_extremeLap_13 : decode cX5_extremeLap 13 = .ok (.aload_n 0, 1) := by decide +kernel
theorem dX5_extremeLap_14 : decode cX5_extremeLap 14 = .ok (.getfield 26, 3) := by decide +kernel
theorem dX5_extremeLap_17 : decode cX5_extremeLap 17 = .ok (.iload_n 3, 1) := by decide +kernel
theorem dX5_extremeLap_18 : decode cX5_extremeLap 18 = .ok (.iaload, 1) := by decide +kernel
theorem dX5_extremeLap_19 : decode cX5_extremeLap 19 = .ok (.invokestatic 57, 3) := by decide +kernel
theorem dX5_extremeLap_22 : decode cX5_extremeLap 22 = .ok (.ifCond .eq 78, 3) := by decide +kernel
theorem dX5_extremeLap_25 : decode cX5_extremeLap 25 = .ok (.iload_n 2, 1) := by decide +kernel
theorem dX5_extremeLap_26 : decode cX5_extremeLap 26 = .ok (.ldc 66, 2) := by decide +kernel
theorem dX5_extremeLap_28 : decode cX5_extremeLap 28 = .ok (.if_icmp .ne 7, 3) := by decide +kernel
theorem dX5_extremeLap_31 : decode cX5_extremeLap 31 = .ok (.iconst 1, 1) := by decide +kernel
theorem dX5_extremeLap_32 : decode cX5_extremeLap 32 = .ok (.goto 4, 3) := by decide +kernel
theorem dX5_extremeLap_35 : decode cX5_extremeLap 35 = .ok (.iconst 0, 1) := by decide +kernel
theorem dX5_extremeLap_36 : decode cX5_extremeLap 36 = .ok (.istore 4, 2) := by decide +kernel
theorem dX5_extremeLap_38 : decode cX5_extremeLap 38 = .ok (.iload_n 1, 1) := by decide +kernel
theorem dX5_extremeLap_39 : decode cX5_extremeLap 39 = .ok (.ifCond .eq 7, 3) := by decide +kernel
theorem dX5_extremeLap_42 : decode cX5_extremeLap 42 = .ok (.iload_n 2, 1) := by decide +kernel
theorem dX5_extremeLap_43 : decode cX5_extremeLap 43 = .ok (.goto 9, 3) := by decide +kernel
theorem dX5_extremeLap_46 : decode cX5_extremeLap 46 = .ok (.aload_n 0, 1) := by decide +kernel
theorem dX5_extremeLap_47 : decode cX5_extremeLap 47 = .ok (.getfield 26, 3) := by decide +kernel
theorem dX5_extremeLap_50 : decode cX5_extremeLap 50 = .ok (.iload_n 3, 1) := by decide +kernel
theorem dX5_extremeLap_51 : decode cX5_extremeLap 51 = .ok (.iaload, 1) := by decide +kernel
theorem dX5_extremeLap_52 : decode cX5_extremeLap 52 = .ok (.istore 5, 2) := by decide +kernel
theorem dX5_extremeLap_54 : decode cX5_extremeLap 54 = .ok (.iload_n 1, 1) := by decide +kernel
theorem dX5_extremeLap_55 : decode cX5_extremeLap 55 = .ok (.ifCond .eq 12, 3) := by decide +kernel
theorem dX5_extremeLap_58 : decode cX5_extremeLap 58 = .ok (.aload_n 0, 1) := by decide +kernel
theorem dX5_extremeLap_59 : decode cX5_extremeLap 59 = .ok (.getfield 26, 3) := by decide +kernel
theorem dX5_extremeLap_62 : decode cX5_extremeLap 62 = .ok (.iload_n 3, 1) := by decide +kernel
theorem dX5_extremeLap_63 : decode cX5_extremeLap 63 = .ok (.iaload, 1) := by decide +kernel
theorem dX5_extremeLap_64 : decode cX5_extremeLap 64 = .ok (.goto 4, 3) := by decide +kernel
theorem dX5_extremeLap_67 : decode cX5_extremeLap 67 = .ok (.iload_n 2, 1) := by decide +kernel
theorem dX5_extremeLap_68 : decode cX5_extremeLap 68 = .ok (.istore 6, 2) := by decide +kernel
theorem dX5_extremeLap_70 : decode cX5_extremeLap 70 = .ok (.iload 4, 2) := by decide +kernel
theorem dX5_extremeLap_72 : decode cX5_extremeLap 72 = .ok (.ifCond .ne 17, 3) := by decide +kernel
theorem dX5_extremeLap_75 : decode cX5_extremeLap 75 = .ok (.iload 5, 2) := by decide +kernel
theorem dX5_extremeLap_77 : decode cX5_extremeLap 77 = .ok (.invokestatic 62, 3) := by decide +kernel
theorem dX5_extremeLap_80 : decode cX5_extremeLap 80 = .ok (.iload 6, 2) := by decide +kernel
theorem dX5_extremeLap_82 : decode cX5_extremeLap 82 = .ok (.invokestatic 62, 3) := by decide +kernel
theorem dX5_extremeLap_85 : decode cX5_extremeLap 85 = .ok (.fcmp .g, 1) := by decide +kernel
theorem dX5_extremeLap_86 : decode cX5_extremeLap 86 = .ok (.ifCond .ge 12, 3) := by decide +kernel
theorem dX5_extremeLap_89 : decode cX5_extremeLap 89 = .ok (.aload_n 0, 1) := by decide +kernel
theorem dX5_extremeLap_90 : decode cX5_extremeLap 90 = .ok (.getfield 26, 3) := by decide +kernel
theorem dX5_extremeLap_93 : decode cX5_extremeLap 93 = .ok (.iload_n 3, 1) := by decide +kernel
theorem dX5_extremeLap_94 : decode cX5_extremeLap 94 = .ok (.iaload, 1) := by decide +kernel
theorem dX5_extremeLap_95 : decode cX5_extremeLap 95 = .ok (.goto 4, 3) := by decide +kernel
theorem dX5_extremeLap_98 : decode cX5_extremeLap 98 = .ok (.iload_n 2, 1) := by decide +kernel
theorem dX5_extremeLap_99 : decode cX5_extremeLap 99 = .ok (.istore_n 2, 1) := by decide +kernel
theorem dX5_extremeLap_100 : decode cX5_extremeLap 100 = .ok (.iinc 3 1, 3) := by decide +kernel
theorem dX5_extremeLap_103 : decode cX5_extremeLap 103 = .ok (.goto (-98), 3) := by decide +kernel
theorem dX5_extremeLap_106 : decode cX5_extremeLap 106 = .ok (.iload_n 2, 1) := by decide +kernel
theorem dX5_extremeLap_107 : decode cX5_extremeLap 107 = .ok (.ireturn, 1) := by decide +kernel
theorem dX5_sumOfNumbers_0 : decode cX5_sumOfNumbers 0 = .ok (.fconst 0, 1) := by decide +kernel
theorem dX5_sumOfNumbers_1 : decode cX5_sumOfNumbers 1 = .ok (.fstore_n 1, 1) := by decide +kernel
theorem dX5_sumOfNumbers_2 : decode cX5_sumOfNumbers 2 = .ok (.iconst 0, 1) := by decide +kernel
theorem dX5_sumOfNumbers_3 : decode cX5_sumOfNumbers 3 = .ok (.istore_n 2, 1) := by decide +kernel
theorem dX5_sumOfNumbers_4 : decode cX5_sumOfNumbers 4 = .ok (.iload_n 2, 1) := by decide +kernel
theorem dX5_sumOfNumbers_5 : decode cX5_sumOfNumbers 5 = .ok (.aload_n 0, 1) := by decide +kernel
theorem dX5_sumOfNumbers_6 : decode cX5_sumOfNumbers 6 = .ok (.getfield 54, 3) := by decide +kernel
theorem dX5_sumOfNumbers_9 : decode cX5_sumOfNumbers 9 = .ok (.if_icmp .ge 33, 3) := by decide +kernel
theorem dX5_sumOfNumbers_12 : decode cX5_sumOfNumbers 12 = .ok (.aload_n 0, 1) := by decide +kernel
theorem dX5_sumOfNumbers_13 : decode cX5_sumOfNumbers 13 = .ok (.getfield 26, 3) := by decide +kernel
theorem dX5_sumOfNumbers_16 : decode cX5_sumOfNumbers 16 = .ok (.iload_n 2, 1) := by decide +kernel
theorem dX5_sumOfNumbers_17 : decode cX5_sumOfNumbers 17 = .ok (.iaload, 1) := by decide +kernel
theorem dX5_sumOfNumbers_18 : decode cX5_sumOfNumbers 18 = .ok (.invokestatic 57, 3) := by decide +kernel
theorem dX5_sumOfNumbers_21 : decode cX5_sumOfNumbers 21 = .ok (.ifCond .eq 15, 3) := by decide +kernel
theorem dX5_sumOfNumbers_24 : decode cX5_sumOfNumbers 24 = .ok (.fload_n 1, 1) := by decide +kernel
theorem dX5_sumOfNumbers_25 : decode cX5_sumOfNumbers 25 = .ok (.aload_n 0, 1) := by decide +kernel
theorem dX5_sumOfNumbers_26 : decode cX5_sumOfNumbers 26 = .ok (.getfield 26, 3) := by decide +kernel
theorem dX5_sumOfNumbers_29 : decode cX5_sumOfNumbers 29 = .ok (.iload_n 2, 1) := by decide +kernel
theorem dX5_sumOfNumbers_30 : decode cX5_sumOfNumbers 30 = .ok (.iaload, 1) := by decide +kernel
theorem dX5_sumOfNumbers_31 : decode cX5_sumOfNumbers 31 = .ok (.invokestatic 62, 3) := by decide +kernel
theorem dX5_sumOfNumbers_34 : decode cX5_sumOfNumbers 34 = .ok (.fadd, 1) := by decide +kernel
theorem dX5_sumOfNumbers_35 : decode cX5_sumOfNumbers 35 = .ok (.fstore_n 1, 1) := by decide +kernel
theorem dX5_sumOfNumbers_36 : decode cX5_sumOfNumbers 36 = .ok (.iinc 2 1, 3) := by decide +kernel
theorem dX5_sumOfNumbers_39 : decode cX5_sumOfNumbers 39 = .ok (.goto (-35), 3) := by decide +kernel
theorem dX5_sumOfNumbers_42 : decode cX5_sumOfNumbers 42 = .ok (.fload_n 1, 1) := by decide +kernel
theorem dX5_sumOfNumbers_43 : decode cX5_sumOfNumbers 43 = .ok (.freturn, 1) := by decide +kernel
theorem dX3_pack_0 : decode cX3_pack 0 = .ok (.iload_n 0, 1) := by decide +kernel
theorem dX3_pack_1 : decode cX3_pack 1 = .ok (.istore_n 2, 1) := by decide +kernel
theorem dX3_pack_2 : decode cX3_pack 2 = .ok (.iload_n 1, 1) := by decide +kernel
theorem dX3_pack_3 : decode cX3_pack 3 = .ok (.istore_n 3, 1) := by decide +kernel
theorem dX3_pack_4 : decode cX3_pack 4 = .ok (.iload_n 2, 1) := by decide +kernel
theorem dX3_pack_5 : decode cX3_pack 5 = .ok (.ldc 12, 2) := by decide +kernel
theorem dX3_pack_7 : decode cX3_pack 7 = .ok (.if_icmp .ge 20, 3) := by decide +kernel
theorem dX3_pack_10 : decode cX3_pack 10 = .ok (.iload_n 3, 1) := by decide +kernel
theorem dX3_pack_11 : decode cX3_pack 11 = .ok (.sipush (-149), 3) := by decide +kernel
theorem dX3_pack_14 : decode cX3_pack 14 = .ok (.if_icmp .le 13, 3) := by decide +kernel
theorem dX3_pack_17 : decode cX3_pack 17 = .ok (.iload_n 2, 1) := by decide +kernel
theorem dX3_pack_18 : decode cX3_pack 18 = .ok (.iconst 1, 1) := by decide +kernel
theorem dX3_pack_19 : decode cX3_pack 19 = .ok (.ishl, 1) := by decide +kernel
theorem dX3_pack_20 : decode cX3_pack 20 = .ok (.istore_n 2, 1) := by decide +kernel
theorem dX3_pack_21 : decode cX3_pack 21 = .ok (.iinc 3 (-1), 3) := by decide +kernel
theorem dX3_pack_24 : decode cX3_pack 24 = .ok (.goto (-20), 3) := by decide +kernel
theorem dX3_pack_27 : decode cX3_pack 27 = .ok (.iload_n 2, 1) := by decide +kernel
theorem dX3_pack_28 : decode cX3_pack 28 = .ok (.ldc 12, 2) := by decide +kernel
theorem dX3_pack_30 : decode cX3_pack 30 = .ok (.if_icmp .ge 7, 3) := by decide +kernel
theorem dX3_pack_33 : decode cX3_pack 33 = .ok (.iload_n 2, 1) := by decide +kernel
theorem dX3_pack_34 : decode cX3_pack 34 = .ok (.goto 18, 3) := by decide +kernel
theorem dX3_pack_37 : decode cX3_pack 37 = .ok (.iload_n 3, 1) := by decide +kernel
theorem dX3_pack_38 : decode cX3_pack 38 = .ok (.sipush (-149), 3) := by decide +kernel
theorem dX3_pack_41 : decode cX3_pack 41 = .ok (.isub, 1) := by decide +kernel
theorem dX3_pack_42 : decode cX3_pack 42 = .ok (.iconst 1, 1) := by decide +kernel
theorem dX3_pack_43 : decode cX3_pack 43 = .ok (.iadd, 1) := by decide +kernel
theorem dX3_pack_44 : decode cX3_pack 44 = .ok (.bipush 23, 2) := by decide +kernel
theorem dX3_pack_46 : decode cX3_pack 46 = .ok (.ishl, 1) := by decide +kernel
theorem dX3_pack_47 : decode cX3_pack 47 = .ok (.iload_n 2, 1) := by decide +kernel
theorem dX3_pack_48 : decode cX3_pack 48 = .ok (.ldc 11, 2) := by decide +kernel
theorem dX3_pack_50 : decode cX3_pack 50 = .ok (.iand, 1) := by decide +kernel
theorem dX3_pack_51 : decode cX3_pack 51 = .ok (.ior, 1) := by decide +kernel
theorem dX3_pack_52 : decode cX3_pack 52 = .ok (.ireturn, 1) := by decide +kernel
theorem dX3_sizeBits_0 : decode cX3_sizeBits 0 = .ok (.fload_n 0, 1) := by decide +kernel
theorem dX3_sizeBits_1 : decode cX3_sizeBits 1 = .ok (.ldc 32, 2) := by decide +kernel
theorem dX3_sizeBits_3 : decode cX3_sizeBits 3 = .ok (.fcmp .l, 1) := by decide +kernel
theorem dX3_sizeBits_4 : decode cX3_sizeBits 4 = .ok (.ifCond .le 6, 3) := by decide +kernel
theorem dX3_sizeBits_7 : decode cX3_sizeBits 7 = .ok (.ldc 9, 2) := by decide +kernel
theorem dX3_sizeBits_9 : decode cX3_sizeBits 9 = .ok (.ireturn, 1) := by decide +kernel
theorem dX3_sizeBits_10 : decode cX3_sizeBits 10 = .ok (.fload_n 0, 1) := by decide +kernel
theorem dX3_sizeBits_11 : decode cX3_sizeBits 11 = .ok (.fstore_n 1, 1) := by decide +kernel
theorem dX3_sizeBits_12 : decode cX3_sizeBits 12 = .ok (.iconst 0, 1) := by decide +kernel
theorem dX3_sizeBits_13 : decode cX3_sizeBits 13 = .ok (.istore_n 2, 1) := by decide +kernel
theorem dX3_sizeBits_14 : decode cX3_sizeBits 14 = .ok (.fload_n 1, 1) := by decide +kernel
theorem dX3_sizeBits_15 : decode cX3_sizeBits 15 = .ok (.ldc 33, 2) := by decide +kernel
theorem dX3_sizeBits_17 : decode cX3_sizeBits 17 = .ok (.fcmp .l, 1) := by decide +kernel
theorem dX3_sizeBits_18 : decode cX3_sizeBits 18 = .ok (.ifCond .lt 20, 3) := by decide +kernel
theorem dX3_sizeBits_21 : decode cX3_sizeBits 21 = .ok (.iload_n 2, 1) := by decide +kernel
theorem dX3_sizeBits_22 : decode cX3_sizeBits 22 = .ok (.bipush 104, 2) := by decide +kernel
theorem dX3_sizeBits_24 : decode cX3_sizeBits 24 = .ok (.if_icmp .ge 14, 3) := by decide +kernel
theorem dX3_sizeBits_27 : decode cX3_sizeBits 27 = .ok (.fload_n 1, 1) := by decide +kernel
theorem dX3_sizeBits_28 : decode cX3_sizeBits 28 = .ok (.ldc 26, 2) := by decide +kernel
theorem dX3_sizeBits_30 : decode cX3_sizeBits 30 = .ok (.fmul, 1) := by decide +kernel
theorem dX3_sizeBits_31 : decode cX3_sizeBits 31 = .ok (.fstore_n 1, 1) := by decide +kernel
theorem dX3_sizeBits_32 : decode cX3_sizeBits 32 = .ok (.iinc 2 1, 3) := by decide +kernel
theorem dX3_sizeBits_35 : decode cX3_sizeBits 35 = .ok (.goto (-21), 3) := by decide +kernel
theorem dX3_sizeBits_38 : decode cX3_sizeBits 38 = .ok (.fload_n 1, 1) := by decide +kernel
theorem dX3_sizeBits_39 : decode cX3_sizeBits 39 = .ok (.ldc 34, 2) := by decide +kernel
theorem dX3_sizeBits_41 : decode cX3_sizeBits 41 = .ok (.fcmp .g, 1) := by decide +kernel
theorem dX3_sizeBits_42 : decode cX3_sizeBits 42 = .ok (.ifCond .ge 20, 3) := by decide +kernel
theorem dX3_sizeBits_45 : decode cX3_sizeBits 45 = .ok (.iload_n 2, 1) := by decide +kernel
theorem dX3_sizeBits_46 : decode cX3_sizeBits 46 = .ok (.sipush (-149), 3) := by decide +kernel
theorem dX3_sizeBits_49 : decode cX3_sizeBits 49 = .ok (.if_icmp .le 13, 3) := by decide +kernel
theorem dX3_sizeBits_52 : decode cX3_sizeBits 52 = .ok (.fload_n 1, 1) := by decide +kernel
theorem dX3_sizeBits_53 : decode cX3_sizeBits 53 = .ok (.fconst 2, 1) := by decide +kernel
theorem dX3_sizeBits_54 : decode cX3_sizeBits 54 = .ok (.fmul, 1) := by decide +kernel
theorem dX3_sizeBits_55 : decode cX3_sizeBits 55 = .ok (.fstore_n 1, 1) := by decide +kernel
theorem dX3_sizeBits_56 : decode cX3_sizeBits 56 = .ok (.iinc 2 (-1), 3) := by decide +kernel
theorem dX3_sizeBits_59 : decode cX3_sizeBits 59 = .ok (.goto (-21), 3) := by decide +kernel
theorem dX3_sizeBits_62 : decode cX3_sizeBits 62 = .ok (.fload_n 1, 1) := by decide +kernel
theorem dX3_sizeBits_63 : decode cX3_sizeBits 63 = .ok (.f2i, 1) := by decide +kernel
theorem dX3_sizeBits_64 : decode cX3_sizeBits 64 = .ok (.iload_n 2, 1) := by decide +kernel
theorem dX3_sizeBits_65 : decode cX3_sizeBits 65 = .ok (.invokestatic 35, 3) := by decide +kernel
theorem dX3_sizeBits_68 : decode cX3_sizeBits 68 = .ok (.ireturn, 1) := by decide +kernel
theorem dX3_quotientBits_0 : decode cX3_quotientBits 0 = .ok (.fload_n 0, 1) := by decide +kernel
theorem dX3_quotientBits_1 : decode cX3_quotientBits 1 = .ok (.fconst 0, 1) := by decide +kernel
theorem dX3_quotientBits_2 : decode cX3_quotientBits 2 = .ok (.fcmp .g, 1) := by decide +kernel
theorem dX3_quotientBits_3 : decode cX3_quotientBits 3 = .ok (.ifCond .ge 8, 3) := by decide +kernel
theorem dX3_quotientBits_6 : decode cX3_quotientBits 6 = .ok (.fload_n 0, 1) := by decide +kernel
theorem dX3_quotientBits_7 : decode cX3_quotientBits 7 = .ok (.fneg, 1) := by decide +kernel
theorem dX3_quotientBits_8 : decode cX3_quotientBits 8 = .ok (.goto 4, 3) := by decide +kernel
theorem dX3_quotientBits_11 : decode cX3_quotientBits 11 = .ok (.fload_n 0, 1) := by decide +kernel
theorem dX3_quotientBits_12 : decode cX3_quotientBits 12 = .ok (.iload_n 1, 1) := by decide +kernel
theorem dX3_quotientBits_13 : decode cX3_quotientBits 13 = .ok (.iconst 1, 1) := by decide +kernel
theorem dX3_quotientBits_14 : decode cX3_quotientBits 14 = .ok (.invokestatic 13, 3) := by decide +kernel
theorem dX3_quotientBits_17 : decode cX3_quotientBits 17 = .ok (.i2f, 1) := by decide +kernel
theorem dX3_quotientBits_18 : decode cX3_quotientBits 18 = .ok (.fdiv, 1) := by decide +kernel
theorem dX3_quotientBits_19 : decode cX3_quotientBits 19 = .ok (.fstore_n 2, 1) := by decide +kernel
theorem dX3_quotientBits_20 : decode cX3_quotientBits 20 = .ok (.fload_n 2, 1) := by decide +kernel
theorem dX3_quotientBits_21 : decode cX3_quotientBits 21 = .ok (.invokestatic 27, 3) := by decide +kernel
theorem dX3_quotientBits_24 : decode cX3_quotientBits 24 = .ok (.fload_n 0, 1) := by decide +kernel
theorem dX3_quotientBits_25 : decode cX3_quotientBits 25 = .ok (.fconst 0, 1) := by decide +kernel
theorem dX3_quotientBits_26 : decode cX3_quotientBits 26 = .ok (.fcmp .g, 1) := by decide +kernel
theorem dX3_quotientBits_27 : decode cX3_quotientBits 27 = .ok (.ifCond .ge 8, 3) := by decide +kernel
theorem dX3_quotientBits_30 : decode cX3_quotientBits 30 = .ok (.ldc 31, 2) := by decide +kernel
theorem dX3_quotientBits_32 : decode cX3_quotientBits 32 = .ok (.goto 4, 3) := by decide +kernel
theorem dX3_quotientBits_35 : decode cX3_quotientBits 35 = .ok (.iconst 0, 1) := by decide +kernel
theorem dX3_quotientBits_36 : decode cX3_quotientBits 36 = .ok (.ior, 1) := by decide +kernel
theorem dX3_quotientBits_37 : decode cX3_quotientBits 37 = .ok (.ireturn, 1) := by decide +kernel
theorem dX10_pace_0 : decode cX10_pace 0 = .ok (.aload_n 0, 1) := by decide +kernel
theorem dX10_pace_1 : decode cX10_pace 1 = .ok (.iload_n 1, 1) := by decide +kernel
theorem dX10_pace_2 : decode cX10_pace 2 = .ok (.invokevirtual 76, 3) := by decide +kernel
theorem dX10_pace_5 : decode cX10_pace 5 = .ok (.astore_n 3, 1) := by decide +kernel
theorem dX10_pace_6 : decode cX10_pace 6 = .ok (.aload_n 3, 1) := by decide +kernel
theorem dX10_pace_7 : decode cX10_pace 7 = .ok (.ifnull 12, 3) := by decide +kernel
theorem dX10_pace_10 : decode cX10_pace 10 = .ok (.iload_n 2, 1) := by decide +kernel
theorem dX10_pace_11 : decode cX10_pace 11 = .ok (.ifCond .lt 8, 3) := by decide +kernel
theorem dX10_pace_14 : decode cX10_pace 14 = .ok (.iload_n 2, 1) := by decide +kernel
theorem dX10_pace_15 : decode cX10_pace 15 = .ok (.iconst 4, 1) := by decide +kernel
theorem dX10_pace_16 : decode cX10_pace 16 = .ok (.if_icmp .le 5, 3) := by decide +kernel
theorem dX10_pace_19 : decode cX10_pace 19 = .ok (.iconst 0, 1) := by decide +kernel
theorem dX10_pace_20 : decode cX10_pace 20 = .ok (.ireturn, 1) := by decide +kernel
theorem dX10_pace_21 : decode cX10_pace 21 = .ok (.aload_n 3, 1) := by decide +kernel
theorem dX10_pace_22 : decode cX10_pace 22 = .ok (.invokevirtual 367, 3) := by decide +kernel
theorem dX10_pace_25 : decode cX10_pace 25 = .ok (.istore 4, 2) := by decide +kernel
theorem dX10_pace_27 : decode cX10_pace 27 = .ok (.iload_n 2, 1) := by decide +kernel
theorem dX10_pace_28 : decode cX10_pace 28 = .ok (.iconst 4, 1) := by decide +kernel
theorem dX10_pace_29 : decode cX10_pace 29 = .ok (.if_icmp .ne 6, 3) := by decide +kernel
theorem dX10_pace_32 : decode cX10_pace 32 = .ok (.iload 4, 2) := by decide +kernel
theorem dX10_pace_34 : decode cX10_pace 34 = .ok (.ireturn, 1) := by decide +kernel
theorem dX10_pace_35 : decode cX10_pace 35 = .ok (.iload 4, 2) := by decide +kernel
theorem dX10_pace_37 : decode cX10_pace 37 = .ok (.ifCond .ne 7, 3) := by decide +kernel
theorem dX10_pace_40 : decode cX10_pace 40 = .ok (.ldc_w 363, 3) := by decide +kernel
theorem dX10_pace_43 : decode cX10_pace 43 = .ok (.ireturn, 1) := by decide +kernel
theorem dX10_pace_44 : decode cX10_pace 44 = .ok (.iload_n 2, 1) := by decide +kernel
theorem dX10_pace_45 : decode cX10_pace 45 = .ok (.iconst 2, 1) := by decide +kernel
theorem dX10_pace_46 : decode cX10_pace 46 = .ok (.if_icmp .eq 8, 3) := by decide +kernel
theorem dX10_pace_49 : decode cX10_pace 49 = .ok (.iload_n 2, 1) := by decide +kernel
theorem dX10_pace_50 : decode cX10_pace 50 = .ok (.iconst 3, 1) := by decide +kernel
theorem dX10_pace_51 : decode cX10_pace 51 = .ok (.if_icmp .ne 18, 3) := by decide +kernel
theorem dX10_pace_54 : decode cX10_pace 54 = .ok (.aload_n 3, 1) := by decide +kernel
theorem dX10_pace_55 : decode cX10_pace 55 = .ok (.iload_n 2, 1) := by decide +kernel
theorem dX10_pace_56 : decode cX10_pace 56 = .ok (.iconst 3, 1) := by decide +kernel
theorem dX10_pace_57 : decode cX10_pace 57 = .ok (.if_icmp .ne 7, 3) := by decide +kernel
theorem dX10_pace_60 : decode cX10_pace 60 = .ok (.iconst 1, 1) := by decide +kernel
theorem dX10_pace_61 : decode cX10_pace 61 = .ok (.goto 4, 3) := by decide +kernel
theorem dX10_pace_64 : decode cX10_pace 64 = .ok (.iconst 0, 1) := by decide +kernel
theorem dX10_pace_65 : decode cX10_pace 65 = .ok (.invokevirtual 370, 3) := by decide +kernel
theorem dX10_pace_68 : decode cX10_pace 68 = .ok (.ireturn, 1) := by decide +kernel
theorem dX10_pace_69 : decode cX10_pace 69 = .ok (.aload_n 3, 1) := by decide +kernel
theorem dX10_pace_70 : decode cX10_pace 70 = .ok (.invokevirtual 374, 3) := by decide +kernel
theorem dX10_pace_73 : decode cX10_pace 73 = .ok (.iload_n 2, 1) := by decide +kernel
theorem dX10_pace_74 : decode cX10_pace 74 = .ok (.iconst 1, 1) := by decide +kernel
theorem dX10_pace_75 : decode cX10_pace 75 = .ok (.if_icmp .ne 8, 3) := by decide +kernel
theorem dX10_pace_78 : decode cX10_pace 78 = .ok (.iload 4, 2) := by decide +kernel
theorem dX10_pace_80 : decode cX10_pace 80 = .ok (.goto 4, 3) := by decide +kernel
theorem dX10_pace_83 : decode cX10_pace 83 = .ok (.iconst 1, 1) := by decide +kernel
theorem dX10_pace_84 : decode cX10_pace 84 = .ok (.invokestatic 378, 3) := by decide +kernel
theorem dX10_pace_87 : decode cX10_pace 87 = .ok (.ireturn, 1) := by decide +kernel
theorem dX11_isNumber_0 : decode cX11_isNumber 0 = .ok (.fload_n 0, 1) := by decide +kernel
theorem dX11_isNumber_1 : decode cX11_isNumber 1 = .ok (.ldc_w 368, 3) := by decide +kernel
theorem dX11_isNumber_4 : decode cX11_isNumber 4 = .ok (.fcmp .l, 1) := by decide +kernel
theorem dX11_isNumber_5 : decode cX11_isNumber 5 = .ok (.ifCond .lt 15, 3) := by decide +kernel
theorem dX11_isNumber_8 : decode cX11_isNumber 8 = .ok (.fload_n 0, 1) := by decide +kernel
theorem dX11_isNumber_9 : decode cX11_isNumber 9 = .ok (.ldc_w 369, 3) := by decide +kernel
theorem dX11_isNumber_12 : decode cX11_isNumber 12 = .ok (.fcmp .g, 1) := by decide +kernel
theorem dX11_isNumber_13 : decode cX11_isNumber 13 = .ok (.ifCond .gt 7, 3) := by decide +kernel
theorem dX11_isNumber_16 : decode cX11_isNumber 16 = .ok (.iconst 1, 1) := by decide +kernel
theorem dX11_isNumber_17 : decode cX11_isNumber 17 = .ok (.goto 4, 3) := by decide +kernel
theorem dX11_isNumber_20 : decode cX11_isNumber 20 = .ok (.iconst 0, 1) := by decide +kernel
theorem dX11_isNumber_21 : decode cX11_isNumber 21 = .ok (.ireturn, 1) := by decide +kernel
theorem dX11_pace_0 : decode cX11_pace 0 = .ok (.aload_n 0, 1) := by decide +kernel
theorem dX11_pace_1 : decode cX11_pace 1 = .ok (.iload_n 1, 1) := by decide +kernel
theorem dX11_pace_2 : decode cX11_pace 2 = .ok (.invokevirtual 179, 3) := by decide +kernel
theorem dX11_pace_5 : decode cX11_pace 5 = .ok (.ifCond .eq 12, 3) := by decide +kernel
theorem dX11_pace_8 : decode cX11_pace 8 = .ok (.iload_n 2, 1) := by decide +kernel
theorem dX11_pace_9 : decode cX11_pace 9 = .ok (.iconst 0, 1) := by decide +kernel
theorem dX11_pace_10 : decode cX11_pace 10 = .ok (.iconst 4, 1) := by decide +kernel
theorem dX11_pace_11 : decode cX11_pace 11 = .ok (.invokestatic 172, 3) := by decide +kernel
theorem dX11_pace_14 : decode cX11_pace 14 = .ok (.ifCond .ne 5, 3) := by decide +kernel
theorem dX11_pace_17 : decode cX11_pace 17 = .ok (.iconst 0, 1) := by decide +kernel
theorem dX11_pace_18 : decode cX11_pace 18 = .ok (.ireturn, 1) := by decide +kernel
theorem dX11_pace_19 : decode cX11_pace 19 = .ok (.fconst 0, 1) := by decide +kernel
theorem dX11_pace_20 : decode cX11_pace 20 = .ok (.fstore_n 3, 1) := by decide +kernel
theorem dX11_pace_21 : decode cX11_pace 21 = .ok (.fconst 0, 1) := by decide +kernel
theorem dX11_pace_22 : decode cX11_pace 22 = .ok (.fstore 4, 2) := by decide +kernel
theorem dX11_pace_24 : decode cX11_pace 24 = .ok (.fconst 0, 1) := by decide +kernel
theorem dX11_pace_25 : decode cX11_pace 25 = .ok (.fstore 5, 2) := by decide +kernel
theorem dX11_pace_27 : decode cX11_pace 27 = .ok (.iconst 0, 1) := by decide +kernel
theorem dX11_pace_28 : decode cX11_pace 28 = .ok (.istore 6, 2) := by decide +kernel
theorem dX11_pace_30 : decode cX11_pace 30 = .ok (.iconst 0, 1) := by decide +kernel
theorem dX11_pace_31 : decode cX11_pace 31 = .ok (.istore 7, 2) := by decide +kernel
theorem dX11_pace_33 : decode cX11_pace 33 = .ok (.iload 7, 2) := by decide +kernel
theorem dX11_pace_35 : decode cX11_pace 35 = .ok (.aload_n 0, 1) := by decide +kernel
theorem dX11_pace_36 : decode cX11_pace 36 = .ok (.getfield 158, 3) := by decide +kernel
theorem dX11_pace_39 : decode cX11_pace 39 = .ok (.iload_n 1, 1) := by decide +kernel
theorem dX11_pace_40 : decode cX11_pace 40 = .ok (.iaload, 1) := by decide +kernel
theorem dX11_pace_41 : decode cX11_pace 41 = .ok (.if_icmp .ge 83, 3) := by decide +kernel
theorem dX11_pace_44 : decode cX11_pace 44 = .ok (.aload_n 0, 1) := by decide +kernel
theorem dX11_pace_45 : decode cX11_pace 45 = .ok (.getfield 161, 3) := by decide +kernel
theorem dX11_pace_48 : decode cX11_pace 48 = .ok (.bipush 12, 2) := by decide +kernel
theorem dX11_pace_50 : decode cX11_pace 50 = .ok (.iload_n 1, 1) := by decide +kernel
theorem dX11_pace_51 : decode cX11_pace 51 = .ok (.imul, 1) := by decide +kernel
theorem dX11_pace_52 : decode cX11_pace 52 = .ok (.iload 7, 2) := by decide +kernel
theorem dX11_pace_54 : decode cX11_pace 54 = .ok (.iadd, 1) := by decide +kernel
theorem dX11_pace_55 : decode cX11_pace 55 = .ok (.faload, 1) := by decide +kernel
theorem dX11_pace_56 : decode cX11_pace 56 = .ok (.fstore 8, 2) := by decide +kernel
theorem dX11_pace_58 : decode cX11_pace 58 = .ok (.fload 8, 2) := by decide +kernel
theorem dX11_pace_60 : decode cX11_pace 60 = .ok (.invokestatic 380, 3) := by decide +kernel
theorem dX11_pace_63 : decode cX11_pace 63 = .ok (.ifCond .eq 55, 3) := by decide +kernel
theorem dX11_pace_66 : decode cX11_pace 66 = .ok (.fload_n 3, 1) := by decide +kernel
theorem dX11_pace_67 : decode cX11_pace 67 = .ok (.fload 8, 2) := by decide +kernel
theorem dX11_pace_69 : decode cX11_pace 69 = .ok (.fadd, 1) := by decide +kernel
theorem dX11_pace_70 : decode cX11_pace 70 = .ok (.fstore_n 3, 1) := by decide +kernel
theorem dX11_pace_71 : decode cX11_pace 71 = .ok (.iload 6, 2) := by decide +kernel
theorem dX11_pace_73 : decode cX11_pace 73 = .ok (.ifCond .eq 11, 3) := by decide +kernel
theorem dX11_pace_76 : decode cX11_pace 76 = .ok (.fload 8, 2) := by decide +kernel
theorem dX11_pace_78 : decode cX11_pace 78 = .ok (.fload 4, 2) := by decide +kernel
theorem dX11_pace_80 : decode cX11_pace 80 = .ok (.fcmp .g, 1) := by decide +kernel
theorem dX11_pace_81 : decode cX11_pace 81 = .ok (.ifCond .ge 8, 3) := by decide +kernel
theorem dX11_pace_84 : decode cX11_pace 84 = .ok (.fload 8, 2) := by decide +kernel
theorem dX11_pace_86 : decode cX11_pace 86 = .ok (.goto 5, 3) := by decide +kernel
theorem dX11_pace_89 : decode cX11_pace 89 = .ok (.fload 4, 2) := by decide +kernel
theorem dX11_pace_91 : decode cX11_pace 91 = .ok (.fstore 4, 2) := by decide +kernel
theorem dX11_pace_93 : decode cX11_pace 93 = .ok (.iload 6, 2) := by decide +kernel
theorem dX11_pace_95 : decode cX11_pace 95 = .ok (.ifCond .eq 11, 3) := by decide +kernel
theorem dX11_pace_98 : decode cX11_pace 98 = .ok (.fload 8, 2) := by decide +kernel
theorem dX11_pace_100 : decode cX11_pace 100 = .ok (.fload 5, 2) := by decide +kernel
theorem dX11_pace_102 : decode cX11_pace 102 = .ok (.fcmp .l, 1) := by decide +kernel
theorem dX11_pace_103 : decode cX11_pace 103 = .ok (.ifCond .le 8, 3) := by decide +kernel
theorem dX11_pace_106 : decode cX11_pace 106 = .ok (.fload 8, 2) := by decide +kernel
theorem dX11_pace_108 : decode cX11_pace 108 = .ok (.goto 5, 3) := by decide +kernel
theorem dX11_pace_111 : decode cX11_pace 111 = .ok (.fload 5, 2) := by decide +kernel
theorem dX11_pace_113 : decode cX11_pace 113 = .ok (.fstore 5, 2) := by decide +kernel
theorem dX11_pace_115 : decode cX11_pace 115 = .ok (.iinc 6 1, 3) := by decide +kernel
theorem dX11_pace_118 : decode cX11_pace 118 = .ok (.iinc 7 1, 3) := by decide +kernel
theorem dX11_pace_121 : decode cX11_pace 121 = .ok (.goto (-88), 3) := by decide +kernel
theorem dX11_pace_124 : decode cX11_pace 124 = .ok (.iload_n 2, 1) := by decide +kernel
theorem dX11_pace_125 : decode cX11_pace 125 = .ok (.iconst 4, 1) := by decide +kernel
theorem dX11_pace_126 : decode cX11_pace 126 = .ok (.if_icmp .ne 6, 3) := by decide +kernel
theorem dX11_pace_129 : decode cX11_pace 129 = .ok (.iload 6, 2) := by decide +kernel
theorem dX11_pace_131 : decode cX11_pace 131 = .ok (.ireturn, 1) := by decide +kernel
theorem dX11_pace_132 : decode cX11_pace 132 = .ok (.iload 6, 2) := by decide +kernel
theorem dX11_pace_134 : decode cX11_pace 134 = .ok (.ifCond .ne 7, 3) := by decide +kernel
theorem dX11_pace_137 : decode cX11_pace 137 = .ok (.ldc_w 361, 3) := by decide +kernel
theorem dX11_pace_140 : decode cX11_pace 140 = .ok (.ireturn, 1) := by decide +kernel
theorem dX11_pace_141 : decode cX11_pace 141 = .ok (.iload_n 2, 1) := by decide +kernel
theorem dX11_pace_142 : decode cX11_pace 142 = .ok (.ifCond .ne 7, 3) := by decide +kernel
theorem dX11_pace_145 : decode cX11_pace 145 = .ok (.fload_n 3, 1) := by decide +kernel
theorem dX11_pace_146 : decode cX11_pace 146 = .ok (.goto 28, 3) := by decide +kernel
theorem dX11_pace_149 : decode cX11_pace 149 = .ok (.iload_n 2, 1) := by decide +kernel
theorem dX11_pace_150 : decode cX11_pace 150 = .ok (.iconst 1, 1) := by decide +kernel
theorem dX11_pace_151 : decode cX11_pace 151 = .ok (.if_icmp .ne 11, 3) := by decide +kernel
theorem dX11_pace_154 : decode cX11_pace 154 = .ok (.fload_n 3, 1) := by decide +kernel
theorem dX11_pace_155 : decode cX11_pace 155 = .ok (.iload 6, 2) := by decide +kernel
theorem dX11_pace_157 : decode cX11_pace 157 = .ok (.i2f, 1) := by decide +kernel
theorem dX11_pace_158 : decode cX11_pace 158 = .ok (.fdiv, 1) := by decide +kernel
theorem dX11_pace_159 : decode cX11_pace 159 = .ok (.goto 15, 3) := by decide +kernel
theorem dX11_pace_162 : decode cX11_pace 162 = .ok (.iload_n 2, 1) := by decide +kernel
theorem dX11_pace_163 : decode cX11_pace 163 = .ok (.iconst 2, 1) := by decide +kernel
theorem dX11_pace_164 : decode cX11_pace 164 = .ok (.if_icmp .ne 8, 3) := by decide +kernel
theorem dX11_pace_167 : decode cX11_pace 167 = .ok (.fload 4, 2) := by decide +kernel
theorem dX11_pace_169 : decode cX11_pace 169 = .ok (.goto 5, 3) := by decide +kernel
theorem dX11_pace_172 : decode cX11_pace 172 = .ok (.fload 5, 2) := by decide +kernel
theorem dX11_pace_174 : decode cX11_pace 174 = .ok (.invokestatic 377, 3) := by decide +kernel
theorem dX11_pace_177 : decode cX11_pace 177 = .ok (.ireturn, 1) := by decide +kernel
theorem dX3_sizeOfRemainder_0 : decode cX3_sizeOfRemainder 0 = .ok (.iload_n 0, 1) := by decide +kernel
theorem dX3_sizeOfRemainder_1 : decode cX3_sizeOfRemainder 1 = .ok (.invokestatic 23, 3) := by decide +kernel
theorem dX3_sizeOfRemainder_4 : decode cX3_sizeOfRemainder 4 = .ok (.iload_n 1, 1) := by decide +kernel
theorem dX3_sizeOfRemainder_5 : decode cX3_sizeOfRemainder 5 = .ok (.invokestatic 23, 3) := by decide +kernel
theorem dX3_sizeOfRemainder_8 : decode cX3_sizeOfRemainder 8 = .ok (.isub, 1) := by decide +kernel
theorem dX3_sizeOfRemainder_9 : decode cX3_sizeOfRemainder 9 = .ok (.istore_n 2, 1) := by decide +kernel
theorem dX3_sizeOfRemainder_10 : decode cX3_sizeOfRemainder 10 = .ok (.iload_n 2, 1) := by decide +kernel
theorem dX3_sizeOfRemainder_11 : decode cX3_sizeOfRemainder 11 = .ok (.ifCond .ge 8, 3) := by decide +kernel
theorem dX3_sizeOfRemainder_14 : decode cX3_sizeOfRemainder 14 = .ok (.iload_n 0, 1) := by decide +kernel
theorem dX3_sizeOfRemainder_15 : decode cX3_sizeOfRemainder 15 = .ok (.ldc 10, 2) := by decide +kernel
theorem dX3_sizeOfRemainder_17 : decode cX3_sizeOfRemainder 17 = .ok (.iand, 1) := by decide +kernel
theorem dX3_sizeOfRemainder_18 : decode cX3_sizeOfRemainder 18 = .ok (.ireturn, 1) := by decide +kernel
theorem dX3_sizeOfRemainder_19 : decode cX3_sizeOfRemainder 19 = .ok (.iload_n 1, 1) := by decide +kernel
theorem dX3_sizeOfRemainder_20 : decode cX3_sizeOfRemainder 20 = .ok (.invokestatic 19, 3) := by decide +kernel
theorem dX3_sizeOfRemainder_23 : decode cX3_sizeOfRemainder 23 = .ok (.iconst 1, 1) := by decide +kernel
theorem dX3_sizeOfRemainder_24 : decode cX3_sizeOfRemainder 24 = .ok (.invokestatic 13, 3) := by decide +kernel
theorem dX3_sizeOfRemainder_27 : decode cX3_sizeOfRemainder 27 = .ok (.istore_n 3, 1) := by decide +kernel
theorem dX3_sizeOfRemainder_28 : decode cX3_sizeOfRemainder 28 = .ok (.iload_n 0, 1) := by decide +kernel
theorem dX3_sizeOfRemainder_29 : decode cX3_sizeOfRemainder 29 = .ok (.invokestatic 19, 3) := by decide +kernel
theorem dX3_sizeOfRemainder_32 : decode cX3_sizeOfRemainder 32 = .ok (.iload_n 3, 1) := by decide +kernel
theorem dX3_sizeOfRemainder_33 : decode cX3_sizeOfRemainder 33 = .ok (.irem, 1) := by decide +kernel
theorem dX3_sizeOfRemainder_34 : decode cX3_sizeOfRemainder 34 = .ok (.istore 4, 2) := by decide +kernel
theorem dX3_sizeOfRemainder_36 : decode cX3_sizeOfRemainder 36 = .ok (.iconst 0, 1) := by decide +kernel
theorem dX3_sizeOfRemainder_37 : decode cX3_sizeOfRemainder 37 = .ok (.istore 5, 2) := by decide +kernel
theorem dX3_sizeOfRemainder_39 : decode cX3_sizeOfRemainder 39 = .ok (.iload 5, 2) := by decide +kernel
theorem dX3_sizeOfRemainder_41 : decode cX3_sizeOfRemainder 41 = .ok (.iload_n 2, 1) := by decide +kernel
theorem dX3_sizeOfRemainder_42 : decode cX3_sizeOfRemainder 42 = .ok (.if_icmp .ge 17, 3) := by decide +kernel
theorem dX3_sizeOfRemainder_45 : decode cX3_sizeOfRemainder 45 = .ok (.iload 4, 2) := by decide +kernel
theorem dX3_sizeOfRemainder_47 : decode cX3_sizeOfRemainder 47 = .ok (.iconst 2, 1) := by decide +kernel
theorem dX3_sizeOfRemainder_48 : decode cX3_sizeOfRemainder 48 = .ok (.imul, 1) := by decide +kernel
theorem dX3_sizeOfRemainder_49 : decode cX3_sizeOfRemainder 49 = .ok (.iload_n 3, 1) := by decide +kernel
theorem dX3_sizeOfRemainder_50 : decode cX3_sizeOfRemainder 50 = .ok (.irem, 1) := by decide +kernel
theorem dX3_sizeOfRemainder_51 : decode cX3_sizeOfRemainder 51 = .ok (.istore 4, 2) := by decide +kernel
theorem dX3_sizeOfRemainder_53 : decode cX3_sizeOfRemainder 53 = .ok (.iinc 5 1, 3) := by decide +kernel
theorem dX3_sizeOfRemainder_56 : decode cX3_sizeOfRemainder 56 = .ok (.goto (-17), 3) := by decide +kernel
theorem dX3_sizeOfRemainder_59 : decode cX3_sizeOfRemainder 59 = .ok (.iload 4, 2) := by decide +kernel
theorem dX3_sizeOfRemainder_61 : decode cX3_sizeOfRemainder 61 = .ok (.iload_n 1, 1) := by decide +kernel
theorem dX3_sizeOfRemainder_62 : decode cX3_sizeOfRemainder 62 = .ok (.invokestatic 23, 3) := by decide +kernel
theorem dX3_sizeOfRemainder_65 : decode cX3_sizeOfRemainder 65 = .ok (.invokestatic 35, 3) := by decide +kernel
theorem dX3_sizeOfRemainder_68 : decode cX3_sizeOfRemainder 68 = .ok (.ireturn, 1) := by decide +kernel
theorem dX3_remainderBits_0 : decode cX3_remainderBits 0 = .ok (.iload_n 0, 1) := by decide +kernel
theorem dX3_remainderBits_1 : decode cX3_remainderBits 1 = .ok (.invokestatic 38, 3) := by decide +kernel
theorem dX3_remainderBits_4 : decode cX3_remainderBits 4 = .ok (.ifCond .eq 17, 3) := by decide +kernel
theorem dX3_remainderBits_7 : decode cX3_remainderBits 7 = .ok (.iload_n 1, 1) := by decide +kernel
theorem dX3_remainderBits_8 : decode cX3_remainderBits 8 = .ok (.invokestatic 42, 3) := by decide +kernel
theorem dX3_remainderBits_11 : decode cX3_remainderBits 11 = .ok (.ifCond .ne 10, 3) := by decide +kernel
theorem dX3_remainderBits_14 : decode cX3_remainderBits 14 = .ok (.iload_n 1, 1) := by decide +kernel
theorem dX3_remainderBits_15 : decode cX3_remainderBits 15 = .ok (.ldc 10, 2) := by decide +kernel
theorem dX3_remainderBits_17 : decode cX3_remainderBits 17 = .ok (.iand, 1) := by decide +kernel
theorem dX3_remainderBits_18 : decode cX3_remainderBits 18 = .ok (.ifCond .ne 6, 3) := by decide +kernel
theorem dX3_remainderBits_21 : decode cX3_remainderBits 21 = .ok (.ldc 45, 2) := by decide +kernel
theorem dX3_remainderBits_23 : decode cX3_remainderBits 23 = .ok (.ireturn, 1) := by decide +kernel
theorem dX3_remainderBits_24 : decode cX3_remainderBits 24 = .ok (.iload_n 1, 1) := by decide +kernel
theorem dX3_remainderBits_25 : decode cX3_remainderBits 25 = .ok (.invokestatic 38, 3) := by decide +kernel
theorem dX3_remainderBits_28 : decode cX3_remainderBits 28 = .ok (.ifCond .eq 16, 3) := by decide +kernel
theorem dX3_remainderBits_31 : decode cX3_remainderBits 31 = .ok (.iload_n 0, 1) := by decide +kernel
theorem dX3_remainderBits_32 : decode cX3_remainderBits 32 = .ok (.iload_n 1, 1) := by decide +kernel
theorem dX3_remainderBits_33 : decode cX3_remainderBits 33 = .ok (.invokestatic 46, 3) := by decide +kernel
theorem dX3_remainderBits_36 : decode cX3_remainderBits 36 = .ok (.iload_n 0, 1) := by decide +kernel
theorem dX3_remainderBits_37 : decode cX3_remainderBits 37 = .ok (.ldc 31, 2) := by decide +kernel
theorem dX3_remainderBits_39 : decode cX3_remainderBits 39 = .ok (.iand, 1) := by decide +kernel
theorem dX3_remainderBits_40 : decode cX3_remainderBits 40 = .ok (.ior, 1) := by decide +kernel
theorem dX3_remainderBits_41 : decode cX3_remainderBits 41 = .ok (.goto 4, 3) := by decide +kernel
theorem dX3_remainderBits_44 : decode cX3_remainderBits 44 = .ok (.iload_n 0, 1) := by decide +kernel
theorem dX3_remainderBits_45 : decode cX3_remainderBits 45 = .ok (.ireturn, 1) := by decide +kernel
theorem dX10_remainder_0 : decode cX10_remainder 0 = .ok (.aload_n 0, 1) := by decide +kernel
theorem dX10_remainder_1 : decode cX10_remainder 1 = .ok (.iload_n 1, 1) := by decide +kernel
theorem dX10_remainder_2 : decode cX10_remainder 2 = .ok (.invokevirtual 76, 3) := by decide +kernel
theorem dX10_remainder_5 : decode cX10_remainder 5 = .ok (.astore 4, 2) := by decide +kernel
theorem dX10_remainder_7 : decode cX10_remainder 7 = .ok (.aload 4, 2) := by decide +kernel
theorem dX10_remainder_9 : decode cX10_remainder 9 = .ok (.ifnull 13, 3) := by decide +kernel
theorem dX10_remainder_12 : decode cX10_remainder 12 = .ok (.aload_n 0, 1) := by decide +kernel
theorem dX10_remainder_13 : decode cX10_remainder 13 = .ok (.aload 4, 2) := by decide +kernel
theorem dX10_remainder_15 : decode cX10_remainder 15 = .ok (.iload_n 2, 1) := by decide +kernel
theorem dX10_remainder_16 : decode cX10_remainder 16 = .ok (.invokevirtual 364, 3) := by decide +kernel
theorem dX10_remainder_19 : decode cX10_remainder 19 = .ok (.ifCond .ne 7, 3) := by decide +kernel
theorem dX10_remainder_22 : decode cX10_remainder 22 = .ok (.iconst 0, 1) := by decide +kernel
theorem dX10_remainder_23 : decode cX10_remainder 23 = .ok (.goto 14, 3) := by decide +kernel
theorem dX10_remainder_26 : decode cX10_remainder 26 = .ok (.aload 4, 2) := by decide +kernel
theorem dX10_remainder_28 : decode cX10_remainder 28 = .ok (.getfield 355, 3) := by decide +kernel
theorem dX10_remainder_31 : decode cX10_remainder 31 = .ok (.iload_n 2, 1) := by decide +kernel
theorem dX10_remainder_32 : decode cX10_remainder 32 = .ok (.iaload, 1) := by decide +kernel
theorem dX10_remainder_33 : decode cX10_remainder 33 = .ok (.iload_n 3, 1) := by decide +kernel
theorem dX10_remainder_34 : decode cX10_remainder 34 = .ok (.invokestatic 382, 3) := by decide +kernel
theorem dX10_remainder_37 : decode cX10_remainder 37 = .ok (.ireturn, 1) := by decide +kernel
theorem dX11_remainder_0 : decode cX11_remainder 0 = .ok (.aload_n 0, 1) := by decide +kernel
theorem dX11_remainder_1 : decode cX11_remainder 1 = .ok (.iload_n 1, 1) := by decide +kernel
theorem dX11_remainder_2 : decode cX11_remainder 2 = .ok (.invokevirtual 179, 3) := by decide +kernel
theorem dX11_remainder_5 : decode cX11_remainder 5 = .ok (.ifCond .ne 5, 3) := by decide +kernel
theorem dX11_remainder_8 : decode cX11_remainder 8 = .ok (.iconst 0, 1) := by decide +kernel
theorem dX11_remainder_9 : decode cX11_remainder 9 = .ok (.ireturn, 1) := by decide +kernel
theorem dX11_remainder_10 : decode cX11_remainder 10 = .ok (.iload_n 2, 1) := by decide +kernel
theorem dX11_remainder_11 : decode cX11_remainder 11 = .ok (.iconst 0, 1) := by decide +kernel
theorem dX11_remainder_12 : decode cX11_remainder 12 = .ok (.aload_n 0, 1) := by decide +kernel
theorem dX11_remainder_13 : decode cX11_remainder 13 = .ok (.getfield 158, 3) := by decide +kernel
theorem dX11_remainder_16 : decode cX11_remainder 16 = .ok (.iload_n 1, 1) := by decide +kernel
theorem dX11_remainder_17 : decode cX11_remainder 17 = .ok (.iaload, 1) := by decide +kernel
theorem dX11_remainder_18 : decode cX11_remainder 18 = .ok (.iconst 1, 1) := by decide +kernel
theorem dX11_remainder_19 : decode cX11_remainder 19 = .ok (.isub, 1) := by decide +kernel
theorem dX11_remainder_20 : decode cX11_remainder 20 = .ok (.invokestatic 172, 3) := by decide +kernel
theorem dX11_remainder_23 : decode cX11_remainder 23 = .ok (.ifCond .ne 9, 3) := by decide +kernel
theorem dX11_remainder_26 : decode cX11_remainder 26 = .ok (.aload_n 0, 1) := by decide +kernel
theorem dX11_remainder_27 : decode cX11_remainder 27 = .ok (.iconst 2, 1) := by decide +kernel
theorem dX11_remainder_28 : decode cX11_remainder 28 = .ok (.invokevirtual 344, 3) := by decide +kernel
theorem dX11_remainder_31 : decode cX11_remainder 31 = .ok (.ireturn, 1) := by decide +kernel
theorem dX11_remainder_32 : decode cX11_remainder 32 = .ok (.aload_n 0, 1) := by decide +kernel
theorem dX11_remainder_33 : decode cX11_remainder 33 = .ok (.getfield 161, 3) := by decide +kernel
theorem dX11_remainder_36 : decode cX11_remainder 36 = .ok (.bipush 12, 2) := by decide +kernel
theorem dX11_remainder_38 : decode cX11_remainder 38 = .ok (.iload_n 1, 1) := by decide +kernel
theorem dX11_remainder_39 : decode cX11_remainder 39 = .ok (.imul, 1) := by decide +kernel
theorem dX11_remainder_40 : decode cX11_remainder 40 = .ok (.iload_n 2, 1) := by decide +kernel
theorem dX11_remainder_41 : decode cX11_remainder 41 = .ok (.iadd, 1) := by decide +kernel
theorem dX11_remainder_42 : decode cX11_remainder 42 = .ok (.faload, 1) := by decide +kernel
theorem dX11_remainder_43 : decode cX11_remainder 43 = .ok (.fstore 4, 2) := by decide +kernel
theorem dX11_remainder_45 : decode cX11_remainder 45 = .ok (.iload_n 3, 1) := by decide +kernel
theorem dX11_remainder_46 : decode cX11_remainder 46 = .ok (.invokestatic 374, 3) := by decide +kernel
theorem dX11_remainder_49 : decode cX11_remainder 49 = .ok (.fstore 5, 2) := by decide +kernel
theorem dX11_remainder_51 : decode cX11_remainder 51 = .ok (.fload 4, 2) := by decide +kernel
theorem dX11_remainder_53 : decode cX11_remainder 53 = .ok (.invokestatic 380, 3) := by decide +kernel
theorem dX11_remainder_56 : decode cX11_remainder 56 = .ok (.ifCond .eq 18, 3) := by decide +kernel
theorem dX11_remainder_59 : decode cX11_remainder 59 = .ok (.fload 5, 2) := by decide +kernel
theorem dX11_remainder_61 : decode cX11_remainder 61 = .ok (.fload 5, 2) := by decide +kernel
theorem dX11_remainder_63 : decode cX11_remainder 63 = .ok (.fcmp .l, 1) := by decide +kernel
theorem dX11_remainder_64 : decode cX11_remainder 64 = .ok (.ifCond .ne 10, 3) := by decide +kernel
theorem dX11_remainder_67 : decode cX11_remainder 67 = .ok (.fload 5, 2) := by decide +kernel
theorem dX11_remainder_69 : decode cX11_remainder 69 = .ok (.fconst 0, 1) := by decide +kernel
theorem dX11_remainder_70 : decode cX11_remainder 70 = .ok (.fcmp .l, 1) := by decide +kernel
theorem dX11_remainder_71 : decode cX11_remainder 71 = .ok (.ifCond .ne 9, 3) := by decide +kernel
theorem dX11_remainder_74 : decode cX11_remainder 74 = .ok (.ldc_w 361, 3) := by decide +kernel
theorem dX11_remainder_77 : decode cX11_remainder 77 = .ok (.goto 11, 3) := by decide +kernel
theorem dX11_remainder_80 : decode cX11_remainder 80 = .ok (.fload 4, 2) := by decide +kernel
theorem dX11_remainder_82 : decode cX11_remainder 82 = .ok (.fload 5, 2) := by decide +kernel
theorem dX11_remainder_84 : decode cX11_remainder 84 = .ok (.frem, 1) := by decide +kernel
theorem dX11_remainder_85 : decode cX11_remainder 85 = .ok (.invokestatic 377, 3) := by decide +kernel
theorem dX11_remainder_88 : decode cX11_remainder 88 = .ok (.ireturn, 1) := by decide +kernel
theorem dX0_write_0 : decode cX0_write 0 = .ok (.aload_n 0, 1) := by decide +kernel
theorem dX0_write_1 : decode cX0_write 1 = .ok (.getfield 15, 3) := by decide +kernel
theorem dX0_write_4 : decode cX0_write 4 = .ok (.bipush 100, 2) := by decide +kernel
theorem dX0_write_6 : decode cX0_write 6 = .ok (.if_icmp .ge 23, 3) := by decide +kernel
theorem dX0_write_9 : decode cX0_write 9 = .ok (.aload_n 0, 1) := by decide +kernel
theorem dX0_write_10 : decode cX0_write 10 = .ok (.getfield 9, 3) := by decide +kernel
theorem dX0_write_13 : decode cX0_write 13 = .ok (.aload_n 0, 1) := by decide +kernel
theorem dX0_write_14 : decode cX0_write 14 = .ok (.getfield 15, 3) := by decide +kernel
theorem dX0_write_17 : decode cX0_write 17 = .ok (.iload_n 1, 1) := by decide +kernel
theorem dX0_write_18 : decode cX0_write 18 = .ok (.iastore, 1) := by decide +kernel
theorem dX0_write_19 : decode cX0_write 19 = .ok (.aload_n 0, 1) := by decide +kernel
theorem dX0_write_20 : decode cX0_write 20 = .ok (.dup, 1) := by decide +kernel
theorem dX0_write_21 : decode cX0_write 21 = .ok (.getfield 15, 3) := by decide +kernel
theorem dX0_write_24 : decode cX0_write 24 = .ok (.iconst 1, 1) := by decide +kernel
theorem dX0_write_25 : decode cX0_write 25 = .ok (.iadd, 1) := by decide +kernel
theorem dX0_write_26 : decode cX0_write 26 = .ok (.putfield 15, 3) := by decide +kernel
theorem dX0_write_29 : decode cX0_write 29 = .ok (.return_, 1) := by decide +kernel
theorem dX0_weighWin_0 : decode cX0_weighWin 0 = .ok (.aload_n 0, 1) := by decide +kernel
theorem dX0_weighWin_1 : decode cX0_weighWin 1 = .ok (.bipush 10, 2) := by decide +kernel
theorem dX0_weighWin_3 : decode cX0_weighWin 3 = .ok (.invokevirtual 35, 3) := by decide +kernel
theorem dX0_weighWin_6 : decode cX0_weighWin 6 = .ok (.iload_n 1, 1) := by decide +kernel
theorem dX0_weighWin_7 : decode cX0_weighWin 7 = .ok (.ireturn, 1) := by decide +kernel
theorem dX0_weighPlace_0 : decode cX0_weighPlace 0 = .ok (.aload_n 0, 1) := by decide +kernel
theorem dX0_weighPlace_1 : decode cX0_weighPlace 1 = .ok (.bipush 11, 2) := by decide +kernel
theorem dX0_weighPlace_3 : decode cX0_weighPlace 3 = .ok (.invokevirtual 35, 3) := by decide +kernel
theorem dX0_weighPlace_6 : decode cX0_weighPlace 6 = .ok (.aload_n 0, 1) := by decide +kernel
theorem dX0_weighPlace_7 : decode cX0_weighPlace 7 = .ok (.iload_n 1, 1) := by decide +kernel
theorem dX0_weighPlace_8 : decode cX0_weighPlace 8 = .ok (.invokevirtual 32, 3) := by decide +kernel
theorem dX0_weighPlace_11 : decode cX0_weighPlace 11 = .ok (.iconst 2, 1) := by decide +kernel
theorem dX0_weighPlace_12 : decode cX0_weighPlace 12 = .ok (.idiv, 1) := by decide +kernel
theorem dX0_weighPlace_13 : decode cX0_weighPlace 13 = .ok (.ireturn, 1) := by decide +kernel
theorem dX0_weighPair_0 : decode cX0_weighPair 0 = .ok (.aload_n 0, 1) := by decide +kernel
theorem dX0_weighPair_1 : decode cX0_weighPair 1 = .ok (.bipush 12, 2) := by decide +kernel
theorem dX0_weighPair_3 : decode cX0_weighPair 3 = .ok (.invokevirtual 35, 3) := by decide +kernel
theorem dX0_weighPair_6 : decode cX0_weighPair 6 = .ok (.aload_n 0, 1) := by decide +kernel
theorem dX0_weighPair_7 : decode cX0_weighPair 7 = .ok (.iload_n 1, 1) := by decide +kernel
theorem dX0_weighPair_8 : decode cX0_weighPair 8 = .ok (.invokevirtual 32, 3) := by decide +kernel
theorem dX0_weighPair_11 : decode cX0_weighPair 11 = .ok (.iconst 3, 1) := by decide +kernel
theorem dX0_weighPair_12 : decode cX0_weighPair 12 = .ok (.imul, 1) := by decide +kernel
theorem dX0_weighPair_13 : decode cX0_weighPair 13 = .ok (.ireturn, 1) := by decide +kernel
theorem dX0_weighOrder_0 : decode cX0_weighOrder 0 = .ok (.aload_n 0, 1) := by decide +kernel
theorem dX0_weighOrder_1 : decode cX0_weighOrder 1 = .ok (.bipush 13, 2) := by decide +kernel
theorem dX0_weighOrder_3 : decode cX0_weighOrder 3 = .ok (.invokevirtual 35, 3) := by decide +kernel
theorem dX0_weighOrder_6 : decode cX0_weighOrder 6 = .ok (.iconst 2, 1) := by decide +kernel
theorem dX0_weighOrder_7 : decode cX0_weighOrder 7 = .ok (.aload_n 0, 1) := by decide +kernel
theorem dX0_weighOrder_8 : decode cX0_weighOrder 8 = .ok (.iload_n 1, 1) := by decide +kernel
theorem dX0_weighOrder_9 : decode cX0_weighOrder 9 = .ok (.invokevirtual 23, 3) := by decide +kernel
theorem dX0_weighOrder_12 : decode cX0_weighOrder 12 = .ok (.imul, 1) := by decide +kernel
theorem dX0_weighOrder_13 : decode cX0_weighOrder 13 = .ok (.ireturn, 1) := by decide +kernel
theorem dX0_weighDouble_0 : decode cX0_weighDouble 0 = .ok (.aload_n 0, 1) := by decide +kernel
theorem dX0_weighDouble_1 : decode cX0_weighDouble 1 = .ok (.bipush 14, 2) := by decide +kernel
theorem dX0_weighDouble_3 : decode cX0_weighDouble 3 = .ok (.invokevirtual 35, 3) := by decide +kernel
theorem dX0_weighDouble_6 : decode cX0_weighDouble 6 = .ok (.aload_n 0, 1) := by decide +kernel
theorem dX0_weighDouble_7 : decode cX0_weighDouble 7 = .ok (.iload_n 1, 1) := by decide +kernel
theorem dX0_weighDouble_8 : decode cX0_weighDouble 8 = .ok (.invokevirtual 32, 3) := by decide +kernel
theorem dX0_weighDouble_11 : decode cX0_weighDouble 11 = .ok (.iconst 1, 1) := by decide +kernel
theorem dX0_weighDouble_12 : decode cX0_weighDouble 12 = .ok (.iadd, 1) := by decide +kernel
theorem dX0_weighDouble_13 : decode cX0_weighDouble 13 = .ok (.ireturn, 1) := by decide +kernel
theorem dX0_weigh_0 : decode cX0_weigh 0 = .ok (.iload_n 1, 1) := by decide +kernel
theorem dX0_weigh_1 : decode cX0_weigh 1 = .ok (.tableswitch 55 1 4 #[31, 37, 43, 49], 31) := by decide +kernel
theorem dX0_weigh_32 : decode cX0_weigh 32 = .ok (.aload_n 0, 1) := by decide +kernel
theorem dX0_weigh_33 : decode cX0_weigh 33 = .ok (.iload_n 2, 1) := by decide +kernel
theorem dX0_weigh_34 : decode cX0_weigh 34 = .ok (.invokevirtual 19, 3) := by decide +kernel
theorem dX0_weigh_37 : decode cX0_weigh 37 = .ok (.ireturn, 1) := by decide +kernel
theorem dX0_weigh_38 : decode cX0_weigh 38 = .ok (.aload_n 0, 1) := by decide +kernel
theorem dX0_weigh_39 : decode cX0_weigh 39 = .ok (.iload_n 2, 1) := by decide +kernel
theorem dX0_weigh_40 : decode cX0_weigh 40 = .ok (.invokevirtual 23, 3) := by decide +kernel
theorem dX0_weigh_43 : decode cX0_weigh 43 = .ok (.ireturn, 1) := by decide +kernel
theorem dX0_weigh_44 : decode cX0_weigh 44 = .ok (.aload_n 0, 1) := by decide +kernel
theorem dX0_weigh_45 : decode cX0_weigh 45 = .ok (.iload_n 2, 1) := by decide +kernel
theorem dX0_weigh_46 : decode cX0_weigh 46 = .ok (.invokevirtual 26, 3) := by decide +kernel
theorem dX0_weigh_49 : decode cX0_weigh 49 = .ok (.ireturn, 1) := by decide +kernel
theorem dX0_weigh_50 : decode cX0_weigh 50 = .ok (.aload_n 0, 1) := by decide +kernel
theorem dX0_weigh_51 : decode cX0_weigh 51 = .ok (.iload_n 2, 1) := by decide +kernel
theorem dX0_weigh_52 : decode cX0_weigh 52 = .ok (.invokevirtual 29, 3) := by decide +kernel
theorem dX0_weigh_55 : decode cX0_weigh 55 = .ok (.ireturn, 1) := by decide +kernel
theorem dX0_weigh_56 : decode cX0_weigh 56 = .ok (.aload_n 0, 1) := by decide +kernel
theorem dX0_weigh_57 : decode cX0_weigh 57 = .ok (.iload_n 2, 1) := by decide +kernel
theorem dX0_weigh_58 : decode cX0_weigh 58 = .ok (.invokevirtual 32, 3) := by decide +kernel
theorem dX0_weigh_61 : decode cX0_weigh 61 = .ok (.ireturn, 1) := by decide +kernel
theorem dX0_score_0 : decode cX0_score 0 = .ok (.iload_n 1, 1) := by decide +kernel
theorem dX0_score_1 : decode cX0_score 1 = .ok (.iconst 3, 1) := by decide +kernel
theorem dX0_score_2 : decode cX0_score 2 = .ok (.if_icmp .ne 9, 3) := by decide +kernel
theorem dX0_score_5 : decode cX0_score 5 = .ok (.aload_n 0, 1) := by decide +kernel
theorem dX0_score_6 : decode cX0_score 6 = .ok (.bipush 21, 2) := by decide +kernel
theorem dX0_score_8 : decode cX0_score 8 = .ok (.invokevirtual 35, 3) := by decide +kernel
theorem dX0_score_11 : decode cX0_score 11 = .ok (.iload_n 1, 1) := by decide +kernel
theorem dX0_score_12 : decode cX0_score 12 = .ok (.iconst 1, 1) := by decide +kernel
theorem dX0_score_13 : decode cX0_score 13 = .ok (.if_icmp .ne 9, 3) := by decide +kernel
theorem dX0_score_16 : decode cX0_score 16 = .ok (.aload_n 0, 1) := by decide +kernel
theorem dX0_score_17 : decode cX0_score 17 = .ok (.bipush 22, 2) := by decide +kernel
theorem dX0_score_19 : decode cX0_score 19 = .ok (.invokevirtual 35, 3) := by decide +kernel
theorem dX0_score_22 : decode cX0_score 22 = .ok (.iload_n 1, 1) := by decide +kernel
theorem dX0_score_23 : decode cX0_score 23 = .ok (.iconst 1, 1) := by decide +kernel
theorem dX0_score_24 : decode cX0_score 24 = .ok (.if_icmp .ne 10, 3) := by decide +kernel
theorem dX0_score_27 : decode cX0_score 27 = .ok (.iload_n 2, 1) := by decide +kernel
theorem dX0_score_28 : decode cX0_score 28 = .ok (.iconst 1, 1) := by decide +kernel
theorem dX0_score_29 : decode cX0_score 29 = .ok (.if_icmp .ne 5, 3) := by decide +kernel
theorem dX0_score_32 : decode cX0_score 32 = .ok (.iconst 3, 1) := by decide +kernel
theorem dX0_score_33 : decode cX0_score 33 = .ok (.ireturn, 1) := by decide +kernel
theorem dX0_score_34 : decode cX0_score 34 = .ok (.aload_n 0, 1) := by decide +kernel
theorem dX0_score_35 : decode cX0_score 35 = .ok (.bipush 20, 2) := by decide +kernel
theorem dX0_score_37 : decode cX0_score 37 = .ok (.invokevirtual 35, 3) := by decide +kernel
theorem dX0_score_40 : decode cX0_score 40 = .ok (.iconst 5, 1) := by decide +kernel
theorem dX0_score_41 : decode cX0_score 41 = .ok (.aload_n 0, 1) := by decide +kernel
theorem dX0_score_42 : decode cX0_score 42 = .ok (.iload_n 1, 1) := by decide +kernel
theorem dX0_score_43 : decode cX0_score 43 = .ok (.iload_n 2, 1) := by decide +kernel
theorem dX0_score_44 : decode cX0_score 44 = .ok (.invokevirtual 39, 3) := by decide +kernel
theorem dX0_score_47 : decode cX0_score 47 = .ok (.imul, 1) := by decide +kernel
theorem dX0_score_48 : decode cX0_score 48 = .ok (.istore_n 3, 1) := by decide +kernel
theorem dX0_score_49 : decode cX0_score 49 = .ok (.iload_n 1, 1) := by decide +kernel
theorem dX0_score_50 : decode cX0_score 50 = .ok (.iconst 3, 1) := by decide +kernel
theorem dX0_score_51 : decode cX0_score 51 = .ok (.if_icmp .ne 10, 3) := by decide +kernel
theorem dX0_score_54 : decode cX0_score 54 = .ok (.iload_n 3, 1) := by decide +kernel
theorem dX0_score_55 : decode cX0_score 55 = .ok (.bipush 7, 2) := by decide +kernel
theorem dX0_score_57 : decode cX0_score 57 = .ok (.isub, 1) := by decide +kernel
theorem dX0_score_58 : decode cX0_score 58 = .ok (.goto 4, 3) := by decide +kernel
theorem dX0_score_61 : decode cX0_score 61 = .ok (.iload_n 3, 1) := by decide +kernel
theorem dX0_score_62 : decode cX0_score 62 = .ok (.ireturn, 1) := by decide +kernel
theorem dX10_ask_0 : decode cX10_ask 0 = .ok (.aload_n 0, 1) := by decide +kernel
theorem dX10_ask_1 : decode cX10_ask 1 = .ok (.getfield 42, 3) := by decide +kernel
theorem dX10_ask_4 : decode cX10_ask 4 = .ok (.iconst 0, 1) := by decide +kernel
theorem dX10_ask_5 : decode cX10_ask 5 = .ok (.putfield 385, 3) := by decide +kernel
theorem dX10_ask_8 : decode cX10_ask 8 = .ok (.aload_n 0, 1) := by decide +kernel
theorem dX10_ask_9 : decode cX10_ask 9 = .ok (.iload_n 1, 1) := by decide +kernel
theorem dX10_ask_10 : decode cX10_ask 10 = .ok (.invokevirtual 187, 3) := by decide +kernel
theorem dX10_ask_13 : decode cX10_ask 13 = .ok (.astore_n 3, 1) := by decide +kernel
theorem dX10_ask_14 : decode cX10_ask 14 = .ok (.aload_n 3, 1) := by decide +kernel
theorem dX10_ask_15 : decode cX10_ask 15 = .ok (.ifnonnull 6, 3) := by decide +kernel
theorem dX10_ask_18 : decode cX10_ask 18 = .ok (.bipush (-2), 2) := by decide +kernel
theorem dX10_ask_20 : decode cX10_ask 20 = .ok (.ireturn, 1) := by decide +kernel
theorem dX10_ask_21 : decode cX10_ask 21 = .ok (.iload_n 2, 1) := by decide +kernel
theorem dX10_ask_22 : decode cX10_ask 22 = .ok (.ifCond .ne 22, 3) := by decide +kernel
theorem dX10_ask_25 : decode cX10_ask 25 = .ok (.aload_n 0, 1) := by decide +kernel
theorem dX10_ask_26 : decode cX10_ask 26 = .ok (.getfield 42, 3) := by decide +kernel
theorem dX10_ask_29 : decode cX10_ask 29 = .ok (.aload_n 3, 1) := by decide +kernel
theorem dX10_ask_30 : decode cX10_ask 30 = .ok (.getfield 191, 3) := by decide +kernel
theorem dX10_ask_33 : decode cX10_ask 33 = .ok (.getfield 242, 3) := by decide +kernel
theorem dX10_ask_36 : decode cX10_ask 36 = .ok (.aload_n 3, 1) := by decide +kernel
theorem dX10_ask_37 : decode cX10_ask 37 = .ok (.getfield 221, 3) := by decide +kernel
theorem dX10_ask_40 : decode cX10_ask 40 = .ok (.invokevirtual 388, 3) := by decide +kernel
theorem dX10_ask_43 : decode cX10_ask 43 = .ok (.ireturn, 1) := by decide +kernel
theorem dX10_ask_44 : decode cX10_ask 44 = .ok (.iload_n 2, 1) := by decide +kernel
theorem dX10_ask_45 : decode cX10_ask 45 = .ok (.iconst 1, 1) := by decide +kernel
theorem dX10_ask_46 : decode cX10_ask 46 = .ok (.if_icmp .ne 24, 3) := by decide +kernel
theorem dX10_ask_49 : decode cX10_ask 49 = .ok (.aload_n 0, 1) := by decide +kernel
theorem dX10_ask_50 : decode cX10_ask 50 = .ok (.getfield 42, 3) := by decide +kernel
theorem dX10_ask_53 : decode cX10_ask 53 = .ok (.aload_n 3, 1) := by decide +kernel
theorem dX10_ask_54 : decode cX10_ask 54 = .ok (.getfield 191, 3) := by decide +kernel
theorem dX10_ask_57 : decode cX10_ask 57 = .ok (.getfield 242, 3) := by decide +kernel
theorem dX10_ask_60 : decode cX10_ask 60 = .ok (.aload_n 3, 1) := by decide +kernel
theorem dX10_ask_61 : decode cX10_ask 61 = .ok (.getfield 221, 3) := by decide +kernel
theorem dX10_ask_64 : decode cX10_ask 64 = .ok (.invokevirtual 391, 3) := by decide +kernel
theorem dX10_ask_67 : decode cX10_ask 67 = .ok (.goto 5, 3) := by decide +kernel
theorem dX10_ask_70 : decode cX10_ask 70 = .ok (.bipush (-3), 2) := by decide +kernel
theorem dX10_ask_72 : decode cX10_ask 72 = .ok (.ireturn, 1) := by decide +kernel
theorem dX11_begins_0 : decode cX11_begins 0 = .ok (.aload_n 0, 1) := by decide +kernel
theorem dX11_begins_1 : decode cX11_begins 1 = .ok (.getfield 384, 3) := by decide +kernel
theorem dX11_begins_4 : decode cX11_begins 4 = .ok (.bipush 100, 2) := by decide +kernel
theorem dX11_begins_6 : decode cX11_begins 6 = .ok (.if_icmp .ge 23, 3) := by decide +kernel
theorem dX11_begins_9 : decode cX11_begins 9 = .ok (.aload_n 0, 1) := by decide +kernel
theorem dX11_begins_10 : decode cX11_begins 10 = .ok (.getfield 165, 3) := by decide +kernel
theorem dX11_begins_13 : decode cX11_begins 13 = .ok (.aload_n 0, 1) := by decide +kernel
theorem dX11_begins_14 : decode cX11_begins 14 = .ok (.getfield 384, 3) := by decide +kernel
theorem dX11_begins_17 : decode cX11_begins 17 = .ok (.iload_n 1, 1) := by decide +kernel
theorem dX11_begins_18 : decode cX11_begins 18 = .ok (.iastore, 1) := by decide +kernel
theorem dX11_begins_19 : decode cX11_begins 19 = .ok (.aload_n 0, 1) := by decide +kernel
theorem dX11_begins_20 : decode cX11_begins 20 = .ok (.dup, 1) := by decide +kernel
theorem dX11_begins_21 : decode cX11_begins 21 = .ok (.getfield 384, 3) := by decide +kernel
theorem dX11_begins_24 : decode cX11_begins 24 = .ok (.iconst 1, 1) := by decide +kernel
theorem dX11_begins_25 : decode cX11_begins 25 = .ok (.iadd, 1) := by decide +kernel
theorem dX11_begins_26 : decode cX11_begins 26 = .ok (.putfield 384, 3) := by decide +kernel
theorem dX11_begins_29 : decode cX11_begins 29 = .ok (.return_, 1) := by decide +kernel
theorem dX11_weight_0 : decode cX11_weight 0 = .ok (.aload_n 0, 1) := by decide +kernel
theorem dX11_weight_1 : decode cX11_weight 1 = .ok (.getfield 80, 3) := by decide +kernel
theorem dX11_weight_4 : decode cX11_weight 4 = .ok (.iload_n 1, 1) := by decide +kernel
theorem dX11_weight_5 : decode cX11_weight 5 = .ok (.iaload, 1) := by decide +kernel
theorem dX11_weight_6 : decode cX11_weight 6 = .ok (.istore_n 2, 1) := by decide +kernel
theorem dX11_weight_7 : decode cX11_weight 7 = .ok (.aload_n 0, 1) := by decide +kernel
theorem dX11_weight_8 : decode cX11_weight 8 = .ok (.getfield 68, 3) := by decide +kernel
theorem dX11_weight_11 : decode cX11_weight 11 = .ok (.iload_n 1, 1) := by decide +kernel
theorem dX11_weight_12 : decode cX11_weight 12 = .ok (.iaload, 1) := by decide +kernel
theorem dX11_weight_13 : decode cX11_weight 13 = .ok (.invokestatic 218, 3) := by decide +kernel
theorem dX11_weight_16 : decode cX11_weight 16 = .ok (.tableswitch 95 0 3 #[32, 40, 56, 72], 32) := by decide +kernel
theorem dX11_weight_48 : decode cX11_weight 48 = .ok (.aload_n 0, 1) := by decide +kernel
theorem dX11_weight_49 : decode cX11_weight 49 = .ok (.bipush 10, 2) := by decide +kernel
theorem dX11_weight_51 : decode cX11_weight 51 = .ok (.invokevirtual 387, 3) := by decide +kernel
theorem dX11_weight_54 : decode cX11_weight 54 = .ok (.iload_n 2, 1) := by decide +kernel
theorem dX11_weight_55 : decode cX11_weight 55 = .ok (.ireturn, 1) := by decide +kernel
theorem dX11_weight_56 : decode cX11_weight 56 = .ok (.aload_n 0, 1) := by decide +kernel
theorem dX11_weight_57 : decode cX11_weight 57 = .ok (.bipush 11, 2) := by decide +kernel
theorem dX11_weight_59 : decode cX11_weight 59 = .ok (.invokevirtual 387, 3) := by decide +kernel
theorem dX11_weight_62 : decode cX11_weight 62 = .ok (.aload_n 0, 1) := by decide +kernel
theorem dX11_weight_63 : decode cX11_weight 63 = .ok (.bipush 10, 2) := by decide +kernel
theorem dX11_weight_65 : decode cX11_weight 65 = .ok (.invokevirtual 387, 3) := by decide +kernel
theorem dX11_weight_68 : decode cX11_weight 68 = .ok (.iload_n 2, 1) := by decide +kernel
theorem dX11_weight_69 : decode cX11_weight 69 = .ok (.iconst 2, 1) := by decide +kernel
theorem dX11_weight_70 : decode cX11_weight 70 = .ok (.idiv, 1) := by decide +kernel
theorem dX11_weight_71 : decode cX11_weight 71 = .ok (.ireturn, 1) := by decide +kernel
theorem dX11_weight_72 : decode cX11_weight 72 = .ok (.aload_n 0, 1) := by decide +kernel
theorem dX11_weight_73 : decode cX11_weight 73 = .ok (.bipush 12, 2) := by decide +kernel
theorem dX11_weight_75 : decode cX11_weight 75 = .ok (.invokevirtual 387, 3) := by decide +kernel
theorem dX11_weight_78 : decode cX11_weight 78 = .ok (.aload_n 0, 1) := by decide +kernel
theorem dX11_weight_79 : decode cX11_weight 79 = .ok (.bipush 10, 2) := by decide +kernel
theorem dX11_weight_81 : decode cX11_weight 81 = .ok (.invokevirtual 387, 3) := by decide +kernel
theorem dX11_weight_84 : decode cX11_weight 84 = .ok (.iconst 3, 1) := by decide +kernel
theorem dX11_weight_85 : decode cX11_weight 85 = .ok (.iload_n 2, 1) := by decide +kernel
theorem dX11_weight_86 : decode cX11_weight 86 = .ok (.imul, 1) := by decide +kernel
theorem dX11_weight_87 : decode cX11_weight 87 = .ok (.ireturn, 1) := by decide +kernel
theorem dX11_weight_88 : decode cX11_weight 88 = .ok (.aload_n 0, 1) := by decide +kernel
theorem dX11_weight_89 : decode cX11_weight 89 = .ok (.bipush 13, 2) := by decide +kernel
theorem dX11_weight_91 : decode cX11_weight 91 = .ok (.invokevirtual 387, 3) := by decide +kernel
theorem dX11_weight_94 : decode cX11_weight 94 = .ok (.aload_n 0, 1) := by decide +kernel
theorem dX11_weight_95 : decode cX11_weight 95 = .ok (.bipush 12, 2) := by decide +kernel
theorem dX11_weight_97 : decode cX11_weight 97 = .ok (.invokevirtual 387, 3) := by decide +kernel
theorem dX11_weight_100 : decode cX11_weight 100 = .ok (.aload_n 0, 1) := by decide +kernel
theorem dX11_weight_101 : decode cX11_weight 101 = .ok (.bipush 10, 2) := by decide +kernel
theorem dX11_weight_103 : decode cX11_weight 103 = .ok (.invokevirtual 387, 3) := by decide +kernel
theorem dX11_weight_106 : decode cX11_weight 106 = .ok (.bipush 6, 2) := by decide +kernel
theorem dX11_weight_108 : decode cX11_weight 108 = .ok (.iload_n 2, 1) := by decide +kernel
theorem dX11_weight_109 : decode cX11_weight 109 = .ok (.imul, 1) := by decide +kernel
theorem dX11_weight_110 : decode cX11_weight 110 = .ok (.ireturn, 1) := by decide +kernel
theorem dX11_weight_111 : decode cX11_weight 111 = .ok (.aload_n 0, 1) := by decide +kernel
theorem dX11_weight_112 : decode cX11_weight 112 = .ok (.bipush 14, 2) := by decide +kernel
theorem dX11_weight_114 : decode cX11_weight 114 = .ok (.invokevirtual 387, 3) := by decide +kernel
theorem dX11_weight_117 : decode cX11_weight 117 = .ok (.aload_n 0, 1) := by decide +kernel
theorem dX11_weight_118 : decode cX11_weight 118 = .ok (.bipush 10, 2) := by decide +kernel
theorem dX11_weight_120 : decode cX11_weight 120 = .ok (.invokevirtual 387, 3) := by decide +kernel
theorem dX11_weight_123 : decode cX11_weight 123 = .ok (.iload_n 2, 1) := by decide +kernel
theorem dX11_weight_124 : decode cX11_weight 124 = .ok (.iconst 1, 1) := by decide +kernel
theorem dX11_weight_125 : decode cX11_weight 125 = .ok (.iadd, 1) := by decide +kernel
theorem dX11_weight_126 : decode cX11_weight 126 = .ok (.ireturn, 1) := by decide +kernel
theorem dX11_points_0 : decode cX11_points 0 = .ok (.aload_n 0, 1) := by decide +kernel
theorem dX11_points_1 : decode cX11_points 1 = .ok (.getfield 68, 3) := by decide +kernel
theorem dX11_points_4 : decode cX11_points 4 = .ok (.iload_n 1, 1) := by decide +kernel
theorem dX11_points_5 : decode cX11_points 5 = .ok (.iaload, 1) := by decide +kernel
theorem dX11_points_6 : decode cX11_points 6 = .ok (.invokestatic 218, 3) := by decide +kernel
theorem dX11_points_9 : decode cX11_points 9 = .ok (.istore_n 2, 1) := by decide +kernel
theorem dX11_points_10 : decode cX11_points 10 = .ok (.iload_n 2, 1) := by decide +kernel
theorem dX11_points_11 : decode cX11_points 11 = .ok (.iconst 1, 1) := by decide +kernel
theorem dX11_points_12 : decode cX11_points 12 = .ok (.if_icmp .ne 21, 3) := by decide +kernel
theorem dX11_points_15 : decode cX11_points 15 = .ok (.aload_n 0, 1) := by decide +kernel
theorem dX11_points_16 : decode cX11_points 16 = .ok (.bipush 22, 2) := by decide +kernel
theorem dX11_points_18 : decode cX11_points 18 = .ok (.invokevirtual 387, 3) := by decide +kernel
theorem dX11_points_21 : decode cX11_points 21 = .ok (.aload_n 0, 1) := by decide +kernel
theorem dX11_points_22 : decode cX11_points 22 = .ok (.getfield 80, 3) := by decide +kernel
theorem dX11_points_25 : decode cX11_points 25 = .ok (.iload_n 1, 1) := by decide +kernel
theorem dX11_points_26 : decode cX11_points 26 = .ok (.iaload, 1) := by decide +kernel
theorem dX11_points_27 : decode cX11_points 27 = .ok (.iconst 1, 1) := by decide +kernel
theorem dX11_points_28 : decode cX11_points 28 = .ok (.if_icmp .ne 16, 3) := by decide +kernel
theorem dX11_points_31 : decode cX11_points 31 = .ok (.iconst 3, 1) := by decide +kernel
theorem dX11_points_32 : decode cX11_points 32 = .ok (.ireturn, 1) := by decide +kernel
theorem dX11_points_33 : decode cX11_points 33 = .ok (.iload_n 2, 1) := by decide +kernel
theorem dX11_points_34 : decode cX11_points 34 = .ok (.iconst 3, 1) := by decide +kernel
theorem dX11_points_35 : decode cX11_points 35 = .ok (.if_icmp .ne 9, 3) := by decide +kernel
theorem dX11_points_38 : decode cX11_points 38 = .ok (.aload_n 0, 1) := by decide +kernel
theorem dX11_points_39 : decode cX11_points 39 = .ok (.bipush 21, 2) := by decide +kernel
theorem dX11_points_41 : decode cX11_points 41 = .ok (.invokevirtual 387, 3) := by decide +kernel
theorem dX11_points_44 : decode cX11_points 44 = .ok (.aload_n 0, 1) := by decide +kernel
theorem dX11_points_45 : decode cX11_points 45 = .ok (.bipush 20, 2) := by decide +kernel
theorem dX11_points_47 : decode cX11_points 47 = .ok (.invokevirtual 387, 3) := by decide +kernel
theorem dX11_points_50 : decode cX11_points 50 = .ok (.iconst 5, 1) := by decide +kernel
theorem dX11_points_51 : decode cX11_points 51 = .ok (.aload_n 0, 1) := by decide +kernel
theorem dX11_points_52 : decode cX11_points 52 = .ok (.iload_n 1, 1) := by decide +kernel
theorem dX11_points_53 : decode cX11_points 53 = .ok (.invokevirtual 390, 3) := by decide +kernel
theorem dX11_points_56 : decode cX11_points 56 = .ok (.imul, 1) := by decide +kernel
theorem dX11_points_57 : decode cX11_points 57 = .ok (.istore_n 3, 1) := by decide +kernel
theorem dX11_points_58 : decode cX11_points 58 = .ok (.iload_n 2, 1) := by decide +kernel
theorem dX11_points_59 : decode cX11_points 59 = .ok (.iconst 3, 1) := by decide +kernel
theorem dX11_points_60 : decode cX11_points 60 = .ok (.if_icmp .ne 10, 3) := by decide +kernel
theorem dX11_points_63 : decode cX11_points 63 = .ok (.iload_n 3, 1) := by decide +kernel
theorem dX11_points_64 : decode cX11_points 64 = .ok (.bipush 7, 2) := by decide +kernel
theorem dX11_points_66 : decode cX11_points 66 = .ok (.isub, 1) := by decide +kernel
theorem dX11_points_67 : decode cX11_points 67 = .ok (.goto 4, 3) := by decide +kernel
theorem dX11_points_70 : decode cX11_points 70 = .ok (.iload_n 3, 1) := by decide +kernel
theorem dX11_points_71 : decode cX11_points 71 = .ok (.ireturn, 1) := by decide +kernel
theorem dX11_ask_0 : decode cX11_ask 0 = .ok (.aload_n 0, 1) := by decide +kernel
theorem dX11_ask_1 : decode cX11_ask 1 = .ok (.iconst 0, 1) := by decide +kernel
theorem dX11_ask_2 : decode cX11_ask 2 = .ok (.putfield 384, 3) := by decide +kernel
theorem dX11_ask_5 : decode cX11_ask 5 = .ok (.aload_n 0, 1) := by decide +kernel
theorem dX11_ask_6 : decode cX11_ask 6 = .ok (.iload_n 1, 1) := by decide +kernel
theorem dX11_ask_7 : decode cX11_ask 7 = .ok (.invokevirtual 291, 3) := by decide +kernel
theorem dX11_ask_10 : decode cX11_ask 10 = .ok (.ifCond .ne 6, 3) := by decide +kernel
theorem dX11_ask_13 : decode cX11_ask 13 = .ok (.bipush (-2), 2) := by decide +kernel
theorem dX11_ask_15 : decode cX11_ask 15 = .ok (.ireturn, 1) := by decide +kernel
theorem dX11_ask_16 : decode cX11_ask 16 = .ok (.iload_n 2, 1) := by decide +kernel
theorem dX11_ask_17 : decode cX11_ask 17 = .ok (.ifCond .ne 11, 3) := by decide +kernel
theorem dX11_ask_20 : decode cX11_ask 20 = .ok (.aload_n 0, 1) := by decide +kernel
theorem dX11_ask_21 : decode cX11_ask 21 = .ok (.iload_n 1, 1) := by decide +kernel
theorem dX11_ask_22 : decode cX11_ask 22 = .ok (.invokevirtual 390, 3) := by decide +kernel
theorem dX11_ask_25 : decode cX11_ask 25 = .ok (.goto 18, 3) := by decide +kernel
theorem dX11_ask_28 : decode cX11_ask 28 = .ok (.iload_n 2, 1) := by decide +kernel
theorem dX11_ask_29 : decode cX11_ask 29 = .ok (.iconst 1, 1) := by decide +kernel
theorem dX11_ask_30 : decode cX11_ask 30 = .ok (.if_icmp .ne 11, 3) := by decide +kernel
theorem dX11_ask_33 : decode cX11_ask 33 = .ok (.aload_n 0, 1) := by decide +kernel
theorem dX11_ask_34 : decode cX11_ask 34 = .ok (.iload_n 1, 1) := by decide +kernel
theorem dX11_ask_35 : decode cX11_ask 35 = .ok (.invokevirtual 393, 3) := by decide +kernel
theorem dX11_ask_38 : decode cX11_ask 38 = .ok (.goto 5, 3) := by decide +kernel
theorem dX11_ask_41 : decode cX11_ask 41 = .ok (.bipush (-3), 2) := by decide +kernel
theorem dX11_ask_43 : decode cX11_ask 43 = .ok (.ireturn, 1) := by decide +kernel
theorem dX10_trace_0 : decode cX10_trace 0 = .ok (.iload_n 1, 1) := by decide +kernel
theorem dX10_trace_1 : decode cX10_trace 1 = .ok (.ifCond .lt 14, 3) := by decide +kernel
theorem dX10_trace_4 : decode cX10_trace 4 = .ok (.iload_n 1, 1) := by decide +kernel
theorem dX10_trace_5 : decode cX10_trace 5 = .ok (.aload_n 0, 1) := by decide +kernel
theorem dX10_trace_6 : decode cX10_trace 6 = .ok (.getfield 42, 3) := by decide +kernel
theorem dX10_trace_9 : decode cX10_trace 9 = .ok (.getfield 385, 3) := by decide +kernel
theorem dX10_trace_12 : decode cX10_trace 12 = .ok (.if_icmp .lt 7, 3) := by decide +kernel
theorem dX10_trace_15 : decode cX10_trace 15 = .ok (.iconst (-1), 1) := by decide +kernel
theorem dX10_trace_16 : decode cX10_trace 16 = .ok (.goto 12, 3) := by decide +kernel
theorem dX10_trace_19 : decode cX10_trace 19 = .ok (.aload_n 0, 1) := by decide +kernel
theorem dX10_trace_20 : decode cX10_trace 20 = .ok (.getfield 42, 3) := by decide +kernel
theorem dX10_trace_23 : decode cX10_trace 23 = .ok (.getfield 394, 3) := by decide +kernel
theorem dX10_trace_26 : decode cX10_trace 26 = .ok (.iload_n 1, 1) := by decide +kernel
theorem dX10_trace_27 : decode cX10_trace 27 = .ok (.iaload, 1) := by decide +kernel
theorem dX10_trace_28 : decode cX10_trace 28 = .ok (.ireturn, 1) := by decide +kernel
theorem dX11_trace_0 : decode cX11_trace 0 = .ok (.iload_n 1, 1) := by decide +kernel
theorem dX11_trace_1 : decode cX11_trace 1 = .ok (.iconst 0, 1) := by decide +kernel
theorem dX11_trace_2 : decode cX11_trace 2 = .ok (.aload_n 0, 1) := by decide +kernel
theorem dX11_trace_3 : decode cX11_trace 3 = .ok (.getfield 384, 3) := by decide +kernel
theorem dX11_trace_6 : decode cX11_trace 6 = .ok (.iconst 1, 1) := by decide +kernel
theorem dX11_trace_7 : decode cX11_trace 7 = .ok (.isub, 1) := by decide +kernel
theorem dX11_trace_8 : decode cX11_trace 8 = .ok (.invokestatic 172, 3) := by decide +kernel
theorem dX11_trace_11 : decode cX11_trace 11 = .ok (.ifCond .eq 12, 3) := by decide +kernel
theorem dX11_trace_14 : decode cX11_trace 14 = .ok (.aload_n 0, 1) := by decide +kernel
theorem dX11_trace_15 : decode cX11_trace 15 = .ok (.getfield 165, 3) := by decide +kernel
theorem dX11_trace_18 : decode cX11_trace 18 = .ok (.iload_n 1, 1) := by decide +kernel
theorem dX11_trace_19 : decode cX11_trace 19 = .ok (.iaload, 1) := by decide +kernel
theorem dX11_trace_20 : decode cX11_trace 20 = .ok (.goto 4, 3) := by decide +kernel
theorem dX11_trace_23 : decode cX11_trace 23 = .ok (.iconst (-1), 1) := by decide +kernel
theorem dX11_trace_24 : decode cX11_trace 24 = .ok (.ireturn, 1) := by decide +kernel
theorem dX10_finding_0 : decode cX10_finding 0 = .ok (.aload_n 0, 1) := by decide +kernel
theorem dX10_finding_1 : decode cX10_finding 1 = .ok (.getfield 397, 3) := by decide +kernel
theorem dX10_finding_4 : decode cX10_finding 4 = .ok (.ireturn, 1) := by decide +kernel
theorem dX11_finding_0 : decode cX11_finding 0 = .ok (.aload_n 0, 1) := by decide +kernel
theorem dX11_finding_1 : decode cX11_finding 1 = .ok (.getfield 323, 3) := by decide +kernel
theorem dX11_finding_4 : decode cX11_finding 4 = .ok (.ireturn, 1) := by decide +kernel
theorem dX10_countPools_0 : decode cX10_countPools 0 = .ok (.iconst 0, 1) := by decide +kernel
theorem dX10_countPools_1 : decode cX10_countPools 1 = .ok (.istore_n 1, 1) := by decide +kernel
theorem dX10_countPools_2 : decode cX10_countPools 2 = .ok (.iconst 0, 1) := by decide +kernel
theorem dX10_countPools_3 : decode cX10_countPools 3 = .ok (.istore_n 2, 1) := by decide +kernel
theorem dX10_countPools_4 : decode cX10_countPools 4 = .ok (.iload_n 2, 1) := by decide +kernel
theorem dX10_countPools_5 : decode cX10_countPools 5 = .ok (.bipush 48, 2) := by decide +kernel
theorem dX10_countPools_7 : decode cX10_countPools 7 = .ok (.if_icmp .gt 26, 3) := by decide +kernel
theorem dX10_countPools_10 : decode cX10_countPools 10 = .ok (.iload_n 1, 1) := by decide +kernel
theorem dX10_countPools_11 : decode cX10_countPools 11 = .ok (.aload_n 0, 1) := by decide +kernel
theorem dX10_countPools_12 : decode cX10_countPools 12 = .ok (.getfield 17, 3) := by decide +kernel
theorem dX10_countPools_15 : decode cX10_countPools 15 = .ok (.iload_n 2, 1) := by decide +kernel
theorem dX10_countPools_16 : decode cX10_countPools 16 = .ok (.aaload, 1) := by decide +kernel
theorem dX10_countPools_17 : decode cX10_countPools 17 = .ok (.ifnonnull 7, 3) := by decide +kernel
theorem dX10_countPools_20 : decode cX10_countPools 20 = .ok (.iconst 0, 1) := by decide +kernel
theorem dX10_countPools_21 : decode cX10_countPools 21 = .ok (.goto 4, 3) := by decide +kernel
theorem dX10_countPools_24 : decode cX10_countPools 24 = .ok (.iconst 1, 1) := by decide +kernel
theorem dX10_countPools_25 : decode cX10_countPools 25 = .ok (.iadd, 1) := by decide +kernel
theorem dX10_countPools_26 : decode cX10_countPools 26 = .ok (.istore_n 1, 1) := by decide +kernel
theorem dX10_countPools_27 : decode cX10_countPools 27 = .ok (.iinc 2 1, 3) := by decide +kernel
theorem dX10_countPools_30 : decode cX10_countPools 30 = .ok (.goto (-26), 3) := by decide +kernel
theorem dX10_countPools_33 : decode cX10_countPools 33 = .ok (.iload_n 1, 1) := by decide +kernel
theorem dX10_countPools_34 : decode cX10_countPools 34 = .ok (.ireturn, 1) := by decide +kernel
theorem dX10_countLive_0 : decode cX10_countLive 0 = .ok (.iconst 0, 1) := by decide +kernel
theorem dX10_countLive_1 : decode cX10_countLive 1 = .ok (.istore_n 1, 1) := by decide +kernel
theorem dX10_countLive_2 : decode cX10_countLive 2 = .ok (.iconst 0, 1) := by decide +kernel
theorem dX10_countLive_3 : decode cX10_countLive 3 = .ok (.istore_n 2, 1) := by decide +kernel
theorem dX10_countLive_4 : decode cX10_countLive 4 = .ok (.iload_n 2, 1) := by decide +kernel
theorem dX10_countLive_5 : decode cX10_countLive 5 = .ok (.aload_n 0, 1) := by decide +kernel
theorem dX10_countLive_6 : decode cX10_countLive 6 = .ok (.getfield 104, 3) := by decide +kernel
theorem dX10_countLive_9 : decode cX10_countLive 9 = .ok (.if_icmp .ge 29, 3) := by decide +kernel
theorem dX10_countLive_12 : decode cX10_countLive 12 = .ok (.iload_n 1, 1) := by decide +kernel
theorem dX10_countLive_13 : decode cX10_countLive 13 = .ok (.aload_n 0, 1) := by decide +kernel
theorem dX10_countLive_14 : decode cX10_countLive 14 = .ok (.getfield 23, 3) := by decide +kernel
theorem dX10_countLive_17 : decode cX10_countLive 17 = .ok (.iload_n 2, 1) := by decide +kernel
theorem dX10_countLive_18 : decode cX10_countLive 18 = .ok (.aaload, 1) := by decide +kernel
theorem dX10_countLive_19 : decode cX10_countLive 19 = .ok (.getfield 107, 3) := by decide +kernel
theorem dX10_countLive_22 : decode cX10_countLive 22 = .ok (.ifCond .ne 7, 3) := by decide +kernel
theorem dX10_countLive_25 : decode cX10_countLive 25 = .ok (.iconst 1, 1) := by decide +kernel
theorem dX10_countLive_26 : decode cX10_countLive 26 = .ok (.goto 4, 3) := by decide +kernel
theorem dX10_countLive_29 : decode cX10_countLive 29 = .ok (.iconst 0, 1) := by decide +kernel
theorem dX10_countLive_30 : decode cX10_countLive 30 = .ok (.iadd, 1) := by decide +kernel
theorem dX10_countLive_31 : decode cX10_countLive 31 = .ok (.istore_n 1, 1) := by decide +kernel
theorem dX10_countLive_32 : decode cX10_countLive 32 = .ok (.iinc 2 1, 3) := by decide +kernel
theorem dX10_countLive_35 : decode cX10_countLive 35 = .ok (.goto (-31), 3) := by decide +kernel
theorem dX10_countLive_38 : decode cX10_countLive 38 = .ok (.iload_n 1, 1) := by decide +kernel
theorem dX10_countLive_39 : decode cX10_countLive 39 = .ok (.ireturn, 1) := by decide +kernel
theorem dX10_count_0 : decode cX10_count 0 = .ok (.iload_n 1, 1) := by decide +kernel
theorem dX10_count_1 : decode cX10_count 1 = .ok (.tableswitch 73 0 5 #[39, 44, 49, 54, 59, 67], 39) := by decide +kernel
theorem dX10_count_40 : decode cX10_count 40 = .ok (.aload_n 0, 1) := by decide +kernel
theorem dX10_count_41 : decode cX10_count 41 = .ok (.getfield 69, 3) := by decide +kernel
theorem dX10_count_44 : decode cX10_count 44 = .ok (.ireturn, 1) := by decide +kernel
theorem dX10_count_45 : decode cX10_count 45 = .ok (.aload_n 0, 1) := by decide +kernel
theorem dX10_count_46 : decode cX10_count 46 = .ok (.invokevirtual 400, 3) := by decide +kernel
theorem dX10_count_49 : decode cX10_count 49 = .ok (.ireturn, 1) := by decide +kernel
theorem dX10_count_50 : decode cX10_count 50 = .ok (.aload_n 0, 1) := by decide +kernel
theorem dX10_count_51 : decode cX10_count 51 = .ok (.getfield 104, 3) := by decide +kernel
theorem dX10_count_54 : decode cX10_count 54 = .ok (.ireturn, 1) := by decide +kernel
theorem dX10_count_55 : decode cX10_count 55 = .ok (.aload_n 0, 1) := by decide +kernel
theorem dX10_count_56 : decode cX10_count 56 = .ok (.invokevirtual 403, 3) := by decide +kernel
theorem dX10_count_59 : decode cX10_count 59 = .ok (.ireturn, 1) := by decide +kernel
theorem dX10_count_60 : decode cX10_count 60 = .ok (.aload_n 0, 1) := by decide +kernel
theorem dX10_count_61 : decode cX10_count 61 = .ok (.getfield 42, 3) := by decide +kernel
theorem dX10_count_64 : decode cX10_count 64 = .ok (.getfield 385, 3) := by decide +kernel
theorem dX10_count_67 : decode cX10_count 67 = .ok (.ireturn, 1) := by decide +kernel
theorem dX10_count_68 : decode cX10_count 68 = .ok (.aload_n 0, 1) := by decide +kernel
theorem dX10_count_69 : decode cX10_count 69 = .ok (.invokevirtual 275, 3) := by decide +kernel
theorem dX10_count_72 : decode cX10_count 72 = .ok (.l2i, 1) := by decide +kernel
theorem dX10_count_73 : decode cX10_count 73 = .ok (.ireturn, 1) := by decide +kernel
theorem dX10_count_74 : decode cX10_count 74 = .ok (.iload_n 1, 1) := by decide +kernel
theorem dX10_count_75 : decode cX10_count 75 = .ok (.bipush 11, 2) := by decide +kernel
theorem dX10_count_77 : decode cX10_count 77 = .ok (.if_icmp .lt 21, 3) := by decide +kernel
theorem dX10_count_80 : decode cX10_count 80 = .ok (.iload_n 1, 1) := by decide +kernel
theorem dX10_count_81 : decode cX10_count 81 = .ok (.bipush 16, 2) := by decide +kernel
theorem dX10_count_83 : decode cX10_count 83 = .ok (.if_icmp .gt 15, 3) := by decide +kernel
theorem dX10_count_86 : decode cX10_count 86 = .ok (.aload_n 0, 1) := by decide +kernel
theorem dX10_count_87 : decode cX10_count 87 = .ok (.getfield 64, 3) := by decide +kernel
theorem dX10_count_90 : decode cX10_count 90 = .ok (.iload_n 1, 1) := by decide +kernel
theorem dX10_count_91 : decode cX10_count 91 = .ok (.bipush 10, 2) := by decide +kernel
theorem dX10_count_93 : decode cX10_count 93 = .ok (.isub, 1) := by decide +kernel
theorem dX10_count_94 : decode cX10_count 94 = .ok (.iaload, 1) := by decide +kernel
theorem dX10_count_95 : decode cX10_count 95 = .ok (.goto 5, 3) := by decide +kernel
theorem dX10_count_98 : decode cX10_count 98 = .ok (.bipush (-3), 2) := by decide +kernel
theorem dX10_count_100 : decode cX10_count 100 = .ok (.ireturn, 1) := by decide +kernel
theorem dX11_pools_0 : decode cX11_pools 0 = .ok (.iconst 0, 1) := by decide +kernel
theorem dX11_pools_1 : decode cX11_pools 1 = .ok (.istore_n 1, 1) := by decide +kernel
theorem dX11_pools_2 : decode cX11_pools 2 = .ok (.iconst 0, 1) := by decide +kernel
theorem dX11_pools_3 : decode cX11_pools 3 = .ok (.istore_n 2, 1) := by decide +kernel
theorem dX11_pools_4 : decode cX11_pools 4 = .ok (.iload_n 2, 1) := by decide +kernel
theorem dX11_pools_5 : decode cX11_pools 5 = .ok (.bipush 49, 2) := by decide +kernel
theorem dX11_pools_7 : decode cX11_pools 7 = .ok (.if_icmp .ge 26, 3) := by decide +kernel
theorem dX11_pools_10 : decode cX11_pools 10 = .ok (.iload_n 1, 1) := by decide +kernel
theorem dX11_pools_11 : decode cX11_pools 11 = .ok (.aload_n 0, 1) := by decide +kernel
theorem dX11_pools_12 : decode cX11_pools 12 = .ok (.getfield 26, 3) := by decide +kernel
theorem dX11_pools_15 : decode cX11_pools 15 = .ok (.iload_n 2, 1) := by decide +kernel
theorem dX11_pools_16 : decode cX11_pools 16 = .ok (.baload, 1) := by decide +kernel
theorem dX11_pools_17 : decode cX11_pools 17 = .ok (.ifCond .eq 7, 3) := by decide +kernel
theorem dX11_pools_20 : decode cX11_pools 20 = .ok (.iconst 1, 1) := by decide +kernel
theorem dX11_pools_21 : decode cX11_pools 21 = .ok (.goto 4, 3) := by decide +kernel
theorem dX11_pools_24 : decode cX11_pools 24 = .ok (.iconst 0, 1) := by decide +kernel
theorem dX11_pools_25 : decode cX11_pools 25 = .ok (.iadd, 1) := by decide +kernel
theorem dX11_pools_26 : decode cX11_pools 26 = .ok (.istore_n 1, 1) := by decide +kernel
theorem dX11_pools_27 : decode cX11_pools 27 = .ok (.iinc 2 1, 3) := by decide +kernel
theorem dX11_pools_30 : decode cX11_pools 30 = .ok (.goto (-26), 3) := by decide +kernel
theorem dX11_pools_33 : decode cX11_pools 33 = .ok (.iload_n 1, 1) := by decide +kernel
theorem dX11_pools_34 : decode cX11_pools 34 = .ok (.ireturn, 1) := by decide +kernel
theorem dX11_count_0 : decode cX11_count 0 = .ok (.iload_n 1, 1) := by decide +kernel
theorem dX11_count_1 : decode cX11_count 1 = .ok (.tableswitch 101 0 5 #[39, 44, 49, 54, 91, 96], 39) := by decide +kernel
theorem dX11_count_40 : decode cX11_count 40 = .ok (.aload_n 0, 1) := by decide +kernel
theorem dX11_count_41 : decode cX11_count 41 = .ok (.getfield 168, 3) := by decide +kernel
theorem dX11_count_44 : decode cX11_count 44 = .ok (.ireturn, 1) := by decide +kernel
theorem dX11_count_45 : decode cX11_count 45 = .ok (.aload_n 0, 1) := by decide +kernel
theorem dX11_count_46 : decode cX11_count 46 = .ok (.invokevirtual 396, 3) := by decide +kernel
theorem dX11_count_49 : decode cX11_count 49 = .ok (.ireturn, 1) := by decide +kernel
theorem dX11_count_50 : decode cX11_count 50 = .ok (.aload_n 0, 1) := by decide +kernel
theorem dX11_count_51 : decode cX11_count 51 = .ok (.getfield 205, 3) := by decide +kernel
theorem dX11_count_54 : decode cX11_count 54 = .ok (.ireturn, 1) := by decide +kernel
theorem dX11_count_55 : decode cX11_count 55 = .ok (.iconst 0, 1) := by decide +kernel
theorem dX11_count_56 : decode cX11_count 56 = .ok (.istore_n 2, 1) := by decide +kernel
theorem dX11_count_57 : decode cX11_count 57 = .ok (.iconst 0, 1) := by decide +kernel
