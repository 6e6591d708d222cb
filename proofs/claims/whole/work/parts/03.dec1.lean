theorem dX7_enterInto_18 : decode cX7_enterInto 18 = .ok (.iload_n 2, 1) := by decide +kernel
theorem dX7_enterInto_19 : decode cX7_enterInto 19 = .ok (.iaload, 1) := by decide +kernel
theorem dX7_enterInto_20 : decode cX7_enterInto 20 = .ok (.aload_n 0, 1) := by decide +kernel
theorem dX7_enterInto_21 : decode cX7_enterInto 21 = .ok (.getfield 15, 3) := by decide +kernel
theorem dX7_enterInto_24 : decode cX7_enterInto 24 = .ok (.iload_n 2, 1) := by decide +kernel
theorem dX7_enterInto_25 : decode cX7_enterInto 25 = .ok (.iaload, 1) := by decide +kernel
theorem dX7_enterInto_26 : decode cX7_enterInto 26 = .ok (.iastore, 1) := by decide +kernel
theorem dX7_enterInto_27 : decode cX7_enterInto 27 = .ok (.iinc 2 1, 3) := by decide +kernel
theorem dX7_enterInto_30 : decode cX7_enterInto 30 = .ok (.goto (-28), 3) := by decide +kernel
theorem dX7_enterInto_33 : decode cX7_enterInto 33 = .ok (.aload_n 1, 1) := by decide +kernel
theorem dX7_enterInto_34 : decode cX7_enterInto 34 = .ok (.getfield 59, 3) := by decide +kernel
theorem dX7_enterInto_37 : decode cX7_enterInto 37 = .ok (.iconst 3, 1) := by decide +kernel
theorem dX7_enterInto_38 : decode cX7_enterInto 38 = .ok (.aload_n 0, 1) := by decide +kernel
theorem dX7_enterInto_39 : decode cX7_enterInto 39 = .ok (.getfield 22, 3) := by decide +kernel
theorem dX7_enterInto_42 : decode cX7_enterInto 42 = .ok (.iastore, 1) := by decide +kernel
theorem dX7_enterInto_43 : decode cX7_enterInto 43 = .ok (.aload_n 1, 1) := by decide +kernel
theorem dX7_enterInto_44 : decode cX7_enterInto 44 = .ok (.getfield 59, 3) := by decide +kernel
theorem dX7_enterInto_47 : decode cX7_enterInto 47 = .ok (.iconst 5, 1) := by decide +kernel
theorem dX7_enterInto_48 : decode cX7_enterInto 48 = .ok (.aload_n 0, 1) := by decide +kernel
theorem dX7_enterInto_49 : decode cX7_enterInto 49 = .ok (.getfield 25, 3) := by decide +kernel
theorem dX7_enterInto_52 : decode cX7_enterInto 52 = .ok (.iastore, 1) := by decide +kernel
theorem dX7_enterInto_53 : decode cX7_enterInto 53 = .ok (.aload_n 1, 1) := by decide +kernel
theorem dX7_enterInto_54 : decode cX7_enterInto 54 = .ok (.getfield 59, 3) := by decide +kernel
theorem dX7_enterInto_57 : decode cX7_enterInto 57 = .ok (.bipush 6, 2) := by decide +kernel
theorem dX7_enterInto_59 : decode cX7_enterInto 59 = .ok (.aload_n 0, 1) := by decide +kernel
theorem dX7_enterInto_60 : decode cX7_enterInto 60 = .ok (.getfield 28, 3) := by decide +kernel
theorem dX7_enterInto_63 : decode cX7_enterInto 63 = .ok (.iastore, 1) := by decide +kernel
theorem dX7_enterInto_64 : decode cX7_enterInto 64 = .ok (.aload_n 1, 1) := by decide +kernel
theorem dX7_enterInto_65 : decode cX7_enterInto 65 = .ok (.getfield 59, 3) := by decide +kernel
theorem dX7_enterInto_68 : decode cX7_enterInto 68 = .ok (.bipush 7, 2) := by decide +kernel
theorem dX7_enterInto_70 : decode cX7_enterInto 70 = .ok (.aload_n 0, 1) := by decide +kernel
theorem dX7_enterInto_71 : decode cX7_enterInto 71 = .ok (.getfield 31, 3) := by decide +kernel
theorem dX7_enterInto_74 : decode cX7_enterInto 74 = .ok (.iastore, 1) := by decide +kernel
theorem dX7_enterInto_75 : decode cX7_enterInto 75 = .ok (.aload_n 1, 1) := by decide +kernel
theorem dX7_enterInto_76 : decode cX7_enterInto 76 = .ok (.getfield 59, 3) := by decide +kernel
theorem dX7_enterInto_79 : decode cX7_enterInto 79 = .ok (.bipush 8, 2) := by decide +kernel
theorem dX7_enterInto_81 : decode cX7_enterInto 81 = .ok (.aload_n 0, 1) := by decide +kernel
theorem dX7_enterInto_82 : decode cX7_enterInto 82 = .ok (.getfield 34, 3) := by decide +kernel
theorem dX7_enterInto_85 : decode cX7_enterInto 85 = .ok (.iastore, 1) := by decide +kernel
theorem dX7_enterInto_86 : decode cX7_enterInto 86 = .ok (.aload_n 1, 1) := by decide +kernel
theorem dX7_enterInto_87 : decode cX7_enterInto 87 = .ok (.getfield 59, 3) := by decide +kernel
theorem dX7_enterInto_90 : decode cX7_enterInto 90 = .ok (.bipush 10, 2) := by decide +kernel
theorem dX7_enterInto_92 : decode cX7_enterInto 92 = .ok (.iconst 1, 1) := by decide +kernel
theorem dX7_enterInto_93 : decode cX7_enterInto 93 = .ok (.iastore, 1) := by decide +kernel
theorem dX7_enterInto_94 : decode cX7_enterInto 94 = .ok (.return_, 1) := by decide +kernel
theorem dX10_carryOn_0 : decode cX10_carryOn 0 = .ok (.aload_n 1, 1) := by decide +kernel
theorem dX10_carryOn_1 : decode cX10_carryOn 1 = .ok (.getfield 259, 3) := by decide +kernel
theorem dX10_carryOn_4 : decode cX10_carryOn 4 = .ok (.iconst 5, 1) := by decide +kernel
theorem dX10_carryOn_5 : decode cX10_carryOn 5 = .ok (.iaload, 1) := by decide +kernel
theorem dX10_carryOn_6 : decode cX10_carryOn 6 = .ok (.istore_n 2, 1) := by decide +kernel
theorem dX10_carryOn_7 : decode cX10_carryOn 7 = .ok (.aload_n 1, 1) := by decide +kernel
theorem dX10_carryOn_8 : decode cX10_carryOn 8 = .ok (.getfield 209, 3) := by decide +kernel
theorem dX10_carryOn_11 : decode cX10_carryOn 11 = .ok (.iconst 4, 1) := by decide +kernel
theorem dX10_carryOn_12 : decode cX10_carryOn 12 = .ok (.idiv, 1) := by decide +kernel
theorem dX10_carryOn_13 : decode cX10_carryOn 13 = .ok (.iconst 1, 1) := by decide +kernel
theorem dX10_carryOn_14 : decode cX10_carryOn 14 = .ok (.iadd, 1) := by decide +kernel
theorem dX10_carryOn_15 : decode cX10_carryOn 15 = .ok (.istore_n 3, 1) := by decide +kernel
theorem dX10_carryOn_16 : decode cX10_carryOn 16 = .ok (.iload_n 3, 1) := by decide +kernel
theorem dX10_carryOn_17 : decode cX10_carryOn 17 = .ok (.aload_n 0, 1) := by decide +kernel
theorem dX10_carryOn_18 : decode cX10_carryOn 18 = .ok (.getfield 69, 3) := by decide +kernel
theorem dX10_carryOn_21 : decode cX10_carryOn 21 = .ok (.if_icmp .ge 51, 3) := by decide +kernel
theorem dX10_carryOn_24 : decode cX10_carryOn 24 = .ok (.aload_n 0, 1) := by decide +kernel
theorem dX10_carryOn_25 : decode cX10_carryOn 25 = .ok (.getfield 17, 3) := by decide +kernel
theorem dX10_carryOn_28 : decode cX10_carryOn 28 = .ok (.iload_n 3, 1) := by decide +kernel
theorem dX10_carryOn_29 : decode cX10_carryOn 29 = .ok (.iconst 3, 1) := by decide +kernel
theorem dX10_carryOn_30 : decode cX10_carryOn 30 = .ok (.invokestatic 84, 3) := by decide +kernel
theorem dX10_carryOn_33 : decode cX10_carryOn 33 = .ok (.aaload, 1) := by decide +kernel
theorem dX10_carryOn_34 : decode cX10_carryOn 34 = .ok (.astore 4, 2) := by decide +kernel
theorem dX10_carryOn_36 : decode cX10_carryOn 36 = .ok (.aload 4, 2) := by decide +kernel
theorem dX10_carryOn_38 : decode cX10_carryOn 38 = .ok (.ifnull 28, 3) := by decide +kernel
theorem dX10_carryOn_41 : decode cX10_carryOn 41 = .ok (.aload_n 0, 1) := by decide +kernel
theorem dX10_carryOn_42 : decode cX10_carryOn 42 = .ok (.getfield 11, 3) := by decide +kernel
theorem dX10_carryOn_45 : decode cX10_carryOn 45 = .ok (.iload_n 3, 1) := by decide +kernel
theorem dX10_carryOn_46 : decode cX10_carryOn 46 = .ok (.aaload, 1) := by decide +kernel
theorem dX10_carryOn_47 : decode cX10_carryOn 47 = .ok (.getfield 88, 3) := by decide +kernel
theorem dX10_carryOn_50 : decode cX10_carryOn 50 = .ok (.iconst 2, 1) := by decide +kernel
theorem dX10_carryOn_51 : decode cX10_carryOn 51 = .ok (.if_icmp .eq 15, 3) := by decide +kernel
theorem dX10_carryOn_54 : decode cX10_carryOn 54 = .ok (.aload 4, 2) := by decide +kernel
theorem dX10_carryOn_56 : decode cX10_carryOn 56 = .ok (.getfield 259, 3) := by decide +kernel
theorem dX10_carryOn_59 : decode cX10_carryOn 59 = .ok (.iconst 4, 1) := by decide +kernel
theorem dX10_carryOn_60 : decode cX10_carryOn 60 = .ok (.dup2, 1) := by decide +kernel
theorem dX10_carryOn_61 : decode cX10_carryOn 61 = .ok (.iaload, 1) := by decide +kernel
theorem dX10_carryOn_62 : decode cX10_carryOn 62 = .ok (.iload_n 2, 1) := by decide +kernel
theorem dX10_carryOn_63 : decode cX10_carryOn 63 = .ok (.iadd, 1) := by decide +kernel
theorem dX10_carryOn_64 : decode cX10_carryOn 64 = .ok (.iastore, 1) := by decide +kernel
theorem dX10_carryOn_65 : decode cX10_carryOn 65 = .ok (.return_, 1) := by decide +kernel
theorem dX10_carryOn_66 : decode cX10_carryOn 66 = .ok (.iinc 3 1, 3) := by decide +kernel
theorem dX10_carryOn_69 : decode cX10_carryOn 69 = .ok (.goto (-53), 3) := by decide +kernel
theorem dX10_carryOn_72 : decode cX10_carryOn 72 = .ok (.aload_n 0, 1) := by decide +kernel
theorem dX10_carryOn_73 : decode cX10_carryOn 73 = .ok (.dup, 1) := by decide +kernel
theorem dX10_carryOn_74 : decode cX10_carryOn 74 = .ok (.getfield 262, 3) := by decide +kernel
theorem dX10_carryOn_77 : decode cX10_carryOn 77 = .ok (.iload_n 2, 1) := by decide +kernel
theorem dX10_carryOn_78 : decode cX10_carryOn 78 = .ok (.iadd, 1) := by decide +kernel
theorem dX10_carryOn_79 : decode cX10_carryOn 79 = .ok (.putfield 262, 3) := by decide +kernel
theorem dX10_carryOn_82 : decode cX10_carryOn 82 = .ok (.return_, 1) := by decide +kernel
theorem dX10_settleIfRipe_0 : decode cX10_settleIfRipe 0 = .ok (.aload_n 1, 1) := by decide +kernel
theorem dX10_settleIfRipe_1 : decode cX10_settleIfRipe 1 = .ok (.ifnull 32, 3) := by decide +kernel
theorem dX10_settleIfRipe_4 : decode cX10_settleIfRipe 4 = .ok (.aload_n 1, 1) := by decide +kernel
theorem dX10_settleIfRipe_5 : decode cX10_settleIfRipe 5 = .ok (.invokevirtual 236, 3) := by decide +kernel
theorem dX10_settleIfRipe_8 : decode cX10_settleIfRipe 8 = .ok (.ifCond .ne 25, 3) := by decide +kernel
theorem dX10_settleIfRipe_11 : decode cX10_settleIfRipe 11 = .ok (.aload_n 1, 1) := by decide +kernel
theorem dX10_settleIfRipe_12 : decode cX10_settleIfRipe 12 = .ok (.getfield 173, 3) := by decide +kernel
theorem dX10_settleIfRipe_15 : decode cX10_settleIfRipe 15 = .ok (.getfield 88, 3) := by decide +kernel
theorem dX10_settleIfRipe_18 : decode cX10_settleIfRipe 18 = .ok (.iconst 2, 1) := by decide +kernel
theorem dX10_settleIfRipe_19 : decode cX10_settleIfRipe 19 = .ok (.if_icmp .ne 14, 3) := by decide +kernel
theorem dX10_settleIfRipe_22 : decode cX10_settleIfRipe 22 = .ok (.aload_n 1, 1) := by decide +kernel
theorem dX10_settleIfRipe_23 : decode cX10_settleIfRipe 23 = .ok (.getfield 177, 3) := by decide +kernel
theorem dX10_settleIfRipe_26 : decode cX10_settleIfRipe 26 = .ok (.getfield 88, 3) := by decide +kernel
theorem dX10_settleIfRipe_29 : decode cX10_settleIfRipe 29 = .ok (.iconst 2, 1) := by decide +kernel
theorem dX10_settleIfRipe_30 : decode cX10_settleIfRipe 30 = .ok (.if_icmp .eq 5, 3) := by decide +kernel
theorem dX10_settleIfRipe_33 : decode cX10_settleIfRipe 33 = .ok (.iconst 0, 1) := by decide +kernel
theorem dX10_settleIfRipe_34 : decode cX10_settleIfRipe 34 = .ok (.ireturn, 1) := by decide +kernel
theorem dX10_settleIfRipe_35 : decode cX10_settleIfRipe 35 = .ok (.aload_n 0, 1) := by decide +kernel
theorem dX10_settleIfRipe_36 : decode cX10_settleIfRipe 36 = .ok (.getfield 56, 3) := by decide +kernel
theorem dX10_settleIfRipe_39 : decode cX10_settleIfRipe 39 = .ok (.aload_n 1, 1) := by decide +kernel
theorem dX10_settleIfRipe_40 : decode cX10_settleIfRipe 40 = .ok (.aload_n 1, 1) := by decide +kernel
theorem dX10_settleIfRipe_41 : decode cX10_settleIfRipe 41 = .ok (.getfield 173, 3) := by decide +kernel
theorem dX10_settleIfRipe_44 : decode cX10_settleIfRipe 44 = .ok (.getfield 125, 3) := by decide +kernel
theorem dX10_settleIfRipe_47 : decode cX10_settleIfRipe 47 = .ok (.aload_n 1, 1) := by decide +kernel
theorem dX10_settleIfRipe_48 : decode cX10_settleIfRipe 48 = .ok (.getfield 177, 3) := by decide +kernel
theorem dX10_settleIfRipe_51 : decode cX10_settleIfRipe 51 = .ok (.getfield 125, 3) := by decide +kernel
theorem dX10_settleIfRipe_54 : decode cX10_settleIfRipe 54 = .ok (.invokevirtual 252, 3) := by decide +kernel
theorem dX10_settleIfRipe_57 : decode cX10_settleIfRipe 57 = .ok (.aload_n 0, 1) := by decide +kernel
theorem dX10_settleIfRipe_58 : decode cX10_settleIfRipe 58 = .ok (.getfield 56, 3) := by decide +kernel
theorem dX10_settleIfRipe_61 : decode cX10_settleIfRipe 61 = .ok (.getfield 417, 3) := by decide +kernel
theorem dX10_settleIfRipe_64 : decode cX10_settleIfRipe 64 = .ok (.ifCond .eq 8, 3) := by decide +kernel
theorem dX10_settleIfRipe_67 : decode cX10_settleIfRipe 67 = .ok (.aload_n 0, 1) := by decide +kernel
theorem dX10_settleIfRipe_68 : decode cX10_settleIfRipe 68 = .ok (.aload_n 1, 1) := by decide +kernel
theorem dX10_settleIfRipe_69 : decode cX10_settleIfRipe 69 = .ok (.invokevirtual 421, 3) := by decide +kernel
theorem dX10_settleIfRipe_72 : decode cX10_settleIfRipe 72 = .ok (.aload_n 0, 1) := by decide +kernel
theorem dX10_settleIfRipe_73 : decode cX10_settleIfRipe 73 = .ok (.getfield 56, 3) := by decide +kernel
theorem dX10_settleIfRipe_76 : decode cX10_settleIfRipe 76 = .ok (.aload_n 1, 1) := by decide +kernel
theorem dX10_settleIfRipe_77 : decode cX10_settleIfRipe 77 = .ok (.invokevirtual 425, 3) := by decide +kernel
theorem dX10_settleIfRipe_80 : decode cX10_settleIfRipe 80 = .ok (.aload_n 0, 1) := by decide +kernel
theorem dX10_settleIfRipe_81 : decode cX10_settleIfRipe 81 = .ok (.aload_n 1, 1) := by decide +kernel
theorem dX10_settleIfRipe_82 : decode cX10_settleIfRipe 82 = .ok (.invokevirtual 428, 3) := by decide +kernel
theorem dX10_settleIfRipe_85 : decode cX10_settleIfRipe 85 = .ok (.iconst 1, 1) := by decide +kernel
theorem dX10_settleIfRipe_86 : decode cX10_settleIfRipe 86 = .ok (.ireturn, 1) := by decide +kernel
theorem dX10_official_0 : decode cX10_official 0 = .ok (.aload_n 0, 1) := by decide +kernel
theorem dX10_official_1 : decode cX10_official 1 = .ok (.iload_n 1, 1) := by decide +kernel
theorem dX10_official_2 : decode cX10_official 2 = .ok (.invokevirtual 76, 3) := by decide +kernel
theorem dX10_official_5 : decode cX10_official 5 = .ok (.astore_n 2, 1) := by decide +kernel
theorem dX10_official_6 : decode cX10_official 6 = .ok (.aload_n 2, 1) := by decide +kernel
theorem dX10_official_7 : decode cX10_official 7 = .ok (.ifnonnull 6, 3) := by decide +kernel
theorem dX10_official_10 : decode cX10_official 10 = .ok (.bipush (-2), 2) := by decide +kernel
theorem dX10_official_12 : decode cX10_official 12 = .ok (.ireturn, 1) := by decide +kernel
theorem dX10_official_13 : decode cX10_official 13 = .ok (.aload_n 2, 1) := by decide +kernel
theorem dX10_official_14 : decode cX10_official 14 = .ok (.getfield 88, 3) := by decide +kernel
theorem dX10_official_17 : decode cX10_official 17 = .ok (.iconst 1, 1) := by decide +kernel
theorem dX10_official_18 : decode cX10_official 18 = .ok (.if_icmp .eq 6, 3) := by decide +kernel
theorem dX10_official_21 : decode cX10_official 21 = .ok (.bipush (-6), 2) := by decide +kernel
theorem dX10_official_23 : decode cX10_official 23 = .ok (.ireturn, 1) := by decide +kernel
theorem dX10_official_24 : decode cX10_official 24 = .ok (.aload_n 2, 1) := by decide +kernel
theorem dX10_official_25 : decode cX10_official 25 = .ok (.invokevirtual 122, 3) := by decide +kernel
theorem dX10_official_28 : decode cX10_official 28 = .ok (.aload_n 2, 1) := by decide +kernel
theorem dX10_official_29 : decode cX10_official 29 = .ok (.getfield 125, 3) := by decide +kernel
theorem dX10_official_32 : decode cX10_official 32 = .ok (.invokevirtual 128, 3) := by decide +kernel
theorem dX10_official_35 : decode cX10_official 35 = .ok (.ifCond .eq 21, 3) := by decide +kernel
theorem dX10_official_38 : decode cX10_official 38 = .ok (.aload_n 2, 1) := by decide +kernel
theorem dX10_official_39 : decode cX10_official 39 = .ok (.getfield 125, 3) := by decide +kernel
theorem dX10_official_42 : decode cX10_official 42 = .ok (.getfield 132, 3) := by decide +kernel
theorem dX10_official_45 : decode cX10_official 45 = .ok (.iconst 3, 1) := by decide +kernel
theorem dX10_official_46 : decode cX10_official 46 = .ok (.aload_n 2, 1) := by decide +kernel
theorem dX10_official_47 : decode cX10_official 47 = .ok (.getfield 116, 3) := by decide +kernel
theorem dX10_official_50 : decode cX10_official 50 = .ok (.invokestatic 135, 3) := by decide +kernel
theorem dX10_official_53 : decode cX10_official 53 = .ok (.if_icmp .ge 6, 3) := by decide +kernel
theorem dX10_official_56 : decode cX10_official 56 = .ok (.bipush (-6), 2) := by decide +kernel
theorem dX10_official_58 : decode cX10_official 58 = .ok (.ireturn, 1) := by decide +kernel
theorem dX10_official_59 : decode cX10_official 59 = .ok (.aload_n 2, 1) := by decide +kernel
theorem dX10_official_60 : decode cX10_official 60 = .ok (.iconst 2, 1) := by decide +kernel
theorem dX10_official_61 : decode cX10_official 61 = .ok (.putfield 88, 3) := by decide +kernel
theorem dX10_official_64 : decode cX10_official 64 = .ok (.iconst 0, 1) := by decide +kernel
theorem dX10_official_65 : decode cX10_official 65 = .ok (.istore_n 3, 1) := by decide +kernel
theorem dX10_official_66 : decode cX10_official 66 = .ok (.iconst 0, 1) := by decide +kernel
theorem dX10_official_67 : decode cX10_official 67 = .ok (.istore 4, 2) := by decide +kernel
theorem dX10_official_69 : decode cX10_official 69 = .ok (.iload 4, 2) := by decide +kernel
theorem dX10_official_71 : decode cX10_official 71 = .ok (.iconst 3, 1) := by decide +kernel
theorem dX10_official_72 : decode cX10_official 72 = .ok (.if_icmp .gt 27, 3) := by decide +kernel
theorem dX10_official_75 : decode cX10_official 75 = .ok (.iload_n 3, 1) := by decide +kernel
theorem dX10_official_76 : decode cX10_official 76 = .ok (.aload_n 0, 1) := by decide +kernel
theorem dX10_official_77 : decode cX10_official 77 = .ok (.aload_n 0, 1) := by decide +kernel
theorem dX10_official_78 : decode cX10_official 78 = .ok (.getfield 17, 3) := by decide +kernel
theorem dX10_official_81 : decode cX10_official 81 = .ok (.iload_n 1, 1) := by decide +kernel
theorem dX10_official_82 : decode cX10_official 82 = .ok (.iload 4, 2) := by decide +kernel
theorem dX10_official_84 : decode cX10_official 84 = .ok (.invokestatic 84, 3) := by decide +kernel
theorem dX10_official_87 : decode cX10_official 87 = .ok (.aaload, 1) := by decide +kernel
theorem dX10_official_88 : decode cX10_official 88 = .ok (.invokevirtual 140, 3) := by decide +kernel
theorem dX10_official_91 : decode cX10_official 91 = .ok (.iadd, 1) := by decide +kernel
theorem dX10_official_92 : decode cX10_official 92 = .ok (.istore_n 3, 1) := by decide +kernel
theorem dX10_official_93 : decode cX10_official 93 = .ok (.iinc 4 1, 3) := by decide +kernel
theorem dX10_official_96 : decode cX10_official 96 = .ok (.goto (-27), 3) := by decide +kernel
theorem dX10_official_99 : decode cX10_official 99 = .ok (.iload_n 3, 1) := by decide +kernel
theorem dX10_official_100 : decode cX10_official 100 = .ok (.aload_n 0, 1) := by decide +kernel
theorem dX10_official_101 : decode cX10_official 101 = .ok (.aload_n 0, 1) := by decide +kernel
theorem dX10_official_102 : decode cX10_official 102 = .ok (.getfield 17, 3) := by decide +kernel
theorem dX10_official_105 : decode cX10_official 105 = .ok (.bipush 48, 2) := by decide +kernel
theorem dX10_official_107 : decode cX10_official 107 = .ok (.aaload, 1) := by decide +kernel
theorem dX10_official_108 : decode cX10_official 108 = .ok (.invokevirtual 140, 3) := by decide +kernel
theorem dX10_official_111 : decode cX10_official 111 = .ok (.iadd, 1) := by decide +kernel
theorem dX10_official_112 : decode cX10_official 112 = .ok (.ireturn, 1) := by decide +kernel
theorem dX11_areRight_0 : decode cX11_areRight 0 = .ok (.iconst 0, 1) := by decide +kernel
theorem dX11_areRight_1 : decode cX11_areRight 1 = .ok (.istore_n 2, 1) := by decide +kernel
theorem dX11_areRight_2 : decode cX11_areRight 2 = .ok (.iconst 1, 1) := by decide +kernel
theorem dX11_areRight_3 : decode cX11_areRight 3 = .ok (.istore_n 3, 1) := by decide +kernel
theorem dX11_areRight_4 : decode cX11_areRight 4 = .ok (.iload_n 3, 1) := by decide +kernel
theorem dX11_areRight_5 : decode cX11_areRight 5 = .ok (.aload_n 0, 1) := by decide +kernel
theorem dX11_areRight_6 : decode cX11_areRight 6 = .ok (.getfield 13, 3) := by decide +kernel
theorem dX11_areRight_9 : decode cX11_areRight 9 = .ok (.iload_n 1, 1) := by decide +kernel
theorem dX11_areRight_10 : decode cX11_areRight 10 = .ok (.iaload, 1) := by decide +kernel
theorem dX11_areRight_11 : decode cX11_areRight 11 = .ok (.if_icmp .gt 110, 3) := by decide +kernel
theorem dX11_areRight_14 : decode cX11_areRight 14 = .ok (.aload_n 0, 1) := by decide +kernel
theorem dX11_areRight_15 : decode cX11_areRight 15 = .ok (.getfield 23, 3) := by decide +kernel
theorem dX11_areRight_18 : decode cX11_areRight 18 = .ok (.bipush 13, 2) := by decide +kernel
theorem dX11_areRight_20 : decode cX11_areRight 20 = .ok (.iload_n 1, 1) := by decide +kernel
theorem dX11_areRight_21 : decode cX11_areRight 21 = .ok (.imul, 1) := by decide +kernel
theorem dX11_areRight_22 : decode cX11_areRight 22 = .ok (.iload_n 3, 1) := by decide +kernel
theorem dX11_areRight_23 : decode cX11_areRight 23 = .ok (.iadd, 1) := by decide +kernel
theorem dX11_areRight_24 : decode cX11_areRight 24 = .ok (.iaload, 1) := by decide +kernel
theorem dX11_areRight_25 : decode cX11_areRight 25 = .ok (.istore 4, 2) := by decide +kernel
theorem dX11_areRight_27 : decode cX11_areRight 27 = .ok (.iconst 0, 1) := by decide +kernel
theorem dX11_areRight_28 : decode cX11_areRight 28 = .ok (.istore 5, 2) := by decide +kernel
theorem dX11_areRight_30 : decode cX11_areRight 30 = .ok (.iconst 1, 1) := by decide +kernel
theorem dX11_areRight_31 : decode cX11_areRight 31 = .ok (.istore 6, 2) := by decide +kernel
theorem dX11_areRight_33 : decode cX11_areRight 33 = .ok (.iload 6, 2) := by decide +kernel
theorem dX11_areRight_35 : decode cX11_areRight 35 = .ok (.aload_n 0, 1) := by decide +kernel
theorem dX11_areRight_36 : decode cX11_areRight 36 = .ok (.getfield 13, 3) := by decide +kernel
theorem dX11_areRight_39 : decode cX11_areRight 39 = .ok (.iload_n 1, 1) := by decide +kernel
theorem dX11_areRight_40 : decode cX11_areRight 40 = .ok (.iaload, 1) := by decide +kernel
theorem dX11_areRight_41 : decode cX11_areRight 41 = .ok (.if_icmp .gt 45, 3) := by decide +kernel
theorem dX11_areRight_44 : decode cX11_areRight 44 = .ok (.aload_n 0, 1) := by decide +kernel
theorem dX11_areRight_45 : decode cX11_areRight 45 = .ok (.getfield 23, 3) := by decide +kernel
theorem dX11_areRight_48 : decode cX11_areRight 48 = .ok (.bipush 13, 2) := by decide +kernel
theorem dX11_areRight_50 : decode cX11_areRight 50 = .ok (.iload_n 1, 1) := by decide +kernel
theorem dX11_areRight_51 : decode cX11_areRight 51 = .ok (.imul, 1) := by decide +kernel
theorem dX11_areRight_52 : decode cX11_areRight 52 = .ok (.iload 6, 2) := by decide +kernel
theorem dX11_areRight_54 : decode cX11_areRight 54 = .ok (.iadd, 1) := by decide +kernel
theorem dX11_areRight_55 : decode cX11_areRight 55 = .ok (.iaload, 1) := by decide +kernel
theorem dX11_areRight_56 : decode cX11_areRight 56 = .ok (.istore 7, 2) := by decide +kernel
theorem dX11_areRight_58 : decode cX11_areRight 58 = .ok (.iload 5, 2) := by decide +kernel
theorem dX11_areRight_60 : decode cX11_areRight 60 = .ok (.iload 7, 2) := by decide +kernel
theorem dX11_areRight_62 : decode cX11_areRight 62 = .ok (.ifCond .le 14, 3) := by decide +kernel
theorem dX11_areRight_65 : decode cX11_areRight 65 = .ok (.iload 7, 2) := by decide +kernel
theorem dX11_areRight_67 : decode cX11_areRight 67 = .ok (.iload 4, 2) := by decide +kernel
theorem dX11_areRight_69 : decode cX11_areRight 69 = .ok (.if_icmp .ge 7, 3) := by decide +kernel
theorem dX11_areRight_72 : decode cX11_areRight 72 = .ok (.iconst 1, 1) := by decide +kernel
theorem dX11_areRight_73 : decode cX11_areRight 73 = .ok (.goto 4, 3) := by decide +kernel
theorem dX11_areRight_76 : decode cX11_areRight 76 = .ok (.iconst 0, 1) := by decide +kernel
theorem dX11_areRight_77 : decode cX11_areRight 77 = .ok (.iadd, 1) := by decide +kernel
theorem dX11_areRight_78 : decode cX11_areRight 78 = .ok (.istore 5, 2) := by decide +kernel
theorem dX11_areRight_80 : decode cX11_areRight 80 = .ok (.iinc 6 1, 3) := by decide +kernel
theorem dX11_areRight_83 : decode cX11_areRight 83 = .ok (.goto (-50), 3) := by decide +kernel
theorem dX11_areRight_86 : decode cX11_areRight 86 = .ok (.iload 4, 2) := by decide +kernel
theorem dX11_areRight_88 : decode cX11_areRight 88 = .ok (.ifCond .le 14, 3) := by decide +kernel
theorem dX11_areRight_91 : decode cX11_areRight 91 = .ok (.iload 5, 2) := by decide +kernel
theorem dX11_areRight_93 : decode cX11_areRight 93 = .ok (.iload 4, 2) := by decide +kernel
theorem dX11_areRight_95 : decode cX11_areRight 95 = .ok (.iconst 1, 1) := by decide +kernel
theorem dX11_areRight_96 : decode cX11_areRight 96 = .ok (.isub, 1) := by decide +kernel
theorem dX11_areRight_97 : decode cX11_areRight 97 = .ok (.if_icmp .eq 5, 3) := by decide +kernel
theorem dX11_areRight_100 : decode cX11_areRight 100 = .ok (.iconst 0, 1) := by decide +kernel
theorem dX11_areRight_101 : decode cX11_areRight 101 = .ok (.ireturn, 1) := by decide +kernel
theorem dX11_areRight_102 : decode cX11_areRight 102 = .ok (.iload_n 2, 1) := by decide +kernel
theorem dX11_areRight_103 : decode cX11_areRight 103 = .ok (.iload 4, 2) := by decide +kernel
theorem dX11_areRight_105 : decode cX11_areRight 105 = .ok (.ifCond .le 7, 3) := by decide +kernel
theorem dX11_areRight_108 : decode cX11_areRight 108 = .ok (.iconst 1, 1) := by decide +kernel
theorem dX11_areRight_109 : decode cX11_areRight 109 = .ok (.goto 4, 3) := by decide +kernel
theorem dX11_areRight_112 : decode cX11_areRight 112 = .ok (.iconst 0, 1) := by decide +kernel
theorem dX11_areRight_113 : decode cX11_areRight 113 = .ok (.iadd, 1) := by decide +kernel
theorem dX11_areRight_114 : decode cX11_areRight 114 = .ok (.istore_n 2, 1) := by decide +kernel
theorem dX11_areRight_115 : decode cX11_areRight 115 = .ok (.iinc 3 1, 3) := by decide +kernel
theorem dX11_areRight_118 : decode cX11_areRight 118 = .ok (.goto (-114), 3) := by decide +kernel
theorem dX11_areRight_121 : decode cX11_areRight 121 = .ok (.aload_n 0, 1) := by decide +kernel
theorem dX11_areRight_122 : decode cX11_areRight 122 = .ok (.iload_n 1, 1) := by decide +kernel
theorem dX11_areRight_123 : decode cX11_areRight 123 = .ok (.invokevirtual 212, 3) := by decide +kernel
theorem dX11_areRight_126 : decode cX11_areRight 126 = .ok (.istore_n 3, 1) := by decide +kernel
theorem dX11_areRight_127 : decode cX11_areRight 127 = .ok (.iload_n 2, 1) := by decide +kernel
theorem dX11_areRight_128 : decode cX11_areRight 128 = .ok (.iload_n 3, 1) := by decide +kernel
theorem dX11_areRight_129 : decode cX11_areRight 129 = .ok (.iconst 3, 1) := by decide +kernel
theorem dX11_areRight_130 : decode cX11_areRight 130 = .ok (.if_icmp .ge 7, 3) := by decide +kernel
theorem dX11_areRight_133 : decode cX11_areRight 133 = .ok (.iload_n 3, 1) := by decide +kernel
theorem dX11_areRight_134 : decode cX11_areRight 134 = .ok (.goto 4, 3) := by decide +kernel
theorem dX11_areRight_137 : decode cX11_areRight 137 = .ok (.iconst 3, 1) := by decide +kernel
theorem dX11_areRight_138 : decode cX11_areRight 138 = .ok (.if_icmp .lt 7, 3) := by decide +kernel
theorem dX11_areRight_141 : decode cX11_areRight 141 = .ok (.iconst 1, 1) := by decide +kernel
theorem dX11_areRight_142 : decode cX11_areRight 142 = .ok (.goto 4, 3) := by decide +kernel
theorem dX11_areRight_145 : decode cX11_areRight 145 = .ok (.iconst 0, 1) := by decide +kernel
theorem dX11_areRight_146 : decode cX11_areRight 146 = .ok (.ireturn, 1) := by decide +kernel
theorem dX11_takePositions_0 : decode cX11_takePositions 0 = .ok (.iconst 0, 1) := by decide +kernel
theorem dX11_takePositions_1 : decode cX11_takePositions 1 = .ok (.istore_n 3, 1) := by decide +kernel
theorem dX11_takePositions_2 : decode cX11_takePositions 2 = .ok (.iload_n 3, 1) := by decide +kernel
theorem dX11_takePositions_3 : decode cX11_takePositions 3 = .ok (.bipush 13, 2) := by decide +kernel
theorem dX11_takePositions_5 : decode cX11_takePositions 5 = .ok (.if_icmp .ge 41, 3) := by decide +kernel
theorem dX11_takePositions_8 : decode cX11_takePositions 8 = .ok (.aload_n 2, 1) := by decide +kernel
theorem dX11_takePositions_9 : decode cX11_takePositions 9 = .ok (.iload_n 3, 1) := by decide +kernel
theorem dX11_takePositions_10 : decode cX11_takePositions 10 = .ok (.iload_n 3, 1) := by decide +kernel
theorem dX11_takePositions_11 : decode cX11_takePositions 11 = .ok (.ifCond .le 27, 3) := by decide +kernel
theorem dX11_takePositions_14 : decode cX11_takePositions 14 = .ok (.iload_n 3, 1) := by decide +kernel
theorem dX11_takePositions_15 : decode cX11_takePositions 15 = .ok (.aload_n 0, 1) := by decide +kernel
theorem dX11_takePositions_16 : decode cX11_takePositions 16 = .ok (.getfield 13, 3) := by decide +kernel
theorem dX11_takePositions_19 : decode cX11_takePositions 19 = .ok (.iload_n 1, 1) := by decide +kernel
theorem dX11_takePositions_20 : decode cX11_takePositions 20 = .ok (.iaload, 1) := by decide +kernel
theorem dX11_takePositions_21 : decode cX11_takePositions 21 = .ok (.if_icmp .gt 17, 3) := by decide +kernel
theorem dX11_takePositions_24 : decode cX11_takePositions 24 = .ok (.aload_n 0, 1) := by decide +kernel
theorem dX11_takePositions_25 : decode cX11_takePositions 25 = .ok (.getfield 23, 3) := by decide +kernel
theorem dX11_takePositions_28 : decode cX11_takePositions 28 = .ok (.bipush 13, 2) := by decide +kernel
theorem dX11_takePositions_30 : decode cX11_takePositions 30 = .ok (.iload_n 1, 1) := by decide +kernel
theorem dX11_takePositions_31 : decode cX11_takePositions 31 = .ok (.imul, 1) := by decide +kernel
theorem dX11_takePositions_32 : decode cX11_takePositions 32 = .ok (.iload_n 3, 1) := by decide +kernel
theorem dX11_takePositions_33 : decode cX11_takePositions 33 = .ok (.iadd, 1) := by decide +kernel
theorem dX11_takePositions_34 : decode cX11_takePositions 34 = .ok (.iaload, 1) := by decide +kernel
theorem dX11_takePositions_35 : decode cX11_takePositions 35 = .ok (.goto 4, 3) := by decide +kernel
theorem dX11_takePositions_38 : decode cX11_takePositions 38 = .ok (.iconst 0, 1) := by decide +kernel
theorem dX11_takePositions_39 : decode cX11_takePositions 39 = .ok (.iastore, 1) := by decide +kernel
theorem dX11_takePositions_40 : decode cX11_takePositions 40 = .ok (.iinc 3 1, 3) := by decide +kernel
theorem dX11_takePositions_43 : decode cX11_takePositions 43 = .ok (.goto (-41), 3) := by decide +kernel
theorem dX11_takePositions_46 : decode cX11_takePositions 46 = .ok (.return_, 1) := by decide +kernel
theorem dX11_group_0 : decode cX11_group 0 = .ok (.aload_n 0, 1) := by decide +kernel
theorem dX11_group_1 : decode cX11_group 1 = .ok (.getfield 215, 3) := by decide +kernel
theorem dX11_group_4 : decode cX11_group 4 = .ok (.istore_n 2, 1) := by decide +kernel
theorem dX11_group_5 : decode cX11_group 5 = .ok (.iconst 0, 1) := by decide +kernel
theorem dX11_group_6 : decode cX11_group 6 = .ok (.istore_n 3, 1) := by decide +kernel
theorem dX11_group_7 : decode cX11_group 7 = .ok (.iload_n 3, 1) := by decide +kernel
theorem dX11_group_8 : decode cX11_group 8 = .ok (.aload_n 0, 1) := by decide +kernel
theorem dX11_group_9 : decode cX11_group 9 = .ok (.getfield 205, 3) := by decide +kernel
theorem dX11_group_12 : decode cX11_group 12 = .ok (.if_icmp .ge 179, 3) := by decide +kernel
theorem dX11_group_15 : decode cX11_group 15 = .ok (.aload_n 0, 1) := by decide +kernel
theorem dX11_group_16 : decode cX11_group 16 = .ok (.getfield 68, 3) := by decide +kernel
theorem dX11_group_19 : decode cX11_group 19 = .ok (.iload_n 3, 1) := by decide +kernel
theorem dX11_group_20 : decode cX11_group 20 = .ok (.iaload, 1) := by decide +kernel
theorem dX11_group_21 : decode cX11_group 21 = .ok (.iload_n 1, 1) := by decide +kernel
theorem dX11_group_22 : decode cX11_group 22 = .ok (.if_icmp .ne 163, 3) := by decide +kernel
theorem dX11_group_25 : decode cX11_group 25 = .ok (.aload_n 0, 1) := by decide +kernel
theorem dX11_group_26 : decode cX11_group 26 = .ok (.getfield 83, 3) := by decide +kernel
theorem dX11_group_29 : decode cX11_group 29 = .ok (.iload_n 3, 1) := by decide +kernel
theorem dX11_group_30 : decode cX11_group 30 = .ok (.iaload, 1) := by decide +kernel
theorem dX11_group_31 : decode cX11_group 31 = .ok (.ifCond .eq 6, 3) := by decide +kernel
theorem dX11_group_34 : decode cX11_group 34 = .ok (.goto 151, 3) := by decide +kernel
theorem dX11_group_37 : decode cX11_group 37 = .ok (.iload_n 2, 1) := by decide +kernel
theorem dX11_group_38 : decode cX11_group 38 = .ok (.istore 4, 2) := by decide +kernel
theorem dX11_group_40 : decode cX11_group 40 = .ok (.iload 4, 2) := by decide +kernel
theorem dX11_group_42 : decode cX11_group 42 = .ok (.aload_n 0, 1) := by decide +kernel
theorem dX11_group_43 : decode cX11_group 43 = .ok (.getfield 215, 3) := by decide +kernel
theorem dX11_group_46 : decode cX11_group 46 = .ok (.if_icmp .ge 57, 3) := by decide +kernel
theorem dX11_group_49 : decode cX11_group 49 = .ok (.aload_n 0, 1) := by decide +kernel
theorem dX11_group_50 : decode cX11_group 50 = .ok (.getfield 101, 3) := by decide +kernel
theorem dX11_group_53 : decode cX11_group 53 = .ok (.iload 4, 2) := by decide +kernel
theorem dX11_group_55 : decode cX11_group 55 = .ok (.iaload, 1) := by decide +kernel
theorem dX11_group_56 : decode cX11_group 56 = .ok (.aload_n 0, 1) := by decide +kernel
theorem dX11_group_57 : decode cX11_group 57 = .ok (.getfield 71, 3) := by decide +kernel
theorem dX11_group_60 : decode cX11_group 60 = .ok (.iload_n 3, 1) := by decide +kernel
theorem dX11_group_61 : decode cX11_group 61 = .ok (.iaload, 1) := by decide +kernel
theorem dX11_group_62 : decode cX11_group 62 = .ok (.if_icmp .ne 35, 3) := by decide +kernel
theorem dX11_group_65 : decode cX11_group 65 = .ok (.aload_n 0, 1) := by decide +kernel
theorem dX11_group_66 : decode cX11_group 66 = .ok (.getfield 104, 3) := by decide +kernel
theorem dX11_group_69 : decode cX11_group 69 = .ok (.iload 4, 2) := by decide +kernel
theorem dX11_group_71 : decode cX11_group 71 = .ok (.iaload, 1) := by decide +kernel
theorem dX11_group_72 : decode cX11_group 72 = .ok (.aload_n 0, 1) := by decide +kernel
theorem dX11_group_73 : decode cX11_group 73 = .ok (.getfield 74, 3) := by decide +kernel
theorem dX11_group_76 : decode cX11_group 76 = .ok (.iload_n 3, 1) := by decide +kernel
theorem dX11_group_77 : decode cX11_group 77 = .ok (.iaload, 1) := by decide +kernel
theorem dX11_group_78 : decode cX11_group 78 = .ok (.if_icmp .ne 19, 3) := by decide +kernel
theorem dX11_group_81 : decode cX11_group 81 = .ok (.aload_n 0, 1) := by decide +kernel
theorem dX11_group_82 : decode cX11_group 82 = .ok (.getfield 107, 3) := by decide +kernel
theorem dX11_group_85 : decode cX11_group 85 = .ok (.iload 4, 2) := by decide +kernel
theorem dX11_group_87 : decode cX11_group 87 = .ok (.iaload, 1) := by decide +kernel
theorem dX11_group_88 : decode cX11_group 88 = .ok (.aload_n 0, 1) := by decide +kernel
theorem dX11_group_89 : decode cX11_group 89 = .ok (.getfield 77, 3) := by decide +kernel
theorem dX11_group_92 : decode cX11_group 92 = .ok (.iload_n 3, 1) := by decide +kernel
theorem dX11_group_93 : decode cX11_group 93 = .ok (.iaload, 1) := by decide +kernel
theorem dX11_group_94 : decode cX11_group 94 = .ok (.if_icmp .eq 9, 3) := by decide +kernel
theorem dX11_group_97 : decode cX11_group 97 = .ok (.iinc 4 1, 3) := by decide +kernel
theorem dX11_group_100 : decode cX11_group 100 = .ok (.goto (-60), 3) := by decide +kernel
theorem dX11_group_103 : decode cX11_group 103 = .ok (.iload 4, 2) := by decide +kernel
theorem dX11_group_105 : decode cX11_group 105 = .ok (.aload_n 0, 1) := by decide +kernel
theorem dX11_group_106 : decode cX11_group 106 = .ok (.getfield 215, 3) := by decide +kernel
theorem dX11_group_109 : decode cX11_group 109 = .ok (.if_icmp .ne 60, 3) := by decide +kernel
theorem dX11_group_112 : decode cX11_group 112 = .ok (.aload_n 0, 1) := by decide +kernel
theorem dX11_group_113 : decode cX11_group 113 = .ok (.getfield 101, 3) := by decide +kernel
theorem dX11_group_116 : decode cX11_group 116 = .ok (.iload 4, 2) := by decide +kernel
theorem dX11_group_118 : decode cX11_group 118 = .ok (.aload_n 0, 1) := by decide +kernel
theorem dX11_group_119 : decode cX11_group 119 = .ok (.getfield 71, 3) := by decide +kernel
theorem dX11_group_122 : decode cX11_group 122 = .ok (.iload_n 3, 1) := by decide +kernel
theorem dX11_group_123 : decode cX11_group 123 = .ok (.iaload, 1) := by decide +kernel
theorem dX11_group_124 : decode cX11_group 124 = .ok (.iastore, 1) := by decide +kernel
theorem dX11_group_125 : decode cX11_group 125 = .ok (.aload_n 0, 1) := by decide +kernel
theorem dX11_group_126 : decode cX11_group 126 = .ok (.getfield 104, 3) := by decide +kernel
theorem dX11_group_129 : decode cX11_group 129 = .ok (.iload 4, 2) := by decide +kernel
theorem dX11_group_131 : decode cX11_group 131 = .ok (.aload_n 0, 1) := by decide +kernel
theorem dX11_group_132 : decode cX11_group 132 = .ok (.getfield 74, 3) := by decide +kernel
theorem dX11_group_135 : decode cX11_group 135 = .ok (.iload_n 3, 1) := by decide +kernel
theorem dX11_group_136 : decode cX11_group 136 = .ok (.iaload, 1) := by decide +kernel
theorem dX11_group_137 : decode cX11_group 137 = .ok (.iastore, 1) := by decide +kernel
theorem dX11_group_138 : decode cX11_group 138 = .ok (.aload_n 0, 1) := by decide +kernel
theorem dX11_group_139 : decode cX11_group 139 = .ok (.getfield 107, 3) := by decide +kernel
theorem dX11_group_142 : decode cX11_group 142 = .ok (.iload 4, 2) := by decide +kernel
theorem dX11_group_144 : decode cX11_group 144 = .ok (.aload_n 0, 1) := by decide +kernel
theorem dX11_group_145 : decode cX11_group 145 = .ok (.getfield 77, 3) := by decide +kernel
theorem dX11_group_148 : decode cX11_group 148 = .ok (.iload_n 3, 1) := by decide +kernel
theorem dX11_group_149 : decode cX11_group 149 = .ok (.iaload, 1) := by decide +kernel
theorem dX11_group_150 : decode cX11_group 150 = .ok (.iastore, 1) := by decide +kernel
theorem dX11_group_151 : decode cX11_group 151 = .ok (.aload_n 0, 1) := by decide +kernel
theorem dX11_group_152 : decode cX11_group 152 = .ok (.getfield 110, 3) := by decide +kernel
theorem dX11_group_155 : decode cX11_group 155 = .ok (.iload 4, 2) := by decide +kernel
theorem dX11_group_157 : decode cX11_group 157 = .ok (.iconst 0, 1) := by decide +kernel
theorem dX11_group_158 : decode cX11_group 158 = .ok (.iastore, 1) := by decide +kernel
theorem dX11_group_159 : decode cX11_group 159 = .ok (.aload_n 0, 1) := by decide +kernel
theorem dX11_group_160 : decode cX11_group 160 = .ok (.dup, 1) := by decide +kernel
theorem dX11_group_161 : decode cX11_group 161 = .ok (.getfield 215, 3) := by decide +kernel
theorem dX11_group_164 : decode cX11_group 164 = .ok (.iconst 1, 1) := by decide +kernel
theorem dX11_group_165 : decode cX11_group 165 = .ok (.iadd, 1) := by decide +kernel
theorem dX11_group_166 : decode cX11_group 166 = .ok (.putfield 215, 3) := by decide +kernel
theorem dX11_group_169 : decode cX11_group 169 = .ok (.aload_n 0, 1) := by decide +kernel
theorem dX11_group_170 : decode cX11_group 170 = .ok (.getfield 110, 3) := by decide +kernel
theorem dX11_group_173 : decode cX11_group 173 = .ok (.iload 4, 2) := by decide +kernel
theorem dX11_group_175 : decode cX11_group 175 = .ok (.dup2, 1) := by decide +kernel
theorem dX11_group_176 : decode cX11_group 176 = .ok (.iaload, 1) := by decide +kernel
theorem dX11_group_177 : decode cX11_group 177 = .ok (.aload_n 0, 1) := by decide +kernel
theorem dX11_group_178 : decode cX11_group 178 = .ok (.getfield 80, 3) := by decide +kernel
theorem dX11_group_181 : decode cX11_group 181 = .ok (.iload_n 3, 1) := by decide +kernel
theorem dX11_group_182 : decode cX11_group 182 = .ok (.iaload, 1) := by decide +kernel
theorem dX11_group_183 : decode cX11_group 183 = .ok (.iadd, 1) := by decide +kernel
theorem dX11_group_184 : decode cX11_group 184 = .ok (.iastore, 1) := by decide +kernel
theorem dX11_group_185 : decode cX11_group 185 = .ok (.iinc 3 1, 3) := by decide +kernel
theorem dX11_group_188 : decode cX11_group 188 = .ok (.goto (-181), 3) := by decide +kernel
theorem dX11_group_191 : decode cX11_group 191 = .ok (.return_, 1) := by decide +kernel
theorem dX11_kindOf_0 : decode cX11_kindOf 0 = .ok (.iload_n 0, 1) := by decide +kernel
theorem dX11_kindOf_1 : decode cX11_kindOf 1 = .ok (.bipush 48, 2) := by decide +kernel
theorem dX11_kindOf_3 : decode cX11_kindOf 3 = .ok (.if_icmp .ne 7, 3) := by decide +kernel
theorem dX11_kindOf_6 : decode cX11_kindOf 6 = .ok (.iconst 4, 1) := by decide +kernel
theorem dX11_kindOf_7 : decode cX11_kindOf 7 = .ok (.goto 6, 3) := by decide +kernel
theorem dX11_kindOf_10 : decode cX11_kindOf 10 = .ok (.iload_n 0, 1) := by decide +kernel
theorem dX11_kindOf_11 : decode cX11_kindOf 11 = .ok (.iconst 4, 1) := by decide +kernel
theorem dX11_kindOf_12 : decode cX11_kindOf 12 = .ok (.irem, 1) := by decide +kernel
theorem dX11_kindOf_13 : decode cX11_kindOf 13 = .ok (.ireturn, 1) := by decide +kernel
theorem dX11_isVoid_0 : decode cX11_isVoid 0 = .ok (.iload_n 1, 1) := by decide +kernel
theorem dX11_isVoid_1 : decode cX11_isVoid 1 = .ok (.invokestatic 218, 3) := by decide +kernel
theorem dX11_isVoid_4 : decode cX11_isVoid 4 = .ok (.istore_n 2, 1) := by decide +kernel
theorem dX11_isVoid_5 : decode cX11_isVoid 5 = .ok (.iload_n 2, 1) := by decide +kernel
theorem dX11_isVoid_6 : decode cX11_isVoid 6 = .ok (.iconst 1, 1) := by decide +kernel
theorem dX11_isVoid_7 : decode cX11_isVoid 7 = .ok (.if_icmp .ne 7, 3) := by decide +kernel
theorem dX11_isVoid_10 : decode cX11_isVoid 10 = .ok (.iconst 5, 1) := by decide +kernel
theorem dX11_isVoid_11 : decode cX11_isVoid 11 = .ok (.goto 22, 3) := by decide +kernel
theorem dX11_isVoid_14 : decode cX11_isVoid 14 = .ok (.iload_n 2, 1) := by decide +kernel
theorem dX11_isVoid_15 : decode cX11_isVoid 15 = .ok (.iconst 2, 1) := by decide +kernel
theorem dX11_isVoid_16 : decode cX11_isVoid 16 = .ok (.if_icmp .ne 7, 3) := by decide +kernel
theorem dX11_isVoid_19 : decode cX11_isVoid 19 = .ok (.iconst 2, 1) := by decide +kernel
theorem dX11_isVoid_20 : decode cX11_isVoid 20 = .ok (.goto 13, 3) := by decide +kernel
theorem dX11_isVoid_23 : decode cX11_isVoid 23 = .ok (.iload_n 2, 1) := by decide +kernel
theorem dX11_isVoid_24 : decode cX11_isVoid 24 = .ok (.iconst 3, 1) := by decide +kernel
theorem dX11_isVoid_25 : decode cX11_isVoid 25 = .ok (.if_icmp .ne 7, 3) := by decide +kernel
theorem dX11_isVoid_28 : decode cX11_isVoid 28 = .ok (.iconst 3, 1) := by decide +kernel
theorem dX11_isVoid_29 : decode cX11_isVoid 29 = .ok (.goto 4, 3) := by decide +kernel
theorem dX11_isVoid_32 : decode cX11_isVoid 32 = .ok (.iconst 0, 1) := by decide +kernel
theorem dX11_isVoid_33 : decode cX11_isVoid 33 = .ok (.istore_n 3, 1) := by decide +kernel
theorem dX11_isVoid_34 : decode cX11_isVoid 34 = .ok (.iload_n 3, 1) := by decide +kernel
theorem dX11_isVoid_35 : decode cX11_isVoid 35 = .ok (.ifCond .le 18, 3) := by decide +kernel
theorem dX11_isVoid_38 : decode cX11_isVoid 38 = .ok (.aload_n 0, 1) := by decide +kernel
theorem dX11_isVoid_39 : decode cX11_isVoid 39 = .ok (.iload_n 1, 1) := by decide +kernel
theorem dX11_isVoid_40 : decode cX11_isVoid 40 = .ok (.iconst 4, 1) := by decide +kernel
theorem dX11_isVoid_41 : decode cX11_isVoid 41 = .ok (.idiv, 1) := by decide +kernel
theorem dX11_isVoid_42 : decode cX11_isVoid 42 = .ok (.invokevirtual 212, 3) := by decide +kernel
theorem dX11_isVoid_45 : decode cX11_isVoid 45 = .ok (.iload_n 3, 1) := by decide +kernel
theorem dX11_isVoid_46 : decode cX11_isVoid 46 = .ok (.if_icmp .ge 7, 3) := by decide +kernel
theorem dX11_isVoid_49 : decode cX11_isVoid 49 = .ok (.iconst 1, 1) := by decide +kernel
theorem dX11_isVoid_50 : decode cX11_isVoid 50 = .ok (.goto 4, 3) := by decide +kernel
theorem dX11_isVoid_53 : decode cX11_isVoid 53 = .ok (.iconst 0, 1) := by decide +kernel
theorem dX11_isVoid_54 : decode cX11_isVoid 54 = .ok (.ireturn, 1) := by decide +kernel
theorem dX11_fits_0 : decode cX11_fits 0 = .ok (.aload_n 1, 1) := by decide +kernel
theorem dX11_fits_1 : decode cX11_fits 1 = .ok (.iload_n 2, 1) := by decide +kernel
theorem dX11_fits_2 : decode cX11_fits 2 = .ok (.iaload, 1) := by decide +kernel
theorem dX11_fits_3 : decode cX11_fits 3 = .ok (.ifCond .eq 44, 3) := by decide +kernel
theorem dX11_fits_6 : decode cX11_fits 6 = .ok (.iload_n 3, 1) := by decide +kernel
theorem dX11_fits_7 : decode cX11_fits 7 = .ok (.ifCond .le 18, 3) := by decide +kernel
theorem dX11_fits_10 : decode cX11_fits 10 = .ok (.aload_n 1, 1) := by decide +kernel
theorem dX11_fits_11 : decode cX11_fits 11 = .ok (.iload_n 3, 1) := by decide +kernel
theorem dX11_fits_12 : decode cX11_fits 12 = .ok (.iaload, 1) := by decide +kernel
theorem dX11_fits_13 : decode cX11_fits 13 = .ok (.ifCond .eq 34, 3) := by decide +kernel
theorem dX11_fits_16 : decode cX11_fits 16 = .ok (.aload_n 1, 1) := by decide +kernel
theorem dX11_fits_17 : decode cX11_fits 17 = .ok (.iload_n 3, 1) := by decide +kernel
theorem dX11_fits_18 : decode cX11_fits 18 = .ok (.iaload, 1) := by decide +kernel
theorem dX11_fits_19 : decode cX11_fits 19 = .ok (.aload_n 1, 1) := by decide +kernel
theorem dX11_fits_20 : decode cX11_fits 20 = .ok (.iload_n 2, 1) := by decide +kernel
theorem dX11_fits_21 : decode cX11_fits 21 = .ok (.iaload, 1) := by decide +kernel
theorem dX11_fits_22 : decode cX11_fits 22 = .ok (.if_icmp .lt 25, 3) := by decide +kernel
theorem dX11_fits_25 : decode cX11_fits 25 = .ok (.iload 4, 2) := by decide +kernel
theorem dX11_fits_27 : decode cX11_fits 27 = .ok (.ifCond .le 22, 3) := by decide +kernel
theorem dX11_fits_30 : decode cX11_fits 30 = .ok (.aload_n 1, 1) := by decide +kernel
theorem dX11_fits_31 : decode cX11_fits 31 = .ok (.iload 4, 2) := by decide +kernel
theorem dX11_fits_33 : decode cX11_fits 33 = .ok (.iaload, 1) := by decide +kernel
theorem dX11_fits_34 : decode cX11_fits 34 = .ok (.ifCond .eq 13, 3) := by decide +kernel
theorem dX11_fits_37 : decode cX11_fits 37 = .ok (.aload_n 1, 1) := by decide +kernel
theorem dX11_fits_38 : decode cX11_fits 38 = .ok (.iload 4, 2) := by decide +kernel
theorem dX11_fits_40 : decode cX11_fits 40 = .ok (.iaload, 1) := by decide +kernel
theorem dX11_fits_41 : decode cX11_fits 41 = .ok (.aload_n 1, 1) := by decide +kernel
theorem dX11_fits_42 : decode cX11_fits 42 = .ok (.iload_n 3, 1) := by decide +kernel
theorem dX11_fits_43 : decode cX11_fits 43 = .ok (.iaload, 1) := by decide +kernel
theorem dX11_fits_44 : decode cX11_fits 44 = .ok (.if_icmp .ge 5, 3) := by decide +kernel
theorem dX11_fits_47 : decode cX11_fits 47 = .ok (.iconst 0, 1) := by decide +kernel
theorem dX11_fits_48 : decode cX11_fits 48 = .ok (.ireturn, 1) := by decide +kernel
theorem dX11_fits_49 : decode cX11_fits 49 = .ok (.iload 4, 2) := by decide +kernel
theorem dX11_fits_51 : decode cX11_fits 51 = .ok (.ifCond .le 10, 3) := by decide +kernel
theorem dX11_fits_54 : decode cX11_fits 54 = .ok (.aload_n 1, 1) := by decide +kernel
theorem dX11_fits_55 : decode cX11_fits 55 = .ok (.iload 4, 2) := by decide +kernel
theorem dX11_fits_57 : decode cX11_fits 57 = .ok (.iaload, 1) := by decide +kernel
theorem dX11_fits_58 : decode cX11_fits 58 = .ok (.goto 16, 3) := by decide +kernel
theorem dX11_fits_61 : decode cX11_fits 61 = .ok (.iload_n 3, 1) := by decide +kernel
theorem dX11_fits_62 : decode cX11_fits 62 = .ok (.ifCond .le 9, 3) := by decide +kernel
theorem dX11_fits_65 : decode cX11_fits 65 = .ok (.aload_n 1, 1) := by decide +kernel
theorem dX11_fits_66 : decode cX11_fits 66 = .ok (.iload_n 3, 1) := by decide +kernel
theorem dX11_fits_67 : decode cX11_fits 67 = .ok (.iaload, 1) := by decide +kernel
theorem dX11_fits_68 : decode cX11_fits 68 = .ok (.goto 6, 3) := by decide +kernel
theorem dX11_fits_71 : decode cX11_fits 71 = .ok (.aload_n 1, 1) := by decide +kernel
theorem dX11_fits_72 : decode cX11_fits 72 = .ok (.iload_n 2, 1) := by decide +kernel
theorem dX11_fits_73 : decode cX11_fits 73 = .ok (.iaload, 1) := by decide +kernel
theorem dX11_fits_74 : decode cX11_fits 74 = .ok (.istore 5, 2) := by decide +kernel
theorem dX11_fits_76 : decode cX11_fits 76 = .ok (.iconst 1, 1) := by decide +kernel
theorem dX11_fits_77 : decode cX11_fits 77 = .ok (.istore 6, 2) := by decide +kernel
theorem dX11_fits_79 : decode cX11_fits 79 = .ok (.iload 6, 2) := by decide +kernel
theorem dX11_fits_81 : decode cX11_fits 81 = .ok (.bipush 13, 2) := by decide +kernel
theorem dX11_fits_83 : decode cX11_fits 83 = .ok (.if_icmp .ge 46, 3) := by decide +kernel
theorem dX11_fits_86 : decode cX11_fits 86 = .ok (.iload 6, 2) := by decide +kernel
theorem dX11_fits_88 : decode cX11_fits 88 = .ok (.iload_n 2, 1) := by decide +kernel
theorem dX11_fits_89 : decode cX11_fits 89 = .ok (.if_icmp .eq 34, 3) := by decide +kernel
theorem dX11_fits_92 : decode cX11_fits 92 = .ok (.iload 6, 2) := by decide +kernel
theorem dX11_fits_94 : decode cX11_fits 94 = .ok (.iload_n 3, 1) := by decide +kernel
theorem dX11_fits_95 : decode cX11_fits 95 = .ok (.if_icmp .eq 28, 3) := by decide +kernel
theorem dX11_fits_98 : decode cX11_fits 98 = .ok (.iload 6, 2) := by decide +kernel
theorem dX11_fits_100 : decode cX11_fits 100 = .ok (.iload 4, 2) := by decide +kernel
theorem dX11_fits_102 : decode cX11_fits 102 = .ok (.if_icmp .eq 21, 3) := by decide +kernel
theorem dX11_fits_105 : decode cX11_fits 105 = .ok (.aload_n 1, 1) := by decide +kernel
theorem dX11_fits_106 : decode cX11_fits 106 = .ok (.iload 6, 2) := by decide +kernel
theorem dX11_fits_108 : decode cX11_fits 108 = .ok (.iaload, 1) := by decide +kernel
theorem dX11_fits_109 : decode cX11_fits 109 = .ok (.ifCond .le 14, 3) := by decide +kernel
theorem dX11_fits_112 : decode cX11_fits 112 = .ok (.aload_n 1, 1) := by decide +kernel
theorem dX11_fits_113 : decode cX11_fits 113 = .ok (.iload 6, 2) := by decide +kernel
theorem dX11_fits_115 : decode cX11_fits 115 = .ok (.iaload, 1) := by decide +kernel
theorem dX11_fits_116 : decode cX11_fits 116 = .ok (.iload 5, 2) := by decide +kernel
theorem dX11_fits_118 : decode cX11_fits 118 = .ok (.if_icmp .ge 5, 3) := by decide +kernel
theorem dX11_fits_121 : decode cX11_fits 121 = .ok (.iconst 0, 1) := by decide +kernel
theorem dX11_fits_122 : decode cX11_fits 122 = .ok (.ireturn, 1) := by decide +kernel
theorem dX11_fits_123 : decode cX11_fits 123 = .ok (.iinc 6 1, 3) := by decide +kernel
theorem dX11_fits_126 : decode cX11_fits 126 = .ok (.goto (-47), 3) := by decide +kernel
theorem dX11_fits_129 : decode cX11_fits 129 = .ok (.iconst 1, 1) := by decide +kernel
theorem dX11_fits_130 : decode cX11_fits 130 = .ok (.ireturn, 1) := by decide +kernel
theorem dX11_wins_0 : decode cX11_wins 0 = .ok (.iload_n 1, 1) := by decide +kernel
theorem dX11_wins_1 : decode cX11_wins 1 = .ok (.invokestatic 218, 3) := by decide +kernel
theorem dX11_wins_4 : decode cX11_wins 4 = .ok (.tableswitch 132 0 3 #[32, 44, 85, 119], 32) := by decide +kernel
theorem dX11_wins_36 : decode cX11_wins 36 = .ok (.aload_n 0, 1) := by decide +kernel
theorem dX11_wins_37 : decode cX11_wins 37 = .ok (.aload_n 0, 1) := by decide +kernel
theorem dX11_wins_38 : decode cX11_wins 38 = .ok (.getfield 95, 3) := by decide +kernel
theorem dX11_wins_41 : decode cX11_wins 41 = .ok (.iload_n 2, 1) := by decide +kernel
theorem dX11_wins_42 : decode cX11_wins 42 = .ok (.iconst 0, 1) := by decide +kernel
theorem dX11_wins_43 : decode cX11_wins 43 = .ok (.iconst 0, 1) := by decide +kernel
theorem dX11_wins_44 : decode cX11_wins 44 = .ok (.invokevirtual 221, 3) := by decide +kernel
theorem dX11_wins_47 : decode cX11_wins 47 = .ok (.ireturn, 1) := by decide +kernel
theorem dX11_wins_48 : decode cX11_wins 48 = .ok (.aload_n 0, 1) := by decide +kernel
theorem dX11_wins_49 : decode cX11_wins 49 = .ok (.getfield 95, 3) := by decide +kernel
theorem dX11_wins_52 : decode cX11_wins 52 = .ok (.iload_n 2, 1) := by decide +kernel
theorem dX11_wins_53 : decode cX11_wins 53 = .ok (.iaload, 1) := by decide +kernel
theorem dX11_wins_54 : decode cX11_wins 54 = .ok (.ifCond .le 33, 3) := by decide +kernel
theorem dX11_wins_57 : decode cX11_wins 57 = .ok (.aload_n 0, 1) := by decide +kernel
theorem dX11_wins_58 : decode cX11_wins 58 = .ok (.getfield 95, 3) := by decide +kernel
theorem dX11_wins_61 : decode cX11_wins 61 = .ok (.iload_n 2, 1) := by decide +kernel
theorem dX11_wins_62 : decode cX11_wins 62 = .ok (.iaload, 1) := by decide +kernel
theorem dX11_wins_63 : decode cX11_wins 63 = .ok (.aload_n 0, 1) := by decide +kernel
theorem dX11_wins_64 : decode cX11_wins 64 = .ok (.iload_n 1, 1) := by decide +kernel
theorem dX11_wins_65 : decode cX11_wins 65 = .ok (.iconst 4, 1) := by decide +kernel
theorem dX11_wins_66 : decode cX11_wins 66 = .ok (.idiv, 1) := by decide +kernel
theorem dX11_wins_67 : decode cX11_wins 67 = .ok (.invokevirtual 212, 3) := by decide +kernel
theorem dX11_wins_70 : decode cX11_wins 70 = .ok (.bipush 8, 2) := by decide +kernel
theorem dX11_wins_72 : decode cX11_wins 72 = .ok (.if_icmp .ge 7, 3) := by decide +kernel
theorem dX11_wins_75 : decode cX11_wins 75 = .ok (.iconst 2, 1) := by decide +kernel
theorem dX11_wins_76 : decode cX11_wins 76 = .ok (.goto 4, 3) := by decide +kernel
theorem dX11_wins_79 : decode cX11_wins 79 = .ok (.iconst 3, 1) := by decide +kernel
theorem dX11_wins_80 : decode cX11_wins 80 = .ok (.if_icmp .gt 7, 3) := by decide +kernel
theorem dX11_wins_83 : decode cX11_wins 83 = .ok (.iconst 1, 1) := by decide +kernel
theorem dX11_wins_84 : decode cX11_wins 84 = .ok (.goto 4, 3) := by decide +kernel
theorem dX11_wins_87 : decode cX11_wins 87 = .ok (.iconst 0, 1) := by decide +kernel
theorem dX11_wins_88 : decode cX11_wins 88 = .ok (.ireturn, 1) := by decide +kernel
theorem dX11_wins_89 : decode cX11_wins 89 = .ok (.aload_n 0, 1) := by decide +kernel
theorem dX11_wins_90 : decode cX11_wins 90 = .ok (.aload_n 0, 1) := by decide +kernel
theorem dX11_wins_91 : decode cX11_wins 91 = .ok (.getfield 95, 3) := by decide +kernel
theorem dX11_wins_94 : decode cX11_wins 94 = .ok (.iload_n 2, 1) := by decide +kernel
theorem dX11_wins_95 : decode cX11_wins 95 = .ok (.iload_n 3, 1) := by decide +kernel
theorem dX11_wins_96 : decode cX11_wins 96 = .ok (.iconst 0, 1) := by decide +kernel
theorem dX11_wins_97 : decode cX11_wins 97 = .ok (.invokevirtual 221, 3) := by decide +kernel
theorem dX11_wins_100 : decode cX11_wins 100 = .ok (.ifCond .ne 17, 3) := by decide +kernel
theorem dX11_wins_103 : decode cX11_wins 103 = .ok (.aload_n 0, 1) := by decide +kernel
theorem dX11_wins_104 : decode cX11_wins 104 = .ok (.aload_n 0, 1) := by decide +kernel
theorem dX11_wins_105 : decode cX11_wins 105 = .ok (.getfield 95, 3) := by decide +kernel
theorem dX11_wins_108 : decode cX11_wins 108 = .ok (.iload_n 3, 1) := by decide +kernel
theorem dX11_wins_109 : decode cX11_wins 109 = .ok (.iload_n 2, 1) := by decide +kernel
theorem dX11_wins_110 : decode cX11_wins 110 = .ok (.iconst 0, 1) := by decide +kernel
theorem dX11_wins_111 : decode cX11_wins 111 = .ok (.invokevirtual 221, 3) := by decide +kernel
theorem dX11_wins_114 : decode cX11_wins 114 = .ok (.ifCond .eq 7, 3) := by decide +kernel
theorem dX11_wins_117 : decode cX11_wins 117 = .ok (.iconst 1, 1) := by decide +kernel
theorem dX11_wins_118 : decode cX11_wins 118 = .ok (.goto 4, 3) := by decide +kernel
theorem dX11_wins_121 : decode cX11_wins 121 = .ok (.iconst 0, 1) := by decide +kernel
theorem dX11_wins_122 : decode cX11_wins 122 = .ok (.ireturn, 1) := by decide +kernel
theorem dX11_wins_123 : decode cX11_wins 123 = .ok (.aload_n 0, 1) := by decide +kernel
theorem dX11_wins_124 : decode cX11_wins 124 = .ok (.aload_n 0, 1) := by decide +kernel
theorem dX11_wins_125 : decode cX11_wins 125 = .ok (.getfield 95, 3) := by decide +kernel
theorem dX11_wins_128 : decode cX11_wins 128 = .ok (.iload_n 2, 1) := by decide +kernel
theorem dX11_wins_129 : decode cX11_wins 129 = .ok (.iload_n 3, 1) := by decide +kernel
theorem dX11_wins_130 : decode cX11_wins 130 = .ok (.iload 4, 2) := by decide +kernel
theorem dX11_wins_132 : decode cX11_wins 132 = .ok (.invokevirtual 221, 3) := by decide +kernel
theorem dX11_wins_135 : decode cX11_wins 135 = .ok (.ireturn, 1) := by decide +kernel
theorem dX11_wins_136 : decode cX11_wins 136 = .ok (.aload_n 0, 1) := by decide +kernel
theorem dX11_wins_137 : decode cX11_wins 137 = .ok (.aload_n 0, 1) := by decide +kernel
theorem dX11_wins_138 : decode cX11_wins 138 = .ok (.getfield 95, 3) := by decide +kernel
theorem dX11_wins_141 : decode cX11_wins 141 = .ok (.iload_n 2, 1) := by decide +kernel
theorem dX11_wins_142 : decode cX11_wins 142 = .ok (.iconst 0, 1) := by decide +kernel
theorem dX11_wins_143 : decode cX11_wins 143 = .ok (.iconst 0, 1) := by decide +kernel
theorem dX11_wins_144 : decode cX11_wins 144 = .ok (.invokevirtual 221, 3) := by decide +kernel
theorem dX11_wins_147 : decode cX11_wins 147 = .ok (.ifCond .eq 21, 3) := by decide +kernel
theorem dX11_wins_150 : decode cX11_wins 150 = .ok (.aload_n 0, 1) := by decide +kernel
theorem dX11_wins_151 : decode cX11_wins 151 = .ok (.aload_n 0, 1) := by decide +kernel
theorem dX11_wins_152 : decode cX11_wins 152 = .ok (.getfield 98, 3) := by decide +kernel
theorem dX11_wins_155 : decode cX11_wins 155 = .ok (.iload_n 3, 1) := by decide +kernel
theorem dX11_wins_156 : decode cX11_wins 156 = .ok (.iconst 0, 1) := by decide +kernel
theorem dX11_wins_157 : decode cX11_wins 157 = .ok (.iconst 0, 1) := by decide +kernel
theorem dX11_wins_158 : decode cX11_wins 158 = .ok (.invokevirtual 221, 3) := by decide +kernel
theorem dX11_wins_161 : decode cX11_wins 161 = .ok (.ifCond .eq 7, 3) := by decide +kernel
theorem dX11_wins_164 : decode cX11_wins 164 = .ok (.iconst 1, 1) := by decide +kernel
theorem dX11_wins_165 : decode cX11_wins 165 = .ok (.goto 4, 3) := by decide +kernel
theorem dX11_wins_168 : decode cX11_wins 168 = .ok (.iconst 0, 1) := by decide +kernel
theorem dX11_wins_169 : decode cX11_wins 169 = .ok (.ireturn, 1) := by decide +kernel
theorem dX11_figure_0 : decode cX11_figure 0 = .ok (.aload_n 0, 1) := by decide +kernel
theorem dX11_figure_1 : decode cX11_figure 1 = .ok (.iconst 0, 1) := by decide +kernel
theorem dX11_figure_2 : decode cX11_figure 2 = .ok (.putfield 225, 3) := by decide +kernel
theorem dX11_figure_5 : decode cX11_figure 5 = .ok (.aload_n 0, 1) := by decide +kernel
theorem dX11_figure_6 : decode cX11_figure 6 = .ok (.iconst 0, 1) := by decide +kernel
theorem dX11_figure_7 : decode cX11_figure 7 = .ok (.putfield 228, 3) := by decide +kernel
theorem dX11_figure_10 : decode cX11_figure 10 = .ok (.iconst 0, 1) := by decide +kernel
theorem dX11_figure_11 : decode cX11_figure 11 = .ok (.istore 4, 2) := by decide +kernel
theorem dX11_figure_13 : decode cX11_figure 13 = .ok (.iload_n 2, 1) := by decide +kernel
theorem dX11_figure_14 : decode cX11_figure 14 = .ok (.istore 5, 2) := by decide +kernel
theorem dX11_figure_16 : decode cX11_figure 16 = .ok (.iload 5, 2) := by decide +kernel
theorem dX11_figure_18 : decode cX11_figure 18 = .ok (.iload_n 3, 1) := by decide +kernel
theorem dX11_figure_19 : decode cX11_figure 19 = .ok (.if_icmp .ge 140, 3) := by decide +kernel
theorem dX11_figure_22 : decode cX11_figure 22 = .ok (.aload_n 0, 1) := by decide +kernel
theorem dX11_figure_23 : decode cX11_figure 23 = .ok (.dup, 1) := by decide +kernel
theorem dX11_figure_24 : decode cX11_figure 24 = .ok (.getfield 228, 3) := by decide +kernel
theorem dX11_figure_27 : decode cX11_figure 27 = .ok (.aload_n 0, 1) := by decide +kernel
theorem dX11_figure_28 : decode cX11_figure 28 = .ok (.getfield 110, 3) := by decide +kernel
theorem dX11_figure_31 : decode cX11_figure 31 = .ok (.iload 5, 2) := by decide +kernel
theorem dX11_figure_33 : decode cX11_figure 33 = .ok (.iaload, 1) := by decide +kernel
theorem dX11_figure_34 : decode cX11_figure 34 = .ok (.aload_n 0, 1) := by decide +kernel
theorem dX11_figure_35 : decode cX11_figure 35 = .ok (.getfield 32, 3) := by decide +kernel
theorem dX11_figure_38 : decode cX11_figure 38 = .ok (.iload_n 1, 1) := by decide +kernel
theorem dX11_figure_39 : decode cX11_figure 39 = .ok (.iaload, 1) := by decide +kernel
theorem dX11_figure_40 : decode cX11_figure 40 = .ok (.imul, 1) := by decide +kernel
theorem dX11_figure_41 : decode cX11_figure 41 = .ok (.iadd, 1) := by decide +kernel
theorem dX11_figure_42 : decode cX11_figure 42 = .ok (.putfield 228, 3) := by decide +kernel
theorem dX11_figure_45 : decode cX11_figure 45 = .ok (.aload_n 0, 1) := by decide +kernel
theorem dX11_figure_46 : decode cX11_figure 46 = .ok (.iload_n 1, 1) := by decide +kernel
theorem dX11_figure_47 : decode cX11_figure 47 = .ok (.invokevirtual 231, 3) := by decide +kernel
theorem dX11_figure_50 : decode cX11_figure 50 = .ok (.ifCond .ne 36, 3) := by decide +kernel
theorem dX11_figure_53 : decode cX11_figure 53 = .ok (.aload_n 0, 1) := by decide +kernel
theorem dX11_figure_54 : decode cX11_figure 54 = .ok (.iload_n 1, 1) := by decide +kernel
theorem dX11_figure_55 : decode cX11_figure 55 = .ok (.aload_n 0, 1) := by decide +kernel
theorem dX11_figure_56 : decode cX11_figure 56 = .ok (.getfield 101, 3) := by decide +kernel
theorem dX11_figure_59 : decode cX11_figure 59 = .ok (.iload 5, 2) := by decide +kernel
theorem dX11_figure_61 : decode cX11_figure 61 = .ok (.iaload, 1) := by decide +kernel
theorem dX11_figure_62 : decode cX11_figure 62 = .ok (.aload_n 0, 1) := by decide +kernel
theorem dX11_figure_63 : decode cX11_figure 63 = .ok (.getfield 104, 3) := by decide +kernel
theorem dX11_figure_66 : decode cX11_figure 66 = .ok (.iload 5, 2) := by decide +kernel
theorem dX11_figure_68 : decode cX11_figure 68 = .ok (.iaload, 1) := by decide +kernel
theorem dX11_figure_69 : decode cX11_figure 69 = .ok (.aload_n 0, 1) := by decide +kernel
theorem dX11_figure_70 : decode cX11_figure 70 = .ok (.getfield 107, 3) := by decide +kernel
theorem dX11_figure_73 : decode cX11_figure 73 = .ok (.iload 5, 2) := by decide +kernel
theorem dX11_figure_75 : decode cX11_figure 75 = .ok (.iaload, 1) := by decide +kernel
theorem dX11_figure_76 : decode cX11_figure 76 = .ok (.invokevirtual 234, 3) := by decide +kernel
theorem dX11_figure_79 : decode cX11_figure 79 = .ok (.ifCond .eq 7, 3) := by decide +kernel
theorem dX11_figure_82 : decode cX11_figure 82 = .ok (.iconst 1, 1) := by decide +kernel
theorem dX11_figure_83 : decode cX11_figure 83 = .ok (.goto 4, 3) := by decide +kernel
theorem dX11_figure_86 : decode cX11_figure 86 = .ok (.iconst 0, 1) := by decide +kernel
theorem dX11_figure_87 : decode cX11_figure 87 = .ok (.istore 6, 2) := by decide +kernel
theorem dX11_figure_89 : decode cX11_figure 89 = .ok (.aload_n 0, 1) := by decide +kernel
theorem dX11_figure_90 : decode cX11_figure 90 = .ok (.getfield 113, 3) := by decide +kernel
theorem dX11_figure_93 : decode cX11_figure 93 = .ok (.iload 5, 2) := by decide +kernel
theorem dX11_figure_95 : decode cX11_figure 95 = .ok (.iload 6, 2) := by decide +kernel
theorem dX11_figure_97 : decode cX11_figure 97 = .ok (.ifCond .eq 7, 3) := by decide +kernel
theorem dX11_figure_100 : decode cX11_figure 100 = .ok (.iconst 1, 1) := by decide +kernel
theorem dX11_figure_101 : decode cX11_figure 101 = .ok (.goto 4, 3) := by decide +kernel
theorem dX11_figure_104 : decode cX11_figure 104 = .ok (.iconst 0, 1) := by decide +kernel
theorem dX11_figure_105 : decode cX11_figure 105 = .ok (.iastore, 1) := by decide +kernel
theorem dX11_figure_106 : decode cX11_figure 106 = .ok (.aload_n 0, 1) := by decide +kernel
theorem dX11_figure_107 : decode cX11_figure 107 = .ok (.dup, 1) := by decide +kernel
theorem dX11_figure_108 : decode cX11_figure 108 = .ok (.getfield 225, 3) := by decide +kernel
theorem dX11_figure_111 : decode cX11_figure 111 = .ok (.iload 6, 2) := by decide +kernel
theorem dX11_figure_113 : decode cX11_figure 113 = .ok (.ifCond .eq 7, 3) := by decide +kernel
theorem dX11_figure_116 : decode cX11_figure 116 = .ok (.iconst 1, 1) := by decide +kernel
theorem dX11_figure_117 : decode cX11_figure 117 = .ok (.goto 4, 3) := by decide +kernel
theorem dX11_figure_120 : decode cX11_figure 120 = .ok (.iconst 0, 1) := by decide +kernel
theorem dX11_figure_121 : decode cX11_figure 121 = .ok (.iadd, 1) := by decide +kernel
theorem dX11_figure_122 : decode cX11_figure 122 = .ok (.putfield 225, 3) := by decide +kernel
theorem dX11_figure_125 : decode cX11_figure 125 = .ok (.iload 4, 2) := by decide +kernel
theorem dX11_figure_127 : decode cX11_figure 127 = .ok (.iload 6, 2) := by decide +kernel
theorem dX11_figure_129 : decode cX11_figure 129 = .ok (.ifCond .eq 20, 3) := by decide +kernel
theorem dX11_figure_132 : decode cX11_figure 132 = .ok (.aload_n 0, 1) := by decide +kernel
theorem dX11_figure_133 : decode cX11_figure 133 = .ok (.getfield 110, 3) := by decide +kernel
theorem dX11_figure_136 : decode cX11_figure 136 = .ok (.iload 5, 2) := by decide +kernel
theorem dX11_figure_138 : decode cX11_figure 138 = .ok (.iaload, 1) := by decide +kernel
theorem dX11_figure_139 : decode cX11_figure 139 = .ok (.aload_n 0, 1) := by decide +kernel
theorem dX11_figure_140 : decode cX11_figure 140 = .ok (.getfield 32, 3) := by decide +kernel
theorem dX11_figure_143 : decode cX11_figure 143 = .ok (.iload_n 1, 1) := by decide +kernel
theorem dX11_figure_144 : decode cX11_figure 144 = .ok (.iaload, 1) := by decide +kernel
theorem dX11_figure_145 : decode cX11_figure 145 = .ok (.imul, 1) := by decide +kernel
theorem dX11_figure_146 : decode cX11_figure 146 = .ok (.goto 4, 3) := by decide +kernel
theorem dX11_figure_149 : decode cX11_figure 149 = .ok (.iconst 0, 1) := by decide +kernel
theorem dX11_figure_150 : decode cX11_figure 150 = .ok (.iadd, 1) := by decide +kernel
theorem dX11_figure_151 : decode cX11_figure 151 = .ok (.istore 4, 2) := by decide +kernel
theorem dX11_figure_153 : decode cX11_figure 153 = .ok (.iinc 5 1, 3) := by decide +kernel
theorem dX11_figure_156 : decode cX11_figure 156 = .ok (.goto (-140), 3) := by decide +kernel
theorem dX11_figure_159 : decode cX11_figure 159 = .ok (.aload_n 0, 1) := by decide +kernel
theorem dX11_figure_160 : decode cX11_figure 160 = .ok (.aload_n 0, 1) := by decide +kernel
theorem dX11_figure_161 : decode cX11_figure 161 = .ok (.getfield 228, 3) := by decide +kernel
theorem dX11_figure_164 : decode cX11_figure 164 = .ok (.i2l, 1) := by decide +kernel
theorem dX11_figure_165 : decode cX11_figure 165 = .ok (.aload_n 0, 1) := by decide +kernel
theorem dX11_figure_166 : decode cX11_figure 166 = .ok (.getfield 29, 3) := by decide +kernel
theorem dX11_figure_169 : decode cX11_figure 169 = .ok (.iload_n 1, 1) := by decide +kernel
theorem dX11_figure_170 : decode cX11_figure 170 = .ok (.iaload, 1) := by decide +kernel
theorem dX11_figure_171 : decode cX11_figure 171 = .ok (.i2l, 1) := by decide +kernel
theorem dX11_figure_172 : decode cX11_figure 172 = .ok (.lmul, 1) := by decide +kernel
theorem dX11_figure_173 : decode cX11_figure 173 = .ok (.ldc2_w 238, 3) := by decide +kernel
theorem dX11_figure_176 : decode cX11_figure 176 = .ok (.ldiv, 1) := by decide +kernel
theorem dX11_figure_177 : decode cX11_figure 177 = .ok (.l2i, 1) := by decide +kernel
theorem dX11_figure_178 : decode cX11_figure 178 = .ok (.putfield 240, 3) := by decide +kernel
theorem dX11_figure_181 : decode cX11_figure 181 = .ok (.aload_n 0, 1) := by decide +kernel
theorem dX11_figure_182 : decode cX11_figure 182 = .ok (.aload_n 0, 1) := by decide +kernel
theorem dX11_figure_183 : decode cX11_figure 183 = .ok (.getfield 228, 3) := by decide +kernel
theorem dX11_figure_186 : decode cX11_figure 186 = .ok (.aload_n 0, 1) := by decide +kernel
theorem dX11_figure_187 : decode cX11_figure 187 = .ok (.getfield 240, 3) := by decide +kernel
theorem dX11_figure_190 : decode cX11_figure 190 = .ok (.isub, 1) := by decide +kernel
theorem dX11_figure_191 : decode cX11_figure 191 = .ok (.aload_n 0, 1) := by decide +kernel
theorem dX11_figure_192 : decode cX11_figure 192 = .ok (.getfield 50, 3) := by decide +kernel
theorem dX11_figure_195 : decode cX11_figure 195 = .ok (.iload_n 1, 1) := by decide +kernel
theorem dX11_figure_196 : decode cX11_figure 196 = .ok (.iaload, 1) := by decide +kernel
theorem dX11_figure_197 : decode cX11_figure 197 = .ok (.iadd, 1) := by decide +kernel
theorem dX11_figure_198 : decode cX11_figure 198 = .ok (.putfield 243, 3) := by decide +kernel
theorem dX11_figure_201 : decode cX11_figure 201 = .ok (.aload_n 0, 1) := by decide +kernel
theorem dX11_figure_202 : decode cX11_figure 202 = .ok (.iconst 0, 1) := by decide +kernel
theorem dX11_figure_203 : decode cX11_figure 203 = .ok (.putfield 246, 3) := by decide +kernel
theorem dX11_figure_206 : decode cX11_figure 206 = .ok (.aload_n 0, 1) := by decide +kernel
theorem dX11_figure_207 : decode cX11_figure 207 = .ok (.iconst 0, 1) := by decide +kernel
theorem dX11_figure_208 : decode cX11_figure 208 = .ok (.putfield 249, 3) := by decide +kernel
theorem dX11_figure_211 : decode cX11_figure 211 = .ok (.aload_n 0, 1) := by decide +kernel
theorem dX11_figure_212 : decode cX11_figure 212 = .ok (.getfield 225, 3) := by decide +kernel
theorem dX11_figure_215 : decode cX11_figure 215 = .ok (.ifCond .ne 4, 3) := by decide +kernel
theorem dX11_figure_218 : decode cX11_figure 218 = .ok (.return_, 1) := by decide +kernel
theorem dX11_figure_219 : decode cX11_figure 219 = .ok (.iload_n 1, 1) := by decide +kernel
theorem dX11_figure_220 : decode cX11_figure 220 = .ok (.invokestatic 218, 3) := by decide +kernel
theorem dX11_figure_223 : decode cX11_figure 223 = .ok (.iconst 1, 1) := by decide +kernel
theorem dX11_figure_224 : decode cX11_figure 224 = .ok (.if_icmp .ne 7, 3) := by decide +kernel
theorem dX11_figure_227 : decode cX11_figure 227 = .ok (.iconst 1, 1) := by decide +kernel
theorem dX11_figure_228 : decode cX11_figure 228 = .ok (.goto 4, 3) := by decide +kernel
theorem dX11_figure_231 : decode cX11_figure 231 = .ok (.iconst 0, 1) := by decide +kernel
theorem dX11_figure_232 : decode cX11_figure 232 = .ok (.istore 5, 2) := by decide +kernel
theorem dX11_figure_234 : decode cX11_figure 234 = .ok (.iload 5, 2) := by decide +kernel
theorem dX11_figure_236 : decode cX11_figure 236 = .ok (.ifCond .eq 13, 3) := by decide +kernel
theorem dX11_figure_239 : decode cX11_figure 239 = .ok (.aload_n 0, 1) := by decide +kernel
theorem dX11_figure_240 : decode cX11_figure 240 = .ok (.getfield 243, 3) := by decide +kernel
theorem dX11_figure_243 : decode cX11_figure 243 = .ok (.iload 4, 2) := by decide +kernel
theorem dX11_figure_245 : decode cX11_figure 245 = .ok (.isub, 1) := by decide +kernel
theorem dX11_figure_246 : decode cX11_figure 246 = .ok (.goto 7, 3) := by decide +kernel
theorem dX11_figure_249 : decode cX11_figure 249 = .ok (.aload_n 0, 1) := by decide +kernel
theorem dX11_figure_250 : decode cX11_figure 250 = .ok (.getfield 243, 3) := by decide +kernel
theorem dX11_figure_253 : decode cX11_figure 253 = .ok (.istore 6, 2) := by decide +kernel
theorem dX11_figure_255 : decode cX11_figure 255 = .ok (.aload_n 0, 1) := by decide +kernel
theorem dX11_figure_256 : decode cX11_figure 256 = .ok (.iload 6, 2) := by decide +kernel
theorem dX11_figure_258 : decode cX11_figure 258 = .ok (.ifCond .ge 9, 3) := by decide +kernel
theorem dX11_figure_261 : decode cX11_figure 261 = .ok (.iload 6, 2) := by decide +kernel
theorem dX11_figure_263 : decode cX11_figure 263 = .ok (.ineg, 1) := by decide +kernel
theorem dX11_figure_264 : decode cX11_figure 264 = .ok (.goto 4, 3) := by decide +kernel
theorem dX11_figure_267 : decode cX11_figure 267 = .ok (.iconst 0, 1) := by decide +kernel
theorem dX11_figure_268 : decode cX11_figure 268 = .ok (.putfield 249, 3) := by decide +kernel
theorem dX11_figure_271 : decode cX11_figure 271 = .ok (.iload 6, 2) := by decide +kernel
theorem dX11_figure_273 : decode cX11_figure 273 = .ok (.ifCond .ge 7, 3) := by decide +kernel
theorem dX11_figure_276 : decode cX11_figure 276 = .ok (.iconst 0, 1) := by decide +kernel
theorem dX11_figure_277 : decode cX11_figure 277 = .ok (.goto 10, 3) := by decide +kernel
theorem dX11_figure_280 : decode cX11_figure 280 = .ok (.iload 6, 2) := by decide +kernel
theorem dX11_figure_282 : decode cX11_figure 282 = .ok (.aload_n 0, 1) := by decide +kernel
theorem dX11_figure_283 : decode cX11_figure 283 = .ok (.getfield 225, 3) := by decide +kernel
theorem dX11_figure_286 : decode cX11_figure 286 = .ok (.idiv, 1) := by decide +kernel
theorem dX11_figure_287 : decode cX11_figure 287 = .ok (.istore 7, 2) := by decide +kernel
theorem dX11_figure_289 : decode cX11_figure 289 = .ok (.iload_n 2, 1) := by decide +kernel
theorem dX11_figure_290 : decode cX11_figure 290 = .ok (.istore 8, 2) := by decide +kernel
theorem dX11_figure_292 : decode cX11_figure 292 = .ok (.iload 8, 2) := by decide +kernel
theorem dX11_figure_294 : decode cX11_figure 294 = .ok (.iload_n 3, 1) := by decide +kernel
theorem dX11_figure_295 : decode cX11_figure 295 = .ok (.if_icmp .ge 83, 3) := by decide +kernel
theorem dX11_figure_298 : decode cX11_figure 298 = .ok (.aload_n 0, 1) := by decide +kernel
theorem dX11_figure_299 : decode cX11_figure 299 = .ok (.getfield 113, 3) := by decide +kernel
theorem dX11_figure_302 : decode cX11_figure 302 = .ok (.iload 8, 2) := by decide +kernel
theorem dX11_figure_304 : decode cX11_figure 304 = .ok (.iaload, 1) := by decide +kernel
theorem dX11_figure_305 : decode cX11_figure 305 = .ok (.iconst 1, 1) := by decide +kernel
theorem dX11_figure_306 : decode cX11_figure 306 = .ok (.if_icmp .ne 66, 3) := by decide +kernel
theorem dX11_figure_309 : decode cX11_figure 309 = .ok (.aload_n 0, 1) := by decide +kernel
theorem dX11_figure_310 : decode cX11_figure 310 = .ok (.getfield 113, 3) := by decide +kernel
theorem dX11_figure_313 : decode cX11_figure 313 = .ok (.iload 8, 2) := by decide +kernel
theorem dX11_figure_315 : decode cX11_figure 315 = .ok (.iload 5, 2) := by decide +kernel
theorem dX11_figure_317 : decode cX11_figure 317 = .ok (.ifCond .eq 12, 3) := by decide +kernel
theorem dX11_figure_320 : decode cX11_figure 320 = .ok (.aload_n 0, 1) := by decide +kernel
theorem dX11_figure_321 : decode cX11_figure 321 = .ok (.getfield 32, 3) := by decide +kernel
theorem dX11_figure_324 : decode cX11_figure 324 = .ok (.iload_n 1, 1) := by decide +kernel
theorem dX11_figure_325 : decode cX11_figure 325 = .ok (.iaload, 1) := by decide +kernel
theorem dX11_figure_326 : decode cX11_figure 326 = .ok (.goto 4, 3) := by decide +kernel
theorem dX11_figure_329 : decode cX11_figure 329 = .ok (.iconst 0, 1) := by decide +kernel
theorem dX11_figure_330 : decode cX11_figure 330 = .ok (.iload 7, 2) := by decide +kernel
theorem dX11_figure_332 : decode cX11_figure 332 = .ok (.aload_n 0, 1) := by decide +kernel
theorem dX11_figure_333 : decode cX11_figure 333 = .ok (.getfield 110, 3) := by decide +kernel
theorem dX11_figure_336 : decode cX11_figure 336 = .ok (.iload 8, 2) := by decide +kernel
theorem dX11_figure_338 : decode cX11_figure 338 = .ok (.iaload, 1) := by decide +kernel
theorem dX11_figure_339 : decode cX11_figure 339 = .ok (.idiv, 1) := by decide +kernel
theorem dX11_figure_340 : decode cX11_figure 340 = .ok (.bipush 10, 2) := by decide +kernel
theorem dX11_figure_342 : decode cX11_figure 342 = .ok (.idiv, 1) := by decide +kernel
theorem dX11_figure_343 : decode cX11_figure 343 = .ok (.bipush 10, 2) := by decide +kernel
theorem dX11_figure_345 : decode cX11_figure 345 = .ok (.imul, 1) := by decide +kernel
theorem dX11_figure_346 : decode cX11_figure 346 = .ok (.iadd, 1) := by decide +kernel
theorem dX11_figure_347 : decode cX11_figure 347 = .ok (.iastore, 1) := by decide +kernel
theorem dX11_figure_348 : decode cX11_figure 348 = .ok (.aload_n 0, 1) := by decide +kernel
theorem dX11_figure_349 : decode cX11_figure 349 = .ok (.dup, 1) := by decide +kernel
theorem dX11_figure_350 : decode cX11_figure 350 = .ok (.getfield 246, 3) := by decide +kernel
theorem dX11_figure_353 : decode cX11_figure 353 = .ok (.aload_n 0, 1) := by decide +kernel
theorem dX11_figure_354 : decode cX11_figure 354 = .ok (.getfield 113, 3) := by decide +kernel
theorem dX11_figure_357 : decode cX11_figure 357 = .ok (.iload 8, 2) := by decide +kernel
theorem dX11_figure_359 : decode cX11_figure 359 = .ok (.iaload, 1) := by decide +kernel
theorem dX11_figure_360 : decode cX11_figure 360 = .ok (.aload_n 0, 1) := by decide +kernel
theorem dX11_figure_361 : decode cX11_figure 361 = .ok (.getfield 110, 3) := by decide +kernel
theorem dX11_figure_364 : decode cX11_figure 364 = .ok (.iload 8, 2) := by decide +kernel
theorem dX11_figure_366 : decode cX11_figure 366 = .ok (.iaload, 1) := by decide +kernel
theorem dX11_figure_367 : decode cX11_figure 367 = .ok (.imul, 1) := by decide +kernel
theorem dX11_figure_368 : decode cX11_figure 368 = .ok (.iadd, 1) := by decide +kernel
theorem dX11_figure_369 : decode cX11_figure 369 = .ok (.putfield 246, 3) := by decide +kernel
theorem dX11_figure_372 : decode cX11_figure 372 = .ok (.iinc 8 1, 3) := by decide +kernel
theorem dX11_figure_375 : decode cX11_figure 375 = .ok (.goto (-83), 3) := by decide +kernel
theorem dX11_figure_378 : decode cX11_figure 378 = .ok (.return_, 1) := by decide +kernel
theorem dX11_carry_0 : decode cX11_carry 0 = .ok (.aload_n 0, 1) := by decide +kernel
theorem dX11_carry_1 : decode cX11_carry 1 = .ok (.getfield 53, 3) := by decide +kernel
theorem dX11_carry_4 : decode cX11_carry 4 = .ok (.iload_n 1, 1) := by decide +kernel
theorem dX11_carry_5 : decode cX11_carry 5 = .ok (.iload_n 2, 1) := by decide +kernel
theorem dX11_carry_6 : decode cX11_carry 6 = .ok (.iastore, 1) := by decide +kernel
theorem dX11_carry_7 : decode cX11_carry 7 = .ok (.iload_n 1, 1) := by decide +kernel
theorem dX11_carry_8 : decode cX11_carry 8 = .ok (.iconst 4, 1) := by decide +kernel
theorem dX11_carry_9 : decode cX11_carry 9 = .ok (.idiv, 1) := by decide +kernel
theorem dX11_carry_10 : decode cX11_carry 10 = .ok (.iconst 1, 1) := by decide +kernel
theorem dX11_carry_11 : decode cX11_carry 11 = .ok (.iadd, 1) := by decide +kernel
theorem dX11_carry_12 : decode cX11_carry 12 = .ok (.istore_n 3, 1) := by decide +kernel
theorem dX11_carry_13 : decode cX11_carry 13 = .ok (.iload_n 3, 1) := by decide +kernel
theorem dX11_carry_14 : decode cX11_carry 14 = .ok (.aload_n 0, 1) := by decide +kernel
theorem dX11_carry_15 : decode cX11_carry 15 = .ok (.getfield 168, 3) := by decide +kernel
theorem dX11_carry_18 : decode cX11_carry 18 = .ok (.if_icmp .ge 47, 3) := by decide +kernel
theorem dX11_carry_21 : decode cX11_carry 21 = .ok (.aload_n 0, 1) := by decide +kernel
theorem dX11_carry_22 : decode cX11_carry 22 = .ok (.getfield 26, 3) := by decide +kernel
theorem dX11_carry_25 : decode cX11_carry 25 = .ok (.iconst 4, 1) := by decide +kernel
theorem dX11_carry_26 : decode cX11_carry 26 = .ok (.iload_n 3, 1) := by decide +kernel
theorem dX11_carry_27 : decode cX11_carry 27 = .ok (.imul, 1) := by decide +kernel
theorem dX11_carry_28 : decode cX11_carry 28 = .ok (.iconst 3, 1) := by decide +kernel
theorem dX11_carry_29 : decode cX11_carry 29 = .ok (.iadd, 1) := by decide +kernel
theorem dX11_carry_30 : decode cX11_carry 30 = .ok (.baload, 1) := by decide +kernel
theorem dX11_carry_31 : decode cX11_carry 31 = .ok (.ifCond .eq 28, 3) := by decide +kernel
theorem dX11_carry_34 : decode cX11_carry 34 = .ok (.aload_n 0, 1) := by decide +kernel
theorem dX11_carry_35 : decode cX11_carry 35 = .ok (.getfield 7, 3) := by decide +kernel
theorem dX11_carry_38 : decode cX11_carry 38 = .ok (.iload_n 3, 1) := by decide +kernel
theorem dX11_carry_39 : decode cX11_carry 39 = .ok (.iaload, 1) := by decide +kernel
theorem dX11_carry_40 : decode cX11_carry 40 = .ok (.iconst 2, 1) := by decide +kernel
theorem dX11_carry_41 : decode cX11_carry 41 = .ok (.if_icmp .eq 18, 3) := by decide +kernel
theorem dX11_carry_44 : decode cX11_carry 44 = .ok (.aload_n 0, 1) := by decide +kernel
theorem dX11_carry_45 : decode cX11_carry 45 = .ok (.getfield 50, 3) := by decide +kernel
theorem dX11_carry_48 : decode cX11_carry 48 = .ok (.iconst 4, 1) := by decide +kernel
theorem dX11_carry_49 : decode cX11_carry 49 = .ok (.iload_n 3, 1) := by decide +kernel
theorem dX11_carry_50 : decode cX11_carry 50 = .ok (.imul, 1) := by decide +kernel
theorem dX11_carry_51 : decode cX11_carry 51 = .ok (.iconst 3, 1) := by decide +kernel
theorem dX11_carry_52 : decode cX11_carry 52 = .ok (.iadd, 1) := by decide +kernel
theorem dX11_carry_53 : decode cX11_carry 53 = .ok (.dup2, 1) := by decide +kernel
theorem dX11_carry_54 : decode cX11_carry 54 = .ok (.iaload, 1) := by decide +kernel
theorem dX11_carry_55 : decode cX11_carry 55 = .ok (.iload_n 2, 1) := by decide +kernel
theorem dX11_carry_56 : decode cX11_carry 56 = .ok (.iadd, 1) := by decide +kernel
theorem dX11_carry_57 : decode cX11_carry 57 = .ok (.iastore, 1) := by decide +kernel
theorem dX11_carry_58 : decode cX11_carry 58 = .ok (.return_, 1) := by decide +kernel
theorem dX11_carry_59 : decode cX11_carry 59 = .ok (.iinc 3 1, 3) := by decide +kernel
theorem dX11_carry_62 : decode cX11_carry 62 = .ok (.goto (-49), 3) := by decide +kernel
theorem dX11_carry_65 : decode cX11_carry 65 = .ok (.aload_n 0, 1) := by decide +kernel
theorem dX11_carry_66 : decode cX11_carry 66 = .ok (.dup, 1) := by decide +kernel
theorem dX11_carry_67 : decode cX11_carry 67 = .ok (.getfield 252, 3) := by decide +kernel
theorem dX11_carry_70 : decode cX11_carry 70 = .ok (.iload_n 2, 1) := by decide +kernel
theorem dX11_carry_71 : decode cX11_carry 71 = .ok (.iadd, 1) := by decide +kernel
theorem dX11_carry_72 : decode cX11_carry 72 = .ok (.putfield 252, 3) := by decide +kernel
theorem dX11_carry_75 : decode cX11_carry 75 = .ok (.return_, 1) := by decide +kernel
theorem dX11_groupOf_0 : decode cX11_groupOf 0 = .ok (.iconst 0, 1) := by decide +kernel
theorem dX11_groupOf_1 : decode cX11_groupOf 1 = .ok (.istore_n 2, 1) := by decide +kernel
theorem dX11_groupOf_2 : decode cX11_groupOf 2 = .ok (.aload_n 0, 1) := by decide +kernel
theorem dX11_groupOf_3 : decode cX11_groupOf 3 = .ok (.getfield 101, 3) := by decide +kernel
theorem dX11_groupOf_6 : decode cX11_groupOf 6 = .ok (.iload_n 2, 1) := by decide +kernel
theorem dX11_groupOf_7 : decode cX11_groupOf 7 = .ok (.iaload, 1) := by decide +kernel
theorem dX11_groupOf_8 : decode cX11_groupOf 8 = .ok (.aload_n 0, 1) := by decide +kernel
theorem dX11_groupOf_9 : decode cX11_groupOf 9 = .ok (.getfield 71, 3) := by decide +kernel
theorem dX11_groupOf_12 : decode cX11_groupOf 12 = .ok (.iload_n 1, 1) := by decide +kernel
theorem dX11_groupOf_13 : decode cX11_groupOf 13 = .ok (.iaload, 1) := by decide +kernel
theorem dX11_groupOf_14 : decode cX11_groupOf 14 = .ok (.if_icmp .ne 33, 3) := by decide +kernel
theorem dX11_groupOf_17 : decode cX11_groupOf 17 = .ok (.aload_n 0, 1) := by decide +kernel
theorem dX11_groupOf_18 : decode cX11_groupOf 18 = .ok (.getfield 104, 3) := by decide +kernel
theorem dX11_groupOf_21 : decode cX11_groupOf 21 = .ok (.iload_n 2, 1) := by decide +kernel
theorem dX11_groupOf_22 : decode cX11_groupOf 22 = .ok (.iaload, 1) := by decide +kernel
theorem dX11_groupOf_23 : decode cX11_groupOf 23 = .ok (.aload_n 0, 1) := by decide +kernel
theorem dX11_groupOf_24 : decode cX11_groupOf 24 = .ok (.getfield 74, 3) := by decide +kernel
theorem dX11_groupOf_27 : decode cX11_groupOf 27 = .ok (.iload_n 1, 1) := by decide +kernel
theorem dX11_groupOf_28 : decode cX11_groupOf 28 = .ok (.iaload, 1) := by decide +kernel
theorem dX11_groupOf_29 : decode cX11_groupOf 29 = .ok (.if_icmp .ne 18, 3) := by decide +kernel
theorem dX11_groupOf_32 : decode cX11_groupOf 32 = .ok (.aload_n 0, 1) := by decide +kernel
theorem dX11_groupOf_33 : decode cX11_groupOf 33 = .ok (.getfield 107, 3) := by decide +kernel
theorem dX11_groupOf_36 : decode cX11_groupOf 36 = .ok (.iload_n 2, 1) := by decide +kernel
theorem dX11_groupOf_37 : decode cX11_groupOf 37 = .ok (.iaload, 1) := by decide +kernel
theorem dX11_groupOf_38 : decode cX11_groupOf 38 = .ok (.aload_n 0, 1) := by decide +kernel
theorem dX11_groupOf_39 : decode cX11_groupOf 39 = .ok (.getfield 77, 3) := by decide +kernel
theorem dX11_groupOf_42 : decode cX11_groupOf 42 = .ok (.iload_n 1, 1) := by decide +kernel
theorem dX11_groupOf_43 : decode cX11_groupOf 43 = .ok (.iaload, 1) := by decide +kernel
theorem dX11_groupOf_44 : decode cX11_groupOf 44 = .ok (.if_icmp .eq 9, 3) := by decide +kernel
theorem dX11_groupOf_47 : decode cX11_groupOf 47 = .ok (.iinc 2 1, 3) := by decide +kernel
theorem dX11_groupOf_50 : decode cX11_groupOf 50 = .ok (.goto (-48), 3) := by decide +kernel
theorem dX11_groupOf_53 : decode cX11_groupOf 53 = .ok (.iload_n 2, 1) := by decide +kernel
theorem dX11_groupOf_54 : decode cX11_groupOf 54 = .ok (.ireturn, 1) := by decide +kernel
theorem dX11_settle_0 : decode cX11_settle 0 = .ok (.aload_n 0, 1) := by decide +kernel
theorem dX11_settle_1 : decode cX11_settle 1 = .ok (.iconst 0, 1) := by decide +kernel
theorem dX11_settle_2 : decode cX11_settle 2 = .ok (.putfield 215, 3) := by decide +kernel
theorem dX11_settle_5 : decode cX11_settle 5 = .ok (.aload_n 0, 1) := by decide +kernel
theorem dX11_settle_6 : decode cX11_settle 6 = .ok (.iload_n 1, 1) := by decide +kernel
theorem dX11_settle_7 : decode cX11_settle 7 = .ok (.invokevirtual 255, 3) := by decide +kernel
theorem dX11_settle_10 : decode cX11_settle 10 = .ok (.aload_n 0, 1) := by decide +kernel
theorem dX11_settle_11 : decode cX11_settle 11 = .ok (.iload_n 1, 1) := by decide +kernel
theorem dX11_settle_12 : decode cX11_settle 12 = .ok (.iconst 0, 1) := by decide +kernel
theorem dX11_settle_13 : decode cX11_settle 13 = .ok (.aload_n 0, 1) := by decide +kernel
theorem dX11_settle_14 : decode cX11_settle 14 = .ok (.getfield 215, 3) := by decide +kernel
theorem dX11_settle_17 : decode cX11_settle 17 = .ok (.invokevirtual 258, 3) := by decide +kernel
theorem dX11_settle_20 : decode cX11_settle 20 = .ok (.aload_n 0, 1) := by decide +kernel
theorem dX11_settle_21 : decode cX11_settle 21 = .ok (.getfield 35, 3) := by decide +kernel
theorem dX11_settle_24 : decode cX11_settle 24 = .ok (.iload_n 1, 1) := by decide +kernel
theorem dX11_settle_25 : decode cX11_settle 25 = .ok (.iconst 1, 1) := by decide +kernel
theorem dX11_settle_26 : decode cX11_settle 26 = .ok (.bastore, 1) := by decide +kernel
theorem dX11_settle_27 : decode cX11_settle 27 = .ok (.iload_n 1, 1) := by decide +kernel
theorem dX11_settle_28 : decode cX11_settle 28 = .ok (.invokestatic 218, 3) := by decide +kernel
theorem dX11_settle_31 : decode cX11_settle 31 = .ok (.iconst 3, 1) := by decide +kernel
theorem dX11_settle_32 : decode cX11_settle 32 = .ok (.if_icmp .ne 7, 3) := by decide +kernel
theorem dX11_settle_35 : decode cX11_settle 35 = .ok (.iconst 1, 1) := by decide +kernel
theorem dX11_settle_36 : decode cX11_settle 36 = .ok (.goto 4, 3) := by decide +kernel
theorem dX11_settle_39 : decode cX11_settle 39 = .ok (.iconst 0, 1) := by decide +kernel
theorem dX11_settle_40 : decode cX11_settle 40 = .ok (.istore_n 2, 1) := by decide +kernel
theorem dX11_settle_41 : decode cX11_settle 41 = .ok (.aload_n 0, 1) := by decide +kernel
theorem dX11_settle_42 : decode cX11_settle 42 = .ok (.getfield 225, 3) := by decide +kernel
theorem dX11_settle_45 : decode cX11_settle 45 = .ok (.ifCond .ne 71, 3) := by decide +kernel
theorem dX11_settle_48 : decode cX11_settle 48 = .ok (.iload_n 2, 1) := by decide +kernel
theorem dX11_settle_49 : decode cX11_settle 49 = .ok (.ifCond .eq 11, 3) := by decide +kernel
theorem dX11_settle_52 : decode cX11_settle 52 = .ok (.aload_n 0, 1) := by decide +kernel
theorem dX11_settle_53 : decode cX11_settle 53 = .ok (.iload_n 1, 1) := by decide +kernel
theorem dX11_settle_54 : decode cX11_settle 54 = .ok (.invokevirtual 231, 3) := by decide +kernel
theorem dX11_settle_57 : decode cX11_settle 57 = .ok (.ifCond .eq 59, 3) := by decide +kernel
theorem dX11_settle_60 : decode cX11_settle 60 = .ok (.iconst 0, 1) := by decide +kernel
theorem dX11_settle_61 : decode cX11_settle 61 = .ok (.istore_n 3, 1) := by decide +kernel
theorem dX11_settle_62 : decode cX11_settle 62 = .ok (.iload_n 3, 1) := by decide +kernel
theorem dX11_settle_63 : decode cX11_settle 63 = .ok (.aload_n 0, 1) := by decide +kernel
theorem dX11_settle_64 : decode cX11_settle 64 = .ok (.getfield 205, 3) := by decide +kernel
theorem dX11_settle_67 : decode cX11_settle 67 = .ok (.if_icmp .ge 33, 3) := by decide +kernel
theorem dX11_settle_70 : decode cX11_settle 70 = .ok (.aload_n 0, 1) := by decide +kernel
theorem dX11_settle_71 : decode cX11_settle 71 = .ok (.getfield 68, 3) := by decide +kernel
theorem dX11_settle_74 : decode cX11_settle 74 = .ok (.iload_n 3, 1) := by decide +kernel
theorem dX11_settle_75 : decode cX11_settle 75 = .ok (.iaload, 1) := by decide +kernel
theorem dX11_settle_76 : decode cX11_settle 76 = .ok (.iload_n 1, 1) := by decide +kernel
theorem dX11_settle_77 : decode cX11_settle 77 = .ok (.if_icmp .ne 17, 3) := by decide +kernel
theorem dX11_settle_80 : decode cX11_settle 80 = .ok (.aload_n 0, 1) := by decide +kernel
theorem dX11_settle_81 : decode cX11_settle 81 = .ok (.getfield 83, 3) := by decide +kernel
theorem dX11_settle_84 : decode cX11_settle 84 = .ok (.iload_n 3, 1) := by decide +kernel
theorem dX11_settle_85 : decode cX11_settle 85 = .ok (.iaload, 1) := by decide +kernel
theorem dX11_settle_86 : decode cX11_settle 86 = .ok (.ifCond .ne 8, 3) := by decide +kernel
theorem dX11_settle_89 : decode cX11_settle 89 = .ok (.aload_n 0, 1) := by decide +kernel
theorem dX11_settle_90 : decode cX11_settle 90 = .ok (.iload_n 3, 1) := by decide +kernel
theorem dX11_settle_91 : decode cX11_settle 91 = .ok (.invokevirtual 208, 3) := by decide +kernel
theorem dX11_settle_94 : decode cX11_settle 94 = .ok (.iinc 3 1, 3) := by decide +kernel
theorem dX11_settle_97 : decode cX11_settle 97 = .ok (.goto (-35), 3) := by decide +kernel
theorem dX11_settle_100 : decode cX11_settle 100 = .ok (.iload_n 2, 1) := by decide +kernel
theorem dX11_settle_101 : decode cX11_settle 101 = .ok (.ifCond .eq 14, 3) := by decide +kernel
theorem dX11_settle_104 : decode cX11_settle 104 = .ok (.aload_n 0, 1) := by decide +kernel
theorem dX11_settle_105 : decode cX11_settle 105 = .ok (.iload_n 1, 1) := by decide +kernel
theorem dX11_settle_106 : decode cX11_settle 106 = .ok (.aload_n 0, 1) := by decide +kernel
theorem dX11_settle_107 : decode cX11_settle 107 = .ok (.getfield 50, 3) := by decide +kernel
theorem dX11_settle_110 : decode cX11_settle 110 = .ok (.iload_n 1, 1) := by decide +kernel
theorem dX11_settle_111 : decode cX11_settle 111 = .ok (.iaload, 1) := by decide +kernel
theorem dX11_settle_112 : decode cX11_settle 112 = .ok (.invokevirtual 261, 3) := by decide +kernel
theorem dX11_settle_115 : decode cX11_settle 115 = .ok (.return_, 1) := by decide +kernel
theorem dX11_settle_116 : decode cX11_settle 116 = .ok (.aload_n 0, 1) := by decide +kernel
theorem dX11_settle_117 : decode cX11_settle 117 = .ok (.getfield 47, 3) := by decide +kernel
theorem dX11_settle_120 : decode cX11_settle 120 = .ok (.iload_n 1, 1) := by decide +kernel
theorem dX11_settle_121 : decode cX11_settle 121 = .ok (.aload_n 0, 1) := by decide +kernel
theorem dX11_settle_122 : decode cX11_settle 122 = .ok (.getfield 240, 3) := by decide +kernel
theorem dX11_settle_125 : decode cX11_settle 125 = .ok (.iastore, 1) := by decide +kernel
theorem dX11_settle_126 : decode cX11_settle 126 = .ok (.iconst 0, 1) := by decide +kernel
theorem dX11_settle_127 : decode cX11_settle 127 = .ok (.istore_n 3, 1) := by decide +kernel
theorem dX11_settle_128 : decode cX11_settle 128 = .ok (.iload_n 3, 1) := by decide +kernel
theorem dX11_settle_129 : decode cX11_settle 129 = .ok (.aload_n 0, 1) := by decide +kernel
theorem dX11_settle_130 : decode cX11_settle 130 = .ok (.getfield 205, 3) := by decide +kernel
theorem dX11_settle_133 : decode cX11_settle 133 = .ok (.if_icmp .ge 62, 3) := by decide +kernel
theorem dX11_settle_136 : decode cX11_settle 136 = .ok (.aload_n 0, 1) := by decide +kernel
theorem dX11_settle_137 : decode cX11_settle 137 = .ok (.getfield 68, 3) := by decide +kernel
theorem dX11_settle_140 : decode cX11_settle 140 = .ok (.iload_n 3, 1) := by decide +kernel
theorem dX11_settle_141 : decode cX11_settle 141 = .ok (.iaload, 1) := by decide +kernel
theorem dX11_settle_142 : decode cX11_settle 142 = .ok (.iload_n 1, 1) := by decide +kernel
theorem dX11_settle_143 : decode cX11_settle 143 = .ok (.if_icmp .ne 46, 3) := by decide +kernel
theorem dX11_settle_146 : decode cX11_settle 146 = .ok (.aload_n 0, 1) := by decide +kernel
theorem dX11_settle_147 : decode cX11_settle 147 = .ok (.getfield 83, 3) := by decide +kernel
theorem dX11_settle_150 : decode cX11_settle 150 = .ok (.iload_n 3, 1) := by decide +kernel
theorem dX11_settle_151 : decode cX11_settle 151 = .ok (.iaload, 1) := by decide +kernel
theorem dX11_settle_152 : decode cX11_settle 152 = .ok (.ifCond .ne 37, 3) := by decide +kernel
theorem dX11_settle_155 : decode cX11_settle 155 = .ok (.aload_n 0, 1) := by decide +kernel
theorem dX11_settle_156 : decode cX11_settle 156 = .ok (.getfield 92, 3) := by decide +kernel
theorem dX11_settle_159 : decode cX11_settle 159 = .ok (.iload_n 3, 1) := by decide +kernel
theorem dX11_settle_160 : decode cX11_settle 160 = .ok (.iconst 1, 1) := by decide +kernel
theorem dX11_settle_161 : decode cX11_settle 161 = .ok (.bastore, 1) := by decide +kernel
theorem dX11_settle_162 : decode cX11_settle 162 = .ok (.aload_n 0, 1) := by decide +kernel
theorem dX11_settle_163 : decode cX11_settle 163 = .ok (.getfield 89, 3) := by decide +kernel
theorem dX11_settle_166 : decode cX11_settle 166 = .ok (.iload_n 3, 1) := by decide +kernel
theorem dX11_settle_167 : decode cX11_settle 167 = .ok (.aload_n 0, 1) := by decide +kernel
theorem dX11_settle_168 : decode cX11_settle 168 = .ok (.getfield 225, 3) := by decide +kernel
theorem dX11_settle_171 : decode cX11_settle 171 = .ok (.ifCond .ne 7, 3) := by decide +kernel
theorem dX11_settle_174 : decode cX11_settle 174 = .ok (.iconst 0, 1) := by decide +kernel
theorem dX11_settle_175 : decode cX11_settle 175 = .ok (.goto 13, 3) := by decide +kernel
theorem dX11_settle_178 : decode cX11_settle 178 = .ok (.aload_n 0, 1) := by decide +kernel
theorem dX11_settle_179 : decode cX11_settle 179 = .ok (.getfield 113, 3) := by decide +kernel
theorem dX11_settle_182 : decode cX11_settle 182 = .ok (.aload_n 0, 1) := by decide +kernel
theorem dX11_settle_183 : decode cX11_settle 183 = .ok (.iload_n 3, 1) := by decide +kernel
theorem dX11_settle_184 : decode cX11_settle 184 = .ok (.invokevirtual 265, 3) := by decide +kernel
theorem dX11_settle_187 : decode cX11_settle 187 = .ok (.iaload, 1) := by decide +kernel
theorem dX11_settle_188 : decode cX11_settle 188 = .ok (.iastore, 1) := by decide +kernel
theorem dX11_settle_189 : decode cX11_settle 189 = .ok (.iinc 3 1, 3) := by decide +kernel
theorem dX11_settle_192 : decode cX11_settle 192 = .ok (.goto (-64), 3) := by decide +kernel
theorem dX11_settle_195 : decode cX11_settle 195 = .ok (.aload_n 0, 1) := by decide +kernel
theorem dX11_settle_196 : decode cX11_settle 196 = .ok (.getfield 225, 3) := by decide +kernel
theorem dX11_settle_199 : decode cX11_settle 199 = .ok (.ifCond .ne 13, 3) := by decide +kernel
theorem dX11_settle_202 : decode cX11_settle 202 = .ok (.aload_n 0, 1) := by decide +kernel
theorem dX11_settle_203 : decode cX11_settle 203 = .ok (.iload_n 1, 1) := by decide +kernel
theorem dX11_settle_204 : decode cX11_settle 204 = .ok (.aload_n 0, 1) := by decide +kernel
theorem dX11_settle_205 : decode cX11_settle 205 = .ok (.getfield 243, 3) := by decide +kernel
theorem dX11_settle_208 : decode cX11_settle 208 = .ok (.invokevirtual 261, 3) := by decide +kernel
theorem dX11_settle_211 : decode cX11_settle 211 = .ok (.return_, 1) := by decide +kernel
theorem dX11_settle_212 : decode cX11_settle 212 = .ok (.aload_n 0, 1) := by decide +kernel
theorem dX11_settle_213 : decode cX11_settle 213 = .ok (.getfield 59, 3) := by decide +kernel
theorem dX11_settle_216 : decode cX11_settle 216 = .ok (.iload_n 1, 1) := by decide +kernel
theorem dX11_settle_217 : decode cX11_settle 217 = .ok (.aload_n 0, 1) := by decide +kernel
theorem dX11_settle_218 : decode cX11_settle 218 = .ok (.getfield 249, 3) := by decide +kernel
theorem dX11_settle_221 : decode cX11_settle 221 = .ok (.iastore, 1) := by decide +kernel
theorem dX11_settle_222 : decode cX11_settle 222 = .ok (.aload_n 0, 1) := by decide +kernel
theorem dX11_settle_223 : decode cX11_settle 223 = .ok (.getfield 62, 3) := by decide +kernel
theorem dX11_settle_226 : decode cX11_settle 226 = .ok (.iload_n 1, 1) := by decide +kernel
theorem dX11_settle_227 : decode cX11_settle 227 = .ok (.aload_n 0, 1) := by decide +kernel
theorem dX11_settle_228 : decode cX11_settle 228 = .ok (.getfield 246, 3) := by decide +kernel
theorem dX11_settle_231 : decode cX11_settle 231 = .ok (.iastore, 1) := by decide +kernel
theorem dX11_settle_232 : decode cX11_settle 232 = .ok (.aload_n 0, 1) := by decide +kernel
theorem dX11_settle_233 : decode cX11_settle 233 = .ok (.getfield 56, 3) := by decide +kernel
theorem dX11_settle_236 : decode cX11_settle 236 = .ok (.iload_n 1, 1) := by decide +kernel
theorem dX11_settle_237 : decode cX11_settle 237 = .ok (.aload_n 0, 1) := by decide +kernel
theorem dX11_settle_238 : decode cX11_settle 238 = .ok (.getfield 243, 3) := by decide +kernel
theorem dX11_settle_241 : decode cX11_settle 241 = .ok (.aload_n 0, 1) := by decide +kernel
theorem dX11_settle_242 : decode cX11_settle 242 = .ok (.getfield 249, 3) := by decide +kernel
theorem dX11_settle_245 : decode cX11_settle 245 = .ok (.iadd, 1) := by decide +kernel
theorem dX11_settle_246 : decode cX11_settle 246 = .ok (.aload_n 0, 1) := by decide +kernel
theorem dX11_settle_247 : decode cX11_settle 247 = .ok (.getfield 246, 3) := by decide +kernel
theorem dX11_settle_250 : decode cX11_settle 250 = .ok (.isub, 1) := by decide +kernel
theorem dX11_settle_251 : decode cX11_settle 251 = .ok (.iastore, 1) := by decide +kernel
theorem dX11_settle_252 : decode cX11_settle 252 = .ok (.return_, 1) := by decide +kernel
theorem dX11_official_0 : decode cX11_official 0 = .ok (.aload_n 0, 1) := by decide +kernel
theorem dX11_official_1 : decode cX11_official 1 = .ok (.iload_n 1, 1) := by decide +kernel
theorem dX11_official_2 : decode cX11_official 2 = .ok (.invokevirtual 179, 3) := by decide +kernel
theorem dX11_official_5 : decode cX11_official 5 = .ok (.ifCond .ne 6, 3) := by decide +kernel
theorem dX11_official_8 : decode cX11_official 8 = .ok (.bipush (-2), 2) := by decide +kernel
theorem dX11_official_10 : decode cX11_official 10 = .ok (.ireturn, 1) := by decide +kernel
theorem dX11_official_11 : decode cX11_official 11 = .ok (.aload_n 0, 1) := by decide +kernel
theorem dX11_official_12 : decode cX11_official 12 = .ok (.getfield 7, 3) := by decide +kernel
theorem dX11_official_15 : decode cX11_official 15 = .ok (.iload_n 1, 1) := by decide +kernel
theorem dX11_official_16 : decode cX11_official 16 = .ok (.iaload, 1) := by decide +kernel
theorem dX11_official_17 : decode cX11_official 17 = .ok (.iconst 1, 1) := by decide +kernel
theorem dX11_official_18 : decode cX11_official 18 = .ok (.if_icmp .ne 11, 3) := by decide +kernel
theorem dX11_official_21 : decode cX11_official 21 = .ok (.aload_n 0, 1) := by decide +kernel
theorem dX11_official_22 : decode cX11_official 22 = .ok (.iload_n 1, 1) := by decide +kernel
theorem dX11_official_23 : decode cX11_official 23 = .ok (.invokevirtual 268, 3) := by decide +kernel
theorem dX11_official_26 : decode cX11_official 26 = .ok (.ifCond .ne 6, 3) := by decide +kernel
theorem dX11_official_29 : decode cX11_official 29 = .ok (.bipush (-6), 2) := by decide +kernel
theorem dX11_official_31 : decode cX11_official 31 = .ok (.ireturn, 1) := by decide +kernel
theorem dX11_official_32 : decode cX11_official 32 = .ok (.aload_n 0, 1) := by decide +kernel
theorem dX11_official_33 : decode cX11_official 33 = .ok (.getfield 7, 3) := by decide +kernel
theorem dX11_official_36 : decode cX11_official 36 = .ok (.iload_n 1, 1) := by decide +kernel
theorem dX11_official_37 : decode cX11_official 37 = .ok (.iconst 2, 1) := by decide +kernel
theorem dX11_official_38 : decode cX11_official 38 = .ok (.iastore, 1) := by decide +kernel
theorem dX11_official_39 : decode cX11_official 39 = .ok (.iconst 0, 1) := by decide +kernel
theorem dX11_official_40 : decode cX11_official 40 = .ok (.istore_n 2, 1) := by decide +kernel
theorem dX11_official_41 : decode cX11_official 41 = .ok (.aload_n 0, 1) := by decide +kernel
theorem dX11_official_42 : decode cX11_official 42 = .ok (.iload_n 1, 1) := by decide +kernel
theorem dX11_official_43 : decode cX11_official 43 = .ok (.aload_n 0, 1) := by decide +kernel
theorem dX11_official_44 : decode cX11_official 44 = .ok (.getfield 95, 3) := by decide +kernel
theorem dX11_official_47 : decode cX11_official 47 = .ok (.invokevirtual 271, 3) := by decide +kernel
theorem dX11_official_50 : decode cX11_official 50 = .ok (.iconst 4, 1) := by decide +kernel
theorem dX11_official_51 : decode cX11_official 51 = .ok (.iload_n 1, 1) := by decide +kernel
theorem dX11_official_52 : decode cX11_official 52 = .ok (.imul, 1) := by decide +kernel
theorem dX11_official_53 : decode cX11_official 53 = .ok (.istore_n 3, 1) := by decide +kernel
theorem dX11_official_54 : decode cX11_official 54 = .ok (.iload_n 3, 1) := by decide +kernel
theorem dX11_official_55 : decode cX11_official 55 = .ok (.iconst 4, 1) := by decide +kernel
theorem dX11_official_56 : decode cX11_official 56 = .ok (.iload_n 1, 1) := by decide +kernel
theorem dX11_official_57 : decode cX11_official 57 = .ok (.imul, 1) := by decide +kernel
theorem dX11_official_58 : decode cX11_official 58 = .ok (.iconst 4, 1) := by decide +kernel
theorem dX11_official_59 : decode cX11_official 59 = .ok (.iadd, 1) := by decide +kernel
theorem dX11_official_60 : decode cX11_official 60 = .ok (.if_icmp .ge 26, 3) := by decide +kernel
theorem dX11_official_63 : decode cX11_official 63 = .ok (.aload_n 0, 1) := by decide +kernel
theorem dX11_official_64 : decode cX11_official 64 = .ok (.getfield 26, 3) := by decide +kernel
theorem dX11_official_67 : decode cX11_official 67 = .ok (.iload_n 3, 1) := by decide +kernel
theorem dX11_official_68 : decode cX11_official 68 = .ok (.baload, 1) := by decide +kernel
theorem dX11_official_69 : decode cX11_official 69 = .ok (.ifCond .eq 11, 3) := by decide +kernel
theorem dX11_official_72 : decode cX11_official 72 = .ok (.aload_n 0, 1) := by decide +kernel
theorem dX11_official_73 : decode cX11_official 73 = .ok (.iload_n 3, 1) := by decide +kernel
theorem dX11_official_74 : decode cX11_official 74 = .ok (.invokevirtual 275, 3) := by decide +kernel
theorem dX11_official_77 : decode cX11_official 77 = .ok (.iinc 2 1, 3) := by decide +kernel
theorem dX11_official_80 : decode cX11_official 80 = .ok (.iinc 3 1, 3) := by decide +kernel
theorem dX11_official_83 : decode cX11_official 83 = .ok (.goto (-29), 3) := by decide +kernel
theorem dX11_official_86 : decode cX11_official 86 = .ok (.aload_n 0, 1) := by decide +kernel
theorem dX11_official_87 : decode cX11_official 87 = .ok (.getfield 26, 3) := by decide +kernel
theorem dX11_official_90 : decode cX11_official 90 = .ok (.bipush 48, 2) := by decide +kernel
theorem dX11_official_92 : decode cX11_official 92 = .ok (.baload, 1) := by decide +kernel
theorem dX11_official_93 : decode cX11_official 93 = .ok (.ifCond .eq 78, 3) := by decide +kernel
theorem dX11_official_96 : decode cX11_official 96 = .ok (.iload_n 1, 1) := by decide +kernel
theorem dX11_official_97 : decode cX11_official 97 = .ok (.aload_n 0, 1) := by decide +kernel
theorem dX11_official_98 : decode cX11_official 98 = .ok (.getfield 176, 3) := by decide +kernel
theorem dX11_official_101 : decode cX11_official 101 = .ok (.if_icmp .eq 11, 3) := by decide +kernel
theorem dX11_official_104 : decode cX11_official 104 = .ok (.iload_n 1, 1) := by decide +kernel
theorem dX11_official_105 : decode cX11_official 105 = .ok (.aload_n 0, 1) := by decide +kernel
theorem dX11_official_106 : decode cX11_official 106 = .ok (.getfield 191, 3) := by decide +kernel
theorem dX11_official_109 : decode cX11_official 109 = .ok (.if_icmp .ne 62, 3) := by decide +kernel
theorem dX11_official_112 : decode cX11_official 112 = .ok (.aload_n 0, 1) := by decide +kernel
theorem dX11_official_113 : decode cX11_official 113 = .ok (.getfield 7, 3) := by decide +kernel
theorem dX11_official_116 : decode cX11_official 116 = .ok (.aload_n 0, 1) := by decide +kernel
theorem dX11_official_117 : decode cX11_official 117 = .ok (.getfield 176, 3) := by decide +kernel
theorem dX11_official_120 : decode cX11_official 120 = .ok (.iaload, 1) := by decide +kernel
theorem dX11_official_121 : decode cX11_official 121 = .ok (.iconst 2, 1) := by decide +kernel
theorem dX11_official_122 : decode cX11_official 122 = .ok (.if_icmp .ne 49, 3) := by decide +kernel
theorem dX11_official_125 : decode cX11_official 125 = .ok (.aload_n 0, 1) := by decide +kernel
theorem dX11_official_126 : decode cX11_official 126 = .ok (.getfield 7, 3) := by decide +kernel
theorem dX11_official_129 : decode cX11_official 129 = .ok (.aload_n 0, 1) := by decide +kernel
theorem dX11_official_130 : decode cX11_official 130 = .ok (.getfield 191, 3) := by decide +kernel
theorem dX11_official_133 : decode cX11_official 133 = .ok (.iaload, 1) := by decide +kernel
theorem dX11_official_134 : decode cX11_official 134 = .ok (.iconst 2, 1) := by decide +kernel
theorem dX11_official_135 : decode cX11_official 135 = .ok (.if_icmp .ne 36, 3) := by decide +kernel
theorem dX11_official_138 : decode cX11_official 138 = .ok (.aload_n 0, 1) := by decide +kernel
theorem dX11_official_139 : decode cX11_official 139 = .ok (.aload_n 0, 1) := by decide +kernel
theorem dX11_official_140 : decode cX11_official 140 = .ok (.getfield 176, 3) := by decide +kernel
theorem dX11_official_143 : decode cX11_official 143 = .ok (.aload_n 0, 1) := by decide +kernel
theorem dX11_official_144 : decode cX11_official 144 = .ok (.getfield 95, 3) := by decide +kernel
theorem dX11_official_147 : decode cX11_official 147 = .ok (.invokevirtual 271, 3) := by decide +kernel
theorem dX11_official_150 : decode cX11_official 150 = .ok (.aload_n 0, 1) := by decide +kernel
theorem dX11_official_151 : decode cX11_official 151 = .ok (.aload_n 0, 1) := by decide +kernel
theorem dX11_official_152 : decode cX11_official 152 = .ok (.getfield 191, 3) := by decide +kernel
theorem dX11_official_155 : decode cX11_official 155 = .ok (.aload_n 0, 1) := by decide +kernel
theorem dX11_official_156 : decode cX11_official 156 = .ok (.getfield 98, 3) := by decide +kernel
theorem dX11_official_159 : decode cX11_official 159 = .ok (.invokevirtual 271, 3) := by decide +kernel
theorem dX11_official_162 : decode cX11_official 162 = .ok (.aload_n 0, 1) := by decide +kernel
theorem dX11_official_163 : decode cX11_official 163 = .ok (.bipush 48, 2) := by decide +kernel
theorem dX11_official_165 : decode cX11_official 165 = .ok (.invokevirtual 275, 3) := by decide +kernel
theorem dX11_official_168 : decode cX11_official 168 = .ok (.iinc 2 1, 3) := by decide +kernel
theorem dX11_official_171 : decode cX11_official 171 = .ok (.iload_n 2, 1) := by decide +kernel
theorem dX11_official_172 : decode cX11_official 172 = .ok (.ireturn, 1) := by decide +kernel
theorem dX10_carriedInto_0 : decode cX10_carriedInto 0 = .ok (.aload_n 0, 1) := by decide +kernel
theorem dX10_carriedInto_1 : decode cX10_carriedInto 1 = .ok (.getfield 17, 3) := by decide +kernel
theorem dX10_carriedInto_4 : decode cX10_carriedInto 4 = .ok (.iload_n 1, 1) := by decide +kernel
theorem dX10_carriedInto_5 : decode cX10_carriedInto 5 = .ok (.iconst 3, 1) := by decide +kernel
theorem dX10_carriedInto_6 : decode cX10_carriedInto 6 = .ok (.invokestatic 84, 3) := by decide +kernel
theorem dX10_carriedInto_9 : decode cX10_carriedInto 9 = .ok (.aaload, 1) := by decide +kernel
theorem dX10_carriedInto_10 : decode cX10_carriedInto 10 = .ok (.astore_n 2, 1) := by decide +kernel
theorem dX10_carriedInto_11 : decode cX10_carriedInto 11 = .ok (.aload_n 2, 1) := by decide +kernel
theorem dX10_carriedInto_12 : decode cX10_carriedInto 12 = .ok (.ifnonnull 7, 3) := by decide +kernel
theorem dX10_carriedInto_15 : decode cX10_carriedInto 15 = .ok (.iconst 0, 1) := by decide +kernel
theorem dX10_carriedInto_16 : decode cX10_carriedInto 16 = .ok (.goto 9, 3) := by decide +kernel
theorem dX10_carriedInto_19 : decode cX10_carriedInto 19 = .ok (.aload_n 2, 1) := by decide +kernel
theorem dX10_carriedInto_20 : decode cX10_carriedInto 20 = .ok (.getfield 259, 3) := by decide +kernel
theorem dX10_carriedInto_23 : decode cX10_carriedInto 23 = .ok (.iconst 4, 1) := by decide +kernel
theorem dX10_carriedInto_24 : decode cX10_carriedInto 24 = .ok (.iaload, 1) := by decide +kernel
theorem dX10_carriedInto_25 : decode cX10_carriedInto 25 = .ok (.ireturn, 1) := by decide +kernel
theorem dX5_standing_0 : decode cX5_standing 0 = .ok (.aload_n 0, 1) := by decide +kernel
theorem dX5_standing_1 : decode cX5_standing 1 = .ok (.getfield 9, 3) := by decide +kernel
theorem dX5_standing_4 : decode cX5_standing 4 = .ok (.iload_n 1, 1) := by decide +kernel
theorem dX5_standing_5 : decode cX5_standing 5 = .ok (.baload, 1) := by decide +kernel
theorem dX5_standing_6 : decode cX5_standing 6 = .ok (.ifCond .eq 7, 3) := by decide +kernel
theorem dX5_standing_9 : decode cX5_standing 9 = .ok (.iconst (-1), 1) := by decide +kernel
theorem dX5_standing_10 : decode cX5_standing 10 = .ok (.goto 9, 3) := by decide +kernel
theorem dX5_standing_13 : decode cX5_standing 13 = .ok (.aload_n 0, 1) := by decide +kernel
theorem dX5_standing_14 : decode cX5_standing 14 = .ok (.getfield 15, 3) := by decide +kernel
theorem dX5_standing_17 : decode cX5_standing 17 = .ok (.iload_n 1, 1) := by decide +kernel
theorem dX5_standing_18 : decode cX5_standing 18 = .ok (.iaload, 1) := by decide +kernel
theorem dX5_standing_19 : decode cX5_standing 19 = .ok (.ireturn, 1) := by decide +kernel
theorem dX10_raceAt_0 : decode cX10_raceAt 0 = .ok (.aload_n 0, 1) := by decide +kernel
theorem dX10_raceAt_1 : decode cX10_raceAt 1 = .ok (.iload_n 1, 1) := by decide +kernel
theorem dX10_raceAt_2 : decode cX10_raceAt 2 = .ok (.invokevirtual 76, 3) := by decide +kernel
theorem dX10_raceAt_5 : decode cX10_raceAt 5 = .ok (.astore_n 3, 1) := by decide +kernel
theorem dX10_raceAt_6 : decode cX10_raceAt 6 = .ok (.aload_n 3, 1) := by decide +kernel
theorem dX10_raceAt_7 : decode cX10_raceAt 7 = .ok (.ifnonnull 6, 3) := by decide +kernel
theorem dX10_raceAt_10 : decode cX10_raceAt 10 = .ok (.bipush (-2), 2) := by decide +kernel
theorem dX10_raceAt_12 : decode cX10_raceAt 12 = .ok (.ireturn, 1) := by decide +kernel
theorem dX10_raceAt_13 : decode cX10_raceAt 13 = .ok (.iload_n 2, 1) := by decide +kernel
theorem dX10_raceAt_14 : decode cX10_raceAt 14 = .ok (.tableswitch 60 0 4 #[34, 39, 44, 49, 54], 34) := by decide +kernel
theorem dX10_raceAt_48 : decode cX10_raceAt 48 = .ok (.aload_n 3, 1) := by decide +kernel
theorem dX10_raceAt_49 : decode cX10_raceAt 49 = .ok (.getfield 88, 3) := by decide +kernel
theorem dX10_raceAt_52 : decode cX10_raceAt 52 = .ok (.ireturn, 1) := by decide +kernel
theorem dX10_raceAt_53 : decode cX10_raceAt 53 = .ok (.aload_n 3, 1) := by decide +kernel
theorem dX10_raceAt_54 : decode cX10_raceAt 54 = .ok (.getfield 144, 3) := by decide +kernel
theorem dX10_raceAt_57 : decode cX10_raceAt 57 = .ok (.ireturn, 1) := by decide +kernel
theorem dX10_raceAt_58 : decode cX10_raceAt 58 = .ok (.aload_n 3, 1) := by decide +kernel
theorem dX10_raceAt_59 : decode cX10_raceAt 59 = .ok (.getfield 116, 3) := by decide +kernel
theorem dX10_raceAt_62 : decode cX10_raceAt 62 = .ok (.ireturn, 1) := by decide +kernel
theorem dX10_raceAt_63 : decode cX10_raceAt 63 = .ok (.aload_n 3, 1) := by decide +kernel
theorem dX10_raceAt_64 : decode cX10_raceAt 64 = .ok (.getfield 98, 3) := by decide +kernel
theorem dX10_raceAt_67 : decode cX10_raceAt 67 = .ok (.ireturn, 1) := by decide +kernel
theorem dX10_raceAt_68 : decode cX10_raceAt 68 = .ok (.aload_n 0, 1) := by decide +kernel
theorem dX10_raceAt_69 : decode cX10_raceAt 69 = .ok (.iload_n 1, 1) := by decide +kernel
theorem dX10_raceAt_70 : decode cX10_raceAt 70 = .ok (.invokevirtual 147, 3) := by decide +kernel
theorem dX10_raceAt_73 : decode cX10_raceAt 73 = .ok (.ireturn, 1) := by decide +kernel
theorem dX10_raceAt_74 : decode cX10_raceAt 74 = .ok (.aload_n 3, 1) := by decide +kernel
theorem dX10_raceAt_75 : decode cX10_raceAt 75 = .ok (.iload_n 2, 1) := by decide +kernel
theorem dX10_raceAt_76 : decode cX10_raceAt 76 = .ok (.bipush 10, 2) := by decide +kernel
theorem dX10_raceAt_78 : decode cX10_raceAt 78 = .ok (.isub, 1) := by decide +kernel
theorem dX10_raceAt_79 : decode cX10_raceAt 79 = .ok (.invokevirtual 151, 3) := by decide +kernel
theorem dX10_raceAt_82 : decode cX10_raceAt 82 = .ok (.ifCond .eq 14, 3) := by decide +kernel
theorem dX10_raceAt_85 : decode cX10_raceAt 85 = .ok (.aload_n 3, 1) := by decide +kernel
theorem dX10_raceAt_86 : decode cX10_raceAt 86 = .ok (.iload_n 2, 1) := by decide +kernel
theorem dX10_raceAt_87 : decode cX10_raceAt 87 = .ok (.bipush 10, 2) := by decide +kernel
theorem dX10_raceAt_89 : decode cX10_raceAt 89 = .ok (.isub, 1) := by decide +kernel
theorem dX10_raceAt_90 : decode cX10_raceAt 90 = .ok (.invokevirtual 155, 3) := by decide +kernel
theorem dX10_raceAt_93 : decode cX10_raceAt 93 = .ok (.goto 5, 3) := by decide +kernel
theorem dX10_raceAt_96 : decode cX10_raceAt 96 = .ok (.bipush (-3), 2) := by decide +kernel
theorem dX10_raceAt_98 : decode cX10_raceAt 98 = .ok (.ireturn, 1) := by decide +kernel
theorem dX11_raceAt_0 : decode cX11_raceAt 0 = .ok (.aload_n 0, 1) := by decide +kernel
theorem dX11_raceAt_1 : decode cX11_raceAt 1 = .ok (.iload_n 1, 1) := by decide +kernel
theorem dX11_raceAt_2 : decode cX11_raceAt 2 = .ok (.invokevirtual 179, 3) := by decide +kernel
theorem dX11_raceAt_5 : decode cX11_raceAt 5 = .ok (.ifCond .ne 6, 3) := by decide +kernel
theorem dX11_raceAt_8 : decode cX11_raceAt 8 = .ok (.bipush (-2), 2) := by decide +kernel
theorem dX11_raceAt_10 : decode cX11_raceAt 10 = .ok (.ireturn, 1) := by decide +kernel
theorem dX11_raceAt_11 : decode cX11_raceAt 11 = .ok (.iload_n 2, 1) := by decide +kernel
theorem dX11_raceAt_12 : decode cX11_raceAt 12 = .ok (.tableswitch 74 0 4 #[36, 43, 50, 56, 63], 36) := by decide +kernel
theorem dX11_raceAt_48 : decode cX11_raceAt 48 = .ok (.aload_n 0, 1) := by decide +kernel
theorem dX11_raceAt_49 : decode cX11_raceAt 49 = .ok (.getfield 7, 3) := by decide +kernel
theorem dX11_raceAt_52 : decode cX11_raceAt 52 = .ok (.iload_n 1, 1) := by decide +kernel
theorem dX11_raceAt_53 : decode cX11_raceAt 53 = .ok (.iaload, 1) := by decide +kernel
theorem dX11_raceAt_54 : decode cX11_raceAt 54 = .ok (.ireturn, 1) := by decide +kernel
theorem dX11_raceAt_55 : decode cX11_raceAt 55 = .ok (.aload_n 0, 1) := by decide +kernel
theorem dX11_raceAt_56 : decode cX11_raceAt 56 = .ok (.getfield 13, 3) := by decide +kernel
theorem dX11_raceAt_59 : decode cX11_raceAt 59 = .ok (.iload_n 1, 1) := by decide +kernel
theorem dX11_raceAt_60 : decode cX11_raceAt 60 = .ok (.iaload, 1) := by decide +kernel
theorem dX11_raceAt_61 : decode cX11_raceAt 61 = .ok (.ireturn, 1) := by decide +kernel
theorem dX11_raceAt_62 : decode cX11_raceAt 62 = .ok (.aload_n 0, 1) := by decide +kernel
theorem dX11_raceAt_63 : decode cX11_raceAt 63 = .ok (.iload_n 1, 1) := by decide +kernel
theorem dX11_raceAt_64 : decode cX11_raceAt 64 = .ok (.invokevirtual 212, 3) := by decide +kernel
theorem dX11_raceAt_67 : decode cX11_raceAt 67 = .ok (.ireturn, 1) := by decide +kernel
theorem dX11_raceAt_68 : decode cX11_raceAt 68 = .ok (.aload_n 0, 1) := by decide +kernel
theorem dX11_raceAt_69 : decode cX11_raceAt 69 = .ok (.getfield 16, 3) := by decide +kernel
theorem dX11_raceAt_72 : decode cX11_raceAt 72 = .ok (.iload_n 1, 1) := by decide +kernel
theorem dX11_raceAt_73 : decode cX11_raceAt 73 = .ok (.iaload, 1) := by decide +kernel
theorem dX11_raceAt_74 : decode cX11_raceAt 74 = .ok (.ireturn, 1) := by decide +kernel
theorem dX11_raceAt_75 : decode cX11_raceAt 75 = .ok (.aload_n 0, 1) := by decide +kernel
theorem dX11_raceAt_76 : decode cX11_raceAt 76 = .ok (.getfield 50, 3) := by decide +kernel
theorem dX11_raceAt_79 : decode cX11_raceAt 79 = .ok (.iconst 4, 1) := by decide +kernel
theorem dX11_raceAt_80 : decode cX11_raceAt 80 = .ok (.iload_n 1, 1) := by decide +kernel
theorem dX11_raceAt_81 : decode cX11_raceAt 81 = .ok (.imul, 1) := by decide +kernel
theorem dX11_raceAt_82 : decode cX11_raceAt 82 = .ok (.iconst 3, 1) := by decide +kernel
theorem dX11_raceAt_83 : decode cX11_raceAt 83 = .ok (.iadd, 1) := by decide +kernel
theorem dX11_raceAt_84 : decode cX11_raceAt 84 = .ok (.iaload, 1) := by decide +kernel
theorem dX11_raceAt_85 : decode cX11_raceAt 85 = .ok (.ireturn, 1) := by decide +kernel
theorem dX11_raceAt_86 : decode cX11_raceAt 86 = .ok (.iload_n 2, 1) := by decide +kernel
theorem dX11_raceAt_87 : decode cX11_raceAt 87 = .ok (.bipush 11, 2) := by decide +kernel
theorem dX11_raceAt_89 : decode cX11_raceAt 89 = .ok (.bipush 10, 2) := by decide +kernel
theorem dX11_raceAt_91 : decode cX11_raceAt 91 = .ok (.aload_n 0, 1) := by decide +kernel
theorem dX11_raceAt_92 : decode cX11_raceAt 92 = .ok (.getfield 13, 3) := by decide +kernel
theorem dX11_raceAt_95 : decode cX11_raceAt 95 = .ok (.iload_n 1, 1) := by decide +kernel
theorem dX11_raceAt_96 : decode cX11_raceAt 96 = .ok (.iaload, 1) := by decide +kernel
theorem dX11_raceAt_97 : decode cX11_raceAt 97 = .ok (.iadd, 1) := by decide +kernel
theorem dX11_raceAt_98 : decode cX11_raceAt 98 = .ok (.invokestatic 172, 3) := by decide +kernel
theorem dX11_raceAt_101 : decode cX11_raceAt 101 = .ok (.ifCond .ne 6, 3) := by decide +kernel
theorem dX11_raceAt_104 : decode cX11_raceAt 104 = .ok (.bipush (-3), 2) := by decide +kernel
theorem dX11_raceAt_106 : decode cX11_raceAt 106 = .ok (.ireturn, 1) := by decide +kernel
theorem dX11_raceAt_107 : decode cX11_raceAt 107 = .ok (.bipush 13, 2) := by decide +kernel
theorem dX11_raceAt_109 : decode cX11_raceAt 109 = .ok (.iload_n 1, 1) := by decide +kernel
theorem dX11_raceAt_110 : decode cX11_raceAt 110 = .ok (.imul, 1) := by decide +kernel
theorem dX11_raceAt_111 : decode cX11_raceAt 111 = .ok (.iload_n 2, 1) := by decide +kernel
theorem dX11_raceAt_112 : decode cX11_raceAt 112 = .ok (.iadd, 1) := by decide +kernel
theorem dX11_raceAt_113 : decode cX11_raceAt 113 = .ok (.bipush 10, 2) := by decide +kernel
theorem dX11_raceAt_115 : decode cX11_raceAt 115 = .ok (.isub, 1) := by decide +kernel
theorem dX11_raceAt_116 : decode cX11_raceAt 116 = .ok (.istore_n 3, 1) := by decide +kernel
theorem dX11_raceAt_117 : decode cX11_raceAt 117 = .ok (.aload_n 0, 1) := by decide +kernel
theorem dX11_raceAt_118 : decode cX11_raceAt 118 = .ok (.getfield 19, 3) := by decide +kernel
theorem dX11_raceAt_121 : decode cX11_raceAt 121 = .ok (.iload_n 3, 1) := by decide +kernel
theorem dX11_raceAt_122 : decode cX11_raceAt 122 = .ok (.baload, 1) := by decide +kernel
theorem dX11_raceAt_123 : decode cX11_raceAt 123 = .ok (.ifCond .eq 7, 3) := by decide +kernel
theorem dX11_raceAt_126 : decode cX11_raceAt 126 = .ok (.iconst (-1), 1) := by decide +kernel
theorem dX11_raceAt_127 : decode cX11_raceAt 127 = .ok (.goto 9, 3) := by decide +kernel
theorem dX11_raceAt_130 : decode cX11_raceAt 130 = .ok (.aload_n 0, 1) := by decide +kernel
theorem dX11_raceAt_131 : decode cX11_raceAt 131 = .ok (.getfield 23, 3) := by decide +kernel
theorem dX11_raceAt_134 : decode cX11_raceAt 134 = .ok (.iload_n 3, 1) := by decide +kernel
theorem dX11_raceAt_135 : decode cX11_raceAt 135 = .ok (.iaload, 1) := by decide +kernel
theorem dX11_raceAt_136 : decode cX11_raceAt 136 = .ok (.ireturn, 1) := by decide +kernel
theorem dX10_findPool_0 : decode cX10_findPool 0 = .ok (.iload_n 1, 1) := by decide +kernel
theorem dX10_findPool_1 : decode cX10_findPool 1 = .ok (.ifCond .lt 9, 3) := by decide +kernel
theorem dX10_findPool_4 : decode cX10_findPool 4 = .ok (.iload_n 1, 1) := by decide +kernel
theorem dX10_findPool_5 : decode cX10_findPool 5 = .ok (.bipush 48, 2) := by decide +kernel
theorem dX10_findPool_7 : decode cX10_findPool 7 = .ok (.if_icmp .le 7, 3) := by decide +kernel
theorem dX10_findPool_10 : decode cX10_findPool 10 = .ok (.aconst_null, 1) := by decide +kernel
theorem dX10_findPool_11 : decode cX10_findPool 11 = .ok (.goto 9, 3) := by decide +kernel
theorem dX10_findPool_14 : decode cX10_findPool 14 = .ok (.aload_n 0, 1) := by decide +kernel
theorem dX10_findPool_15 : decode cX10_findPool 15 = .ok (.getfield 17, 3) := by decide +kernel
theorem dX10_findPool_18 : decode cX10_findPool 18 = .ok (.iload_n 1, 1) := by decide +kernel
theorem dX10_findPool_19 : decode cX10_findPool 19 = .ok (.aaload, 1) := by decide +kernel
theorem dX10_findPool_20 : decode cX10_findPool 20 = .ok (.areturn, 1) := by decide +kernel
theorem dX10_isWindow_0 : decode cX10_isWindow 0 = .ok (.iload_n 0, 1) := by decide +kernel
theorem dX10_isWindow_1 : decode cX10_isWindow 1 = .ok (.ifCond .lt 13, 3) := by decide +kernel
theorem dX10_isWindow_4 : decode cX10_isWindow 4 = .ok (.iload_n 0, 1) := by decide +kernel
theorem dX10_isWindow_5 : decode cX10_isWindow 5 = .ok (.bipush 6, 2) := by decide +kernel
theorem dX10_isWindow_7 : decode cX10_isWindow 7 = .ok (.if_icmp .ge 7, 3) := by decide +kernel
theorem dX10_isWindow_10 : decode cX10_isWindow 10 = .ok (.iconst 1, 1) := by decide +kernel
theorem dX10_isWindow_11 : decode cX10_isWindow 11 = .ok (.goto 4, 3) := by decide +kernel
theorem dX10_isWindow_14 : decode cX10_isWindow 14 = .ok (.iconst 0, 1) := by decide +kernel
theorem dX10_isWindow_15 : decode cX10_isWindow 15 = .ok (.ireturn, 1) := by decide +kernel
theorem dX4_refuseLine_0 : decode cX4_refuseLine 0 = .ok (.aload_n 0, 1) := by decide +kernel
theorem dX4_refuseLine_1 : decode cX4_refuseLine 1 = .ok (.getfield 19, 3) := by decide +kernel
theorem dX4_refuseLine_4 : decode cX4_refuseLine 4 = .ok (.ifCond .eq 11, 3) := by decide +kernel
theorem dX4_refuseLine_7 : decode cX4_refuseLine 7 = .ok (.aload_n 0, 1) := by decide +kernel
theorem dX4_refuseLine_8 : decode cX4_refuseLine 8 = .ok (.getfield 19, 3) := by decide +kernel
theorem dX4_refuseLine_11 : decode cX4_refuseLine 11 = .ok (.iconst 1, 1) := by decide +kernel
theorem dX4_refuseLine_12 : decode cX4_refuseLine 12 = .ok (.if_icmp .ne 15, 3) := by decide +kernel
theorem dX4_refuseLine_15 : decode cX4_refuseLine 15 = .ok (.iload_n 2, 1) := by decide +kernel
theorem dX4_refuseLine_16 : decode cX4_refuseLine 16 = .ok (.ifCond .ne 7, 3) := by decide +kernel
theorem dX4_refuseLine_19 : decode cX4_refuseLine 19 = .ok (.iconst 1, 1) := by decide +kernel
theorem dX4_refuseLine_20 : decode cX4_refuseLine 20 = .ok (.goto 15, 3) := by decide +kernel
theorem dX4_refuseLine_23 : decode cX4_refuseLine 23 = .ok (.iconst 0, 1) := by decide +kernel
theorem dX4_refuseLine_24 : decode cX4_refuseLine 24 = .ok (.goto 11, 3) := by decide +kernel
theorem dX4_refuseLine_27 : decode cX4_refuseLine 27 = .ok (.aload_n 0, 1) := by decide +kernel
theorem dX4_refuseLine_28 : decode cX4_refuseLine 28 = .ok (.getfield 26, 3) := by decide +kernel
theorem dX4_refuseLine_31 : decode cX4_refuseLine 31 = .ok (.iload_n 2, 1) := by decide +kernel
theorem dX4_refuseLine_32 : decode cX4_refuseLine 32 = .ok (.invokevirtual 41, 3) := by decide +kernel
theorem dX4_refuseLine_35 : decode cX4_refuseLine 35 = .ok (.istore 4, 2) := by decide +kernel
theorem dX4_refuseLine_37 : decode cX4_refuseLine 37 = .ok (.aload_n 0, 1) := by decide +kernel
theorem dX4_refuseLine_38 : decode cX4_refuseLine 38 = .ok (.getfield 19, 3) := by decide +kernel
theorem dX4_refuseLine_41 : decode cX4_refuseLine 41 = .ok (.iconst 3, 1) := by decide +kernel
theorem dX4_refuseLine_42 : decode cX4_refuseLine 42 = .ok (.if_icmp .ne 14, 3) := by decide +kernel
theorem dX4_refuseLine_45 : decode cX4_refuseLine 45 = .ok (.aload_n 0, 1) := by decide +kernel
theorem dX4_refuseLine_46 : decode cX4_refuseLine 46 = .ok (.getfield 22, 3) := by decide +kernel
theorem dX4_refuseLine_49 : decode cX4_refuseLine 49 = .ok (.iload_n 3, 1) := by decide +kernel
theorem dX4_refuseLine_50 : decode cX4_refuseLine 50 = .ok (.invokevirtual 41, 3) := by decide +kernel
theorem dX4_refuseLine_53 : decode cX4_refuseLine 53 = .ok (.goto 12, 3) := by decide +kernel
theorem dX4_refuseLine_56 : decode cX4_refuseLine 56 = .ok (.iload_n 3, 1) := by decide +kernel
theorem dX4_refuseLine_57 : decode cX4_refuseLine 57 = .ok (.ifCond .ne 7, 3) := by decide +kernel
theorem dX4_refuseLine_60 : decode cX4_refuseLine 60 = .ok (.iconst 1, 1) := by decide +kernel
theorem dX4_refuseLine_61 : decode cX4_refuseLine 61 = .ok (.goto 4, 3) := by decide +kernel
theorem dX4_refuseLine_64 : decode cX4_refuseLine 64 = .ok (.iconst 0, 1) := by decide +kernel
theorem dX4_refuseLine_65 : decode cX4_refuseLine 65 = .ok (.istore 5, 2) := by decide +kernel
theorem dX4_refuseLine_67 : decode cX4_refuseLine 67 = .ok (.aload_n 0, 1) := by decide +kernel
theorem dX4_refuseLine_68 : decode cX4_refuseLine 68 = .ok (.getfield 22, 3) := by decide +kernel
theorem dX4_refuseLine_71 : decode cX4_refuseLine 71 = .ok (.iload_n 1, 1) := by decide +kernel
theorem dX4_refuseLine_72 : decode cX4_refuseLine 72 = .ok (.invokevirtual 41, 3) := by decide +kernel
theorem dX4_refuseLine_75 : decode cX4_refuseLine 75 = .ok (.ifCond .eq 13, 3) := by decide +kernel
theorem dX4_refuseLine_78 : decode cX4_refuseLine 78 = .ok (.iload 4, 2) := by decide +kernel
theorem dX4_refuseLine_80 : decode cX4_refuseLine 80 = .ok (.ifCond .eq 8, 3) := by decide +kernel
theorem dX4_refuseLine_83 : decode cX4_refuseLine 83 = .ok (.iload 5, 2) := by decide +kernel
theorem dX4_refuseLine_85 : decode cX4_refuseLine 85 = .ok (.ifCond .ne 6, 3) := by decide +kernel
theorem dX4_refuseLine_88 : decode cX4_refuseLine 88 = .ok (.bipush (-3), 2) := by decide +kernel
theorem dX4_refuseLine_90 : decode cX4_refuseLine 90 = .ok (.ireturn, 1) := by decide +kernel
theorem dX4_refuseLine_91 : decode cX4_refuseLine 91 = .ok (.iload_n 1, 1) := by decide +kernel
theorem dX4_refuseLine_92 : decode cX4_refuseLine 92 = .ok (.iload_n 2, 1) := by decide +kernel
theorem dX4_refuseLine_93 : decode cX4_refuseLine 93 = .ok (.if_icmp .eq 21, 3) := by decide +kernel
theorem dX4_refuseLine_96 : decode cX4_refuseLine 96 = .ok (.aload_n 0, 1) := by decide +kernel
theorem dX4_refuseLine_97 : decode cX4_refuseLine 97 = .ok (.getfield 19, 3) := by decide +kernel
theorem dX4_refuseLine_100 : decode cX4_refuseLine 100 = .ok (.iconst 3, 1) := by decide +kernel
theorem dX4_refuseLine_101 : decode cX4_refuseLine 101 = .ok (.if_icmp .ne 17, 3) := by decide +kernel
theorem dX4_refuseLine_104 : decode cX4_refuseLine 104 = .ok (.iload_n 1, 1) := by decide +kernel
theorem dX4_refuseLine_105 : decode cX4_refuseLine 105 = .ok (.iload_n 3, 1) := by decide +kernel
theorem dX4_refuseLine_106 : decode cX4_refuseLine 106 = .ok (.if_icmp .eq 8, 3) := by decide +kernel
theorem dX4_refuseLine_109 : decode cX4_refuseLine 109 = .ok (.iload_n 2, 1) := by decide +kernel
theorem dX4_refuseLine_110 : decode cX4_refuseLine 110 = .ok (.iload_n 3, 1) := by decide +kernel
theorem dX4_refuseLine_111 : decode cX4_refuseLine 111 = .ok (.if_icmp .ne 7, 3) := by decide +kernel
theorem dX4_refuseLine_114 : decode cX4_refuseLine 114 = .ok (.iconst 1, 1) := by decide +kernel
theorem dX4_refuseLine_115 : decode cX4_refuseLine 115 = .ok (.goto 4, 3) := by decide +kernel
theorem dX4_refuseLine_118 : decode cX4_refuseLine 118 = .ok (.iconst 0, 1) := by decide +kernel
theorem dX4_refuseLine_119 : decode cX4_refuseLine 119 = .ok (.istore 6, 2) := by decide +kernel
theorem dX4_refuseLine_121 : decode cX4_refuseLine 121 = .ok (.aload_n 0, 1) := by decide +kernel
theorem dX4_refuseLine_122 : decode cX4_refuseLine 122 = .ok (.getfield 19, 3) := by decide +kernel
theorem dX4_refuseLine_125 : decode cX4_refuseLine 125 = .ok (.iconst 4, 1) := by decide +kernel
theorem dX4_refuseLine_126 : decode cX4_refuseLine 126 = .ok (.if_icmp .eq 13, 3) := by decide +kernel
theorem dX4_refuseLine_129 : decode cX4_refuseLine 129 = .ok (.iload 6, 2) := by decide +kernel
theorem dX4_refuseLine_131 : decode cX4_refuseLine 131 = .ok (.ifCond .eq 8, 3) := by decide +kernel
theorem dX4_refuseLine_134 : decode cX4_refuseLine 134 = .ok (.bipush (-4), 2) := by decide +kernel
theorem dX4_refuseLine_136 : decode cX4_refuseLine 136 = .ok (.goto 4, 3) := by decide +kernel
theorem dX4_refuseLine_139 : decode cX4_refuseLine 139 = .ok (.iconst 0, 1) := by decide +kernel
theorem dX4_refuseLine_140 : decode cX4_refuseLine 140 = .ok (.ireturn, 1) := by decide +kernel
theorem dX4_hasOut_0 : decode cX4_hasOut 0 = .ok (.aload_n 0, 1) := by decide +kernel
theorem dX4_hasOut_1 : decode cX4_hasOut 1 = .ok (.getfield 22, 3) := by decide +kernel
theorem dX4_hasOut_4 : decode cX4_hasOut 4 = .ok (.iload_n 1, 1) := by decide +kernel
theorem dX4_hasOut_5 : decode cX4_hasOut 5 = .ok (.invokevirtual 47, 3) := by decide +kernel
theorem dX4_hasOut_8 : decode cX4_hasOut 8 = .ok (.ifCond .ne 25, 3) := by decide +kernel
theorem dX4_hasOut_11 : decode cX4_hasOut 11 = .ok (.aload_n 0, 1) := by decide +kernel
theorem dX4_hasOut_12 : decode cX4_hasOut 12 = .ok (.getfield 26, 3) := by decide +kernel
theorem dX4_hasOut_15 : decode cX4_hasOut 15 = .ok (.iload_n 2, 1) := by decide +kernel
theorem dX4_hasOut_16 : decode cX4_hasOut 16 = .ok (.invokevirtual 47, 3) := by decide +kernel
theorem dX4_hasOut_19 : decode cX4_hasOut 19 = .ok (.ifCond .ne 14, 3) := by decide +kernel
theorem dX4_hasOut_22 : decode cX4_hasOut 22 = .ok (.aload_n 0, 1) := by decide +kernel
theorem dX4_hasOut_23 : decode cX4_hasOut 23 = .ok (.getfield 22, 3) := by decide +kernel
theorem dX4_hasOut_26 : decode cX4_hasOut 26 = .ok (.iload_n 3, 1) := by decide +kernel
theorem dX4_hasOut_27 : decode cX4_hasOut 27 = .ok (.invokevirtual 47, 3) := by decide +kernel
theorem dX4_hasOut_30 : decode cX4_hasOut 30 = .ok (.ifCond .eq 7, 3) := by decide +kernel
theorem dX4_hasOut_33 : decode cX4_hasOut 33 = .ok (.iconst 1, 1) := by decide +kernel
theorem dX4_hasOut_34 : decode cX4_hasOut 34 = .ok (.goto 4, 3) := by decide +kernel
theorem dX4_hasOut_37 : decode cX4_hasOut 37 = .ok (.iconst 0, 1) := by decide +kernel
theorem dX4_hasOut_38 : decode cX4_hasOut 38 = .ok (.ireturn, 1) := by decide +kernel
theorem dX9_init_0 : decode cX9_init 0 = .ok (.aload_n 0, 1) := by decide +kernel
theorem dX9_init_1 : decode cX9_init 1 = .ok (.invokespecial 3, 3) := by decide +kernel
theorem dX9_init_4 : decode cX9_init 4 = .ok (.aload_n 0, 1) := by decide +kernel
theorem dX9_init_5 : decode cX9_init 5 = .ok (.iconst 0, 1) := by decide +kernel
theorem dX9_init_6 : decode cX9_init 6 = .ok (.putfield 9, 3) := by decide +kernel
theorem dX9_init_9 : decode cX9_init 9 = .ok (.aload_n 0, 1) := by decide +kernel
theorem dX9_init_10 : decode cX9_init 10 = .ok (.aload_n 1, 1) := by decide +kernel
theorem dX9_init_11 : decode cX9_init 11 = .ok (.putfield 15, 3) := by decide +kernel
theorem dX9_init_14 : decode cX9_init 14 = .ok (.aload_n 0, 1) := by decide +kernel
theorem dX9_init_15 : decode cX9_init 15 = .ok (.iload_n 2, 1) := by decide +kernel
theorem dX9_init_16 : decode cX9_init 16 = .ok (.putfield 19, 3) := by decide +kernel
theorem dX9_init_19 : decode cX9_init 19 = .ok (.aload_n 0, 1) := by decide +kernel
theorem dX9_init_20 : decode cX9_init 20 = .ok (.iload_n 3, 1) := by decide +kernel
theorem dX9_init_21 : decode cX9_init 21 = .ok (.putfield 22, 3) := by decide +kernel
theorem dX9_init_24 : decode cX9_init 24 = .ok (.return_, 1) := by decide +kernel
theorem dX9_begin_0 : decode cX9_begin 0 = .ok (.aload_n 0, 1) := by decide +kernel
theorem dX9_begin_1 : decode cX9_begin 1 = .ok (.getfield 15, 3) := by decide +kernel
theorem dX9_begin_4 : decode cX9_begin 4 = .ok (.getfield 25, 3) := by decide +kernel
theorem dX9_begin_7 : decode cX9_begin 7 = .ok (.iconst 2, 1) := by decide +kernel
theorem dX9_begin_8 : decode cX9_begin 8 = .ok (.if_icmp .ne 12, 3) := by decide +kernel
theorem dX9_begin_11 : decode cX9_begin 11 = .ok (.iload_n 1, 1) := by decide +kernel
theorem dX9_begin_12 : decode cX9_begin 12 = .ok (.iload_n 2, 1) := by decide +kernel
theorem dX9_begin_13 : decode cX9_begin 13 = .ok (.if_icmp .le 7, 3) := by decide +kernel
theorem dX9_begin_16 : decode cX9_begin 16 = .ok (.iconst 1, 1) := by decide +kernel
theorem dX9_begin_17 : decode cX9_begin 17 = .ok (.goto 4, 3) := by decide +kernel
theorem dX9_begin_20 : decode cX9_begin 20 = .ok (.iconst 0, 1) := by decide +kernel
theorem dX9_begin_21 : decode cX9_begin 21 = .ok (.istore 4, 2) := by decide +kernel
theorem dX9_begin_23 : decode cX9_begin 23 = .ok (.aload_n 0, 1) := by decide +kernel
theorem dX9_begin_24 : decode cX9_begin 24 = .ok (.iload 4, 2) := by decide +kernel
theorem dX9_begin_26 : decode cX9_begin 26 = .ok (.ifCond .eq 7, 3) := by decide +kernel
theorem dX9_begin_29 : decode cX9_begin 29 = .ok (.iload_n 2, 1) := by decide +kernel
theorem dX9_begin_30 : decode cX9_begin 30 = .ok (.goto 4, 3) := by decide +kernel
theorem dX9_begin_33 : decode cX9_begin 33 = .ok (.iload_n 1, 1) := by decide +kernel
theorem dX9_begin_34 : decode cX9_begin 34 = .ok (.putfield 30, 3) := by decide +kernel
theorem dX9_begin_37 : decode cX9_begin 37 = .ok (.aload_n 0, 1) := by decide +kernel
theorem dX9_begin_38 : decode cX9_begin 38 = .ok (.iload 4, 2) := by decide +kernel
theorem dX9_begin_40 : decode cX9_begin 40 = .ok (.ifCond .eq 7, 3) := by decide +kernel
theorem dX9_begin_43 : decode cX9_begin 43 = .ok (.iload_n 1, 1) := by decide +kernel
theorem dX9_begin_44 : decode cX9_begin 44 = .ok (.goto 4, 3) := by decide +kernel
theorem dX9_begin_47 : decode cX9_begin 47 = .ok (.iload_n 2, 1) := by decide +kernel
theorem dX9_begin_48 : decode cX9_begin 48 = .ok (.putfield 33, 3) := by decide +kernel
theorem dX9_begin_51 : decode cX9_begin 51 = .ok (.aload_n 0, 1) := by decide +kernel
theorem dX9_begin_52 : decode cX9_begin 52 = .ok (.iload_n 3, 1) := by decide +kernel
theorem dX9_begin_53 : decode cX9_begin 53 = .ok (.putfield 36, 3) := by decide +kernel
theorem dX9_begin_56 : decode cX9_begin 56 = .ok (.aload_n 0, 1) := by decide +kernel
theorem dX9_begin_57 : decode cX9_begin 57 = .ok (.getfield 15, 3) := by decide +kernel
theorem dX9_begin_60 : decode cX9_begin 60 = .ok (.aload_n 0, 1) := by decide +kernel
theorem dX9_begin_61 : decode cX9_begin 61 = .ok (.invokevirtual 39, 3) := by decide +kernel
theorem dX9_begin_64 : decode cX9_begin 64 = .ok (.aload_n 0, 1) := by decide +kernel
theorem dX9_begin_65 : decode cX9_begin 65 = .ok (.getfield 22, 3) := by decide +kernel
theorem dX9_begin_68 : decode cX9_begin 68 = .ok (.invokevirtual 43, 3) := by decide +kernel
theorem dX9_begin_71 : decode cX9_begin 71 = .ok (.aload_n 0, 1) := by decide +kernel
theorem dX9_begin_72 : decode cX9_begin 72 = .ok (.getfield 15, 3) := by decide +kernel
theorem dX9_begin_75 : decode cX9_begin 75 = .ok (.getfield 47, 3) := by decide +kernel
theorem dX9_begin_78 : decode cX9_begin 78 = .ok (.iconst 0, 1) := by decide +kernel
theorem dX9_begin_79 : decode cX9_begin 79 = .ok (.dup2, 1) := by decide +kernel
theorem dX9_begin_80 : decode cX9_begin 80 = .ok (.iaload, 1) := by decide +kernel
theorem dX9_begin_81 : decode cX9_begin 81 = .ok (.aload_n 0, 1) := by decide +kernel
theorem dX9_begin_82 : decode cX9_begin 82 = .ok (.invokevirtual 51, 3) := by decide +kernel
theorem dX9_begin_85 : decode cX9_begin 85 = .ok (.iadd, 1) := by decide +kernel
theorem dX9_begin_86 : decode cX9_begin 86 = .ok (.iastore, 1) := by decide +kernel
theorem dX9_begin_87 : decode cX9_begin 87 = .ok (.return_, 1) := by decide +kernel
theorem dX10_sell_0 : decode cX10_sell 0 = .ok (.aload_n 0, 1) := by decide +kernel
theorem dX10_sell_1 : decode cX10_sell 1 = .ok (.iload_n 2, 1) := by decide +kernel
theorem dX10_sell_2 : decode cX10_sell 2 = .ok (.invokevirtual 158, 3) := by decide +kernel
theorem dX10_sell_5 : decode cX10_sell 5 = .ok (.astore 7, 2) := by decide +kernel
theorem dX10_sell_7 : decode cX10_sell 7 = .ok (.iload_n 1, 1) := by decide +kernel
theorem dX10_sell_8 : decode cX10_sell 8 = .ok (.invokestatic 162, 3) := by decide +kernel
theorem dX10_sell_11 : decode cX10_sell 11 = .ok (.ifCond .eq 8, 3) := by decide +kernel
theorem dX10_sell_14 : decode cX10_sell 14 = .ok (.aload 7, 2) := by decide +kernel
theorem dX10_sell_16 : decode cX10_sell 16 = .ok (.ifnonnull 6, 3) := by decide +kernel
theorem dX10_sell_19 : decode cX10_sell 19 = .ok (.bipush (-2), 2) := by decide +kernel
theorem dX10_sell_21 : decode cX10_sell 21 = .ok (.ireturn, 1) := by decide +kernel
theorem dX10_sell_22 : decode cX10_sell 22 = .ok (.iload 6, 2) := by decide +kernel
theorem dX10_sell_24 : decode cX10_sell 24 = .ok (.iconst 1, 1) := by decide +kernel
theorem dX10_sell_25 : decode cX10_sell 25 = .ok (.if_icmp .lt 11, 3) := by decide +kernel
theorem dX10_sell_28 : decode cX10_sell 28 = .ok (.iload 6, 2) := by decide +kernel
theorem dX10_sell_30 : decode cX10_sell 30 = .ok (.sipush 1000, 3) := by decide +kernel
theorem dX10_sell_33 : decode cX10_sell 33 = .ok (.if_icmp .le 6, 3) := by decide +kernel
theorem dX10_sell_36 : decode cX10_sell 36 = .ok (.bipush (-3), 2) := by decide +kernel
theorem dX10_sell_38 : decode cX10_sell 38 = .ok (.ireturn, 1) := by decide +kernel
theorem dX10_sell_39 : decode cX10_sell 39 = .ok (.aload 7, 2) := by decide +kernel
theorem dX10_sell_41 : decode cX10_sell 41 = .ok (.iload_n 3, 1) := by decide +kernel
theorem dX10_sell_42 : decode cX10_sell 42 = .ok (.iload 4, 2) := by decide +kernel
theorem dX10_sell_44 : decode cX10_sell 44 = .ok (.iload 5, 2) := by decide +kernel
theorem dX10_sell_46 : decode cX10_sell 46 = .ok (.invokevirtual 165, 3) := by decide +kernel
theorem dX10_sell_49 : decode cX10_sell 49 = .ok (.istore 8, 2) := by decide +kernel
theorem dX10_sell_51 : decode cX10_sell 51 = .ok (.iload 8, 2) := by decide +kernel
theorem dX10_sell_53 : decode cX10_sell 53 = .ok (.ifCond .eq 6, 3) := by decide +kernel
theorem dX10_sell_56 : decode cX10_sell 56 = .ok (.iload 8, 2) := by decide +kernel
theorem dX10_sell_58 : decode cX10_sell 58 = .ok (.ireturn, 1) := by decide +kernel
theorem dX10_sell_59 : decode cX10_sell 59 = .ok (.aload 7, 2) := by decide +kernel
theorem dX10_sell_61 : decode cX10_sell 61 = .ok (.iload_n 3, 1) := by decide +kernel
theorem dX10_sell_62 : decode cX10_sell 62 = .ok (.iload 4, 2) := by decide +kernel
theorem dX10_sell_64 : decode cX10_sell 64 = .ok (.iload 5, 2) := by decide +kernel
theorem dX10_sell_66 : decode cX10_sell 66 = .ok (.invokevirtual 169, 3) := by decide +kernel
theorem dX10_sell_69 : decode cX10_sell 69 = .ok (.ifCond .eq 6, 3) := by decide +kernel
theorem dX10_sell_72 : decode cX10_sell 72 = .ok (.bipush (-5), 2) := by decide +kernel
theorem dX10_sell_74 : decode cX10_sell 74 = .ok (.ireturn, 1) := by decide +kernel
theorem dX10_sell_75 : decode cX10_sell 75 = .ok (.aload 7, 2) := by decide +kernel
theorem dX10_sell_77 : decode cX10_sell 77 = .ok (.getfield 173, 3) := by decide +kernel
theorem dX10_sell_80 : decode cX10_sell 80 = .ok (.getfield 88, 3) := by decide +kernel
theorem dX10_sell_83 : decode cX10_sell 83 = .ok (.ifCond .ne 14, 3) := by decide +kernel
theorem dX10_sell_86 : decode cX10_sell 86 = .ok (.aload 7, 2) := by decide +kernel
theorem dX10_sell_88 : decode cX10_sell 88 = .ok (.getfield 177, 3) := by decide +kernel
theorem dX10_sell_91 : decode cX10_sell 91 = .ok (.getfield 88, 3) := by decide +kernel
theorem dX10_sell_94 : decode cX10_sell 94 = .ok (.ifCond .eq 6, 3) := by decide +kernel
theorem dX10_sell_97 : decode cX10_sell 97 = .ok (.bipush (-6), 2) := by decide +kernel
theorem dX10_sell_99 : decode cX10_sell 99 = .ok (.ireturn, 1) := by decide +kernel
theorem dX10_sell_100 : decode cX10_sell 100 = .ok (.aload_n 0, 1) := by decide +kernel
theorem dX10_sell_101 : decode cX10_sell 101 = .ok (.getfield 104, 3) := by decide +kernel
theorem dX10_sell_104 : decode cX10_sell 104 = .ok (.sipush 200, 3) := by decide +kernel
theorem dX10_sell_107 : decode cX10_sell 107 = .ok (.if_icmp .lt 6, 3) := by decide +kernel
theorem dX10_sell_110 : decode cX10_sell 110 = .ok (.bipush (-7), 2) := by decide +kernel
theorem dX10_sell_112 : decode cX10_sell 112 = .ok (.ireturn, 1) := by decide +kernel
theorem dX10_sell_113 : decode cX10_sell 113 = .ok (.aload_n 0, 1) := by decide +kernel
theorem dX10_sell_114 : decode cX10_sell 114 = .ok (.getfield 23, 3) := by decide +kernel
theorem dX10_sell_117 : decode cX10_sell 117 = .ok (.aload_n 0, 1) := by decide +kernel
theorem dX10_sell_118 : decode cX10_sell 118 = .ok (.getfield 104, 3) := by decide +kernel
theorem dX10_sell_121 : decode cX10_sell 121 = .ok (.new 21, 3) := by decide +kernel
theorem dX10_sell_124 : decode cX10_sell 124 = .ok (.dup, 1) := by decide +kernel
theorem dX10_sell_125 : decode cX10_sell 125 = .ok (.aload 7, 2) := by decide +kernel
theorem dX10_sell_127 : decode cX10_sell 127 = .ok (.iload_n 1, 1) := by decide +kernel
theorem dX10_sell_128 : decode cX10_sell 128 = .ok (.iload 6, 2) := by decide +kernel
theorem dX10_sell_130 : decode cX10_sell 130 = .ok (.invokespecial 180, 3) := by decide +kernel
theorem dX10_sell_133 : decode cX10_sell 133 = .ok (.aastore, 1) := by decide +kernel
theorem dX10_sell_134 : decode cX10_sell 134 = .ok (.aload_n 0, 1) := by decide +kernel
theorem dX10_sell_135 : decode cX10_sell 135 = .ok (.getfield 23, 3) := by decide +kernel
theorem dX10_sell_138 : decode cX10_sell 138 = .ok (.aload_n 0, 1) := by decide +kernel
theorem dX10_sell_139 : decode cX10_sell 139 = .ok (.getfield 104, 3) := by decide +kernel
theorem dX10_sell_142 : decode cX10_sell 142 = .ok (.aaload, 1) := by decide +kernel
theorem dX10_sell_143 : decode cX10_sell 143 = .ok (.iload_n 3, 1) := by decide +kernel
theorem dX10_sell_144 : decode cX10_sell 144 = .ok (.iload 4, 2) := by decide +kernel
theorem dX10_sell_146 : decode cX10_sell 146 = .ok (.iload 5, 2) := by decide +kernel
theorem dX10_sell_148 : decode cX10_sell 148 = .ok (.invokevirtual 183, 3) := by decide +kernel
theorem dX10_sell_151 : decode cX10_sell 151 = .ok (.aload_n 0, 1) := by decide +kernel
theorem dX10_sell_152 : decode cX10_sell 152 = .ok (.dup, 1) := by decide +kernel
theorem dX10_sell_153 : decode cX10_sell 153 = .ok (.getfield 104, 3) := by decide +kernel
theorem dX10_sell_156 : decode cX10_sell 156 = .ok (.iconst 1, 1) := by decide +kernel
theorem dX10_sell_157 : decode cX10_sell 157 = .ok (.iadd, 1) := by decide +kernel
theorem dX10_sell_158 : decode cX10_sell 158 = .ok (.putfield 104, 3) := by decide +kernel
theorem dX10_sell_161 : decode cX10_sell 161 = .ok (.aload_n 0, 1) := by decide +kernel
theorem dX10_sell_162 : decode cX10_sell 162 = .ok (.getfield 104, 3) := by decide +kernel
theorem dX10_sell_165 : decode cX10_sell 165 = .ok (.iconst 1, 1) := by decide +kernel
theorem dX10_sell_166 : decode cX10_sell 166 = .ok (.isub, 1) := by decide +kernel
theorem dX10_sell_167 : decode cX10_sell 167 = .ok (.ireturn, 1) := by decide +kernel
theorem dX11_isThere_0 : decode cX11_isThere 0 = .ok (.iload_n 1, 1) := by decide +kernel
theorem dX11_isThere_1 : decode cX11_isThere 1 = .ok (.iconst 0, 1) := by decide +kernel
theorem dX11_isThere_2 : decode cX11_isThere 2 = .ok (.bipush 48, 2) := by decide +kernel
theorem dX11_isThere_4 : decode cX11_isThere 4 = .ok (.invokestatic 172, 3) := by decide +kernel
theorem dX11_isThere_7 : decode cX11_isThere 7 = .ok (.ifCond .eq 16, 3) := by decide +kernel
theorem dX11_isThere_10 : decode cX11_isThere 10 = .ok (.aload_n 0, 1) := by decide +kernel
theorem dX11_isThere_11 : decode cX11_isThere 11 = .ok (.getfield 26, 3) := by decide +kernel
theorem dX11_isThere_14 : decode cX11_isThere 14 = .ok (.iload_n 1, 1) := by decide +kernel
theorem dX11_isThere_15 : decode cX11_isThere 15 = .ok (.baload, 1) := by decide +kernel
theorem dX11_isThere_16 : decode cX11_isThere 16 = .ok (.ifCond .eq 7, 3) := by decide +kernel
theorem dX11_isThere_19 : decode cX11_isThere 19 = .ok (.iconst 1, 1) := by decide +kernel
theorem dX11_isThere_20 : decode cX11_isThere 20 = .ok (.goto 4, 3) := by decide +kernel
theorem dX11_isThere_23 : decode cX11_isThere 23 = .ok (.iconst 0, 1) := by decide +kernel
theorem dX11_isThere_24 : decode cX11_isThere 24 = .ok (.ireturn, 1) := by decide +kernel
theorem dX11_raceOf_0 : decode cX11_raceOf 0 = .ok (.iload_n 1, 1) := by decide +kernel
theorem dX11_raceOf_1 : decode cX11_raceOf 1 = .ok (.bipush 48, 2) := by decide +kernel
theorem dX11_raceOf_3 : decode cX11_raceOf 3 = .ok (.if_icmp .ne 10, 3) := by decide +kernel
theorem dX11_raceOf_6 : decode cX11_raceOf 6 = .ok (.aload_n 0, 1) := by decide +kernel
theorem dX11_raceOf_7 : decode cX11_raceOf 7 = .ok (.getfield 176, 3) := by decide +kernel
theorem dX11_raceOf_10 : decode cX11_raceOf 10 = .ok (.goto 6, 3) := by decide +kernel
theorem dX11_raceOf_13 : decode cX11_raceOf 13 = .ok (.iload_n 1, 1) := by decide +kernel
theorem dX11_raceOf_14 : decode cX11_raceOf 14 = .ok (.iconst 4, 1) := by decide +kernel
theorem dX11_raceOf_15 : decode cX11_raceOf 15 = .ok (.idiv, 1) := by decide +kernel
theorem dX11_raceOf_16 : decode cX11_raceOf 16 = .ok (.ireturn, 1) := by decide +kernel
theorem dX11_barsRow_0 : decode cX11_barsRow 0 = .ok (.iload_n 1, 1) := by decide +kernel
theorem dX11_barsRow_1 : decode cX11_barsRow 1 = .ok (.invokestatic 218, 3) := by decide +kernel
theorem dX11_barsRow_4 : decode cX11_barsRow 4 = .ok (.istore 5, 2) := by decide +kernel
theorem dX11_barsRow_6 : decode cX11_barsRow 6 = .ok (.aload_n 0, 1) := by decide +kernel
theorem dX11_barsRow_7 : decode cX11_barsRow 7 = .ok (.iload_n 1, 1) := by decide +kernel
theorem dX11_barsRow_8 : decode cX11_barsRow 8 = .ok (.invokevirtual 278, 3) := by decide +kernel
theorem dX11_barsRow_11 : decode cX11_barsRow 11 = .ok (.istore 6, 2) := by decide +kernel
theorem dX11_barsRow_13 : decode cX11_barsRow 13 = .ok (.aload_n 0, 1) := by decide +kernel
theorem dX11_barsRow_14 : decode cX11_barsRow 14 = .ok (.iload 6, 2) := by decide +kernel
theorem dX11_barsRow_16 : decode cX11_barsRow 16 = .ok (.iload_n 2, 1) := by decide +kernel
theorem dX11_barsRow_17 : decode cX11_barsRow 17 = .ok (.invokevirtual 194, 3) := by decide +kernel
theorem dX11_barsRow_20 : decode cX11_barsRow 20 = .ok (.istore 7, 2) := by decide +kernel
theorem dX11_barsRow_22 : decode cX11_barsRow 22 = .ok (.iload 5, 2) := by decide +kernel
theorem dX11_barsRow_24 : decode cX11_barsRow 24 = .ok (.ifCond .eq 9, 3) := by decide +kernel
theorem dX11_barsRow_27 : decode cX11_barsRow 27 = .ok (.iload 5, 2) := by decide +kernel
theorem dX11_barsRow_29 : decode cX11_barsRow 29 = .ok (.iconst 1, 1) := by decide +kernel
theorem dX11_barsRow_30 : decode cX11_barsRow 30 = .ok (.if_icmp .ne 27, 3) := by decide +kernel
theorem dX11_barsRow_33 : decode cX11_barsRow 33 = .ok (.iload 7, 2) := by decide +kernel
theorem dX11_barsRow_35 : decode cX11_barsRow 35 = .ok (.ifCond .eq 16, 3) := by decide +kernel
theorem dX11_barsRow_38 : decode cX11_barsRow 38 = .ok (.iload_n 3, 1) := by decide +kernel
theorem dX11_barsRow_39 : decode cX11_barsRow 39 = .ok (.ifCond .ne 12, 3) := by decide +kernel
theorem dX11_barsRow_42 : decode cX11_barsRow 42 = .ok (.iload 4, 2) := by decide +kernel
theorem dX11_barsRow_44 : decode cX11_barsRow 44 = .ok (.ifCond .ne 7, 3) := by decide +kernel
theorem dX11_barsRow_47 : decode cX11_barsRow 47 = .ok (.iconst 1, 1) := by decide +kernel
theorem dX11_barsRow_48 : decode cX11_barsRow 48 = .ok (.goto 4, 3) := by decide +kernel
theorem dX11_barsRow_51 : decode cX11_barsRow 51 = .ok (.iconst 0, 1) := by decide +kernel
theorem dX11_barsRow_52 : decode cX11_barsRow 52 = .ok (.istore 7, 2) := by decide +kernel
theorem dX11_barsRow_54 : decode cX11_barsRow 54 = .ok (.goto 63, 3) := by decide +kernel
theorem dX11_barsRow_57 : decode cX11_barsRow 57 = .ok (.iload 7, 2) := by decide +kernel
theorem dX11_barsRow_59 : decode cX11_barsRow 59 = .ok (.ifCond .eq 55, 3) := by decide +kernel
theorem dX11_barsRow_62 : decode cX11_barsRow 62 = .ok (.aload_n 0, 1) := by decide +kernel
theorem dX11_barsRow_63 : decode cX11_barsRow 63 = .ok (.iload 5, 2) := by decide +kernel
theorem dX11_barsRow_65 : decode cX11_barsRow 65 = .ok (.iconst 4, 1) := by decide +kernel
theorem dX11_barsRow_66 : decode cX11_barsRow 66 = .ok (.if_icmp .ne 10, 3) := by decide +kernel
theorem dX11_barsRow_69 : decode cX11_barsRow 69 = .ok (.aload_n 0, 1) := by decide +kernel
theorem dX11_barsRow_70 : decode cX11_barsRow 70 = .ok (.getfield 191, 3) := by decide +kernel
theorem dX11_barsRow_73 : decode cX11_barsRow 73 = .ok (.goto 5, 3) := by decide +kernel
theorem dX11_barsRow_76 : decode cX11_barsRow 76 = .ok (.iload 6, 2) := by decide +kernel
theorem dX11_barsRow_78 : decode cX11_barsRow 78 = .ok (.iload_n 3, 1) := by decide +kernel
theorem dX11_barsRow_79 : decode cX11_barsRow 79 = .ok (.invokevirtual 194, 3) := by decide +kernel
theorem dX11_barsRow_82 : decode cX11_barsRow 82 = .ok (.ifCond .eq 32, 3) := by decide +kernel
theorem dX11_barsRow_85 : decode cX11_barsRow 85 = .ok (.iload 5, 2) := by decide +kernel
theorem dX11_barsRow_87 : decode cX11_barsRow 87 = .ok (.iconst 3, 1) := by decide +kernel
theorem dX11_barsRow_88 : decode cX11_barsRow 88 = .ok (.if_icmp .ne 17, 3) := by decide +kernel
theorem dX11_barsRow_91 : decode cX11_barsRow 91 = .ok (.aload_n 0, 1) := by decide +kernel
theorem dX11_barsRow_92 : decode cX11_barsRow 92 = .ok (.iload 6, 2) := by decide +kernel
theorem dX11_barsRow_94 : decode cX11_barsRow 94 = .ok (.iload 4, 2) := by decide +kernel
theorem dX11_barsRow_96 : decode cX11_barsRow 96 = .ok (.invokevirtual 194, 3) := by decide +kernel
theorem dX11_barsRow_99 : decode cX11_barsRow 99 = .ok (.ifCond .eq 15, 3) := by decide +kernel
theorem dX11_barsRow_102 : decode cX11_barsRow 102 = .ok (.goto 8, 3) := by decide +kernel
theorem dX11_barsRow_105 : decode cX11_barsRow 105 = .ok (.iload 4, 2) := by decide +kernel
theorem dX11_barsRow_107 : decode cX11_barsRow 107 = .ok (.ifCond .ne 7, 3) := by decide +kernel
theorem dX11_barsRow_110 : decode cX11_barsRow 110 = .ok (.iconst 1, 1) := by decide +kernel
theorem dX11_barsRow_111 : decode cX11_barsRow 111 = .ok (.goto 4, 3) := by decide +kernel
theorem dX11_barsRow_114 : decode cX11_barsRow 114 = .ok (.iconst 0, 1) := by decide +kernel
theorem dX11_barsRow_115 : decode cX11_barsRow 115 = .ok (.istore 7, 2) := by decide +kernel
theorem dX11_barsRow_117 : decode cX11_barsRow 117 = .ok (.iload 7, 2) := by decide +kernel
theorem dX11_barsRow_119 : decode cX11_barsRow 119 = .ok (.ifCond .ne 6, 3) := by decide +kernel
theorem dX11_barsRow_122 : decode cX11_barsRow 122 = .ok (.bipush (-3), 2) := by decide +kernel
theorem dX11_barsRow_124 : decode cX11_barsRow 124 = .ok (.ireturn, 1) := by decide +kernel
theorem dX11_barsRow_125 : decode cX11_barsRow 125 = .ok (.iload 5, 2) := by decide +kernel
theorem dX11_barsRow_127 : decode cX11_barsRow 127 = .ok (.iconst 2, 1) := by decide +kernel
theorem dX11_barsRow_128 : decode cX11_barsRow 128 = .ok (.if_icmp .eq 9, 3) := by decide +kernel
theorem dX11_barsRow_131 : decode cX11_barsRow 131 = .ok (.iload 5, 2) := by decide +kernel
theorem dX11_barsRow_133 : decode cX11_barsRow 133 = .ok (.iconst 3, 1) := by decide +kernel
theorem dX11_barsRow_134 : decode cX11_barsRow 134 = .ok (.if_icmp .ne 8, 3) := by decide +kernel
theorem dX11_barsRow_137 : decode cX11_barsRow 137 = .ok (.iload_n 2, 1) := by decide +kernel
theorem dX11_barsRow_138 : decode cX11_barsRow 138 = .ok (.iload_n 3, 1) := by decide +kernel
theorem dX11_barsRow_139 : decode cX11_barsRow 139 = .ok (.if_icmp .eq 21, 3) := by decide +kernel
theorem dX11_barsRow_142 : decode cX11_barsRow 142 = .ok (.iload 5, 2) := by decide +kernel
theorem dX11_barsRow_144 : decode cX11_barsRow 144 = .ok (.iconst 3, 1) := by decide +kernel
theorem dX11_barsRow_145 : decode cX11_barsRow 145 = .ok (.if_icmp .ne 19, 3) := by decide +kernel
theorem dX11_barsRow_148 : decode cX11_barsRow 148 = .ok (.iload_n 2, 1) := by decide +kernel
theorem dX11_barsRow_149 : decode cX11_barsRow 149 = .ok (.iload 4, 2) := by decide +kernel
theorem dX11_barsRow_151 : decode cX11_barsRow 151 = .ok (.if_icmp .eq 9, 3) := by decide +kernel
theorem dX11_barsRow_154 : decode cX11_barsRow 154 = .ok (.iload_n 3, 1) := by decide +kernel
theorem dX11_barsRow_155 : decode cX11_barsRow 155 = .ok (.iload 4, 2) := by decide +kernel
theorem dX11_barsRow_157 : decode cX11_barsRow 157 = .ok (.if_icmp .ne 7, 3) := by decide +kernel
theorem dX11_barsRow_160 : decode cX11_barsRow 160 = .ok (.iconst 1, 1) := by decide +kernel
theorem dX11_barsRow_161 : decode cX11_barsRow 161 = .ok (.goto 4, 3) := by decide +kernel
theorem dX11_barsRow_164 : decode cX11_barsRow 164 = .ok (.iconst 0, 1) := by decide +kernel
theorem dX11_barsRow_165 : decode cX11_barsRow 165 = .ok (.istore 8, 2) := by decide +kernel
theorem dX11_barsRow_167 : decode cX11_barsRow 167 = .ok (.iload 8, 2) := by decide +kernel
theorem dX11_barsRow_169 : decode cX11_barsRow 169 = .ok (.ifCond .eq 8, 3) := by decide +kernel
theorem dX11_barsRow_172 : decode cX11_barsRow 172 = .ok (.bipush (-4), 2) := by decide +kernel
theorem dX11_barsRow_174 : decode cX11_barsRow 174 = .ok (.goto 4, 3) := by decide +kernel
theorem dX11_barsRow_177 : decode cX11_barsRow 177 = .ok (.iconst 0, 1) := by decide +kernel
theorem dX11_barsRow_178 : decode cX11_barsRow 178 = .ok (.ireturn, 1) := by decide +kernel
theorem dX11_isGone_0 : decode cX11_isGone 0 = .ok (.iload_n 2, 1) := by decide +kernel
theorem dX11_isGone_1 : decode cX11_isGone 1 = .ok (.ifCond .le 21, 3) := by decide +kernel
theorem dX11_isGone_4 : decode cX11_isGone 4 = .ok (.aload_n 0, 1) := by decide +kernel
theorem dX11_isGone_5 : decode cX11_isGone 5 = .ok (.getfield 19, 3) := by decide +kernel
theorem dX11_isGone_8 : decode cX11_isGone 8 = .ok (.bipush 13, 2) := by decide +kernel
theorem dX11_isGone_10 : decode cX11_isGone 10 = .ok (.iload_n 1, 1) := by decide +kernel
theorem dX11_isGone_11 : decode cX11_isGone 11 = .ok (.imul, 1) := by decide +kernel
theorem dX11_isGone_12 : decode cX11_isGone 12 = .ok (.iload_n 2, 1) := by decide +kernel
theorem dX11_isGone_13 : decode cX11_isGone 13 = .ok (.iadd, 1) := by decide +kernel
theorem dX11_isGone_14 : decode cX11_isGone 14 = .ok (.baload, 1) := by decide +kernel
theorem dX11_isGone_15 : decode cX11_isGone 15 = .ok (.ifCond .eq 7, 3) := by decide +kernel
theorem dX11_isGone_18 : decode cX11_isGone 18 = .ok (.iconst 1, 1) := by decide +kernel
theorem dX11_isGone_19 : decode cX11_isGone 19 = .ok (.goto 4, 3) := by decide +kernel
theorem dX11_isGone_22 : decode cX11_isGone 22 = .ok (.iconst 0, 1) := by decide +kernel
theorem dX11_isGone_23 : decode cX11_isGone 23 = .ok (.ireturn, 1) := by decide +kernel
theorem dX11_sell_0 : decode cX11_sell 0 = .ok (.iload_n 1, 1) := by decide +kernel
theorem dX11_sell_1 : decode cX11_sell 1 = .ok (.iconst 0, 1) := by decide +kernel
theorem dX11_sell_2 : decode cX11_sell 2 = .ok (.iconst 5, 1) := by decide +kernel
theorem dX11_sell_3 : decode cX11_sell 3 = .ok (.invokestatic 172, 3) := by decide +kernel
theorem dX11_sell_6 : decode cX11_sell 6 = .ok (.ifCond .eq 11, 3) := by decide +kernel
theorem dX11_sell_9 : decode cX11_sell 9 = .ok (.aload_n 0, 1) := by decide +kernel
theorem dX11_sell_10 : decode cX11_sell 10 = .ok (.iload_n 2, 1) := by decide +kernel
theorem dX11_sell_11 : decode cX11_sell 11 = .ok (.invokevirtual 281, 3) := by decide +kernel
theorem dX11_sell_14 : decode cX11_sell 14 = .ok (.ifCond .ne 6, 3) := by decide +kernel
theorem dX11_sell_17 : decode cX11_sell 17 = .ok (.bipush (-2), 2) := by decide +kernel
theorem dX11_sell_19 : decode cX11_sell 19 = .ok (.ireturn, 1) := by decide +kernel
theorem dX11_sell_20 : decode cX11_sell 20 = .ok (.aload_n 0, 1) := by decide +kernel
theorem dX11_sell_21 : decode cX11_sell 21 = .ok (.iload_n 2, 1) := by decide +kernel
theorem dX11_sell_22 : decode cX11_sell 22 = .ok (.iload_n 3, 1) := by decide +kernel
theorem dX11_sell_23 : decode cX11_sell 23 = .ok (.iload 4, 2) := by decide +kernel
theorem dX11_sell_25 : decode cX11_sell 25 = .ok (.iload 5, 2) := by decide +kernel
theorem dX11_sell_27 : decode cX11_sell 27 = .ok (.invokevirtual 284, 3) := by decide +kernel
theorem dX11_sell_30 : decode cX11_sell 30 = .ok (.istore 7, 2) := by decide +kernel
theorem dX11_sell_32 : decode cX11_sell 32 = .ok (.iload 6, 2) := by decide +kernel
theorem dX11_sell_34 : decode cX11_sell 34 = .ok (.iconst 1, 1) := by decide +kernel
theorem dX11_sell_35 : decode cX11_sell 35 = .ok (.sipush 1000, 3) := by decide +kernel
theorem dX11_sell_38 : decode cX11_sell 38 = .ok (.invokestatic 172, 3) := by decide +kernel
theorem dX11_sell_41 : decode cX11_sell 41 = .ok (.ifCond .eq 10, 3) := by decide +kernel
theorem dX11_sell_44 : decode cX11_sell 44 = .ok (.iload 7, 2) := by decide +kernel
theorem dX11_sell_46 : decode cX11_sell 46 = .ok (.bipush (-3), 2) := by decide +kernel
theorem dX11_sell_48 : decode cX11_sell 48 = .ok (.if_icmp .ne 6, 3) := by decide +kernel
theorem dX11_sell_51 : decode cX11_sell 51 = .ok (.bipush (-3), 2) := by decide +kernel
theorem dX11_sell_53 : decode cX11_sell 53 = .ok (.ireturn, 1) := by decide +kernel
theorem dX11_sell_54 : decode cX11_sell 54 = .ok (.iload 7, 2) := by decide +kernel
theorem dX11_sell_56 : decode cX11_sell 56 = .ok (.bipush (-4), 2) := by decide +kernel
theorem dX11_sell_58 : decode cX11_sell 58 = .ok (.if_icmp .ne 6, 3) := by decide +kernel
theorem dX11_sell_61 : decode cX11_sell 61 = .ok (.bipush (-4), 2) := by decide +kernel
theorem dX11_sell_63 : decode cX11_sell 63 = .ok (.ireturn, 1) := by decide +kernel
theorem dX11_sell_64 : decode cX11_sell 64 = .ok (.aload_n 0, 1) := by decide +kernel
theorem dX11_sell_65 : decode cX11_sell 65 = .ok (.iload_n 2, 1) := by decide +kernel
theorem dX11_sell_66 : decode cX11_sell 66 = .ok (.invokevirtual 278, 3) := by decide +kernel
theorem dX11_sell_69 : decode cX11_sell 69 = .ok (.istore 8, 2) := by decide +kernel
theorem dX11_sell_71 : decode cX11_sell 71 = .ok (.iload_n 2, 1) := by decide +kernel
theorem dX11_sell_72 : decode cX11_sell 72 = .ok (.bipush 48, 2) := by decide +kernel
theorem dX11_sell_74 : decode cX11_sell 74 = .ok (.if_icmp .ne 10, 3) := by decide +kernel
theorem dX11_sell_77 : decode cX11_sell 77 = .ok (.aload_n 0, 1) := by decide +kernel
theorem dX11_sell_78 : decode cX11_sell 78 = .ok (.getfield 191, 3) := by decide +kernel
theorem dX11_sell_81 : decode cX11_sell 81 = .ok (.goto 5, 3) := by decide +kernel
theorem dX11_sell_84 : decode cX11_sell 84 = .ok (.iload 8, 2) := by decide +kernel
theorem dX11_sell_86 : decode cX11_sell 86 = .ok (.istore 9, 2) := by decide +kernel
theorem dX11_sell_88 : decode cX11_sell 88 = .ok (.aload_n 0, 1) := by decide +kernel
theorem dX11_sell_89 : decode cX11_sell 89 = .ok (.iload 8, 2) := by decide +kernel
theorem dX11_sell_91 : decode cX11_sell 91 = .ok (.iload_n 3, 1) := by decide +kernel
theorem dX11_sell_92 : decode cX11_sell 92 = .ok (.invokevirtual 288, 3) := by decide +kernel
theorem dX11_sell_95 : decode cX11_sell 95 = .ok (.ifCond .ne 25, 3) := by decide +kernel
theorem dX11_sell_98 : decode cX11_sell 98 = .ok (.aload_n 0, 1) := by decide +kernel
theorem dX11_sell_99 : decode cX11_sell 99 = .ok (.iload 9, 2) := by decide +kernel
theorem dX11_sell_101 : decode cX11_sell 101 = .ok (.iload 4, 2) := by decide +kernel
theorem dX11_sell_103 : decode cX11_sell 103 = .ok (.invokevirtual 288, 3) := by decide +kernel
theorem dX11_sell_106 : decode cX11_sell 106 = .ok (.ifCond .ne 14, 3) := by decide +kernel
theorem dX11_sell_109 : decode cX11_sell 109 = .ok (.aload_n 0, 1) := by decide +kernel
theorem dX11_sell_110 : decode cX11_sell 110 = .ok (.iload 8, 2) := by decide +kernel
theorem dX11_sell_112 : decode cX11_sell 112 = .ok (.iload 5, 2) := by decide +kernel
theorem dX11_sell_114 : decode cX11_sell 114 = .ok (.invokevirtual 288, 3) := by decide +kernel
theorem dX11_sell_117 : decode cX11_sell 117 = .ok (.ifCond .eq 6, 3) := by decide +kernel
theorem dX11_sell_120 : decode cX11_sell 120 = .ok (.bipush (-5), 2) := by decide +kernel
theorem dX11_sell_122 : decode cX11_sell 122 = .ok (.ireturn, 1) := by decide +kernel
theorem dX11_sell_123 : decode cX11_sell 123 = .ok (.aload_n 0, 1) := by decide +kernel
theorem dX11_sell_124 : decode cX11_sell 124 = .ok (.getfield 7, 3) := by decide +kernel
theorem dX11_sell_127 : decode cX11_sell 127 = .ok (.iload 8, 2) := by decide +kernel
theorem dX11_sell_129 : decode cX11_sell 129 = .ok (.iaload, 1) := by decide +kernel
theorem dX11_sell_130 : decode cX11_sell 130 = .ok (.ifCond .ne 13, 3) := by decide +kernel
theorem dX11_sell_133 : decode cX11_sell 133 = .ok (.aload_n 0, 1) := by decide +kernel
theorem dX11_sell_134 : decode cX11_sell 134 = .ok (.getfield 7, 3) := by decide +kernel
theorem dX11_sell_137 : decode cX11_sell 137 = .ok (.iload 9, 2) := by decide +kernel
theorem dX11_sell_139 : decode cX11_sell 139 = .ok (.iaload, 1) := by decide +kernel
theorem dX11_sell_140 : decode cX11_sell 140 = .ok (.ifCond .eq 6, 3) := by decide +kernel
theorem dX11_sell_143 : decode cX11_sell 143 = .ok (.bipush (-6), 2) := by decide +kernel
theorem dX11_sell_145 : decode cX11_sell 145 = .ok (.ireturn, 1) := by decide +kernel
theorem dX11_sell_146 : decode cX11_sell 146 = .ok (.aload_n 0, 1) := by decide +kernel
theorem dX11_sell_147 : decode cX11_sell 147 = .ok (.getfield 205, 3) := by decide +kernel
theorem dX11_sell_150 : decode cX11_sell 150 = .ok (.sipush 200, 3) := by decide +kernel
theorem dX11_sell_153 : decode cX11_sell 153 = .ok (.if_icmp .ne 6, 3) := by decide +kernel
theorem dX11_sell_156 : decode cX11_sell 156 = .ok (.bipush (-7), 2) := by decide +kernel
theorem dX11_sell_158 : decode cX11_sell 158 = .ok (.ireturn, 1) := by decide +kernel
theorem dX11_sell_159 : decode cX11_sell 159 = .ok (.iload_n 2, 1) := by decide +kernel
theorem dX11_sell_160 : decode cX11_sell 160 = .ok (.invokestatic 218, 3) := by decide +kernel
theorem dX11_sell_163 : decode cX11_sell 163 = .ok (.iconst 2, 1) := by decide +kernel
theorem dX11_sell_164 : decode cX11_sell 164 = .ok (.if_icmp .ne 13, 3) := by decide +kernel
theorem dX11_sell_167 : decode cX11_sell 167 = .ok (.iload 4, 2) := by decide +kernel
theorem dX11_sell_169 : decode cX11_sell 169 = .ok (.iload_n 3, 1) := by decide +kernel
theorem dX11_sell_170 : decode cX11_sell 170 = .ok (.if_icmp .ge 7, 3) := by decide +kernel
theorem dX11_sell_173 : decode cX11_sell 173 = .ok (.iconst 1, 1) := by decide +kernel
theorem dX11_sell_174 : decode cX11_sell 174 = .ok (.goto 4, 3) := by decide +kernel
theorem dX11_sell_177 : decode cX11_sell 177 = .ok (.iconst 0, 1) := by decide +kernel
theorem dX11_sell_178 : decode cX11_sell 178 = .ok (.istore 10, 2) := by decide +kernel
theorem dX11_sell_180 : decode cX11_sell 180 = .ok (.aload_n 0, 1) := by decide +kernel
theorem dX11_sell_181 : decode cX11_sell 181 = .ok (.getfield 205, 3) := by decide +kernel
theorem dX11_sell_184 : decode cX11_sell 184 = .ok (.istore 11, 2) := by decide +kernel
theorem dX11_sell_186 : decode cX11_sell 186 = .ok (.aload_n 0, 1) := by decide +kernel
theorem dX11_sell_187 : decode cX11_sell 187 = .ok (.getfield 68, 3) := by decide +kernel
theorem dX11_sell_190 : decode cX11_sell 190 = .ok (.iload 11, 2) := by decide +kernel
theorem dX11_sell_192 : decode cX11_sell 192 = .ok (.iload_n 2, 1) := by decide +kernel
theorem dX11_sell_193 : decode cX11_sell 193 = .ok (.iastore, 1) := by decide +kernel
theorem dX11_sell_194 : decode cX11_sell 194 = .ok (.aload_n 0, 1) := by decide +kernel
theorem dX11_sell_195 : decode cX11_sell 195 = .ok (.getfield 71, 3) := by decide +kernel
theorem dX11_sell_198 : decode cX11_sell 198 = .ok (.iload 11, 2) := by decide +kernel
theorem dX11_sell_200 : decode cX11_sell 200 = .ok (.iload 10, 2) := by decide +kernel
theorem dX11_sell_202 : decode cX11_sell 202 = .ok (.ifCond .eq 8, 3) := by decide +kernel
theorem dX11_sell_205 : decode cX11_sell 205 = .ok (.iload 4, 2) := by decide +kernel
theorem dX11_sell_207 : decode cX11_sell 207 = .ok (.goto 4, 3) := by decide +kernel
theorem dX11_sell_210 : decode cX11_sell 210 = .ok (.iload_n 3, 1) := by decide +kernel
theorem dX11_sell_211 : decode cX11_sell 211 = .ok (.iastore, 1) := by decide +kernel
theorem dX11_sell_212 : decode cX11_sell 212 = .ok (.aload_n 0, 1) := by decide +kernel
theorem dX11_sell_213 : decode cX11_sell 213 = .ok (.getfield 74, 3) := by decide +kernel
theorem dX11_sell_216 : decode cX11_sell 216 = .ok (.iload 11, 2) := by decide +kernel
theorem dX11_sell_218 : decode cX11_sell 218 = .ok (.iload 10, 2) := by decide +kernel
theorem dX11_sell_220 : decode cX11_sell 220 = .ok (.ifCond .eq 7, 3) := by decide +kernel
theorem dX11_sell_223 : decode cX11_sell 223 = .ok (.iload_n 3, 1) := by decide +kernel
theorem dX11_sell_224 : decode cX11_sell 224 = .ok (.goto 5, 3) := by decide +kernel
theorem dX11_sell_227 : decode cX11_sell 227 = .ok (.iload 4, 2) := by decide +kernel
theorem dX11_sell_229 : decode cX11_sell 229 = .ok (.iastore, 1) := by decide +kernel
theorem dX11_sell_230 : decode cX11_sell 230 = .ok (.aload_n 0, 1) := by decide +kernel
theorem dX11_sell_231 : decode cX11_sell 231 = .ok (.getfield 77, 3) := by decide +kernel
theorem dX11_sell_234 : decode cX11_sell 234 = .ok (.iload 11, 2) := by decide +kernel
theorem dX11_sell_236 : decode cX11_sell 236 = .ok (.iload 5, 2) := by decide +kernel
theorem dX11_sell_238 : decode cX11_sell 238 = .ok (.iastore, 1) := by decide +kernel
theorem dX11_sell_239 : decode cX11_sell 239 = .ok (.aload_n 0, 1) := by decide +kernel
theorem dX11_sell_240 : decode cX11_sell 240 = .ok (.getfield 80, 3) := by decide +kernel
theorem dX11_sell_243 : decode cX11_sell 243 = .ok (.iload 11, 2) := by decide +kernel
theorem dX11_sell_245 : decode cX11_sell 245 = .ok (.iload 6, 2) := by decide +kernel
theorem dX11_sell_247 : decode cX11_sell 247 = .ok (.iastore, 1) := by decide +kernel
theorem dX11_sell_248 : decode cX11_sell 248 = .ok (.aload_n 0, 1) := by decide +kernel
theorem dX11_sell_249 : decode cX11_sell 249 = .ok (.getfield 83, 3) := by decide +kernel
theorem dX11_sell_252 : decode cX11_sell 252 = .ok (.iload 11, 2) := by decide +kernel
theorem dX11_sell_254 : decode cX11_sell 254 = .ok (.iconst 0, 1) := by decide +kernel
theorem dX11_sell_255 : decode cX11_sell 255 = .ok (.iastore, 1) := by decide +kernel
theorem dX11_sell_256 : decode cX11_sell 256 = .ok (.aload_n 0, 1) := by decide +kernel
theorem dX11_sell_257 : decode cX11_sell 257 = .ok (.getfield 86, 3) := by decide +kernel
theorem dX11_sell_260 : decode cX11_sell 260 = .ok (.iload 11, 2) := by decide +kernel
theorem dX11_sell_262 : decode cX11_sell 262 = .ok (.iload_n 1, 1) := by decide +kernel
theorem dX11_sell_263 : decode cX11_sell 263 = .ok (.iastore, 1) := by decide +kernel
theorem dX11_sell_264 : decode cX11_sell 264 = .ok (.aload_n 0, 1) := by decide +kernel
theorem dX11_sell_265 : decode cX11_sell 265 = .ok (.dup, 1) := by decide +kernel
theorem dX11_sell_266 : decode cX11_sell 266 = .ok (.getfield 205, 3) := by decide +kernel
theorem dX11_sell_269 : decode cX11_sell 269 = .ok (.iconst 1, 1) := by decide +kernel
theorem dX11_sell_270 : decode cX11_sell 270 = .ok (.iadd, 1) := by decide +kernel
theorem dX11_sell_271 : decode cX11_sell 271 = .ok (.putfield 205, 3) := by decide +kernel
theorem dX11_sell_274 : decode cX11_sell 274 = .ok (.aload_n 0, 1) := by decide +kernel
theorem dX11_sell_275 : decode cX11_sell 275 = .ok (.getfield 38, 3) := by decide +kernel
theorem dX11_sell_278 : decode cX11_sell 278 = .ok (.iload_n 2, 1) := by decide +kernel
theorem dX11_sell_279 : decode cX11_sell 279 = .ok (.dup2, 1) := by decide +kernel
theorem dX11_sell_280 : decode cX11_sell 280 = .ok (.iaload, 1) := by decide +kernel
theorem dX11_sell_281 : decode cX11_sell 281 = .ok (.aload_n 0, 1) := by decide +kernel
theorem dX11_sell_282 : decode cX11_sell 282 = .ok (.iload 11, 2) := by decide +kernel
theorem dX11_sell_284 : decode cX11_sell 284 = .ok (.invokevirtual 201, 3) := by decide +kernel
theorem dX11_sell_287 : decode cX11_sell 287 = .ok (.iadd, 1) := by decide +kernel
theorem dX11_sell_288 : decode cX11_sell 288 = .ok (.iastore, 1) := by decide +kernel
theorem dX11_sell_289 : decode cX11_sell 289 = .ok (.iload 11, 2) := by decide +kernel
theorem dX11_sell_291 : decode cX11_sell 291 = .ok (.ireturn, 1) := by decide +kernel
theorem dX10_findTicket_0 : decode cX10_findTicket 0 = .ok (.iload_n 1, 1) := by decide +kernel
theorem dX10_findTicket_1 : decode cX10_findTicket 1 = .ok (.ifCond .lt 11, 3) := by decide +kernel
theorem dX10_findTicket_4 : decode cX10_findTicket 4 = .ok (.iload_n 1, 1) := by decide +kernel
theorem dX10_findTicket_5 : decode cX10_findTicket 5 = .ok (.aload_n 0, 1) := by decide +kernel
theorem dX10_findTicket_6 : decode cX10_findTicket 6 = .ok (.getfield 104, 3) := by decide +kernel
theorem dX10_findTicket_9 : decode cX10_findTicket 9 = .ok (.if_icmp .lt 7, 3) := by decide +kernel
theorem dX10_findTicket_12 : decode cX10_findTicket 12 = .ok (.aconst_null, 1) := by decide +kernel
theorem dX10_findTicket_13 : decode cX10_findTicket 13 = .ok (.goto 9, 3) := by decide +kernel
theorem dX10_findTicket_16 : decode cX10_findTicket 16 = .ok (.aload_n 0, 1) := by decide +kernel
theorem dX10_findTicket_17 : decode cX10_findTicket 17 = .ok (.getfield 23, 3) := by decide +kernel
theorem dX10_findTicket_20 : decode cX10_findTicket 20 = .ok (.iload_n 1, 1) := by decide +kernel
theorem dX10_findTicket_21 : decode cX10_findTicket 21 = .ok (.aaload, 1) := by decide +kernel
theorem dX10_findTicket_22 : decode cX10_findTicket 22 = .ok (.areturn, 1) := by decide +kernel
theorem dX10_cancel_0 : decode cX10_cancel 0 = .ok (.aload_n 0, 1) := by decide +kernel
theorem dX10_cancel_1 : decode cX10_cancel 1 = .ok (.iload_n 1, 1) := by decide +kernel
theorem dX10_cancel_2 : decode cX10_cancel 2 = .ok (.invokevirtual 187, 3) := by decide +kernel
theorem dX10_cancel_5 : decode cX10_cancel 5 = .ok (.astore_n 2, 1) := by decide +kernel
theorem dX10_cancel_6 : decode cX10_cancel 6 = .ok (.aload_n 2, 1) := by decide +kernel
theorem dX10_cancel_7 : decode cX10_cancel 7 = .ok (.ifnonnull 6, 3) := by decide +kernel
theorem dX10_cancel_10 : decode cX10_cancel 10 = .ok (.bipush (-2), 2) := by decide +kernel
theorem dX10_cancel_12 : decode cX10_cancel 12 = .ok (.ireturn, 1) := by decide +kernel
theorem dX10_cancel_13 : decode cX10_cancel 13 = .ok (.aload_n 2, 1) := by decide +kernel
theorem dX10_cancel_14 : decode cX10_cancel 14 = .ok (.getfield 107, 3) := by decide +kernel
theorem dX10_cancel_17 : decode cX10_cancel 17 = .ok (.ifCond .ne 16, 3) := by decide +kernel
theorem dX10_cancel_20 : decode cX10_cancel 20 = .ok (.aload_n 2, 1) := by decide +kernel
theorem dX10_cancel_21 : decode cX10_cancel 21 = .ok (.getfield 191, 3) := by decide +kernel
theorem dX10_cancel_24 : decode cX10_cancel 24 = .ok (.getfield 173, 3) := by decide +kernel
theorem dX10_cancel_27 : decode cX10_cancel 27 = .ok (.getfield 88, 3) := by decide +kernel
theorem dX10_cancel_30 : decode cX10_cancel 30 = .ok (.ifCond .eq 6, 3) := by decide +kernel
theorem dX10_cancel_33 : decode cX10_cancel 33 = .ok (.bipush (-6), 2) := by decide +kernel
theorem dX10_cancel_35 : decode cX10_cancel 35 = .ok (.ireturn, 1) := by decide +kernel
theorem dX10_cancel_36 : decode cX10_cancel 36 = .ok (.aload_n 2, 1) := by decide +kernel
theorem dX10_cancel_37 : decode cX10_cancel 37 = .ok (.iconst 1, 1) := by decide +kernel
theorem dX10_cancel_38 : decode cX10_cancel 38 = .ok (.iconst 1, 1) := by decide +kernel
theorem dX10_cancel_39 : decode cX10_cancel 39 = .ok (.aload_n 2, 1) := by decide +kernel
theorem dX10_cancel_40 : decode cX10_cancel 40 = .ok (.invokevirtual 195, 3) := by decide +kernel
theorem dX10_cancel_43 : decode cX10_cancel 43 = .ok (.invokevirtual 199, 3) := by decide +kernel
theorem dX10_cancel_46 : decode cX10_cancel 46 = .ok (.aload_n 2, 1) := by decide +kernel
theorem dX10_cancel_47 : decode cX10_cancel 47 = .ok (.invokevirtual 195, 3) := by decide +kernel
theorem dX10_cancel_50 : decode cX10_cancel 50 = .ok (.ireturn, 1) := by decide +kernel
theorem dX11_isTicket_0 : decode cX11_isTicket 0 = .ok (.iload_n 1, 1) := by decide +kernel
theorem dX11_isTicket_1 : decode cX11_isTicket 1 = .ok (.iconst 0, 1) := by decide +kernel
theorem dX11_isTicket_2 : decode cX11_isTicket 2 = .ok (.aload_n 0, 1) := by decide +kernel
theorem dX11_isTicket_3 : decode cX11_isTicket 3 = .ok (.getfield 205, 3) := by decide +kernel
theorem dX11_isTicket_6 : decode cX11_isTicket 6 = .ok (.iconst 1, 1) := by decide +kernel
theorem dX11_isTicket_7 : decode cX11_isTicket 7 = .ok (.isub, 1) := by decide +kernel
theorem dX11_isTicket_8 : decode cX11_isTicket 8 = .ok (.invokestatic 172, 3) := by decide +kernel
theorem dX11_isTicket_11 : decode cX11_isTicket 11 = .ok (.ireturn, 1) := by decide +kernel
theorem dX11_cancel_0 : decode cX11_cancel 0 = .ok (.aload_n 0, 1) := by decide +kernel
theorem dX11_cancel_1 : decode cX11_cancel 1 = .ok (.iload_n 1, 1) := by decide +kernel
theorem dX11_cancel_2 : decode cX11_cancel 2 = .ok (.invokevirtual 291, 3) := by decide +kernel
theorem dX11_cancel_5 : decode cX11_cancel 5 = .ok (.ifCond .ne 6, 3) := by decide +kernel
theorem dX11_cancel_8 : decode cX11_cancel 8 = .ok (.bipush (-2), 2) := by decide +kernel
theorem dX11_cancel_10 : decode cX11_cancel 10 = .ok (.ireturn, 1) := by decide +kernel
theorem dX11_cancel_11 : decode cX11_cancel 11 = .ok (.aload_n 0, 1) := by decide +kernel
theorem dX11_cancel_12 : decode cX11_cancel 12 = .ok (.getfield 83, 3) := by decide +kernel
theorem dX11_cancel_15 : decode cX11_cancel 15 = .ok (.iload_n 1, 1) := by decide +kernel
theorem dX11_cancel_16 : decode cX11_cancel 16 = .ok (.iaload, 1) := by decide +kernel
theorem dX11_cancel_17 : decode cX11_cancel 17 = .ok (.ifCond .ne 21, 3) := by decide +kernel
theorem dX11_cancel_20 : decode cX11_cancel 20 = .ok (.aload_n 0, 1) := by decide +kernel
theorem dX11_cancel_21 : decode cX11_cancel 21 = .ok (.getfield 7, 3) := by decide +kernel
theorem dX11_cancel_24 : decode cX11_cancel 24 = .ok (.aload_n 0, 1) := by decide +kernel
theorem dX11_cancel_25 : decode cX11_cancel 25 = .ok (.aload_n 0, 1) := by decide +kernel
theorem dX11_cancel_26 : decode cX11_cancel 26 = .ok (.getfield 68, 3) := by decide +kernel
theorem dX11_cancel_29 : decode cX11_cancel 29 = .ok (.iload_n 1, 1) := by decide +kernel
theorem dX11_cancel_30 : decode cX11_cancel 30 = .ok (.iaload, 1) := by decide +kernel
theorem dX11_cancel_31 : decode cX11_cancel 31 = .ok (.invokevirtual 278, 3) := by decide +kernel
theorem dX11_cancel_34 : decode cX11_cancel 34 = .ok (.iaload, 1) := by decide +kernel
theorem dX11_cancel_35 : decode cX11_cancel 35 = .ok (.ifCond .eq 6, 3) := by decide +kernel
theorem dX11_cancel_38 : decode cX11_cancel 38 = .ok (.bipush (-6), 2) := by decide +kernel
theorem dX11_cancel_40 : decode cX11_cancel 40 = .ok (.ireturn, 1) := by decide +kernel
theorem dX11_cancel_41 : decode cX11_cancel 41 = .ok (.aload_n 0, 1) := by decide +kernel
theorem dX11_cancel_42 : decode cX11_cancel 42 = .ok (.getfield 83, 3) := by decide +kernel
theorem dX11_cancel_45 : decode cX11_cancel 45 = .ok (.iload_n 1, 1) := by decide +kernel
theorem dX11_cancel_46 : decode cX11_cancel 46 = .ok (.iconst 1, 1) := by decide +kernel
theorem dX11_cancel_47 : decode cX11_cancel 47 = .ok (.iastore, 1) := by decide +kernel
theorem dX11_cancel_48 : decode cX11_cancel 48 = .ok (.aload_n 0, 1) := by decide +kernel
theorem dX11_cancel_49 : decode cX11_cancel 49 = .ok (.getfield 41, 3) := by decide +kernel
theorem dX11_cancel_52 : decode cX11_cancel 52 = .ok (.aload_n 0, 1) := by decide +kernel
theorem dX11_cancel_53 : decode cX11_cancel 53 = .ok (.getfield 68, 3) := by decide +kernel
theorem dX11_cancel_56 : decode cX11_cancel 56 = .ok (.iload_n 1, 1) := by decide +kernel
theorem dX11_cancel_57 : decode cX11_cancel 57 = .ok (.iaload, 1) := by decide +kernel
theorem dX11_cancel_58 : decode cX11_cancel 58 = .ok (.dup2, 1) := by decide +kernel
theorem dX11_cancel_59 : decode cX11_cancel 59 = .ok (.iaload, 1) := by decide +kernel
theorem dX11_cancel_60 : decode cX11_cancel 60 = .ok (.aload_n 0, 1) := by decide +kernel
theorem dX11_cancel_61 : decode cX11_cancel 61 = .ok (.iload_n 1, 1) := by decide +kernel
theorem dX11_cancel_62 : decode cX11_cancel 62 = .ok (.invokevirtual 201, 3) := by decide +kernel
theorem dX11_cancel_65 : decode cX11_cancel 65 = .ok (.iadd, 1) := by decide +kernel
theorem dX11_cancel_66 : decode cX11_cancel 66 = .ok (.iastore, 1) := by decide +kernel
theorem dX11_cancel_67 : decode cX11_cancel 67 = .ok (.aload_n 0, 1) := by decide +kernel
theorem dX11_cancel_68 : decode cX11_cancel 68 = .ok (.iload_n 1, 1) := by decide +kernel
theorem dX11_cancel_69 : decode cX11_cancel 69 = .ok (.invokevirtual 201, 3) := by decide +kernel
theorem dX11_cancel_72 : decode cX11_cancel 72 = .ok (.ireturn, 1) := by decide +kernel
theorem dX9_isPayable_0 : decode cX9_isPayable 0 = .ok (.aload_n 0, 1) := by decide +kernel
theorem dX9_isPayable_1 : decode cX9_isPayable 1 = .ok (.getfield 9, 3) := by decide +kernel
theorem dX9_isPayable_4 : decode cX9_isPayable 4 = .ok (.ifCond .ne 17, 3) := by decide +kernel
theorem dX9_isPayable_7 : decode cX9_isPayable 7 = .ok (.aload_n 0, 1) := by decide +kernel
theorem dX9_isPayable_8 : decode cX9_isPayable 8 = .ok (.getfield 15, 3) := by decide +kernel
theorem dX9_isPayable_11 : decode cX9_isPayable 11 = .ok (.invokevirtual 61, 3) := by decide +kernel
theorem dX9_isPayable_14 : decode cX9_isPayable 14 = .ok (.ifCond .eq 7, 3) := by decide +kernel
theorem dX9_isPayable_17 : decode cX9_isPayable 17 = .ok (.iconst 1, 1) := by decide +kernel
theorem dX9_isPayable_18 : decode cX9_isPayable 18 = .ok (.goto 4, 3) := by decide +kernel
theorem dX9_isPayable_21 : decode cX9_isPayable 21 = .ok (.iconst 0, 1) := by decide +kernel
theorem dX9_isPayable_22 : decode cX9_isPayable 22 = .ok (.ireturn, 1) := by decide +kernel
theorem dX9_due_0 : decode cX9_due 0 = .ok (.aload_n 0, 1) := by decide +kernel
theorem dX9_due_1 : decode cX9_due 1 = .ok (.getfield 15, 3) := by decide +kernel
theorem dX9_due_4 : decode cX9_due 4 = .ok (.invokevirtual 61, 3) := by decide +kernel
theorem dX9_due_7 : decode cX9_due 7 = .ok (.ifCond .eq 22, 3) := by decide +kernel
theorem dX9_due_10 : decode cX9_due 10 = .ok (.aload_n 0, 1) := by decide +kernel
theorem dX9_due_11 : decode cX9_due 11 = .ok (.getfield 9, 3) := by decide +kernel
theorem dX9_due_14 : decode cX9_due 14 = .ok (.ifCond .eq 11, 3) := by decide +kernel
theorem dX9_due_17 : decode cX9_due 17 = .ok (.aload_n 0, 1) := by decide +kernel
theorem dX9_due_18 : decode cX9_due 18 = .ok (.getfield 9, 3) := by decide +kernel
theorem dX9_due_21 : decode cX9_due 21 = .ok (.iconst 3, 1) := by decide +kernel
theorem dX9_due_22 : decode cX9_due 22 = .ok (.if_icmp .ne 7, 3) := by decide +kernel
theorem dX9_due_25 : decode cX9_due 25 = .ok (.iconst 1, 1) := by decide +kernel
theorem dX9_due_26 : decode cX9_due 26 = .ok (.goto 4, 3) := by decide +kernel
theorem dX9_due_29 : decode cX9_due 29 = .ok (.iconst 0, 1) := by decide +kernel
theorem dX9_due_30 : decode cX9_due 30 = .ok (.istore_n 1, 1) := by decide +kernel
theorem dX9_due_31 : decode cX9_due 31 = .ok (.iload_n 1, 1) := by decide +kernel
theorem dX9_due_32 : decode cX9_due 32 = .ok (.ifCond .eq 23, 3) := by decide +kernel
theorem dX9_due_35 : decode cX9_due 35 = .ok (.aload_n 0, 1) := by decide +kernel
theorem dX9_due_36 : decode cX9_due 36 = .ok (.getfield 22, 3) := by decide +kernel
theorem dX9_due_39 : decode cX9_due 39 = .ok (.aload_n 0, 1) := by decide +kernel
theorem dX9_due_40 : decode cX9_due 40 = .ok (.getfield 15, 3) := by decide +kernel
theorem dX9_due_43 : decode cX9_due 43 = .ok (.getfield 65, 3) := by decide +kernel
theorem dX9_due_46 : decode cX9_due 46 = .ok (.aload_n 0, 1) := by decide +kernel
theorem dX9_due_47 : decode cX9_due 47 = .ok (.invokevirtual 39, 3) := by decide +kernel
theorem dX9_due_50 : decode cX9_due 50 = .ok (.iaload, 1) := by decide +kernel
theorem dX9_due_51 : decode cX9_due 51 = .ok (.imul, 1) := by decide +kernel
theorem dX9_due_52 : decode cX9_due 52 = .ok (.goto 4, 3) := by decide +kernel
theorem dX9_due_55 : decode cX9_due 55 = .ok (.iconst 0, 1) := by decide +kernel
theorem dX9_due_56 : decode cX9_due 56 = .ok (.ireturn, 1) := by decide +kernel
theorem dX10_payOut_0 : decode cX10_payOut 0 = .ok (.aload_n 0, 1) := by decide +kernel
theorem dX10_payOut_1 : decode cX10_payOut 1 = .ok (.invokevirtual 227, 3) := by decide +kernel
theorem dX10_payOut_4 : decode cX10_payOut 4 = .ok (.istore_n 1, 1) := by decide +kernel
theorem dX10_payOut_5 : decode cX10_payOut 5 = .ok (.aload_n 0, 1) := by decide +kernel
theorem dX10_payOut_6 : decode cX10_payOut 6 = .ok (.iconst 3, 1) := by decide +kernel
theorem dX10_payOut_7 : decode cX10_payOut 7 = .ok (.bipush 9, 2) := by decide +kernel
theorem dX10_payOut_9 : decode cX10_payOut 9 = .ok (.iload_n 1, 1) := by decide +kernel
theorem dX10_payOut_10 : decode cX10_payOut 10 = .ok (.invokevirtual 199, 3) := by decide +kernel
theorem dX10_payOut_13 : decode cX10_payOut 13 = .ok (.iload_n 1, 1) := by decide +kernel
theorem dX10_payOut_14 : decode cX10_payOut 14 = .ok (.ireturn, 1) := by decide +kernel
theorem dX10_pay_0 : decode cX10_pay 0 = .ok (.aload_n 0, 1) := by decide +kernel
theorem dX10_pay_1 : decode cX10_pay 1 = .ok (.iload_n 1, 1) := by decide +kernel
theorem dX10_pay_2 : decode cX10_pay 2 = .ok (.invokevirtual 187, 3) := by decide +kernel
theorem dX10_pay_5 : decode cX10_pay 5 = .ok (.astore_n 2, 1) := by decide +kernel
theorem dX10_pay_6 : decode cX10_pay 6 = .ok (.aload_n 2, 1) := by decide +kernel
theorem dX10_pay_7 : decode cX10_pay 7 = .ok (.ifnonnull 6, 3) := by decide +kernel
theorem dX10_pay_10 : decode cX10_pay 10 = .ok (.bipush (-2), 2) := by decide +kernel
theorem dX10_pay_12 : decode cX10_pay 12 = .ok (.ireturn, 1) := by decide +kernel
theorem dX10_pay_13 : decode cX10_pay 13 = .ok (.aload_n 2, 1) := by decide +kernel
theorem dX10_pay_14 : decode cX10_pay 14 = .ok (.invokevirtual 202, 3) := by decide +kernel
theorem dX10_pay_17 : decode cX10_pay 17 = .ok (.ifCond .eq 10, 3) := by decide +kernel
theorem dX10_pay_20 : decode cX10_pay 20 = .ok (.aload_n 2, 1) := by decide +kernel
theorem dX10_pay_21 : decode cX10_pay 21 = .ok (.invokestatic 205, 3) := by decide +kernel
theorem dX10_pay_24 : decode cX10_pay 24 = .ok (.goto 5, 3) := by decide +kernel
theorem dX10_pay_27 : decode cX10_pay 27 = .ok (.bipush (-6), 2) := by decide +kernel
theorem dX10_pay_29 : decode cX10_pay 29 = .ok (.ireturn, 1) := by decide +kernel
theorem dX11_mayPay_0 : decode cX11_mayPay 0 = .ok (.aload_n 0, 1) := by decide +kernel
theorem dX11_mayPay_1 : decode cX11_mayPay 1 = .ok (.getfield 83, 3) := by decide +kernel
theorem dX11_mayPay_4 : decode cX11_mayPay 4 = .ok (.iload_n 1, 1) := by decide +kernel
theorem dX11_mayPay_5 : decode cX11_mayPay 5 = .ok (.iaload, 1) := by decide +kernel
theorem dX11_mayPay_6 : decode cX11_mayPay 6 = .ok (.ifCond .ne 21, 3) := by decide +kernel
theorem dX11_mayPay_9 : decode cX11_mayPay 9 = .ok (.aload_n 0, 1) := by decide +kernel
theorem dX11_mayPay_10 : decode cX11_mayPay 10 = .ok (.getfield 35, 3) := by decide +kernel
theorem dX11_mayPay_13 : decode cX11_mayPay 13 = .ok (.aload_n 0, 1) := by decide +kernel
theorem dX11_mayPay_14 : decode cX11_mayPay 14 = .ok (.getfield 68, 3) := by decide +kernel
theorem dX11_mayPay_17 : decode cX11_mayPay 17 = .ok (.iload_n 1, 1) := by decide +kernel
theorem dX11_mayPay_18 : decode cX11_mayPay 18 = .ok (.iaload, 1) := by decide +kernel
theorem dX11_mayPay_19 : decode cX11_mayPay 19 = .ok (.baload, 1) := by decide +kernel
theorem dX11_mayPay_20 : decode cX11_mayPay 20 = .ok (.ifCond .eq 7, 3) := by decide +kernel
theorem dX11_mayPay_23 : decode cX11_mayPay 23 = .ok (.iconst 1, 1) := by decide +kernel
theorem dX11_mayPay_24 : decode cX11_mayPay 24 = .ok (.goto 4, 3) := by decide +kernel
theorem dX11_mayPay_27 : decode cX11_mayPay 27 = .ok (.iconst 0, 1) := by decide +kernel
theorem dX11_mayPay_28 : decode cX11_mayPay 28 = .ok (.ireturn, 1) := by decide +kernel
theorem dX11_dueTo_0 : decode cX11_dueTo 0 = .ok (.aload_n 0, 1) := by decide +kernel
theorem dX11_dueTo_1 : decode cX11_dueTo 1 = .ok (.getfield 92, 3) := by decide +kernel
theorem dX11_dueTo_4 : decode cX11_dueTo 4 = .ok (.iload_n 1, 1) := by decide +kernel
theorem dX11_dueTo_5 : decode cX11_dueTo 5 = .ok (.baload, 1) := by decide +kernel
theorem dX11_dueTo_6 : decode cX11_dueTo 6 = .ok (.ifCond .eq 19, 3) := by decide +kernel
theorem dX11_dueTo_9 : decode cX11_dueTo 9 = .ok (.aload_n 0, 1) := by decide +kernel
theorem dX11_dueTo_10 : decode cX11_dueTo 10 = .ok (.getfield 89, 3) := by decide +kernel
theorem dX11_dueTo_13 : decode cX11_dueTo 13 = .ok (.iload_n 1, 1) := by decide +kernel
theorem dX11_dueTo_14 : decode cX11_dueTo 14 = .ok (.iaload, 1) := by decide +kernel
theorem dX11_dueTo_15 : decode cX11_dueTo 15 = .ok (.aload_n 0, 1) := by decide +kernel
theorem dX11_dueTo_16 : decode cX11_dueTo 16 = .ok (.getfield 80, 3) := by decide +kernel
theorem dX11_dueTo_19 : decode cX11_dueTo 19 = .ok (.iload_n 1, 1) := by decide +kernel
theorem dX11_dueTo_20 : decode cX11_dueTo 20 = .ok (.iaload, 1) := by decide +kernel
theorem dX11_dueTo_21 : decode cX11_dueTo 21 = .ok (.imul, 1) := by decide +kernel
theorem dX11_dueTo_22 : decode cX11_dueTo 22 = .ok (.goto 4, 3) := by decide +kernel
theorem dX11_dueTo_25 : decode cX11_dueTo 25 = .ok (.iconst 0, 1) := by decide +kernel
theorem dX11_dueTo_26 : decode cX11_dueTo 26 = .ok (.ireturn, 1) := by decide +kernel
theorem dX11_payOne_0 : decode cX11_payOne 0 = .ok (.aload_n 0, 1) := by decide +kernel
theorem dX11_payOne_1 : decode cX11_payOne 1 = .ok (.getfield 83, 3) := by decide +kernel
theorem dX11_payOne_4 : decode cX11_payOne 4 = .ok (.iload_n 1, 1) := by decide +kernel
theorem dX11_payOne_5 : decode cX11_payOne 5 = .ok (.iconst 3, 1) := by decide +kernel
theorem dX11_payOne_6 : decode cX11_payOne 6 = .ok (.iastore, 1) := by decide +kernel
theorem dX11_payOne_7 : decode cX11_payOne 7 = .ok (.aload_n 0, 1) := by decide +kernel
theorem dX11_payOne_8 : decode cX11_payOne 8 = .ok (.getfield 65, 3) := by decide +kernel
theorem dX11_payOne_11 : decode cX11_payOne 11 = .ok (.aload_n 0, 1) := by decide +kernel
theorem dX11_payOne_12 : decode cX11_payOne 12 = .ok (.getfield 68, 3) := by decide +kernel
theorem dX11_payOne_15 : decode cX11_payOne 15 = .ok (.iload_n 1, 1) := by decide +kernel
theorem dX11_payOne_16 : decode cX11_payOne 16 = .ok (.iaload, 1) := by decide +kernel
theorem dX11_payOne_17 : decode cX11_payOne 17 = .ok (.dup2, 1) := by decide +kernel
theorem dX11_payOne_18 : decode cX11_payOne 18 = .ok (.iaload, 1) := by decide +kernel
theorem dX11_payOne_19 : decode cX11_payOne 19 = .ok (.aload_n 0, 1) := by decide +kernel
theorem dX11_payOne_20 : decode cX11_payOne 20 = .ok (.iload_n 1, 1) := by decide +kernel
theorem dX11_payOne_21 : decode cX11_payOne 21 = .ok (.invokevirtual 294, 3) := by decide +kernel
theorem dX11_payOne_24 : decode cX11_payOne 24 = .ok (.iadd, 1) := by decide +kernel
theorem dX11_payOne_25 : decode cX11_payOne 25 = .ok (.iastore, 1) := by decide +kernel
theorem dX11_payOne_26 : decode cX11_payOne 26 = .ok (.aload_n 0, 1) := by decide +kernel
theorem dX11_payOne_27 : decode cX11_payOne 27 = .ok (.iload_n 1, 1) := by decide +kernel
theorem dX11_payOne_28 : decode cX11_payOne 28 = .ok (.invokevirtual 294, 3) := by decide +kernel
theorem dX11_payOne_31 : decode cX11_payOne 31 = .ok (.ireturn, 1) := by decide +kernel
theorem dX11_pay_0 : decode cX11_pay 0 = .ok (.aload_n 0, 1) := by decide +kernel
theorem dX11_pay_1 : decode cX11_pay 1 = .ok (.iload_n 1, 1) := by decide +kernel
theorem dX11_pay_2 : decode cX11_pay 2 = .ok (.invokevirtual 291, 3) := by decide +kernel
theorem dX11_pay_5 : decode cX11_pay 5 = .ok (.ifCond .ne 8, 3) := by decide +kernel
theorem dX11_pay_8 : decode cX11_pay 8 = .ok (.bipush (-2), 2) := by decide +kernel
theorem dX11_pay_10 : decode cX11_pay 10 = .ok (.goto 21, 3) := by decide +kernel
theorem dX11_pay_13 : decode cX11_pay 13 = .ok (.aload_n 0, 1) := by decide +kernel
theorem dX11_pay_14 : decode cX11_pay 14 = .ok (.iload_n 1, 1) := by decide +kernel
theorem dX11_pay_15 : decode cX11_pay 15 = .ok (.invokevirtual 297, 3) := by decide +kernel
theorem dX11_pay_18 : decode cX11_pay 18 = .ok (.ifCond .eq 11, 3) := by decide +kernel
theorem dX11_pay_21 : decode cX11_pay 21 = .ok (.aload_n 0, 1) := by decide +kernel
theorem dX11_pay_22 : decode cX11_pay 22 = .ok (.iload_n 1, 1) := by decide +kernel
theorem dX11_pay_23 : decode cX11_pay 23 = .ok (.invokevirtual 300, 3) := by decide +kernel
theorem dX11_pay_26 : decode cX11_pay 26 = .ok (.goto 5, 3) := by decide +kernel
theorem dX11_pay_29 : decode cX11_pay 29 = .ok (.bipush (-6), 2) := by decide +kernel
theorem dX11_pay_31 : decode cX11_pay 31 = .ok (.ireturn, 1) := by decide +kernel
theorem dX10_ticket_0 : decode cX10_ticket 0 = .ok (.aload_n 0, 1) := by decide +kernel
theorem dX10_ticket_1 : decode cX10_ticket 1 = .ok (.iload_n 1, 1) := by decide +kernel
theorem dX10_ticket_2 : decode cX10_ticket 2 = .ok (.invokevirtual 187, 3) := by decide +kernel
theorem dX10_ticket_5 : decode cX10_ticket 5 = .ok (.astore_n 3, 1) := by decide +kernel
theorem dX10_ticket_6 : decode cX10_ticket 6 = .ok (.aload_n 3, 1) := by decide +kernel
theorem dX10_ticket_7 : decode cX10_ticket 7 = .ok (.ifnonnull 6, 3) := by decide +kernel
theorem dX10_ticket_10 : decode cX10_ticket 10 = .ok (.bipush (-2), 2) := by decide +kernel
theorem dX10_ticket_12 : decode cX10_ticket 12 = .ok (.ireturn, 1) := by decide +kernel
theorem dX10_ticket_13 : decode cX10_ticket 13 = .ok (.iload_n 2, 1) := by decide +kernel
theorem dX10_ticket_14 : decode cX10_ticket 14 = .ok (.tableswitch 89 0 7 #[46, 54, 59, 64, 69, 74, 79, 84], 46) := by decide +kernel
theorem dX10_ticket_60 : decode cX10_ticket 60 = .ok (.aload_n 3, 1) := by decide +kernel
theorem dX10_ticket_61 : decode cX10_ticket 61 = .ok (.getfield 191, 3) := by decide +kernel
theorem dX10_ticket_64 : decode cX10_ticket 64 = .ok (.getfield 209, 3) := by decide +kernel
theorem dX10_ticket_67 : decode cX10_ticket 67 = .ok (.ireturn, 1) := by decide +kernel
theorem dX10_ticket_68 : decode cX10_ticket 68 = .ok (.aload_n 3, 1) := by decide +kernel
theorem dX10_ticket_69 : decode cX10_ticket 69 = .ok (.getfield 212, 3) := by decide +kernel
theorem dX10_ticket_72 : decode cX10_ticket 72 = .ok (.ireturn, 1) := by decide +kernel
theorem dX10_ticket_73 : decode cX10_ticket 73 = .ok (.aload_n 3, 1) := by decide +kernel
theorem dX10_ticket_74 : decode cX10_ticket 74 = .ok (.getfield 215, 3) := by decide +kernel
theorem dX10_ticket_77 : decode cX10_ticket 77 = .ok (.ireturn, 1) := by decide +kernel
theorem dX10_ticket_78 : decode cX10_ticket 78 = .ok (.aload_n 3, 1) := by decide +kernel
theorem dX10_ticket_79 : decode cX10_ticket 79 = .ok (.getfield 218, 3) := by decide +kernel
theorem dX10_ticket_82 : decode cX10_ticket 82 = .ok (.ireturn, 1) := by decide +kernel
theorem dX10_ticket_83 : decode cX10_ticket 83 = .ok (.aload_n 3, 1) := by decide +kernel
theorem dX10_ticket_84 : decode cX10_ticket 84 = .ok (.getfield 221, 3) := by decide +kernel
theorem dX10_ticket_87 : decode cX10_ticket 87 = .ok (.ireturn, 1) := by decide +kernel
theorem dX10_ticket_88 : decode cX10_ticket 88 = .ok (.aload_n 3, 1) := by decide +kernel
theorem dX10_ticket_89 : decode cX10_ticket 89 = .ok (.getfield 107, 3) := by decide +kernel
theorem dX10_ticket_92 : decode cX10_ticket 92 = .ok (.ireturn, 1) := by decide +kernel
theorem dX10_ticket_93 : decode cX10_ticket 93 = .ok (.aload_n 3, 1) := by decide +kernel
theorem dX10_ticket_94 : decode cX10_ticket 94 = .ok (.getfield 224, 3) := by decide +kernel
theorem dX10_ticket_97 : decode cX10_ticket 97 = .ok (.ireturn, 1) := by decide +kernel
theorem dX10_ticket_98 : decode cX10_ticket 98 = .ok (.aload_n 3, 1) := by decide +kernel
theorem dX10_ticket_99 : decode cX10_ticket 99 = .ok (.invokevirtual 227, 3) := by decide +kernel
theorem dX10_ticket_102 : decode cX10_ticket 102 = .ok (.ireturn, 1) := by decide +kernel
theorem dX10_ticket_103 : decode cX10_ticket 103 = .ok (.bipush (-3), 2) := by decide +kernel
theorem dX10_ticket_105 : decode cX10_ticket 105 = .ok (.ireturn, 1) := by decide +kernel
theorem dX11_ticket_0 : decode cX11_ticket 0 = .ok (.aload_n 0, 1) := by decide +kernel
theorem dX11_ticket_1 : decode cX11_ticket 1 = .ok (.iload_n 1, 1) := by decide +kernel
theorem dX11_ticket_2 : decode cX11_ticket 2 = .ok (.invokevirtual 291, 3) := by decide +kernel
theorem dX11_ticket_5 : decode cX11_ticket 5 = .ok (.ifCond .ne 6, 3) := by decide +kernel
theorem dX11_ticket_8 : decode cX11_ticket 8 = .ok (.bipush (-2), 2) := by decide +kernel
theorem dX11_ticket_10 : decode cX11_ticket 10 = .ok (.ireturn, 1) := by decide +kernel
theorem dX11_ticket_11 : decode cX11_ticket 11 = .ok (.iload_n 2, 1) := by decide +kernel
theorem dX11_ticket_12 : decode cX11_ticket 12 = .ok (.tableswitch 103 0 7 #[48, 55, 62, 69, 76, 83, 90, 97], 48) := by decide +kernel
theorem dX11_ticket_60 : decode cX11_ticket 60 = .ok (.aload_n 0, 1) := by decide +kernel
theorem dX11_ticket_61 : decode cX11_ticket 61 = .ok (.getfield 68, 3) := by decide +kernel
theorem dX11_ticket_64 : decode cX11_ticket 64 = .ok (.iload_n 1, 1) := by decide +kernel
theorem dX11_ticket_65 : decode cX11_ticket 65 = .ok (.iaload, 1) := by decide +kernel
theorem dX11_ticket_66 : decode cX11_ticket 66 = .ok (.ireturn, 1) := by decide +kernel
theorem dX11_ticket_67 : decode cX11_ticket 67 = .ok (.aload_n 0, 1) := by decide +kernel
theorem dX11_ticket_68 : decode cX11_ticket 68 = .ok (.getfield 71, 3) := by decide +kernel
theorem dX11_ticket_71 : decode cX11_ticket 71 = .ok (.iload_n 1, 1) := by decide +kernel
theorem dX11_ticket_72 : decode cX11_ticket 72 = .ok (.iaload, 1) := by decide +kernel
theorem dX11_ticket_73 : decode cX11_ticket 73 = .ok (.ireturn, 1) := by decide +kernel
theorem dX11_ticket_74 : decode cX11_ticket 74 = .ok (.aload_n 0, 1) := by decide +kernel
theorem dX11_ticket_75 : decode cX11_ticket 75 = .ok (.getfield 74, 3) := by decide +kernel
theorem dX11_ticket_78 : decode cX11_ticket 78 = .ok (.iload_n 1, 1) := by decide +kernel
theorem dX11_ticket_79 : decode cX11_ticket 79 = .ok (.iaload, 1) := by decide +kernel
theorem dX11_ticket_80 : decode cX11_ticket 80 = .ok (.ireturn, 1) := by decide +kernel
theorem dX11_ticket_81 : decode cX11_ticket 81 = .ok (.aload_n 0, 1) := by decide +kernel
theorem dX11_ticket_82 : decode cX11_ticket 82 = .ok (.getfield 77, 3) := by decide +kernel
theorem dX11_ticket_85 : decode cX11_ticket 85 = .ok (.iload_n 1, 1) := by decide +kernel
theorem dX11_ticket_86 : decode cX11_ticket 86 = .ok (.iaload, 1) := by decide +kernel
theorem dX11_ticket_87 : decode cX11_ticket 87 = .ok (.ireturn, 1) := by decide +kernel
theorem dX11_ticket_88 : decode cX11_ticket 88 = .ok (.aload_n 0, 1) := by decide +kernel
theorem dX11_ticket_89 : decode cX11_ticket 89 = .ok (.getfield 80, 3) := by decide +kernel
theorem dX11_ticket_92 : decode cX11_ticket 92 = .ok (.iload_n 1, 1) := by decide +kernel
theorem dX11_ticket_93 : decode cX11_ticket 93 = .ok (.iaload, 1) := by decide +kernel
theorem dX11_ticket_94 : decode cX11_ticket 94 = .ok (.ireturn, 1) := by decide +kernel
theorem dX11_ticket_95 : decode cX11_ticket 95 = .ok (.aload_n 0, 1) := by decide +kernel
theorem dX11_ticket_96 : decode cX11_ticket 96 = .ok (.getfield 83, 3) := by decide +kernel
theorem dX11_ticket_99 : decode cX11_ticket 99 = .ok (.iload_n 1, 1) := by decide +kernel
theorem dX11_ticket_100 : decode cX11_ticket 100 = .ok (.iaload, 1) := by decide +kernel
theorem dX11_ticket_101 : decode cX11_ticket 101 = .ok (.ireturn, 1) := by decide +kernel
theorem dX11_ticket_102 : decode cX11_ticket 102 = .ok (.aload_n 0, 1) := by decide +kernel
theorem dX11_ticket_103 : decode cX11_ticket 103 = .ok (.getfield 86, 3) := by decide +kernel
theorem dX11_ticket_106 : decode cX11_ticket 106 = .ok (.iload_n 1, 1) := by decide +kernel
theorem dX11_ticket_107 : decode cX11_ticket 107 = .ok (.iaload, 1) := by decide +kernel
theorem dX11_ticket_108 : decode cX11_ticket 108 = .ok (.ireturn, 1) := by decide +kernel
theorem dX11_ticket_109 : decode cX11_ticket 109 = .ok (.aload_n 0, 1) := by decide +kernel
theorem dX11_ticket_110 : decode cX11_ticket 110 = .ok (.iload_n 1, 1) := by decide +kernel
theorem dX11_ticket_111 : decode cX11_ticket 111 = .ok (.invokevirtual 294, 3) := by decide +kernel
theorem dX11_ticket_114 : decode cX11_ticket 114 = .ok (.ireturn, 1) := by decide +kernel
theorem dX11_ticket_115 : decode cX11_ticket 115 = .ok (.bipush (-3), 2) := by decide +kernel
theorem dX11_ticket_117 : decode cX11_ticket 117 = .ok (.ireturn, 1) := by decide +kernel
theorem dX10_units_0 : decode cX10_units 0 = .ok (.aload_n 0, 1) := by decide +kernel
theorem dX10_units_1 : decode cX10_units 1 = .ok (.iload_n 1, 1) := by decide +kernel
theorem dX10_units_2 : decode cX10_units 2 = .ok (.invokevirtual 158, 3) := by decide +kernel
theorem dX10_units_5 : decode cX10_units 5 = .ok (.astore 5, 2) := by decide +kernel
theorem dX10_units_7 : decode cX10_units 7 = .ok (.aload 5, 2) := by decide +kernel
theorem dX10_units_9 : decode cX10_units 9 = .ok (.ifnonnull 6, 3) := by decide +kernel
theorem dX10_units_12 : decode cX10_units 12 = .ok (.bipush (-2), 2) := by decide +kernel
theorem dX10_units_14 : decode cX10_units 14 = .ok (.ireturn, 1) := by decide +kernel
theorem dX10_units_15 : decode cX10_units 15 = .ok (.aload 5, 2) := by decide +kernel
theorem dX10_units_17 : decode cX10_units 17 = .ok (.iload_n 2, 1) := by decide +kernel
theorem dX10_units_18 : decode cX10_units 18 = .ok (.iload_n 3, 1) := by decide +kernel
theorem dX10_units_19 : decode cX10_units 19 = .ok (.iload 4, 2) := by decide +kernel
theorem dX10_units_21 : decode cX10_units 21 = .ok (.invokevirtual 165, 3) := by decide +kernel
theorem dX10_units_24 : decode cX10_units 24 = .ok (.istore 6, 2) := by decide +kernel
theorem dX10_units_26 : decode cX10_units 26 = .ok (.iload 6, 2) := by decide +kernel
theorem dX10_units_28 : decode cX10_units 28 = .ok (.ifCond .eq 8, 3) := by decide +kernel
theorem dX10_units_31 : decode cX10_units 31 = .ok (.iload 6, 2) := by decide +kernel
theorem dX10_units_33 : decode cX10_units 33 = .ok (.goto 18, 3) := by decide +kernel
theorem dX10_units_36 : decode cX10_units 36 = .ok (.aload 5, 2) := by decide +kernel
theorem dX10_units_38 : decode cX10_units 38 = .ok (.getfield 230, 3) := by decide +kernel
theorem dX10_units_41 : decode cX10_units 41 = .ok (.aload 5, 2) := by decide +kernel
theorem dX10_units_43 : decode cX10_units 43 = .ok (.iload_n 2, 1) := by decide +kernel
theorem dX10_units_44 : decode cX10_units 44 = .ok (.iload_n 3, 1) := by decide +kernel
theorem dX10_units_45 : decode cX10_units 45 = .ok (.iload 4, 2) := by decide +kernel
theorem dX10_units_47 : decode cX10_units 47 = .ok (.invokevirtual 233, 3) := by decide +kernel
theorem dX10_units_50 : decode cX10_units 50 = .ok (.iaload, 1) := by decide +kernel
theorem dX10_units_51 : decode cX10_units 51 = .ok (.ireturn, 1) := by decide +kernel
theorem dX11_isFor_0 : decode cX11_isFor 0 = .ok (.aload_n 0, 1) := by decide +kernel
theorem dX11_isFor_1 : decode cX11_isFor 1 = .ok (.getfield 71, 3) := by decide +kernel
theorem dX11_isFor_4 : decode cX11_isFor 4 = .ok (.iload_n 1, 1) := by decide +kernel
theorem dX11_isFor_5 : decode cX11_isFor 5 = .ok (.iaload, 1) := by decide +kernel
theorem dX11_isFor_6 : decode cX11_isFor 6 = .ok (.iload_n 3, 1) := by decide +kernel
theorem dX11_isFor_7 : decode cX11_isFor 7 = .ok (.if_icmp .ne 29, 3) := by decide +kernel
theorem dX11_isFor_10 : decode cX11_isFor 10 = .ok (.aload_n 0, 1) := by decide +kernel
theorem dX11_isFor_11 : decode cX11_isFor 11 = .ok (.getfield 74, 3) := by decide +kernel
theorem dX11_isFor_14 : decode cX11_isFor 14 = .ok (.iload_n 1, 1) := by decide +kernel
theorem dX11_isFor_15 : decode cX11_isFor 15 = .ok (.iaload, 1) := by decide +kernel
theorem dX11_isFor_16 : decode cX11_isFor 16 = .ok (.iload 4, 2) := by decide +kernel
theorem dX11_isFor_18 : decode cX11_isFor 18 = .ok (.if_icmp .ne 18, 3) := by decide +kernel
theorem dX11_isFor_21 : decode cX11_isFor 21 = .ok (.aload_n 0, 1) := by decide +kernel
theorem dX11_isFor_22 : decode cX11_isFor 22 = .ok (.getfield 77, 3) := by decide +kernel
theorem dX11_isFor_25 : decode cX11_isFor 25 = .ok (.iload_n 1, 1) := by decide +kernel
theorem dX11_isFor_26 : decode cX11_isFor 26 = .ok (.iaload, 1) := by decide +kernel
theorem dX11_isFor_27 : decode cX11_isFor 27 = .ok (.iload 5, 2) := by decide +kernel
theorem dX11_isFor_29 : decode cX11_isFor 29 = .ok (.if_icmp .ne 7, 3) := by decide +kernel
