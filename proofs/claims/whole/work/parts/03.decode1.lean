theorem dX0_init_0 : decode cX0_init 0 = .ok (.aload_n 0, 1) := by decide +kernel
theorem dX0_init_1 : decode cX0_init 1 = .ok (.invokespecial 3, 3) := by decide +kernel
theorem dX0_init_4 : decode cX0_init 4 = .ok (.aload_n 0, 1) := by decide +kernel
theorem dX0_init_5 : decode cX0_init 5 = .ok (.bipush 31, 2) := by decide +kernel
theorem dX0_init_7 : decode cX0_init 7 = .ok (.newarray .int, 2) := by decide +kernel
theorem dX0_init_9 : decode cX0_init 9 = .ok (.putfield 9, 3) := by decide +kernel
theorem dX0_init_12 : decode cX0_init 12 = .ok (.aload_n 0, 1) := by decide +kernel
theorem dX0_init_13 : decode cX0_init 13 = .ok (.sipush 186, 3) := by decide +kernel
theorem dX0_init_16 : decode cX0_init 16 = .ok (.newarray .long, 2) := by decide +kernel
theorem dX0_init_18 : decode cX0_init 18 = .ok (.putfield 15, 3) := by decide +kernel
theorem dX0_init_21 : decode cX0_init 21 = .ok (.aload_n 0, 1) := by decide +kernel
theorem dX0_init_22 : decode cX0_init 22 = .ok (.sipush 186, 3) := by decide +kernel
theorem dX0_init_25 : decode cX0_init 25 = .ok (.newarray .int, 2) := by decide +kernel
theorem dX0_init_27 : decode cX0_init 27 = .ok (.putfield 19, 3) := by decide +kernel
theorem dX0_init_30 : decode cX0_init 30 = .ok (.aload_n 0, 1) := by decide +kernel
theorem dX0_init_31 : decode cX0_init 31 = .ok (.sipush 186, 3) := by decide +kernel
theorem dX0_init_34 : decode cX0_init 34 = .ok (.newarray .long, 2) := by decide +kernel
theorem dX0_init_36 : decode cX0_init 36 = .ok (.putfield 22, 3) := by decide +kernel
theorem dX0_init_39 : decode cX0_init 39 = .ok (.return_, 1) := by decide +kernel
theorem dX0_come_0 : decode cX0_come 0 = .ok (.aload_n 1, 1) := by decide +kernel
theorem dX0_come_1 : decode cX0_come 1 = .ok (.getfield 25, 3) := by decide +kernel
theorem dX0_come_4 : decode cX0_come 4 = .ok (.iconst 1, 1) := by decide +kernel
theorem dX0_come_5 : decode cX0_come 5 = .ok (.isub, 1) := by decide +kernel
theorem dX0_come_6 : decode cX0_come 6 = .ok (.istore 4, 2) := by decide +kernel
theorem dX0_come_8 : decode cX0_come 8 = .ok (.iload 4, 2) := by decide +kernel
theorem dX0_come_10 : decode cX0_come 10 = .ok (.ifCond .lt 48, 3) := by decide +kernel
theorem dX0_come_13 : decode cX0_come 13 = .ok (.aload_n 0, 1) := by decide +kernel
theorem dX0_come_14 : decode cX0_come 14 = .ok (.getfield 9, 3) := by decide +kernel
theorem dX0_come_17 : decode cX0_come 17 = .ok (.iload 4, 2) := by decide +kernel
theorem dX0_come_19 : decode cX0_come 19 = .ok (.aload_n 2, 1) := by decide +kernel
theorem dX0_come_20 : decode cX0_come 20 = .ok (.aload_n 1, 1) := by decide +kernel
theorem dX0_come_21 : decode cX0_come 21 = .ok (.getfield 31, 3) := by decide +kernel
theorem dX0_come_24 : decode cX0_come 24 = .ok (.iload 4, 2) := by decide +kernel
theorem dX0_come_26 : decode cX0_come 26 = .ok (.iaload, 1) := by decide +kernel
theorem dX0_come_27 : decode cX0_come 27 = .ok (.iload_n 3, 1) := by decide +kernel
theorem dX0_come_28 : decode cX0_come 28 = .ok (.aload_n 0, 1) := by decide +kernel
theorem dX0_come_29 : decode cX0_come 29 = .ok (.aload_n 1, 1) := by decide +kernel
theorem dX0_come_30 : decode cX0_come 30 = .ok (.iload 4, 2) := by decide +kernel
theorem dX0_come_32 : decode cX0_come 32 = .ok (.iconst 1, 1) := by decide +kernel
theorem dX0_come_33 : decode cX0_come 33 = .ok (.iadd, 1) := by decide +kernel
theorem dX0_come_34 : decode cX0_come 34 = .ok (.invokevirtual 34, 3) := by decide +kernel
theorem dX0_come_37 : decode cX0_come 37 = .ok (.aload_n 0, 1) := by decide +kernel
theorem dX0_come_38 : decode cX0_come 38 = .ok (.aload_n 1, 1) := by decide +kernel
theorem dX0_come_39 : decode cX0_come 39 = .ok (.aload_n 1, 1) := by decide +kernel
theorem dX0_come_40 : decode cX0_come 40 = .ok (.iload 4, 2) := by decide +kernel
theorem dX0_come_42 : decode cX0_come 42 = .ok (.invokevirtual 38, 3) := by decide +kernel
theorem dX0_come_45 : decode cX0_come 45 = .ok (.invokevirtual 34, 3) := by decide +kernel
theorem dX0_come_48 : decode cX0_come 48 = .ok (.invokevirtual 42, 3) := by decide +kernel
theorem dX0_come_51 : decode cX0_come 51 = .ok (.iastore, 1) := by decide +kernel
theorem dX0_come_52 : decode cX0_come 52 = .ok (.iinc 4 (-1), 3) := by decide +kernel
theorem dX0_come_55 : decode cX0_come 55 = .ok (.goto (-47), 3) := by decide +kernel
theorem dX0_come_58 : decode cX0_come 58 = .ok (.return_, 1) := by decide +kernel
theorem dX0_comesOf_0 : decode cX0_comesOf 0 = .ok (.aload_n 1, 1) := by decide +kernel
theorem dX0_comesOf_1 : decode cX0_comesOf 1 = .ok (.iload_n 2, 1) := by decide +kernel
theorem dX0_comesOf_2 : decode cX0_comesOf 2 = .ok (.invokevirtual 48, 3) := by decide +kernel
theorem dX0_comesOf_5 : decode cX0_comesOf 5 = .ok (.ifCond .eq 12, 3) := by decide +kernel
theorem dX0_comesOf_8 : decode cX0_comesOf 8 = .ok (.aload_n 0, 1) := by decide +kernel
theorem dX0_comesOf_9 : decode cX0_comesOf 9 = .ok (.getfield 9, 3) := by decide +kernel
theorem dX0_comesOf_12 : decode cX0_comesOf 12 = .ok (.iload_n 2, 1) := by decide +kernel
theorem dX0_comesOf_13 : decode cX0_comesOf 13 = .ok (.iaload, 1) := by decide +kernel
theorem dX0_comesOf_14 : decode cX0_comesOf 14 = .ok (.goto 4, 3) := by decide +kernel
theorem dX0_comesOf_17 : decode cX0_comesOf 17 = .ok (.iconst 0, 1) := by decide +kernel
theorem dX0_comesOf_18 : decode cX0_comesOf 18 = .ok (.ireturn, 1) := by decide +kernel
theorem dX0_placeOf_0 : decode cX0_placeOf 0 = .ok (.aload_n 0, 1) := by decide +kernel
theorem dX0_placeOf_1 : decode cX0_placeOf 1 = .ok (.iload_n 1, 1) := by decide +kernel
theorem dX0_placeOf_2 : decode cX0_placeOf 2 = .ok (.invokevirtual 48, 3) := by decide +kernel
theorem dX0_placeOf_5 : decode cX0_placeOf 5 = .ok (.ifCond .eq 19, 3) := by decide +kernel
theorem dX0_placeOf_8 : decode cX0_placeOf 8 = .ok (.iload_n 2, 1) := by decide +kernel
theorem dX0_placeOf_9 : decode cX0_placeOf 9 = .ok (.invokestatic 52, 3) := by decide +kernel
theorem dX0_placeOf_12 : decode cX0_placeOf 12 = .ok (.ifCond .eq 12, 3) := by decide +kernel
theorem dX0_placeOf_15 : decode cX0_placeOf 15 = .ok (.iload_n 1, 1) := by decide +kernel
theorem dX0_placeOf_16 : decode cX0_placeOf 16 = .ok (.bipush 6, 2) := by decide +kernel
theorem dX0_placeOf_18 : decode cX0_placeOf 18 = .ok (.imul, 1) := by decide +kernel
theorem dX0_placeOf_19 : decode cX0_placeOf 19 = .ok (.iload_n 2, 1) := by decide +kernel
theorem dX0_placeOf_20 : decode cX0_placeOf 20 = .ok (.iadd, 1) := by decide +kernel
theorem dX0_placeOf_21 : decode cX0_placeOf 21 = .ok (.goto 4, 3) := by decide +kernel
theorem dX0_placeOf_24 : decode cX0_placeOf 24 = .ok (.iconst (-1), 1) := by decide +kernel
theorem dX0_placeOf_25 : decode cX0_placeOf 25 = .ok (.ireturn, 1) := by decide +kernel
theorem dX0_countWays_0 : decode cX0_countWays 0 = .ok (.aload_n 1, 1) := by decide +kernel
theorem dX0_countWays_1 : decode cX0_countWays 1 = .ok (.getfield 25, 3) := by decide +kernel
theorem dX0_countWays_4 : decode cX0_countWays 4 = .ok (.iconst 1, 1) := by decide +kernel
theorem dX0_countWays_5 : decode cX0_countWays 5 = .ok (.isub, 1) := by decide +kernel
theorem dX0_countWays_6 : decode cX0_countWays 6 = .ok (.istore 4, 2) := by decide +kernel
theorem dX0_countWays_8 : decode cX0_countWays 8 = .ok (.iload 4, 2) := by decide +kernel
theorem dX0_countWays_10 : decode cX0_countWays 10 = .ok (.ifCond .lt 128, 3) := by decide +kernel
theorem dX0_countWays_13 : decode cX0_countWays 13 = .ok (.iconst 0, 1) := by decide +kernel
theorem dX0_countWays_14 : decode cX0_countWays 14 = .ok (.istore 5, 2) := by decide +kernel
theorem dX0_countWays_16 : decode cX0_countWays 16 = .ok (.iload 5, 2) := by decide +kernel
theorem dX0_countWays_18 : decode cX0_countWays 18 = .ok (.bipush 6, 2) := by decide +kernel
theorem dX0_countWays_20 : decode cX0_countWays 20 = .ok (.if_icmp .ge 23, 3) := by decide +kernel
theorem dX0_countWays_23 : decode cX0_countWays 23 = .ok (.aload_n 0, 1) := by decide +kernel
theorem dX0_countWays_24 : decode cX0_countWays 24 = .ok (.getfield 15, 3) := by decide +kernel
theorem dX0_countWays_27 : decode cX0_countWays 27 = .ok (.iload 4, 2) := by decide +kernel
theorem dX0_countWays_29 : decode cX0_countWays 29 = .ok (.bipush 6, 2) := by decide +kernel
theorem dX0_countWays_31 : decode cX0_countWays 31 = .ok (.imul, 1) := by decide +kernel
theorem dX0_countWays_32 : decode cX0_countWays 32 = .ok (.iload 5, 2) := by decide +kernel
theorem dX0_countWays_34 : decode cX0_countWays 34 = .ok (.iadd, 1) := by decide +kernel
theorem dX0_countWays_35 : decode cX0_countWays 35 = .ok (.lconst 0, 1) := by decide +kernel
theorem dX0_countWays_36 : decode cX0_countWays 36 = .ok (.lastore, 1) := by decide +kernel
theorem dX0_countWays_37 : decode cX0_countWays 37 = .ok (.iinc 5 1, 3) := by decide +kernel
theorem dX0_countWays_40 : decode cX0_countWays 40 = .ok (.goto (-24), 3) := by decide +kernel
theorem dX0_countWays_43 : decode cX0_countWays 43 = .ok (.iconst 0, 1) := by decide +kernel
theorem dX0_countWays_44 : decode cX0_countWays 44 = .ok (.istore 5, 2) := by decide +kernel
theorem dX0_countWays_46 : decode cX0_countWays 46 = .ok (.iload 5, 2) := by decide +kernel
theorem dX0_countWays_48 : decode cX0_countWays 48 = .ok (.aload_n 2, 1) := by decide +kernel
theorem dX0_countWays_49 : decode cX0_countWays 49 = .ok (.getfield 55, 3) := by decide +kernel
theorem dX0_countWays_52 : decode cX0_countWays 52 = .ok (.if_icmp .ge 80, 3) := by decide +kernel
theorem dX0_countWays_55 : decode cX0_countWays 55 = .ok (.iload_n 3, 1) := by decide +kernel
theorem dX0_countWays_56 : decode cX0_countWays 56 = .ok (.iload 5, 2) := by decide +kernel
theorem dX0_countWays_58 : decode cX0_countWays 58 = .ok (.invokestatic 56, 3) := by decide +kernel
theorem dX0_countWays_61 : decode cX0_countWays 61 = .ok (.iconst 1, 1) := by decide +kernel
theorem dX0_countWays_62 : decode cX0_countWays 62 = .ok (.if_icmp .ne 64, 3) := by decide +kernel
theorem dX0_countWays_65 : decode cX0_countWays 65 = .ok (.aload_n 2, 1) := by decide +kernel
theorem dX0_countWays_66 : decode cX0_countWays 66 = .ok (.getfield 60, 3) := by decide +kernel
theorem dX0_countWays_69 : decode cX0_countWays 69 = .ok (.iload 5, 2) := by decide +kernel
theorem dX0_countWays_71 : decode cX0_countWays 71 = .ok (.iaload, 1) := by decide +kernel
theorem dX0_countWays_72 : decode cX0_countWays 72 = .ok (.aload_n 1, 1) := by decide +kernel
theorem dX0_countWays_73 : decode cX0_countWays 73 = .ok (.getfield 31, 3) := by decide +kernel
theorem dX0_countWays_76 : decode cX0_countWays 76 = .ok (.iload 4, 2) := by decide +kernel
theorem dX0_countWays_78 : decode cX0_countWays 78 = .ok (.iaload, 1) := by decide +kernel
theorem dX0_countWays_79 : decode cX0_countWays 79 = .ok (.if_icmp .ne 47, 3) := by decide +kernel
theorem dX0_countWays_82 : decode cX0_countWays 82 = .ok (.iload 4, 2) := by decide +kernel
theorem dX0_countWays_84 : decode cX0_countWays 84 = .ok (.bipush 6, 2) := by decide +kernel
theorem dX0_countWays_86 : decode cX0_countWays 86 = .ok (.imul, 1) := by decide +kernel
theorem dX0_countWays_87 : decode cX0_countWays 87 = .ok (.aload_n 2, 1) := by decide +kernel
theorem dX0_countWays_88 : decode cX0_countWays 88 = .ok (.getfield 61, 3) := by decide +kernel
theorem dX0_countWays_91 : decode cX0_countWays 91 = .ok (.iload 5, 2) := by decide +kernel
theorem dX0_countWays_93 : decode cX0_countWays 93 = .ok (.iaload, 1) := by decide +kernel
theorem dX0_countWays_94 : decode cX0_countWays 94 = .ok (.iadd, 1) := by decide +kernel
theorem dX0_countWays_95 : decode cX0_countWays 95 = .ok (.istore 6, 2) := by decide +kernel
theorem dX0_countWays_97 : decode cX0_countWays 97 = .ok (.aload_n 0, 1) := by decide +kernel
theorem dX0_countWays_98 : decode cX0_countWays 98 = .ok (.getfield 15, 3) := by decide +kernel
theorem dX0_countWays_101 : decode cX0_countWays 101 = .ok (.iload 6, 2) := by decide +kernel
theorem dX0_countWays_103 : decode cX0_countWays 103 = .ok (.aload_n 0, 1) := by decide +kernel
theorem dX0_countWays_104 : decode cX0_countWays 104 = .ok (.getfield 15, 3) := by decide +kernel
theorem dX0_countWays_107 : decode cX0_countWays 107 = .ok (.iload 6, 2) := by decide +kernel
theorem dX0_countWays_109 : decode cX0_countWays 109 = .ok (.laload, 1) := by decide +kernel
theorem dX0_countWays_110 : decode cX0_countWays 110 = .ok (.aload_n 0, 1) := by decide +kernel
theorem dX0_countWays_111 : decode cX0_countWays 111 = .ok (.aload_n 1, 1) := by decide +kernel
theorem dX0_countWays_112 : decode cX0_countWays 112 = .ok (.aload_n 2, 1) := by decide +kernel
theorem dX0_countWays_113 : decode cX0_countWays 113 = .ok (.iload 4, 2) := by decide +kernel
theorem dX0_countWays_115 : decode cX0_countWays 115 = .ok (.iload 5, 2) := by decide +kernel
theorem dX0_countWays_117 : decode cX0_countWays 117 = .ok (.invokevirtual 64, 3) := by decide +kernel
theorem dX0_countWays_120 : decode cX0_countWays 120 = .ok (.ladd, 1) := by decide +kernel
theorem dX0_countWays_121 : decode cX0_countWays 121 = .ok (.ldc2_w 68, 3) := by decide +kernel
theorem dX0_countWays_124 : decode cX0_countWays 124 = .ok (.lrem, 1) := by decide +kernel
theorem dX0_countWays_125 : decode cX0_countWays 125 = .ok (.lastore, 1) := by decide +kernel
theorem dX0_countWays_126 : decode cX0_countWays 126 = .ok (.iinc 5 1, 3) := by decide +kernel
theorem dX0_countWays_129 : decode cX0_countWays 129 = .ok (.goto (-83), 3) := by decide +kernel
theorem dX0_countWays_132 : decode cX0_countWays 132 = .ok (.iinc 4 (-1), 3) := by decide +kernel
theorem dX0_countWays_135 : decode cX0_countWays 135 = .ok (.goto (-127), 3) := by decide +kernel
theorem dX0_countWays_138 : decode cX0_countWays 138 = .ok (.return_, 1) := by decide +kernel
theorem dX0_waysBy_0 : decode cX0_waysBy 0 = .ok (.aload_n 2, 1) := by decide +kernel
theorem dX0_waysBy_1 : decode cX0_waysBy 1 = .ok (.getfield 60, 3) := by decide +kernel
theorem dX0_waysBy_4 : decode cX0_waysBy 4 = .ok (.iload 4, 2) := by decide +kernel
theorem dX0_waysBy_6 : decode cX0_waysBy 6 = .ok (.iaload, 1) := by decide +kernel
theorem dX0_waysBy_7 : decode cX0_waysBy 7 = .ok (.invokestatic 70, 3) := by decide +kernel
theorem dX0_waysBy_10 : decode cX0_waysBy 10 = .ok (.istore 5, 2) := by decide +kernel
theorem dX0_waysBy_12 : decode cX0_waysBy 12 = .ok (.lconst 1, 1) := by decide +kernel
theorem dX0_waysBy_13 : decode cX0_waysBy 13 = .ok (.lstore 6, 2) := by decide +kernel
theorem dX0_waysBy_15 : decode cX0_waysBy 15 = .ok (.iload 5, 2) := by decide +kernel
theorem dX0_waysBy_17 : decode cX0_waysBy 17 = .ok (.ifCond .le 37, 3) := by decide +kernel
theorem dX0_waysBy_20 : decode cX0_waysBy 20 = .ok (.aload_n 1, 1) := by decide +kernel
theorem dX0_waysBy_21 : decode cX0_waysBy 21 = .ok (.iload_n 3, 1) := by decide +kernel
theorem dX0_waysBy_22 : decode cX0_waysBy 22 = .ok (.iconst 1, 1) := by decide +kernel
theorem dX0_waysBy_23 : decode cX0_waysBy 23 = .ok (.iadd, 1) := by decide +kernel
theorem dX0_waysBy_24 : decode cX0_waysBy 24 = .ok (.aload_n 2, 1) := by decide +kernel
theorem dX0_waysBy_25 : decode cX0_waysBy 25 = .ok (.getfield 73, 3) := by decide +kernel
theorem dX0_waysBy_28 : decode cX0_waysBy 28 = .ok (.iload 4, 2) := by decide +kernel
theorem dX0_waysBy_30 : decode cX0_waysBy 30 = .ok (.iaload, 1) := by decide +kernel
theorem dX0_waysBy_31 : decode cX0_waysBy 31 = .ok (.invokestatic 76, 3) := by decide +kernel
theorem dX0_waysBy_34 : decode cX0_waysBy 34 = .ok (.istore 8, 2) := by decide +kernel
theorem dX0_waysBy_36 : decode cX0_waysBy 36 = .ok (.iload 8, 2) := by decide +kernel
theorem dX0_waysBy_38 : decode cX0_waysBy 38 = .ok (.ifCond .ge 7, 3) := by decide +kernel
theorem dX0_waysBy_41 : decode cX0_waysBy 41 = .ok (.lconst 0, 1) := by decide +kernel
theorem dX0_waysBy_42 : decode cX0_waysBy 42 = .ok (.goto 10, 3) := by decide +kernel
theorem dX0_waysBy_45 : decode cX0_waysBy 45 = .ok (.aload_n 0, 1) := by decide +kernel
theorem dX0_waysBy_46 : decode cX0_waysBy 46 = .ok (.getfield 15, 3) := by decide +kernel
theorem dX0_waysBy_49 : decode cX0_waysBy 49 = .ok (.iload 8, 2) := by decide +kernel
theorem dX0_waysBy_51 : decode cX0_waysBy 51 = .ok (.laload, 1) := by decide +kernel
theorem dX0_waysBy_52 : decode cX0_waysBy 52 = .ok (.lstore 6, 2) := by decide +kernel
theorem dX0_waysBy_54 : decode cX0_waysBy 54 = .ok (.iload 5, 2) := by decide +kernel
theorem dX0_waysBy_56 : decode cX0_waysBy 56 = .ok (.iconst 1, 1) := by decide +kernel
theorem dX0_waysBy_57 : decode cX0_waysBy 57 = .ok (.if_icmp .le 46, 3) := by decide +kernel
theorem dX0_waysBy_60 : decode cX0_waysBy 60 = .ok (.aload_n 1, 1) := by decide +kernel
theorem dX0_waysBy_61 : decode cX0_waysBy 61 = .ok (.aload_n 1, 1) := by decide +kernel
theorem dX0_waysBy_62 : decode cX0_waysBy 62 = .ok (.iload_n 3, 1) := by decide +kernel
theorem dX0_waysBy_63 : decode cX0_waysBy 63 = .ok (.invokevirtual 38, 3) := by decide +kernel
theorem dX0_waysBy_66 : decode cX0_waysBy 66 = .ok (.aload_n 2, 1) := by decide +kernel
theorem dX0_waysBy_67 : decode cX0_waysBy 67 = .ok (.getfield 80, 3) := by decide +kernel
theorem dX0_waysBy_70 : decode cX0_waysBy 70 = .ok (.iload 4, 2) := by decide +kernel
theorem dX0_waysBy_72 : decode cX0_waysBy 72 = .ok (.iaload, 1) := by decide +kernel
theorem dX0_waysBy_73 : decode cX0_waysBy 73 = .ok (.invokestatic 76, 3) := by decide +kernel
theorem dX0_waysBy_76 : decode cX0_waysBy 76 = .ok (.istore 8, 2) := by decide +kernel
theorem dX0_waysBy_78 : decode cX0_waysBy 78 = .ok (.iload 8, 2) := by decide +kernel
theorem dX0_waysBy_80 : decode cX0_waysBy 80 = .ok (.ifCond .ge 7, 3) := by decide +kernel
theorem dX0_waysBy_83 : decode cX0_waysBy 83 = .ok (.lconst 0, 1) := by decide +kernel
theorem dX0_waysBy_84 : decode cX0_waysBy 84 = .ok (.goto 17, 3) := by decide +kernel
theorem dX0_waysBy_87 : decode cX0_waysBy 87 = .ok (.lload 6, 2) := by decide +kernel
theorem dX0_waysBy_89 : decode cX0_waysBy 89 = .ok (.aload_n 0, 1) := by decide +kernel
theorem dX0_waysBy_90 : decode cX0_waysBy 90 = .ok (.getfield 15, 3) := by decide +kernel
theorem dX0_waysBy_93 : decode cX0_waysBy 93 = .ok (.iload 8, 2) := by decide +kernel
theorem dX0_waysBy_95 : decode cX0_waysBy 95 = .ok (.laload, 1) := by decide +kernel
theorem dX0_waysBy_96 : decode cX0_waysBy 96 = .ok (.lmul, 1) := by decide +kernel
theorem dX0_waysBy_97 : decode cX0_waysBy 97 = .ok (.ldc2_w 68, 3) := by decide +kernel
theorem dX0_waysBy_100 : decode cX0_waysBy 100 = .ok (.lrem, 1) := by decide +kernel
theorem dX0_waysBy_101 : decode cX0_waysBy 101 = .ok (.lstore 6, 2) := by decide +kernel
theorem dX0_waysBy_103 : decode cX0_waysBy 103 = .ok (.lload 6, 2) := by decide +kernel
theorem dX0_waysBy_105 : decode cX0_waysBy 105 = .ok (.lreturn, 1) := by decide +kernel
theorem dX0_goodWays_0 : decode cX0_goodWays 0 = .ok (.lconst 0, 1) := by decide +kernel
theorem dX0_goodWays_1 : decode cX0_goodWays 1 = .ok (.lstore_n 2, 1) := by decide +kernel
theorem dX0_goodWays_2 : decode cX0_goodWays 2 = .ok (.iconst 0, 1) := by decide +kernel
theorem dX0_goodWays_3 : decode cX0_goodWays 3 = .ok (.istore 4, 2) := by decide +kernel
theorem dX0_goodWays_5 : decode cX0_goodWays 5 = .ok (.iload 4, 2) := by decide +kernel
theorem dX0_goodWays_7 : decode cX0_goodWays 7 = .ok (.bipush 6, 2) := by decide +kernel
theorem dX0_goodWays_9 : decode cX0_goodWays 9 = .ok (.if_icmp .ge 29, 3) := by decide +kernel
theorem dX0_goodWays_12 : decode cX0_goodWays 12 = .ok (.iload_n 1, 1) := by decide +kernel
theorem dX0_goodWays_13 : decode cX0_goodWays 13 = .ok (.iload 4, 2) := by decide +kernel
theorem dX0_goodWays_15 : decode cX0_goodWays 15 = .ok (.invokestatic 56, 3) := by decide +kernel
theorem dX0_goodWays_18 : decode cX0_goodWays 18 = .ok (.iconst 1, 1) := by decide +kernel
theorem dX0_goodWays_19 : decode cX0_goodWays 19 = .ok (.if_icmp .ne 13, 3) := by decide +kernel
theorem dX0_goodWays_22 : decode cX0_goodWays 22 = .ok (.lload_n 2, 1) := by decide +kernel
theorem dX0_goodWays_23 : decode cX0_goodWays 23 = .ok (.aload_n 0, 1) := by decide +kernel
theorem dX0_goodWays_24 : decode cX0_goodWays 24 = .ok (.getfield 15, 3) := by decide +kernel
theorem dX0_goodWays_27 : decode cX0_goodWays 27 = .ok (.iload 4, 2) := by decide +kernel
theorem dX0_goodWays_29 : decode cX0_goodWays 29 = .ok (.laload, 1) := by decide +kernel
theorem dX0_goodWays_30 : decode cX0_goodWays 30 = .ok (.ladd, 1) := by decide +kernel
theorem dX0_goodWays_31 : decode cX0_goodWays 31 = .ok (.lstore_n 2, 1) := by decide +kernel
theorem dX0_goodWays_32 : decode cX0_goodWays 32 = .ok (.iinc 4 1, 3) := by decide +kernel
theorem dX0_goodWays_35 : decode cX0_goodWays 35 = .ok (.goto (-30), 3) := by decide +kernel
theorem dX0_goodWays_38 : decode cX0_goodWays 38 = .ok (.lload_n 2, 1) := by decide +kernel
theorem dX0_goodWays_39 : decode cX0_goodWays 39 = .ok (.ldc2_w 68, 3) := by decide +kernel
theorem dX0_goodWays_42 : decode cX0_goodWays 42 = .ok (.lrem, 1) := by decide +kernel
theorem dX0_goodWays_43 : decode cX0_goodWays 43 = .ok (.l2i, 1) := by decide +kernel
theorem dX0_goodWays_44 : decode cX0_goodWays 44 = .ok (.ireturn, 1) := by decide +kernel
theorem dX0_weighChanges_0 : decode cX0_weighChanges 0 = .ok (.aload_n 1, 1) := by decide +kernel
theorem dX0_weighChanges_1 : decode cX0_weighChanges 1 = .ok (.getfield 25, 3) := by decide +kernel
theorem dX0_weighChanges_4 : decode cX0_weighChanges 4 = .ok (.iconst 1, 1) := by decide +kernel
theorem dX0_weighChanges_5 : decode cX0_weighChanges 5 = .ok (.isub, 1) := by decide +kernel
theorem dX0_weighChanges_6 : decode cX0_weighChanges 6 = .ok (.istore 4, 2) := by decide +kernel
theorem dX0_weighChanges_8 : decode cX0_weighChanges 8 = .ok (.iload 4, 2) := by decide +kernel
theorem dX0_weighChanges_10 : decode cX0_weighChanges 10 = .ok (.ifCond .lt 116, 3) := by decide +kernel
theorem dX0_weighChanges_13 : decode cX0_weighChanges 13 = .ok (.iconst 0, 1) := by decide +kernel
theorem dX0_weighChanges_14 : decode cX0_weighChanges 14 = .ok (.istore 5, 2) := by decide +kernel
theorem dX0_weighChanges_16 : decode cX0_weighChanges 16 = .ok (.iload 5, 2) := by decide +kernel
theorem dX0_weighChanges_18 : decode cX0_weighChanges 18 = .ok (.bipush 6, 2) := by decide +kernel
theorem dX0_weighChanges_20 : decode cX0_weighChanges 20 = .ok (.if_icmp .ge 39, 3) := by decide +kernel
theorem dX0_weighChanges_23 : decode cX0_weighChanges 23 = .ok (.aload_n 0, 1) := by decide +kernel
theorem dX0_weighChanges_24 : decode cX0_weighChanges 24 = .ok (.getfield 19, 3) := by decide +kernel
theorem dX0_weighChanges_27 : decode cX0_weighChanges 27 = .ok (.iload 4, 2) := by decide +kernel
theorem dX0_weighChanges_29 : decode cX0_weighChanges 29 = .ok (.bipush 6, 2) := by decide +kernel
theorem dX0_weighChanges_31 : decode cX0_weighChanges 31 = .ok (.imul, 1) := by decide +kernel
theorem dX0_weighChanges_32 : decode cX0_weighChanges 32 = .ok (.iload 5, 2) := by decide +kernel
theorem dX0_weighChanges_34 : decode cX0_weighChanges 34 = .ok (.iadd, 1) := by decide +kernel
theorem dX0_weighChanges_35 : decode cX0_weighChanges 35 = .ok (.sipush 1000, 3) := by decide +kernel
theorem dX0_weighChanges_38 : decode cX0_weighChanges 38 = .ok (.iastore, 1) := by decide +kernel
theorem dX0_weighChanges_39 : decode cX0_weighChanges 39 = .ok (.aload_n 0, 1) := by decide +kernel
theorem dX0_weighChanges_40 : decode cX0_weighChanges 40 = .ok (.getfield 22, 3) := by decide +kernel
theorem dX0_weighChanges_43 : decode cX0_weighChanges 43 = .ok (.iload 4, 2) := by decide +kernel
theorem dX0_weighChanges_45 : decode cX0_weighChanges 45 = .ok (.bipush 6, 2) := by decide +kernel
theorem dX0_weighChanges_47 : decode cX0_weighChanges 47 = .ok (.imul, 1) := by decide +kernel
theorem dX0_weighChanges_48 : decode cX0_weighChanges 48 = .ok (.iload 5, 2) := by decide +kernel
theorem dX0_weighChanges_50 : decode cX0_weighChanges 50 = .ok (.iadd, 1) := by decide +kernel
theorem dX0_weighChanges_51 : decode cX0_weighChanges 51 = .ok (.lconst 0, 1) := by decide +kernel
theorem dX0_weighChanges_52 : decode cX0_weighChanges 52 = .ok (.lastore, 1) := by decide +kernel
theorem dX0_weighChanges_53 : decode cX0_weighChanges 53 = .ok (.iinc 5 1, 3) := by decide +kernel
theorem dX0_weighChanges_56 : decode cX0_weighChanges 56 = .ok (.goto (-40), 3) := by decide +kernel
theorem dX0_weighChanges_59 : decode cX0_weighChanges 59 = .ok (.iconst 0, 1) := by decide +kernel
theorem dX0_weighChanges_60 : decode cX0_weighChanges 60 = .ok (.istore 5, 2) := by decide +kernel
theorem dX0_weighChanges_62 : decode cX0_weighChanges 62 = .ok (.iload 5, 2) := by decide +kernel
theorem dX0_weighChanges_64 : decode cX0_weighChanges 64 = .ok (.aload_n 2, 1) := by decide +kernel
theorem dX0_weighChanges_65 : decode cX0_weighChanges 65 = .ok (.getfield 55, 3) := by decide +kernel
theorem dX0_weighChanges_68 : decode cX0_weighChanges 68 = .ok (.if_icmp .ge 52, 3) := by decide +kernel
theorem dX0_weighChanges_71 : decode cX0_weighChanges 71 = .ok (.iload_n 3, 1) := by decide +kernel
theorem dX0_weighChanges_72 : decode cX0_weighChanges 72 = .ok (.iload 5, 2) := by decide +kernel
theorem dX0_weighChanges_74 : decode cX0_weighChanges 74 = .ok (.invokestatic 56, 3) := by decide +kernel
theorem dX0_weighChanges_77 : decode cX0_weighChanges 77 = .ok (.iconst 1, 1) := by decide +kernel
theorem dX0_weighChanges_78 : decode cX0_weighChanges 78 = .ok (.if_icmp .ne 36, 3) := by decide +kernel
theorem dX0_weighChanges_81 : decode cX0_weighChanges 81 = .ok (.aload_n 2, 1) := by decide +kernel
theorem dX0_weighChanges_82 : decode cX0_weighChanges 82 = .ok (.getfield 60, 3) := by decide +kernel
theorem dX0_weighChanges_85 : decode cX0_weighChanges 85 = .ok (.iload 5, 2) := by decide +kernel
theorem dX0_weighChanges_87 : decode cX0_weighChanges 87 = .ok (.iaload, 1) := by decide +kernel
theorem dX0_weighChanges_88 : decode cX0_weighChanges 88 = .ok (.invokestatic 70, 3) := by decide +kernel
theorem dX0_weighChanges_91 : decode cX0_weighChanges 91 = .ok (.aload_n 1, 1) := by decide +kernel
theorem dX0_weighChanges_92 : decode cX0_weighChanges 92 = .ok (.getfield 31, 3) := by decide +kernel
theorem dX0_weighChanges_95 : decode cX0_weighChanges 95 = .ok (.iload 4, 2) := by decide +kernel
theorem dX0_weighChanges_97 : decode cX0_weighChanges 97 = .ok (.iaload, 1) := by decide +kernel
theorem dX0_weighChanges_98 : decode cX0_weighChanges 98 = .ok (.invokestatic 70, 3) := by decide +kernel
theorem dX0_weighChanges_101 : decode cX0_weighChanges 101 = .ok (.if_icmp .ne 13, 3) := by decide +kernel
theorem dX0_weighChanges_104 : decode cX0_weighChanges 104 = .ok (.aload_n 0, 1) := by decide +kernel
theorem dX0_weighChanges_105 : decode cX0_weighChanges 105 = .ok (.aload_n 1, 1) := by decide +kernel
theorem dX0_weighChanges_106 : decode cX0_weighChanges 106 = .ok (.aload_n 2, 1) := by decide +kernel
theorem dX0_weighChanges_107 : decode cX0_weighChanges 107 = .ok (.iload 4, 2) := by decide +kernel
theorem dX0_weighChanges_109 : decode cX0_weighChanges 109 = .ok (.iload 5, 2) := by decide +kernel
theorem dX0_weighChanges_111 : decode cX0_weighChanges 111 = .ok (.invokevirtual 83, 3) := by decide +kernel
theorem dX0_weighChanges_114 : decode cX0_weighChanges 114 = .ok (.iinc 5 1, 3) := by decide +kernel
theorem dX0_weighChanges_117 : decode cX0_weighChanges 117 = .ok (.goto (-55), 3) := by decide +kernel
theorem dX0_weighChanges_120 : decode cX0_weighChanges 120 = .ok (.iinc 4 (-1), 3) := by decide +kernel
theorem dX0_weighChanges_123 : decode cX0_weighChanges 123 = .ok (.goto (-115), 3) := by decide +kernel
theorem dX0_weighChanges_126 : decode cX0_weighChanges 126 = .ok (.return_, 1) := by decide +kernel
theorem dX0_weighRule_0 : decode cX0_weighRule 0 = .ok (.aload_n 2, 1) := by decide +kernel
theorem dX0_weighRule_1 : decode cX0_weighRule 1 = .ok (.getfield 60, 3) := by decide +kernel
theorem dX0_weighRule_4 : decode cX0_weighRule 4 = .ok (.iload 4, 2) := by decide +kernel
theorem dX0_weighRule_6 : decode cX0_weighRule 6 = .ok (.iaload, 1) := by decide +kernel
theorem dX0_weighRule_7 : decode cX0_weighRule 7 = .ok (.invokestatic 70, 3) := by decide +kernel
theorem dX0_weighRule_10 : decode cX0_weighRule 10 = .ok (.istore 5, 2) := by decide +kernel
theorem dX0_weighRule_12 : decode cX0_weighRule 12 = .ok (.aload_n 2, 1) := by decide +kernel
theorem dX0_weighRule_13 : decode cX0_weighRule 13 = .ok (.getfield 60, 3) := by decide +kernel
theorem dX0_weighRule_16 : decode cX0_weighRule 16 = .ok (.iload 4, 2) := by decide +kernel
theorem dX0_weighRule_18 : decode cX0_weighRule 18 = .ok (.iaload, 1) := by decide +kernel
theorem dX0_weighRule_19 : decode cX0_weighRule 19 = .ok (.aload_n 1, 1) := by decide +kernel
theorem dX0_weighRule_20 : decode cX0_weighRule 20 = .ok (.getfield 31, 3) := by decide +kernel
theorem dX0_weighRule_23 : decode cX0_weighRule 23 = .ok (.iload_n 3, 1) := by decide +kernel
theorem dX0_weighRule_24 : decode cX0_weighRule 24 = .ok (.iaload, 1) := by decide +kernel
theorem dX0_weighRule_25 : decode cX0_weighRule 25 = .ok (.if_icmp .ne 7, 3) := by decide +kernel
theorem dX0_weighRule_28 : decode cX0_weighRule 28 = .ok (.iconst 0, 1) := by decide +kernel
theorem dX0_weighRule_29 : decode cX0_weighRule 29 = .ok (.goto 4, 3) := by decide +kernel
theorem dX0_weighRule_32 : decode cX0_weighRule 32 = .ok (.iconst 1, 1) := by decide +kernel
theorem dX0_weighRule_33 : decode cX0_weighRule 33 = .ok (.istore 6, 2) := by decide +kernel
theorem dX0_weighRule_35 : decode cX0_weighRule 35 = .ok (.aload_n 2, 1) := by decide +kernel
theorem dX0_weighRule_36 : decode cX0_weighRule 36 = .ok (.getfield 60, 3) := by decide +kernel
theorem dX0_weighRule_39 : decode cX0_weighRule 39 = .ok (.iload 4, 2) := by decide +kernel
theorem dX0_weighRule_41 : decode cX0_weighRule 41 = .ok (.iaload, 1) := by decide +kernel
theorem dX0_weighRule_42 : decode cX0_weighRule 42 = .ok (.iload 5, 2) := by decide +kernel
theorem dX0_weighRule_44 : decode cX0_weighRule 44 = .ok (.invokestatic 87, 3) := by decide +kernel
theorem dX0_weighRule_47 : decode cX0_weighRule 47 = .ok (.isub, 1) := by decide +kernel
theorem dX0_weighRule_48 : decode cX0_weighRule 48 = .ok (.iload_n 3, 1) := by decide +kernel
theorem dX0_weighRule_49 : decode cX0_weighRule 49 = .ok (.invokestatic 90, 3) := by decide +kernel
theorem dX0_weighRule_52 : decode cX0_weighRule 52 = .ok (.lstore 7, 2) := by decide +kernel
theorem dX0_weighRule_54 : decode cX0_weighRule 54 = .ok (.iload 5, 2) := by decide +kernel
theorem dX0_weighRule_56 : decode cX0_weighRule 56 = .ok (.ifCond .le 63, 3) := by decide +kernel
theorem dX0_weighRule_59 : decode cX0_weighRule 59 = .ok (.aload_n 1, 1) := by decide +kernel
theorem dX0_weighRule_60 : decode cX0_weighRule 60 = .ok (.iload_n 3, 1) := by decide +kernel
theorem dX0_weighRule_61 : decode cX0_weighRule 61 = .ok (.iconst 1, 1) := by decide +kernel
theorem dX0_weighRule_62 : decode cX0_weighRule 62 = .ok (.iadd, 1) := by decide +kernel
theorem dX0_weighRule_63 : decode cX0_weighRule 63 = .ok (.aload_n 2, 1) := by decide +kernel
theorem dX0_weighRule_64 : decode cX0_weighRule 64 = .ok (.getfield 73, 3) := by decide +kernel
theorem dX0_weighRule_67 : decode cX0_weighRule 67 = .ok (.iload 4, 2) := by decide +kernel
theorem dX0_weighRule_69 : decode cX0_weighRule 69 = .ok (.iaload, 1) := by decide +kernel
theorem dX0_weighRule_70 : decode cX0_weighRule 70 = .ok (.invokestatic 76, 3) := by decide +kernel
theorem dX0_weighRule_73 : decode cX0_weighRule 73 = .ok (.istore 9, 2) := by decide +kernel
theorem dX0_weighRule_75 : decode cX0_weighRule 75 = .ok (.iload 6, 2) := by decide +kernel
theorem dX0_weighRule_77 : decode cX0_weighRule 77 = .ok (.iload 9, 2) := by decide +kernel
theorem dX0_weighRule_79 : decode cX0_weighRule 79 = .ok (.ifCond .ge 9, 3) := by decide +kernel
theorem dX0_weighRule_82 : decode cX0_weighRule 82 = .ok (.sipush 1000, 3) := by decide +kernel
theorem dX0_weighRule_85 : decode cX0_weighRule 85 = .ok (.goto 10, 3) := by decide +kernel
theorem dX0_weighRule_88 : decode cX0_weighRule 88 = .ok (.aload_n 0, 1) := by decide +kernel
theorem dX0_weighRule_89 : decode cX0_weighRule 89 = .ok (.getfield 19, 3) := by decide +kernel
theorem dX0_weighRule_92 : decode cX0_weighRule 92 = .ok (.iload 9, 2) := by decide +kernel
theorem dX0_weighRule_94 : decode cX0_weighRule 94 = .ok (.iaload, 1) := by decide +kernel
theorem dX0_weighRule_95 : decode cX0_weighRule 95 = .ok (.iadd, 1) := by decide +kernel
theorem dX0_weighRule_96 : decode cX0_weighRule 96 = .ok (.istore 6, 2) := by decide +kernel
theorem dX0_weighRule_98 : decode cX0_weighRule 98 = .ok (.lload 7, 2) := by decide +kernel
theorem dX0_weighRule_100 : decode cX0_weighRule 100 = .ok (.iload 9, 2) := by decide +kernel
theorem dX0_weighRule_102 : decode cX0_weighRule 102 = .ok (.ifCond .ge 7, 3) := by decide +kernel
theorem dX0_weighRule_105 : decode cX0_weighRule 105 = .ok (.lconst 0, 1) := by decide +kernel
theorem dX0_weighRule_106 : decode cX0_weighRule 106 = .ok (.goto 10, 3) := by decide +kernel
theorem dX0_weighRule_109 : decode cX0_weighRule 109 = .ok (.aload_n 0, 1) := by decide +kernel
theorem dX0_weighRule_110 : decode cX0_weighRule 110 = .ok (.getfield 22, 3) := by decide +kernel
theorem dX0_weighRule_113 : decode cX0_weighRule 113 = .ok (.iload 9, 2) := by decide +kernel
theorem dX0_weighRule_115 : decode cX0_weighRule 115 = .ok (.laload, 1) := by decide +kernel
theorem dX0_weighRule_116 : decode cX0_weighRule 116 = .ok (.lor, 1) := by decide +kernel
theorem dX0_weighRule_117 : decode cX0_weighRule 117 = .ok (.lstore 7, 2) := by decide +kernel
theorem dX0_weighRule_119 : decode cX0_weighRule 119 = .ok (.iload 5, 2) := by decide +kernel
theorem dX0_weighRule_121 : decode cX0_weighRule 121 = .ok (.iconst 1, 1) := by decide +kernel
theorem dX0_weighRule_122 : decode cX0_weighRule 122 = .ok (.if_icmp .le 65, 3) := by decide +kernel
theorem dX0_weighRule_125 : decode cX0_weighRule 125 = .ok (.aload_n 1, 1) := by decide +kernel
theorem dX0_weighRule_126 : decode cX0_weighRule 126 = .ok (.aload_n 1, 1) := by decide +kernel
theorem dX0_weighRule_127 : decode cX0_weighRule 127 = .ok (.iload_n 3, 1) := by decide +kernel
theorem dX0_weighRule_128 : decode cX0_weighRule 128 = .ok (.invokevirtual 38, 3) := by decide +kernel
theorem dX0_weighRule_131 : decode cX0_weighRule 131 = .ok (.aload_n 2, 1) := by decide +kernel
theorem dX0_weighRule_132 : decode cX0_weighRule 132 = .ok (.getfield 80, 3) := by decide +kernel
theorem dX0_weighRule_135 : decode cX0_weighRule 135 = .ok (.iload 4, 2) := by decide +kernel
theorem dX0_weighRule_137 : decode cX0_weighRule 137 = .ok (.iaload, 1) := by decide +kernel
theorem dX0_weighRule_138 : decode cX0_weighRule 138 = .ok (.invokestatic 76, 3) := by decide +kernel
theorem dX0_weighRule_141 : decode cX0_weighRule 141 = .ok (.istore 9, 2) := by decide +kernel
theorem dX0_weighRule_143 : decode cX0_weighRule 143 = .ok (.iload 6, 2) := by decide +kernel
theorem dX0_weighRule_145 : decode cX0_weighRule 145 = .ok (.iload 9, 2) := by decide +kernel
theorem dX0_weighRule_147 : decode cX0_weighRule 147 = .ok (.ifCond .ge 9, 3) := by decide +kernel
theorem dX0_weighRule_150 : decode cX0_weighRule 150 = .ok (.sipush 1000, 3) := by decide +kernel
theorem dX0_weighRule_153 : decode cX0_weighRule 153 = .ok (.goto 10, 3) := by decide +kernel
theorem dX0_weighRule_156 : decode cX0_weighRule 156 = .ok (.aload_n 0, 1) := by decide +kernel
theorem dX0_weighRule_157 : decode cX0_weighRule 157 = .ok (.getfield 19, 3) := by decide +kernel
theorem dX0_weighRule_160 : decode cX0_weighRule 160 = .ok (.iload 9, 2) := by decide +kernel
theorem dX0_weighRule_162 : decode cX0_weighRule 162 = .ok (.iaload, 1) := by decide +kernel
theorem dX0_weighRule_163 : decode cX0_weighRule 163 = .ok (.iadd, 1) := by decide +kernel
theorem dX0_weighRule_164 : decode cX0_weighRule 164 = .ok (.istore 6, 2) := by decide +kernel
theorem dX0_weighRule_166 : decode cX0_weighRule 166 = .ok (.lload 7, 2) := by decide +kernel
theorem dX0_weighRule_168 : decode cX0_weighRule 168 = .ok (.iload 9, 2) := by decide +kernel
theorem dX0_weighRule_170 : decode cX0_weighRule 170 = .ok (.ifCond .ge 7, 3) := by decide +kernel
theorem dX0_weighRule_173 : decode cX0_weighRule 173 = .ok (.lconst 0, 1) := by decide +kernel
theorem dX0_weighRule_174 : decode cX0_weighRule 174 = .ok (.goto 10, 3) := by decide +kernel
theorem dX0_weighRule_177 : decode cX0_weighRule 177 = .ok (.aload_n 0, 1) := by decide +kernel
theorem dX0_weighRule_178 : decode cX0_weighRule 178 = .ok (.getfield 22, 3) := by decide +kernel
theorem dX0_weighRule_181 : decode cX0_weighRule 181 = .ok (.iload 9, 2) := by decide +kernel
theorem dX0_weighRule_183 : decode cX0_weighRule 183 = .ok (.laload, 1) := by decide +kernel
theorem dX0_weighRule_184 : decode cX0_weighRule 184 = .ok (.lor, 1) := by decide +kernel
theorem dX0_weighRule_185 : decode cX0_weighRule 185 = .ok (.lstore 7, 2) := by decide +kernel
theorem dX0_weighRule_187 : decode cX0_weighRule 187 = .ok (.iload_n 3, 1) := by decide +kernel
theorem dX0_weighRule_188 : decode cX0_weighRule 188 = .ok (.bipush 6, 2) := by decide +kernel
theorem dX0_weighRule_190 : decode cX0_weighRule 190 = .ok (.imul, 1) := by decide +kernel
theorem dX0_weighRule_191 : decode cX0_weighRule 191 = .ok (.aload_n 2, 1) := by decide +kernel
theorem dX0_weighRule_192 : decode cX0_weighRule 192 = .ok (.getfield 61, 3) := by decide +kernel
theorem dX0_weighRule_195 : decode cX0_weighRule 195 = .ok (.iload 4, 2) := by decide +kernel
theorem dX0_weighRule_197 : decode cX0_weighRule 197 = .ok (.iaload, 1) := by decide +kernel
theorem dX0_weighRule_198 : decode cX0_weighRule 198 = .ok (.iadd, 1) := by decide +kernel
theorem dX0_weighRule_199 : decode cX0_weighRule 199 = .ok (.istore 9, 2) := by decide +kernel
theorem dX0_weighRule_201 : decode cX0_weighRule 201 = .ok (.iload 6, 2) := by decide +kernel
theorem dX0_weighRule_203 : decode cX0_weighRule 203 = .ok (.aload_n 0, 1) := by decide +kernel
theorem dX0_weighRule_204 : decode cX0_weighRule 204 = .ok (.getfield 19, 3) := by decide +kernel
theorem dX0_weighRule_207 : decode cX0_weighRule 207 = .ok (.iload 9, 2) := by decide +kernel
theorem dX0_weighRule_209 : decode cX0_weighRule 209 = .ok (.iaload, 1) := by decide +kernel
theorem dX0_weighRule_210 : decode cX0_weighRule 210 = .ok (.if_icmp .lt 36, 3) := by decide +kernel
theorem dX0_weighRule_213 : decode cX0_weighRule 213 = .ok (.iload 6, 2) := by decide +kernel
theorem dX0_weighRule_215 : decode cX0_weighRule 215 = .ok (.sipush 1000, 3) := by decide +kernel
theorem dX0_weighRule_218 : decode cX0_weighRule 218 = .ok (.if_icmp .ge 46, 3) := by decide +kernel
theorem dX0_weighRule_221 : decode cX0_weighRule 221 = .ok (.iload 6, 2) := by decide +kernel
theorem dX0_weighRule_223 : decode cX0_weighRule 223 = .ok (.aload_n 0, 1) := by decide +kernel
theorem dX0_weighRule_224 : decode cX0_weighRule 224 = .ok (.getfield 19, 3) := by decide +kernel
theorem dX0_weighRule_227 : decode cX0_weighRule 227 = .ok (.iload 9, 2) := by decide +kernel
theorem dX0_weighRule_229 : decode cX0_weighRule 229 = .ok (.iaload, 1) := by decide +kernel
theorem dX0_weighRule_230 : decode cX0_weighRule 230 = .ok (.if_icmp .ne 34, 3) := by decide +kernel
theorem dX0_weighRule_233 : decode cX0_weighRule 233 = .ok (.lload 7, 2) := by decide +kernel
theorem dX0_weighRule_235 : decode cX0_weighRule 235 = .ok (.aload_n 0, 1) := by decide +kernel
theorem dX0_weighRule_236 : decode cX0_weighRule 236 = .ok (.getfield 22, 3) := by decide +kernel
theorem dX0_weighRule_239 : decode cX0_weighRule 239 = .ok (.iload 9, 2) := by decide +kernel
theorem dX0_weighRule_241 : decode cX0_weighRule 241 = .ok (.laload, 1) := by decide +kernel
theorem dX0_weighRule_242 : decode cX0_weighRule 242 = .ok (.lcmp, 1) := by decide +kernel
theorem dX0_weighRule_243 : decode cX0_weighRule 243 = .ok (.ifCond .ge 21, 3) := by decide +kernel
theorem dX0_weighRule_246 : decode cX0_weighRule 246 = .ok (.aload_n 0, 1) := by decide +kernel
theorem dX0_weighRule_247 : decode cX0_weighRule 247 = .ok (.getfield 19, 3) := by decide +kernel
theorem dX0_weighRule_250 : decode cX0_weighRule 250 = .ok (.iload 9, 2) := by decide +kernel
theorem dX0_weighRule_252 : decode cX0_weighRule 252 = .ok (.iload 6, 2) := by decide +kernel
theorem dX0_weighRule_254 : decode cX0_weighRule 254 = .ok (.iastore, 1) := by decide +kernel
theorem dX0_weighRule_255 : decode cX0_weighRule 255 = .ok (.aload_n 0, 1) := by decide +kernel
theorem dX0_weighRule_256 : decode cX0_weighRule 256 = .ok (.getfield 22, 3) := by decide +kernel
theorem dX0_weighRule_259 : decode cX0_weighRule 259 = .ok (.iload 9, 2) := by decide +kernel
theorem dX0_weighRule_261 : decode cX0_weighRule 261 = .ok (.lload 7, 2) := by decide +kernel
theorem dX0_weighRule_263 : decode cX0_weighRule 263 = .ok (.lastore, 1) := by decide +kernel
theorem dX0_weighRule_264 : decode cX0_weighRule 264 = .ok (.return_, 1) := by decide +kernel
theorem dX0_cheapestOf_0 : decode cX0_cheapestOf 0 = .ok (.bipush (-9), 2) := by decide +kernel
theorem dX0_cheapestOf_2 : decode cX0_cheapestOf 2 = .ok (.istore_n 2, 1) := by decide +kernel
theorem dX0_cheapestOf_3 : decode cX0_cheapestOf 3 = .ok (.iconst 0, 1) := by decide +kernel
theorem dX0_cheapestOf_4 : decode cX0_cheapestOf 4 = .ok (.istore_n 3, 1) := by decide +kernel
theorem dX0_cheapestOf_5 : decode cX0_cheapestOf 5 = .ok (.iload_n 3, 1) := by decide +kernel
theorem dX0_cheapestOf_6 : decode cX0_cheapestOf 6 = .ok (.bipush 6, 2) := by decide +kernel
theorem dX0_cheapestOf_8 : decode cX0_cheapestOf 8 = .ok (.if_icmp .ge 45, 3) := by decide +kernel
theorem dX0_cheapestOf_11 : decode cX0_cheapestOf 11 = .ok (.iload_n 1, 1) := by decide +kernel
theorem dX0_cheapestOf_12 : decode cX0_cheapestOf 12 = .ok (.iload_n 3, 1) := by decide +kernel
theorem dX0_cheapestOf_13 : decode cX0_cheapestOf 13 = .ok (.invokestatic 56, 3) := by decide +kernel
theorem dX0_cheapestOf_16 : decode cX0_cheapestOf 16 = .ok (.iconst 1, 1) := by decide +kernel
theorem dX0_cheapestOf_17 : decode cX0_cheapestOf 17 = .ok (.if_icmp .ne 30, 3) := by decide +kernel
theorem dX0_cheapestOf_20 : decode cX0_cheapestOf 20 = .ok (.aload_n 0, 1) := by decide +kernel
theorem dX0_cheapestOf_21 : decode cX0_cheapestOf 21 = .ok (.getfield 19, 3) := by decide +kernel
theorem dX0_cheapestOf_24 : decode cX0_cheapestOf 24 = .ok (.iload_n 3, 1) := by decide +kernel
theorem dX0_cheapestOf_25 : decode cX0_cheapestOf 25 = .ok (.iaload, 1) := by decide +kernel
theorem dX0_cheapestOf_26 : decode cX0_cheapestOf 26 = .ok (.sipush 1000, 3) := by decide +kernel
theorem dX0_cheapestOf_29 : decode cX0_cheapestOf 29 = .ok (.if_icmp .ge 18, 3) := by decide +kernel
theorem dX0_cheapestOf_32 : decode cX0_cheapestOf 32 = .ok (.iload_n 2, 1) := by decide +kernel
theorem dX0_cheapestOf_33 : decode cX0_cheapestOf 33 = .ok (.ifCond .lt 12, 3) := by decide +kernel
theorem dX0_cheapestOf_36 : decode cX0_cheapestOf 36 = .ok (.aload_n 0, 1) := by decide +kernel
theorem dX0_cheapestOf_37 : decode cX0_cheapestOf 37 = .ok (.iload_n 3, 1) := by decide +kernel
theorem dX0_cheapestOf_38 : decode cX0_cheapestOf 38 = .ok (.iload_n 2, 1) := by decide +kernel
theorem dX0_cheapestOf_39 : decode cX0_cheapestOf 39 = .ok (.invokevirtual 94, 3) := by decide +kernel
theorem dX0_cheapestOf_42 : decode cX0_cheapestOf 42 = .ok (.ifCond .eq 5, 3) := by decide +kernel
theorem dX0_cheapestOf_45 : decode cX0_cheapestOf 45 = .ok (.iload_n 3, 1) := by decide +kernel
theorem dX0_cheapestOf_46 : decode cX0_cheapestOf 46 = .ok (.istore_n 2, 1) := by decide +kernel
theorem dX0_cheapestOf_47 : decode cX0_cheapestOf 47 = .ok (.iinc 3 1, 3) := by decide +kernel
theorem dX0_cheapestOf_50 : decode cX0_cheapestOf 50 = .ok (.goto (-45), 3) := by decide +kernel
theorem dX0_cheapestOf_53 : decode cX0_cheapestOf 53 = .ok (.iload_n 2, 1) := by decide +kernel
theorem dX0_cheapestOf_54 : decode cX0_cheapestOf 54 = .ok (.ireturn, 1) := by decide +kernel
theorem dX0_isBetter_0 : decode cX0_isBetter 0 = .ok (.aload_n 0, 1) := by decide +kernel
theorem dX0_isBetter_1 : decode cX0_isBetter 1 = .ok (.getfield 19, 3) := by decide +kernel
theorem dX0_isBetter_4 : decode cX0_isBetter 4 = .ok (.iload_n 1, 1) := by decide +kernel
theorem dX0_isBetter_5 : decode cX0_isBetter 5 = .ok (.iaload, 1) := by decide +kernel
theorem dX0_isBetter_6 : decode cX0_isBetter 6 = .ok (.aload_n 0, 1) := by decide +kernel
theorem dX0_isBetter_7 : decode cX0_isBetter 7 = .ok (.getfield 19, 3) := by decide +kernel
theorem dX0_isBetter_10 : decode cX0_isBetter 10 = .ok (.iload_n 2, 1) := by decide +kernel
theorem dX0_isBetter_11 : decode cX0_isBetter 11 = .ok (.iaload, 1) := by decide +kernel
theorem dX0_isBetter_12 : decode cX0_isBetter 12 = .ok (.if_icmp .lt 34, 3) := by decide +kernel
theorem dX0_isBetter_15 : decode cX0_isBetter 15 = .ok (.aload_n 0, 1) := by decide +kernel
theorem dX0_isBetter_16 : decode cX0_isBetter 16 = .ok (.getfield 19, 3) := by decide +kernel
theorem dX0_isBetter_19 : decode cX0_isBetter 19 = .ok (.iload_n 1, 1) := by decide +kernel
theorem dX0_isBetter_20 : decode cX0_isBetter 20 = .ok (.iaload, 1) := by decide +kernel
theorem dX0_isBetter_21 : decode cX0_isBetter 21 = .ok (.aload_n 0, 1) := by decide +kernel
theorem dX0_isBetter_22 : decode cX0_isBetter 22 = .ok (.getfield 19, 3) := by decide +kernel
theorem dX0_isBetter_25 : decode cX0_isBetter 25 = .ok (.iload_n 2, 1) := by decide +kernel
theorem dX0_isBetter_26 : decode cX0_isBetter 26 = .ok (.iaload, 1) := by decide +kernel
theorem dX0_isBetter_27 : decode cX0_isBetter 27 = .ok (.if_icmp .ne 23, 3) := by decide +kernel
theorem dX0_isBetter_30 : decode cX0_isBetter 30 = .ok (.aload_n 0, 1) := by decide +kernel
theorem dX0_isBetter_31 : decode cX0_isBetter 31 = .ok (.getfield 22, 3) := by decide +kernel
theorem dX0_isBetter_34 : decode cX0_isBetter 34 = .ok (.iload_n 1, 1) := by decide +kernel
theorem dX0_isBetter_35 : decode cX0_isBetter 35 = .ok (.laload, 1) := by decide +kernel
theorem dX0_isBetter_36 : decode cX0_isBetter 36 = .ok (.aload_n 0, 1) := by decide +kernel
theorem dX0_isBetter_37 : decode cX0_isBetter 37 = .ok (.getfield 22, 3) := by decide +kernel
theorem dX0_isBetter_40 : decode cX0_isBetter 40 = .ok (.iload_n 2, 1) := by decide +kernel
theorem dX0_isBetter_41 : decode cX0_isBetter 41 = .ok (.laload, 1) := by decide +kernel
theorem dX0_isBetter_42 : decode cX0_isBetter 42 = .ok (.lcmp, 1) := by decide +kernel
theorem dX0_isBetter_43 : decode cX0_isBetter 43 = .ok (.ifCond .ge 7, 3) := by decide +kernel
theorem dX0_isBetter_46 : decode cX0_isBetter 46 = .ok (.iconst 1, 1) := by decide +kernel
theorem dX0_isBetter_47 : decode cX0_isBetter 47 = .ok (.goto 4, 3) := by decide +kernel
theorem dX0_isBetter_50 : decode cX0_isBetter 50 = .ok (.iconst 0, 1) := by decide +kernel
theorem dX0_isBetter_51 : decode cX0_isBetter 51 = .ok (.ireturn, 1) := by decide +kernel
theorem dX0_codeOfStep_0 : decode cX0_codeOfStep 0 = .ok (.iload_n 0, 1) := by decide +kernel
theorem dX0_codeOfStep_1 : decode cX0_codeOfStep 1 = .ok (.i2l, 1) := by decide +kernel
theorem dX0_codeOfStep_2 : decode cX0_codeOfStep 2 = .ok (.iconst 2, 1) := by decide +kernel
theorem dX0_codeOfStep_3 : decode cX0_codeOfStep 3 = .ok (.bipush 30, 2) := by decide +kernel
theorem dX0_codeOfStep_5 : decode cX0_codeOfStep 5 = .ok (.iload_n 1, 1) := by decide +kernel
theorem dX0_codeOfStep_6 : decode cX0_codeOfStep 6 = .ok (.isub, 1) := by decide +kernel
theorem dX0_codeOfStep_7 : decode cX0_codeOfStep 7 = .ok (.imul, 1) := by decide +kernel
theorem dX0_codeOfStep_8 : decode cX0_codeOfStep 8 = .ok (.lshl, 1) := by decide +kernel
theorem dX0_codeOfStep_9 : decode cX0_codeOfStep 9 = .ok (.lreturn, 1) := by decide +kernel
theorem dX0_stepInCode_0 : decode cX0_stepInCode 0 = .ok (.lload_n 0, 1) := by decide +kernel
theorem dX0_stepInCode_1 : decode cX0_stepInCode 1 = .ok (.iconst 2, 1) := by decide +kernel
theorem dX0_stepInCode_2 : decode cX0_stepInCode 2 = .ok (.bipush 30, 2) := by decide +kernel
theorem dX0_stepInCode_4 : decode cX0_stepInCode 4 = .ok (.iload_n 2, 1) := by decide +kernel
theorem dX0_stepInCode_5 : decode cX0_stepInCode 5 = .ok (.isub, 1) := by decide +kernel
theorem dX0_stepInCode_6 : decode cX0_stepInCode 6 = .ok (.imul, 1) := by decide +kernel
theorem dX0_stepInCode_7 : decode cX0_stepInCode 7 = .ok (.lshr, 1) := by decide +kernel
theorem dX0_stepInCode_8 : decode cX0_stepInCode 8 = .ok (.l2i, 1) := by decide +kernel
theorem dX0_stepInCode_9 : decode cX0_stepInCode 9 = .ok (.iconst 3, 1) := by decide +kernel
theorem dX0_stepInCode_10 : decode cX0_stepInCode 10 = .ok (.iand, 1) := by decide +kernel
theorem dX0_stepInCode_11 : decode cX0_stepInCode 11 = .ok (.ireturn, 1) := by decide +kernel
theorem dX1_init_0 : decode cX1_init 0 = .ok (.aload_n 0, 1) := by decide +kernel
theorem dX1_init_1 : decode cX1_init 1 = .ok (.invokespecial 1, 3) := by decide +kernel
theorem dX1_init_4 : decode cX1_init 4 = .ok (.aload_n 0, 1) := by decide +kernel
theorem dX1_init_5 : decode cX1_init 5 = .ok (.new 7, 3) := by decide +kernel
theorem dX1_init_8 : decode cX1_init 8 = .ok (.dup, 1) := by decide +kernel
theorem dX1_init_9 : decode cX1_init 9 = .ok (.invokespecial 9, 3) := by decide +kernel
theorem dX1_init_12 : decode cX1_init 12 = .ok (.putfield 10, 3) := by decide +kernel
theorem dX1_init_15 : decode cX1_init 15 = .ok (.return_, 1) := by decide +kernel
theorem dX2_init_0 : decode cX2_init 0 = .ok (.aload_n 0, 1) := by decide +kernel
theorem dX2_init_1 : decode cX2_init 1 = .ok (.invokespecial 1, 3) := by decide +kernel
theorem dX2_init_4 : decode cX2_init 4 = .ok (.aload_n 0, 1) := by decide +kernel
theorem dX2_init_5 : decode cX2_init 5 = .ok (.sipush 128, 3) := by decide +kernel
theorem dX2_init_8 : decode cX2_init 8 = .ok (.newarray .int, 2) := by decide +kernel
theorem dX2_init_10 : decode cX2_init 10 = .ok (.putfield 9, 3) := by decide +kernel
theorem dX2_init_13 : decode cX2_init 13 = .ok (.aload_n 0, 1) := by decide +kernel
theorem dX2_init_14 : decode cX2_init 14 = .ok (.sipush 128, 3) := by decide +kernel
theorem dX2_init_17 : decode cX2_init 17 = .ok (.newarray .int, 2) := by decide +kernel
theorem dX2_init_19 : decode cX2_init 19 = .ok (.putfield 15, 3) := by decide +kernel
theorem dX2_init_22 : decode cX2_init 22 = .ok (.aload_n 0, 1) := by decide +kernel
theorem dX2_init_23 : decode cX2_init 23 = .ok (.sipush 128, 3) := by decide +kernel
theorem dX2_init_26 : decode cX2_init 26 = .ok (.newarray .int, 2) := by decide +kernel
theorem dX2_init_28 : decode cX2_init 28 = .ok (.putfield 18, 3) := by decide +kernel
theorem dX2_init_31 : decode cX2_init 31 = .ok (.return_, 1) := by decide +kernel
theorem dX2_countKinds_0 : decode cX2_countKinds 0 = .ok (.iconst 0, 1) := by decide +kernel
theorem dX2_countKinds_1 : decode cX2_countKinds 1 = .ok (.istore_n 3, 1) := by decide +kernel
theorem dX2_countKinds_2 : decode cX2_countKinds 2 = .ok (.iload_n 3, 1) := by decide +kernel
theorem dX2_countKinds_3 : decode cX2_countKinds 3 = .ok (.aload_n 1, 1) := by decide +kernel
theorem dX2_countKinds_4 : decode cX2_countKinds 4 = .ok (.getfield 21, 3) := by decide +kernel
theorem dX2_countKinds_7 : decode cX2_countKinds 7 = .ok (.if_icmp .ge 29, 3) := by decide +kernel
theorem dX2_countKinds_10 : decode cX2_countKinds 10 = .ok (.aload_n 0, 1) := by decide +kernel
theorem dX2_countKinds_11 : decode cX2_countKinds 11 = .ok (.getfield 9, 3) := by decide +kernel
theorem dX2_countKinds_14 : decode cX2_countKinds 14 = .ok (.iload_n 3, 1) := by decide +kernel
theorem dX2_countKinds_15 : decode cX2_countKinds 15 = .ok (.aload_n 1, 1) := by decide +kernel
theorem dX2_countKinds_16 : decode cX2_countKinds 16 = .ok (.iload_n 3, 1) := by decide +kernel
theorem dX2_countKinds_17 : decode cX2_countKinds 17 = .ok (.iload_n 2, 1) := by decide +kernel
theorem dX2_countKinds_18 : decode cX2_countKinds 18 = .ok (.invokevirtual 25, 3) := by decide +kernel
theorem dX2_countKinds_21 : decode cX2_countKinds 21 = .ok (.ifCond .eq 7, 3) := by decide +kernel
theorem dX2_countKinds_24 : decode cX2_countKinds 24 = .ok (.iconst 1, 1) := by decide +kernel
theorem dX2_countKinds_25 : decode cX2_countKinds 25 = .ok (.goto 4, 3) := by decide +kernel
theorem dX2_countKinds_28 : decode cX2_countKinds 28 = .ok (.iconst 0, 1) := by decide +kernel
theorem dX2_countKinds_29 : decode cX2_countKinds 29 = .ok (.iastore, 1) := by decide +kernel
theorem dX2_countKinds_30 : decode cX2_countKinds 30 = .ok (.iinc 3 1, 3) := by decide +kernel
theorem dX2_countKinds_33 : decode cX2_countKinds 33 = .ok (.goto (-31), 3) := by decide +kernel
theorem dX2_countKinds_36 : decode cX2_countKinds 36 = .ok (.iconst 0, 1) := by decide +kernel
theorem dX2_countKinds_37 : decode cX2_countKinds 37 = .ok (.istore_n 3, 1) := by decide +kernel
theorem dX2_countKinds_38 : decode cX2_countKinds 38 = .ok (.iconst 0, 1) := by decide +kernel
theorem dX2_countKinds_39 : decode cX2_countKinds 39 = .ok (.istore 4, 2) := by decide +kernel
theorem dX2_countKinds_41 : decode cX2_countKinds 41 = .ok (.iload 4, 2) := by decide +kernel
theorem dX2_countKinds_43 : decode cX2_countKinds 43 = .ok (.bipush 120, 2) := by decide +kernel
theorem dX2_countKinds_45 : decode cX2_countKinds 45 = .ok (.if_icmp .ge 28, 3) := by decide +kernel
theorem dX2_countKinds_48 : decode cX2_countKinds 48 = .ok (.aload_n 0, 1) := by decide +kernel
theorem dX2_countKinds_49 : decode cX2_countKinds 49 = .ok (.aload_n 1, 1) := by decide +kernel
theorem dX2_countKinds_50 : decode cX2_countKinds 50 = .ok (.invokevirtual 29, 3) := by decide +kernel
theorem dX2_countKinds_53 : decode cX2_countKinds 53 = .ok (.istore 5, 2) := by decide +kernel
theorem dX2_countKinds_55 : decode cX2_countKinds 55 = .ok (.iload 5, 2) := by decide +kernel
theorem dX2_countKinds_57 : decode cX2_countKinds 57 = .ok (.iload_n 3, 1) := by decide +kernel
theorem dX2_countKinds_58 : decode cX2_countKinds 58 = .ok (.if_icmp .ne 6, 3) := by decide +kernel
theorem dX2_countKinds_61 : decode cX2_countKinds 61 = .ok (.iload 5, 2) := by decide +kernel
theorem dX2_countKinds_63 : decode cX2_countKinds 63 = .ok (.ireturn, 1) := by decide +kernel
theorem dX2_countKinds_64 : decode cX2_countKinds 64 = .ok (.iload 5, 2) := by decide +kernel
theorem dX2_countKinds_66 : decode cX2_countKinds 66 = .ok (.istore_n 3, 1) := by decide +kernel
theorem dX2_countKinds_67 : decode cX2_countKinds 67 = .ok (.iinc 4 1, 3) := by decide +kernel
theorem dX2_countKinds_70 : decode cX2_countKinds 70 = .ok (.goto (-29), 3) := by decide +kernel
theorem dX2_countKinds_73 : decode cX2_countKinds 73 = .ok (.iload_n 3, 1) := by decide +kernel
theorem dX2_countKinds_74 : decode cX2_countKinds 74 = .ok (.ireturn, 1) := by decide +kernel
theorem dX2_splitByMoves_0 : decode cX2_splitByMoves 0 = .ok (.iconst 0, 1) := by decide +kernel
theorem dX2_splitByMoves_1 : decode cX2_splitByMoves 1 = .ok (.istore_n 2, 1) := by decide +kernel
theorem dX2_splitByMoves_2 : decode cX2_splitByMoves 2 = .ok (.iconst 0, 1) := by decide +kernel
theorem dX2_splitByMoves_3 : decode cX2_splitByMoves 3 = .ok (.istore_n 3, 1) := by decide +kernel
theorem dX2_splitByMoves_4 : decode cX2_splitByMoves 4 = .ok (.iload_n 3, 1) := by decide +kernel
theorem dX2_splitByMoves_5 : decode cX2_splitByMoves 5 = .ok (.aload_n 1, 1) := by decide +kernel
theorem dX2_splitByMoves_6 : decode cX2_splitByMoves 6 = .ok (.getfield 21, 3) := by decide +kernel
theorem dX2_splitByMoves_9 : decode cX2_splitByMoves 9 = .ok (.if_icmp .ge 64, 3) := by decide +kernel
theorem dX2_splitByMoves_12 : decode cX2_splitByMoves 12 = .ok (.iconst 0, 1) := by decide +kernel
theorem dX2_splitByMoves_13 : decode cX2_splitByMoves 13 = .ok (.istore 4, 2) := by decide +kernel
theorem dX2_splitByMoves_15 : decode cX2_splitByMoves 15 = .ok (.iload 4, 2) := by decide +kernel
theorem dX2_splitByMoves_17 : decode cX2_splitByMoves 17 = .ok (.iload_n 2, 1) := by decide +kernel
theorem dX2_splitByMoves_18 : decode cX2_splitByMoves 18 = .ok (.if_icmp .ge 25, 3) := by decide +kernel
theorem dX2_splitByMoves_21 : decode cX2_splitByMoves 21 = .ok (.aload_n 0, 1) := by decide +kernel
theorem dX2_splitByMoves_22 : decode cX2_splitByMoves 22 = .ok (.aload_n 1, 1) := by decide +kernel
theorem dX2_splitByMoves_23 : decode cX2_splitByMoves 23 = .ok (.aload_n 0, 1) := by decide +kernel
theorem dX2_splitByMoves_24 : decode cX2_splitByMoves 24 = .ok (.getfield 18, 3) := by decide +kernel
theorem dX2_splitByMoves_27 : decode cX2_splitByMoves 27 = .ok (.iload 4, 2) := by decide +kernel
theorem dX2_splitByMoves_29 : decode cX2_splitByMoves 29 = .ok (.iaload, 1) := by decide +kernel
theorem dX2_splitByMoves_30 : decode cX2_splitByMoves 30 = .ok (.iload_n 3, 1) := by decide +kernel
theorem dX2_splitByMoves_31 : decode cX2_splitByMoves 31 = .ok (.invokevirtual 33, 3) := by decide +kernel
theorem dX2_splitByMoves_34 : decode cX2_splitByMoves 34 = .ok (.ifCond .ne 9, 3) := by decide +kernel
theorem dX2_splitByMoves_37 : decode cX2_splitByMoves 37 = .ok (.iinc 4 1, 3) := by decide +kernel
theorem dX2_splitByMoves_40 : decode cX2_splitByMoves 40 = .ok (.goto (-25), 3) := by decide +kernel
theorem dX2_splitByMoves_43 : decode cX2_splitByMoves 43 = .ok (.iload 4, 2) := by decide +kernel
theorem dX2_splitByMoves_45 : decode cX2_splitByMoves 45 = .ok (.iload_n 2, 1) := by decide +kernel
theorem dX2_splitByMoves_46 : decode cX2_splitByMoves 46 = .ok (.if_icmp .ne 13, 3) := by decide +kernel
theorem dX2_splitByMoves_49 : decode cX2_splitByMoves 49 = .ok (.aload_n 0, 1) := by decide +kernel
theorem dX2_splitByMoves_50 : decode cX2_splitByMoves 50 = .ok (.getfield 18, 3) := by decide +kernel
theorem dX2_splitByMoves_53 : decode cX2_splitByMoves 53 = .ok (.iload_n 2, 1) := by decide +kernel
theorem dX2_splitByMoves_54 : decode cX2_splitByMoves 54 = .ok (.iload_n 3, 1) := by decide +kernel
theorem dX2_splitByMoves_55 : decode cX2_splitByMoves 55 = .ok (.iastore, 1) := by decide +kernel
theorem dX2_splitByMoves_56 : decode cX2_splitByMoves 56 = .ok (.iinc 2 1, 3) := by decide +kernel
theorem dX2_splitByMoves_59 : decode cX2_splitByMoves 59 = .ok (.aload_n 0, 1) := by decide +kernel
theorem dX2_splitByMoves_60 : decode cX2_splitByMoves 60 = .ok (.getfield 15, 3) := by decide +kernel
theorem dX2_splitByMoves_63 : decode cX2_splitByMoves 63 = .ok (.iload_n 3, 1) := by decide +kernel
theorem dX2_splitByMoves_64 : decode cX2_splitByMoves 64 = .ok (.iload 4, 2) := by decide +kernel
theorem dX2_splitByMoves_66 : decode cX2_splitByMoves 66 = .ok (.iastore, 1) := by decide +kernel
theorem dX2_splitByMoves_67 : decode cX2_splitByMoves 67 = .ok (.iinc 3 1, 3) := by decide +kernel
theorem dX2_splitByMoves_70 : decode cX2_splitByMoves 70 = .ok (.goto (-66), 3) := by decide +kernel
theorem dX2_splitByMoves_73 : decode cX2_splitByMoves 73 = .ok (.iconst 0, 1) := by decide +kernel
theorem dX2_splitByMoves_74 : decode cX2_splitByMoves 74 = .ok (.istore_n 3, 1) := by decide +kernel
theorem dX2_splitByMoves_75 : decode cX2_splitByMoves 75 = .ok (.iload_n 3, 1) := by decide +kernel
theorem dX2_splitByMoves_76 : decode cX2_splitByMoves 76 = .ok (.aload_n 1, 1) := by decide +kernel
theorem dX2_splitByMoves_77 : decode cX2_splitByMoves 77 = .ok (.getfield 21, 3) := by decide +kernel
theorem dX2_splitByMoves_80 : decode cX2_splitByMoves 80 = .ok (.if_icmp .ge 21, 3) := by decide +kernel
theorem dX2_splitByMoves_83 : decode cX2_splitByMoves 83 = .ok (.aload_n 0, 1) := by decide +kernel
theorem dX2_splitByMoves_84 : decode cX2_splitByMoves 84 = .ok (.getfield 9, 3) := by decide +kernel
theorem dX2_splitByMoves_87 : decode cX2_splitByMoves 87 = .ok (.iload_n 3, 1) := by decide +kernel
theorem dX2_splitByMoves_88 : decode cX2_splitByMoves 88 = .ok (.aload_n 0, 1) := by decide +kernel
theorem dX2_splitByMoves_89 : decode cX2_splitByMoves 89 = .ok (.getfield 15, 3) := by decide +kernel
theorem dX2_splitByMoves_92 : decode cX2_splitByMoves 92 = .ok (.iload_n 3, 1) := by decide +kernel
theorem dX2_splitByMoves_93 : decode cX2_splitByMoves 93 = .ok (.iaload, 1) := by decide +kernel
theorem dX2_splitByMoves_94 : decode cX2_splitByMoves 94 = .ok (.iastore, 1) := by decide +kernel
theorem dX2_splitByMoves_95 : decode cX2_splitByMoves 95 = .ok (.iinc 3 1, 3) := by decide +kernel
theorem dX2_splitByMoves_98 : decode cX2_splitByMoves 98 = .ok (.goto (-23), 3) := by decide +kernel
theorem dX2_splitByMoves_101 : decode cX2_splitByMoves 101 = .ok (.iload_n 2, 1) := by decide +kernel
theorem dX2_splitByMoves_102 : decode cX2_splitByMoves 102 = .ok (.ireturn, 1) := by decide +kernel
theorem dX2_isLike_0 : decode cX2_isLike 0 = .ok (.aload_n 0, 1) := by decide +kernel
theorem dX2_isLike_1 : decode cX2_isLike 1 = .ok (.getfield 9, 3) := by decide +kernel
theorem dX2_isLike_4 : decode cX2_isLike 4 = .ok (.iload_n 2, 1) := by decide +kernel
theorem dX2_isLike_5 : decode cX2_isLike 5 = .ok (.iaload, 1) := by decide +kernel
theorem dX2_isLike_6 : decode cX2_isLike 6 = .ok (.aload_n 0, 1) := by decide +kernel
theorem dX2_isLike_7 : decode cX2_isLike 7 = .ok (.getfield 9, 3) := by decide +kernel
theorem dX2_isLike_10 : decode cX2_isLike 10 = .ok (.iload_n 3, 1) := by decide +kernel
theorem dX2_isLike_11 : decode cX2_isLike 11 = .ok (.iaload, 1) := by decide +kernel
theorem dX2_isLike_12 : decode cX2_isLike 12 = .ok (.if_icmp .ne 20, 3) := by decide +kernel
theorem dX2_isLike_15 : decode cX2_isLike 15 = .ok (.aload_n 0, 1) := by decide +kernel
theorem dX2_isLike_16 : decode cX2_isLike 16 = .ok (.aload_n 1, 1) := by decide +kernel
theorem dX2_isLike_17 : decode cX2_isLike 17 = .ok (.iload_n 2, 1) := by decide +kernel
theorem dX2_isLike_18 : decode cX2_isLike 18 = .ok (.invokevirtual 37, 3) := by decide +kernel
theorem dX2_isLike_21 : decode cX2_isLike 21 = .ok (.aload_n 1, 1) := by decide +kernel
theorem dX2_isLike_22 : decode cX2_isLike 22 = .ok (.iload_n 3, 1) := by decide +kernel
theorem dX2_isLike_23 : decode cX2_isLike 23 = .ok (.invokevirtual 37, 3) := by decide +kernel
theorem dX2_isLike_26 : decode cX2_isLike 26 = .ok (.invokevirtual 41, 3) := by decide +kernel
theorem dX2_isLike_29 : decode cX2_isLike 29 = .ok (.ifCond .ne 5, 3) := by decide +kernel
theorem dX2_isLike_32 : decode cX2_isLike 32 = .ok (.iconst 0, 1) := by decide +kernel
theorem dX2_isLike_33 : decode cX2_isLike 33 = .ok (.ireturn, 1) := by decide +kernel
theorem dX2_isLike_34 : decode cX2_isLike 34 = .ok (.iconst 0, 1) := by decide +kernel
theorem dX2_isLike_35 : decode cX2_isLike 35 = .ok (.istore 4, 2) := by decide +kernel
theorem dX2_isLike_37 : decode cX2_isLike 37 = .ok (.iload 4, 2) := by decide +kernel
theorem dX2_isLike_39 : decode cX2_isLike 39 = .ok (.aload_n 1, 1) := by decide +kernel
theorem dX2_isLike_40 : decode cX2_isLike 40 = .ok (.getfield 21, 3) := by decide +kernel
theorem dX2_isLike_43 : decode cX2_isLike 43 = .ok (.if_icmp .ge 53, 3) := by decide +kernel
theorem dX2_isLike_46 : decode cX2_isLike 46 = .ok (.aload_n 0, 1) := by decide +kernel
theorem dX2_isLike_47 : decode cX2_isLike 47 = .ok (.aload_n 1, 1) := by decide +kernel
theorem dX2_isLike_48 : decode cX2_isLike 48 = .ok (.iload_n 2, 1) := by decide +kernel
theorem dX2_isLike_49 : decode cX2_isLike 49 = .ok (.iload 4, 2) := by decide +kernel
theorem dX2_isLike_51 : decode cX2_isLike 51 = .ok (.invokevirtual 44, 3) := by decide +kernel
theorem dX2_isLike_54 : decode cX2_isLike 54 = .ok (.aload_n 1, 1) := by decide +kernel
theorem dX2_isLike_55 : decode cX2_isLike 55 = .ok (.iload_n 3, 1) := by decide +kernel
theorem dX2_isLike_56 : decode cX2_isLike 56 = .ok (.iload 4, 2) := by decide +kernel
theorem dX2_isLike_58 : decode cX2_isLike 58 = .ok (.invokevirtual 44, 3) := by decide +kernel
theorem dX2_isLike_61 : decode cX2_isLike 61 = .ok (.invokevirtual 41, 3) := by decide +kernel
theorem dX2_isLike_64 : decode cX2_isLike 64 = .ok (.ifCond .eq 24, 3) := by decide +kernel
theorem dX2_isLike_67 : decode cX2_isLike 67 = .ok (.aload_n 0, 1) := by decide +kernel
theorem dX2_isLike_68 : decode cX2_isLike 68 = .ok (.aload_n 1, 1) := by decide +kernel
theorem dX2_isLike_69 : decode cX2_isLike 69 = .ok (.iload 4, 2) := by decide +kernel
theorem dX2_isLike_71 : decode cX2_isLike 71 = .ok (.iload_n 2, 1) := by decide +kernel
theorem dX2_isLike_72 : decode cX2_isLike 72 = .ok (.invokevirtual 44, 3) := by decide +kernel
theorem dX2_isLike_75 : decode cX2_isLike 75 = .ok (.aload_n 1, 1) := by decide +kernel
theorem dX2_isLike_76 : decode cX2_isLike 76 = .ok (.iload 4, 2) := by decide +kernel
theorem dX2_isLike_78 : decode cX2_isLike 78 = .ok (.iload_n 3, 1) := by decide +kernel
theorem dX2_isLike_79 : decode cX2_isLike 79 = .ok (.invokevirtual 44, 3) := by decide +kernel
theorem dX2_isLike_82 : decode cX2_isLike 82 = .ok (.invokevirtual 41, 3) := by decide +kernel
theorem dX2_isLike_85 : decode cX2_isLike 85 = .ok (.ifCond .ne 5, 3) := by decide +kernel
theorem dX2_isLike_88 : decode cX2_isLike 88 = .ok (.iconst 0, 1) := by decide +kernel
theorem dX2_isLike_89 : decode cX2_isLike 89 = .ok (.ireturn, 1) := by decide +kernel
theorem dX2_isLike_90 : decode cX2_isLike 90 = .ok (.iinc 4 1, 3) := by decide +kernel
theorem dX2_isLike_93 : decode cX2_isLike 93 = .ok (.goto (-56), 3) := by decide +kernel
theorem dX2_isLike_96 : decode cX2_isLike 96 = .ok (.iconst 1, 1) := by decide +kernel
theorem dX2_isLike_97 : decode cX2_isLike 97 = .ok (.ireturn, 1) := by decide +kernel
theorem dX2_areKinds_0 : decode cX2_areKinds 0 = .ok (.aload_n 0, 1) := by decide +kernel
theorem dX2_areKinds_1 : decode cX2_areKinds 1 = .ok (.getfield 9, 3) := by decide +kernel
theorem dX2_areKinds_4 : decode cX2_areKinds 4 = .ok (.iload_n 1, 1) := by decide +kernel
theorem dX2_areKinds_5 : decode cX2_areKinds 5 = .ok (.invokestatic 48, 3) := by decide +kernel
theorem dX2_areKinds_8 : decode cX2_areKinds 8 = .ok (.iaload, 1) := by decide +kernel
theorem dX2_areKinds_9 : decode cX2_areKinds 9 = .ok (.aload_n 0, 1) := by decide +kernel
theorem dX2_areKinds_10 : decode cX2_areKinds 10 = .ok (.getfield 9, 3) := by decide +kernel
theorem dX2_areKinds_13 : decode cX2_areKinds 13 = .ok (.iload_n 2, 1) := by decide +kernel
theorem dX2_areKinds_14 : decode cX2_areKinds 14 = .ok (.invokestatic 48, 3) := by decide +kernel
theorem dX2_areKinds_17 : decode cX2_areKinds 17 = .ok (.iaload, 1) := by decide +kernel
theorem dX2_areKinds_18 : decode cX2_areKinds 18 = .ok (.if_icmp .ne 28, 3) := by decide +kernel
theorem dX2_areKinds_21 : decode cX2_areKinds 21 = .ok (.aload_n 0, 1) := by decide +kernel
theorem dX2_areKinds_22 : decode cX2_areKinds 22 = .ok (.getfield 9, 3) := by decide +kernel
theorem dX2_areKinds_25 : decode cX2_areKinds 25 = .ok (.iload_n 1, 1) := by decide +kernel
theorem dX2_areKinds_26 : decode cX2_areKinds 26 = .ok (.invokestatic 51, 3) := by decide +kernel
theorem dX2_areKinds_29 : decode cX2_areKinds 29 = .ok (.iaload, 1) := by decide +kernel
theorem dX2_areKinds_30 : decode cX2_areKinds 30 = .ok (.aload_n 0, 1) := by decide +kernel
theorem dX2_areKinds_31 : decode cX2_areKinds 31 = .ok (.getfield 9, 3) := by decide +kernel
theorem dX2_areKinds_34 : decode cX2_areKinds 34 = .ok (.iload_n 2, 1) := by decide +kernel
theorem dX2_areKinds_35 : decode cX2_areKinds 35 = .ok (.invokestatic 51, 3) := by decide +kernel
theorem dX2_areKinds_38 : decode cX2_areKinds 38 = .ok (.iaload, 1) := by decide +kernel
theorem dX2_areKinds_39 : decode cX2_areKinds 39 = .ok (.if_icmp .ne 7, 3) := by decide +kernel
theorem dX2_areKinds_42 : decode cX2_areKinds 42 = .ok (.iconst 1, 1) := by decide +kernel
theorem dX2_areKinds_43 : decode cX2_areKinds 43 = .ok (.goto 4, 3) := by decide +kernel
theorem dX2_areKinds_46 : decode cX2_areKinds 46 = .ok (.iconst 0, 1) := by decide +kernel
theorem dX2_areKinds_47 : decode cX2_areKinds 47 = .ok (.ireturn, 1) := by decide +kernel
theorem dX3_init_0 : decode cX3_init 0 = .ok (.aload_n 0, 1) := by decide +kernel
theorem dX3_init_1 : decode cX3_init 1 = .ok (.invokespecial 3, 3) := by decide +kernel
theorem dX3_init_4 : decode cX3_init 4 = .ok (.aload_n 0, 1) := by decide +kernel
theorem dX3_init_5 : decode cX3_init 5 = .ok (.bipush 16, 2) := by decide +kernel
theorem dX3_init_7 : decode cX3_init 7 = .ok (.newarray .int, 2) := by decide +kernel
theorem dX3_init_9 : decode cX3_init 9 = .ok (.putfield 9, 3) := by decide +kernel
theorem dX3_init_12 : decode cX3_init 12 = .ok (.aload_n 0, 1) := by decide +kernel
theorem dX3_init_13 : decode cX3_init 13 = .ok (.bipush 16, 2) := by decide +kernel
theorem dX3_init_15 : decode cX3_init 15 = .ok (.newarray .int, 2) := by decide +kernel
theorem dX3_init_17 : decode cX3_init 17 = .ok (.putfield 15, 3) := by decide +kernel
theorem dX3_init_20 : decode cX3_init 20 = .ok (.aload_n 0, 1) := by decide +kernel
theorem dX3_init_21 : decode cX3_init 21 = .ok (.bipush 16, 2) := by decide +kernel
theorem dX3_init_23 : decode cX3_init 23 = .ok (.newarray .int, 2) := by decide +kernel
theorem dX3_init_25 : decode cX3_init 25 = .ok (.putfield 18, 3) := by decide +kernel
theorem dX3_init_28 : decode cX3_init 28 = .ok (.aload_n 0, 1) := by decide +kernel
theorem dX3_init_29 : decode cX3_init 29 = .ok (.bipush 16, 2) := by decide +kernel
theorem dX3_init_31 : decode cX3_init 31 = .ok (.newarray .int, 2) := by decide +kernel
theorem dX3_init_33 : decode cX3_init 33 = .ok (.putfield 21, 3) := by decide +kernel
theorem dX3_init_36 : decode cX3_init 36 = .ok (.return_, 1) := by decide +kernel
theorem dX3_has_0 : decode cX3_has 0 = .ok (.iload_n 1, 1) := by decide +kernel
theorem dX3_has_1 : decode cX3_has 1 = .ok (.ifCond .lt 21, 3) := by decide +kernel
theorem dX3_has_4 : decode cX3_has 4 = .ok (.iload_n 1, 1) := by decide +kernel
theorem dX3_has_5 : decode cX3_has 5 = .ok (.aload_n 0, 1) := by decide +kernel
theorem dX3_has_6 : decode cX3_has 6 = .ok (.getfield 24, 3) := by decide +kernel
theorem dX3_has_9 : decode cX3_has 9 = .ok (.if_icmp .ge 13, 3) := by decide +kernel
theorem dX3_has_12 : decode cX3_has 12 = .ok (.iload_n 1, 1) := by decide +kernel
theorem dX3_has_13 : decode cX3_has 13 = .ok (.bipush 16, 2) := by decide +kernel
theorem dX3_has_15 : decode cX3_has 15 = .ok (.if_icmp .ge 7, 3) := by decide +kernel
theorem dX3_has_18 : decode cX3_has 18 = .ok (.iconst 1, 1) := by decide +kernel
theorem dX3_has_19 : decode cX3_has 19 = .ok (.goto 4, 3) := by decide +kernel
theorem dX3_has_22 : decode cX3_has 22 = .ok (.iconst 0, 1) := by decide +kernel
theorem dX3_has_23 : decode cX3_has 23 = .ok (.ireturn, 1) := by decide +kernel
theorem dX3_allOn_0 : decode cX3_allOn 0 = .ok (.iconst 1, 1) := by decide +kernel
theorem dX3_allOn_1 : decode cX3_allOn 1 = .ok (.aload_n 0, 1) := by decide +kernel
theorem dX3_allOn_2 : decode cX3_allOn 2 = .ok (.getfield 24, 3) := by decide +kernel
theorem dX3_allOn_5 : decode cX3_allOn 5 = .ok (.ishl, 1) := by decide +kernel
theorem dX3_allOn_6 : decode cX3_allOn 6 = .ok (.iconst 1, 1) := by decide +kernel
theorem dX3_allOn_7 : decode cX3_allOn 7 = .ok (.isub, 1) := by decide +kernel
theorem dX3_allOn_8 : decode cX3_allOn 8 = .ok (.ireturn, 1) := by decide +kernel
theorem dX3_read_0 : decode cX3_read 0 = .ok (.aload_n 0, 1) := by decide +kernel
theorem dX3_read_1 : decode cX3_read 1 = .ok (.iconst 0, 1) := by decide +kernel
theorem dX3_read_2 : decode cX3_read 2 = .ok (.putfield 24, 3) := by decide +kernel
theorem dX3_read_5 : decode cX3_read 5 = .ok (.aload_n 0, 1) := by decide +kernel
theorem dX3_read_6 : decode cX3_read 6 = .ok (.iconst 0, 1) := by decide +kernel
theorem dX3_read_7 : decode cX3_read 7 = .ok (.putfield 28, 3) := by decide +kernel
theorem dX3_read_10 : decode cX3_read 10 = .ok (.aload_n 1, 1) := by decide +kernel
theorem dX3_read_11 : decode cX3_read 11 = .ok (.invokevirtual 31, 3) := by decide +kernel
theorem dX3_read_14 : decode cX3_read 14 = .ok (.iconst 0, 1) := by decide +kernel
theorem dX3_read_15 : decode cX3_read 15 = .ok (.istore_n 2, 1) := by decide +kernel
theorem dX3_read_16 : decode cX3_read 16 = .ok (.iconst 0, 1) := by decide +kernel
theorem dX3_read_17 : decode cX3_read 17 = .ok (.istore_n 3, 1) := by decide +kernel
theorem dX3_read_18 : decode cX3_read 18 = .ok (.iload_n 3, 1) := by decide +kernel
theorem dX3_read_19 : decode cX3_read 19 = .ok (.sipush 300, 3) := by decide +kernel
theorem dX3_read_22 : decode cX3_read 22 = .ok (.if_icmp .ge 47, 3) := by decide +kernel
theorem dX3_read_25 : decode cX3_read 25 = .ok (.aload_n 1, 1) := by decide +kernel
theorem dX3_read_26 : decode cX3_read 26 = .ok (.getfield 36, 3) := by decide +kernel
theorem dX3_read_29 : decode cX3_read 29 = .ok (.ifCond .eq 40, 3) := by decide +kernel
theorem dX3_read_32 : decode cX3_read 32 = .ok (.aload_n 0, 1) := by decide +kernel
theorem dX3_read_33 : decode cX3_read 33 = .ok (.aload_n 1, 1) := by decide +kernel
theorem dX3_read_34 : decode cX3_read 34 = .ok (.invokevirtual 39, 3) := by decide +kernel
theorem dX3_read_37 : decode cX3_read 37 = .ok (.ifCond .eq 11, 3) := by decide +kernel
theorem dX3_read_40 : decode cX3_read 40 = .ok (.aload_n 1, 1) := by decide +kernel
theorem dX3_read_41 : decode cX3_read 41 = .ok (.getfield 36, 3) := by decide +kernel
theorem dX3_read_44 : decode cX3_read 44 = .ok (.iconst 4, 1) := by decide +kernel
theorem dX3_read_45 : decode cX3_read 45 = .ok (.if_icmp .eq 11, 3) := by decide +kernel
theorem dX3_read_48 : decode cX3_read 48 = .ok (.bipush (-10), 2) := by decide +kernel
theorem dX3_read_50 : decode cX3_read 50 = .ok (.aload_n 1, 1) := by decide +kernel
theorem dX3_read_51 : decode cX3_read 51 = .ok (.getfield 43, 3) := by decide +kernel
theorem dX3_read_54 : decode cX3_read 54 = .ok (.isub, 1) := by decide +kernel
theorem dX3_read_55 : decode cX3_read 55 = .ok (.ireturn, 1) := by decide +kernel
theorem dX3_read_56 : decode cX3_read 56 = .ok (.aload_n 1, 1) := by decide +kernel
theorem dX3_read_57 : decode cX3_read 57 = .ok (.invokevirtual 46, 3) := by decide +kernel
theorem dX3_read_60 : decode cX3_read 60 = .ok (.iinc 2 1, 3) := by decide +kernel
theorem dX3_read_63 : decode cX3_read 63 = .ok (.iinc 3 1, 3) := by decide +kernel
theorem dX3_read_66 : decode cX3_read 66 = .ok (.goto (-48), 3) := by decide +kernel
theorem dX3_read_69 : decode cX3_read 69 = .ok (.iload_n 2, 1) := by decide +kernel
theorem dX3_read_70 : decode cX3_read 70 = .ok (.ireturn, 1) := by decide +kernel
theorem dX3_readItem_0 : decode cX3_readItem 0 = .ok (.aload_n 1, 1) := by decide +kernel
theorem dX3_readItem_1 : decode cX3_readItem 1 = .ok (.getfield 36, 3) := by decide +kernel
theorem dX3_readItem_4 : decode cX3_readItem 4 = .ok (.iconst 1, 1) := by decide +kernel
theorem dX3_readItem_5 : decode cX3_readItem 5 = .ok (.if_icmp .ne 26, 3) := by decide +kernel
theorem dX3_readItem_8 : decode cX3_readItem 8 = .ok (.aload_n 0, 1) := by decide +kernel
theorem dX3_readItem_9 : decode cX3_readItem 9 = .ok (.getfield 24, 3) := by decide +kernel
theorem dX3_readItem_12 : decode cX3_readItem 12 = .ok (.bipush 16, 2) := by decide +kernel
theorem dX3_readItem_14 : decode cX3_readItem 14 = .ok (.if_icmp .ge 15, 3) := by decide +kernel
theorem dX3_readItem_17 : decode cX3_readItem 17 = .ok (.aload_n 0, 1) := by decide +kernel
theorem dX3_readItem_18 : decode cX3_readItem 18 = .ok (.aload_n 1, 1) := by decide +kernel
theorem dX3_readItem_19 : decode cX3_readItem 19 = .ok (.invokevirtual 49, 3) := by decide +kernel
theorem dX3_readItem_22 : decode cX3_readItem 22 = .ok (.ifCond .eq 7, 3) := by decide +kernel
theorem dX3_readItem_25 : decode cX3_readItem 25 = .ok (.iconst 1, 1) := by decide +kernel
theorem dX3_readItem_26 : decode cX3_readItem 26 = .ok (.goto 4, 3) := by decide +kernel
theorem dX3_readItem_29 : decode cX3_readItem 29 = .ok (.iconst 0, 1) := by decide +kernel
theorem dX3_readItem_30 : decode cX3_readItem 30 = .ok (.ireturn, 1) := by decide +kernel
theorem dX3_readItem_31 : decode cX3_readItem 31 = .ok (.aload_n 1, 1) := by decide +kernel
theorem dX3_readItem_32 : decode cX3_readItem 32 = .ok (.getfield 36, 3) := by decide +kernel
theorem dX3_readItem_35 : decode cX3_readItem 35 = .ok (.iconst 2, 1) := by decide +kernel
theorem dX3_readItem_36 : decode cX3_readItem 36 = .ok (.if_icmp .ne 15, 3) := by decide +kernel
theorem dX3_readItem_39 : decode cX3_readItem 39 = .ok (.aload_n 0, 1) := by decide +kernel
theorem dX3_readItem_40 : decode cX3_readItem 40 = .ok (.aload_n 1, 1) := by decide +kernel
theorem dX3_readItem_41 : decode cX3_readItem 41 = .ok (.invokevirtual 52, 3) := by decide +kernel
theorem dX3_readItem_44 : decode cX3_readItem 44 = .ok (.ifCond .eq 7, 3) := by decide +kernel
theorem dX3_readItem_47 : decode cX3_readItem 47 = .ok (.iconst 1, 1) := by decide +kernel
theorem dX3_readItem_48 : decode cX3_readItem 48 = .ok (.goto 4, 3) := by decide +kernel
theorem dX3_readItem_51 : decode cX3_readItem 51 = .ok (.iconst 0, 1) := by decide +kernel
theorem dX3_readItem_52 : decode cX3_readItem 52 = .ok (.ireturn, 1) := by decide +kernel
theorem dX3_readRule_0 : decode cX3_readRule 0 = .ok (.aload_n 0, 1) := by decide +kernel
theorem dX3_readRule_1 : decode cX3_readRule 1 = .ok (.getfield 24, 3) := by decide +kernel
theorem dX3_readRule_4 : decode cX3_readRule 4 = .ok (.istore_n 2, 1) := by decide +kernel
theorem dX3_readRule_5 : decode cX3_readRule 5 = .ok (.aload_n 1, 1) := by decide +kernel
theorem dX3_readRule_6 : decode cX3_readRule 6 = .ok (.getfield 55, 3) := by decide +kernel
theorem dX3_readRule_9 : decode cX3_readRule 9 = .ok (.istore_n 3, 1) := by decide +kernel
theorem dX3_readRule_10 : decode cX3_readRule 10 = .ok (.aload_n 0, 1) := by decide +kernel
theorem dX3_readRule_11 : decode cX3_readRule 11 = .ok (.getfield 9, 3) := by decide +kernel
theorem dX3_readRule_14 : decode cX3_readRule 14 = .ok (.iload_n 2, 1) := by decide +kernel
theorem dX3_readRule_15 : decode cX3_readRule 15 = .ok (.iload_n 3, 1) := by decide +kernel
theorem dX3_readRule_16 : decode cX3_readRule 16 = .ok (.iastore, 1) := by decide +kernel
theorem dX3_readRule_17 : decode cX3_readRule 17 = .ok (.aload_n 0, 1) := by decide +kernel
theorem dX3_readRule_18 : decode cX3_readRule 18 = .ok (.getfield 15, 3) := by decide +kernel
theorem dX3_readRule_21 : decode cX3_readRule 21 = .ok (.iload_n 2, 1) := by decide +kernel
theorem dX3_readRule_22 : decode cX3_readRule 22 = .ok (.bipush (-9), 2) := by decide +kernel
theorem dX3_readRule_24 : decode cX3_readRule 24 = .ok (.iastore, 1) := by decide +kernel
theorem dX3_readRule_25 : decode cX3_readRule 25 = .ok (.aload_n 0, 1) := by decide +kernel
theorem dX3_readRule_26 : decode cX3_readRule 26 = .ok (.getfield 18, 3) := by decide +kernel
theorem dX3_readRule_29 : decode cX3_readRule 29 = .ok (.iload_n 2, 1) := by decide +kernel
theorem dX3_readRule_30 : decode cX3_readRule 30 = .ok (.bipush (-9), 2) := by decide +kernel
theorem dX3_readRule_32 : decode cX3_readRule 32 = .ok (.iastore, 1) := by decide +kernel
theorem dX3_readRule_33 : decode cX3_readRule 33 = .ok (.aload_n 1, 1) := by decide +kernel
theorem dX3_readRule_34 : decode cX3_readRule 34 = .ok (.invokevirtual 46, 3) := by decide +kernel
theorem dX3_readRule_37 : decode cX3_readRule 37 = .ok (.iload_n 3, 1) := by decide +kernel
theorem dX3_readRule_38 : decode cX3_readRule 38 = .ok (.invokestatic 58, 3) := by decide +kernel
theorem dX3_readRule_41 : decode cX3_readRule 41 = .ok (.ifCond .le 26, 3) := by decide +kernel
theorem dX3_readRule_44 : decode cX3_readRule 44 = .ok (.aload_n 1, 1) := by decide +kernel
theorem dX3_readRule_45 : decode cX3_readRule 45 = .ok (.invokevirtual 62, 3) := by decide +kernel
theorem dX3_readRule_48 : decode cX3_readRule 48 = .ok (.ifCond .ne 5, 3) := by decide +kernel
theorem dX3_readRule_51 : decode cX3_readRule 51 = .ok (.iconst 0, 1) := by decide +kernel
theorem dX3_readRule_52 : decode cX3_readRule 52 = .ok (.ireturn, 1) := by decide +kernel
theorem dX3_readRule_53 : decode cX3_readRule 53 = .ok (.aload_n 0, 1) := by decide +kernel
theorem dX3_readRule_54 : decode cX3_readRule 54 = .ok (.getfield 15, 3) := by decide +kernel
theorem dX3_readRule_57 : decode cX3_readRule 57 = .ok (.iload_n 2, 1) := by decide +kernel
theorem dX3_readRule_58 : decode cX3_readRule 58 = .ok (.aload_n 1, 1) := by decide +kernel
theorem dX3_readRule_59 : decode cX3_readRule 59 = .ok (.getfield 55, 3) := by decide +kernel
theorem dX3_readRule_62 : decode cX3_readRule 62 = .ok (.iastore, 1) := by decide +kernel
theorem dX3_readRule_63 : decode cX3_readRule 63 = .ok (.aload_n 1, 1) := by decide +kernel
theorem dX3_readRule_64 : decode cX3_readRule 64 = .ok (.invokevirtual 46, 3) := by decide +kernel
theorem dX3_readRule_67 : decode cX3_readRule 67 = .ok (.iload_n 3, 1) := by decide +kernel
theorem dX3_readRule_68 : decode cX3_readRule 68 = .ok (.invokestatic 58, 3) := by decide +kernel
theorem dX3_readRule_71 : decode cX3_readRule 71 = .ok (.iconst 1, 1) := by decide +kernel
theorem dX3_readRule_72 : decode cX3_readRule 72 = .ok (.if_icmp .le 26, 3) := by decide +kernel
theorem dX3_readRule_75 : decode cX3_readRule 75 = .ok (.aload_n 1, 1) := by decide +kernel
theorem dX3_readRule_76 : decode cX3_readRule 76 = .ok (.invokevirtual 62, 3) := by decide +kernel
theorem dX3_readRule_79 : decode cX3_readRule 79 = .ok (.ifCond .ne 5, 3) := by decide +kernel
theorem dX3_readRule_82 : decode cX3_readRule 82 = .ok (.iconst 0, 1) := by decide +kernel
theorem dX3_readRule_83 : decode cX3_readRule 83 = .ok (.ireturn, 1) := by decide +kernel
theorem dX3_readRule_84 : decode cX3_readRule 84 = .ok (.aload_n 0, 1) := by decide +kernel
theorem dX3_readRule_85 : decode cX3_readRule 85 = .ok (.getfield 18, 3) := by decide +kernel
theorem dX3_readRule_88 : decode cX3_readRule 88 = .ok (.iload_n 2, 1) := by decide +kernel
theorem dX3_readRule_89 : decode cX3_readRule 89 = .ok (.aload_n 1, 1) := by decide +kernel
theorem dX3_readRule_90 : decode cX3_readRule 90 = .ok (.getfield 55, 3) := by decide +kernel
theorem dX3_readRule_93 : decode cX3_readRule 93 = .ok (.iastore, 1) := by decide +kernel
theorem dX3_readRule_94 : decode cX3_readRule 94 = .ok (.aload_n 1, 1) := by decide +kernel
theorem dX3_readRule_95 : decode cX3_readRule 95 = .ok (.invokevirtual 46, 3) := by decide +kernel
theorem dX3_readRule_98 : decode cX3_readRule 98 = .ok (.aload_n 1, 1) := by decide +kernel
theorem dX3_readRule_99 : decode cX3_readRule 99 = .ok (.invokevirtual 62, 3) := by decide +kernel
theorem dX3_readRule_102 : decode cX3_readRule 102 = .ok (.ifCond .ne 5, 3) := by decide +kernel
theorem dX3_readRule_105 : decode cX3_readRule 105 = .ok (.iconst 0, 1) := by decide +kernel
theorem dX3_readRule_106 : decode cX3_readRule 106 = .ok (.ireturn, 1) := by decide +kernel
theorem dX3_readRule_107 : decode cX3_readRule 107 = .ok (.aload_n 0, 1) := by decide +kernel
theorem dX3_readRule_108 : decode cX3_readRule 108 = .ok (.getfield 21, 3) := by decide +kernel
theorem dX3_readRule_111 : decode cX3_readRule 111 = .ok (.iload_n 2, 1) := by decide +kernel
theorem dX3_readRule_112 : decode cX3_readRule 112 = .ok (.aload_n 1, 1) := by decide +kernel
theorem dX3_readRule_113 : decode cX3_readRule 113 = .ok (.getfield 55, 3) := by decide +kernel
theorem dX3_readRule_116 : decode cX3_readRule 116 = .ok (.iastore, 1) := by decide +kernel
theorem dX3_readRule_117 : decode cX3_readRule 117 = .ok (.aload_n 1, 1) := by decide +kernel
theorem dX3_readRule_118 : decode cX3_readRule 118 = .ok (.invokevirtual 46, 3) := by decide +kernel
theorem dX3_readRule_121 : decode cX3_readRule 121 = .ok (.aload_n 0, 1) := by decide +kernel
theorem dX3_readRule_122 : decode cX3_readRule 122 = .ok (.dup, 1) := by decide +kernel
theorem dX3_readRule_123 : decode cX3_readRule 123 = .ok (.getfield 24, 3) := by decide +kernel
theorem dX3_readRule_126 : decode cX3_readRule 126 = .ok (.iconst 1, 1) := by decide +kernel
theorem dX3_readRule_127 : decode cX3_readRule 127 = .ok (.iadd, 1) := by decide +kernel
theorem dX3_readRule_128 : decode cX3_readRule 128 = .ok (.putfield 24, 3) := by decide +kernel
theorem dX3_readRule_131 : decode cX3_readRule 131 = .ok (.iconst 1, 1) := by decide +kernel
theorem dX3_readRule_132 : decode cX3_readRule 132 = .ok (.ireturn, 1) := by decide +kernel
theorem dX3_readGood_0 : decode cX3_readGood 0 = .ok (.aload_n 1, 1) := by decide +kernel
theorem dX3_readGood_1 : decode cX3_readGood 1 = .ok (.invokevirtual 46, 3) := by decide +kernel
theorem dX3_readGood_4 : decode cX3_readGood 4 = .ok (.aload_n 1, 1) := by decide +kernel
theorem dX3_readGood_5 : decode cX3_readGood 5 = .ok (.invokevirtual 62, 3) := by decide +kernel
theorem dX3_readGood_8 : decode cX3_readGood 8 = .ok (.ifCond .ne 5, 3) := by decide +kernel
theorem dX3_readGood_11 : decode cX3_readGood 11 = .ok (.iconst 0, 1) := by decide +kernel
theorem dX3_readGood_12 : decode cX3_readGood 12 = .ok (.ireturn, 1) := by decide +kernel
theorem dX3_readGood_13 : decode cX3_readGood 13 = .ok (.iconst 0, 1) := by decide +kernel
theorem dX3_readGood_14 : decode cX3_readGood 14 = .ok (.istore_n 2, 1) := by decide +kernel
theorem dX3_readGood_15 : decode cX3_readGood 15 = .ok (.iload_n 2, 1) := by decide +kernel
theorem dX3_readGood_16 : decode cX3_readGood 16 = .ok (.sipush 300, 3) := by decide +kernel
theorem dX3_readGood_19 : decode cX3_readGood 19 = .ok (.if_icmp .ge 35, 3) := by decide +kernel
theorem dX3_readGood_22 : decode cX3_readGood 22 = .ok (.aload_n 1, 1) := by decide +kernel
theorem dX3_readGood_23 : decode cX3_readGood 23 = .ok (.invokevirtual 62, 3) := by decide +kernel
theorem dX3_readGood_26 : decode cX3_readGood 26 = .ok (.ifCond .eq 28, 3) := by decide +kernel
theorem dX3_readGood_29 : decode cX3_readGood 29 = .ok (.aload_n 0, 1) := by decide +kernel
theorem dX3_readGood_30 : decode cX3_readGood 30 = .ok (.dup, 1) := by decide +kernel
theorem dX3_readGood_31 : decode cX3_readGood 31 = .ok (.getfield 28, 3) := by decide +kernel
theorem dX3_readGood_34 : decode cX3_readGood 34 = .ok (.iconst 1, 1) := by decide +kernel
theorem dX3_readGood_35 : decode cX3_readGood 35 = .ok (.aload_n 1, 1) := by decide +kernel
theorem dX3_readGood_36 : decode cX3_readGood 36 = .ok (.getfield 55, 3) := by decide +kernel
theorem dX3_readGood_39 : decode cX3_readGood 39 = .ok (.ishl, 1) := by decide +kernel
theorem dX3_readGood_40 : decode cX3_readGood 40 = .ok (.ior, 1) := by decide +kernel
theorem dX3_readGood_41 : decode cX3_readGood 41 = .ok (.putfield 28, 3) := by decide +kernel
theorem dX3_readGood_44 : decode cX3_readGood 44 = .ok (.aload_n 1, 1) := by decide +kernel
theorem dX3_readGood_45 : decode cX3_readGood 45 = .ok (.invokevirtual 46, 3) := by decide +kernel
theorem dX3_readGood_48 : decode cX3_readGood 48 = .ok (.iinc 2 1, 3) := by decide +kernel
theorem dX3_readGood_51 : decode cX3_readGood 51 = .ok (.goto (-36), 3) := by decide +kernel
theorem dX3_readGood_54 : decode cX3_readGood 54 = .ok (.iconst 1, 1) := by decide +kernel
theorem dX3_readGood_55 : decode cX3_readGood 55 = .ok (.ireturn, 1) := by decide +kernel
theorem dX3_copyFrom_0 : decode cX3_copyFrom 0 = .ok (.aload_n 0, 1) := by decide +kernel
theorem dX3_copyFrom_1 : decode cX3_copyFrom 1 = .ok (.aload_n 1, 1) := by decide +kernel
theorem dX3_copyFrom_2 : decode cX3_copyFrom 2 = .ok (.getfield 24, 3) := by decide +kernel
theorem dX3_copyFrom_5 : decode cX3_copyFrom 5 = .ok (.putfield 24, 3) := by decide +kernel
theorem dX3_copyFrom_8 : decode cX3_copyFrom 8 = .ok (.aload_n 0, 1) := by decide +kernel
theorem dX3_copyFrom_9 : decode cX3_copyFrom 9 = .ok (.aload_n 1, 1) := by decide +kernel
theorem dX3_copyFrom_10 : decode cX3_copyFrom 10 = .ok (.getfield 28, 3) := by decide +kernel
theorem dX3_copyFrom_13 : decode cX3_copyFrom 13 = .ok (.putfield 28, 3) := by decide +kernel
theorem dX3_copyFrom_16 : decode cX3_copyFrom 16 = .ok (.iconst 0, 1) := by decide +kernel
theorem dX3_copyFrom_17 : decode cX3_copyFrom 17 = .ok (.istore_n 2, 1) := by decide +kernel
theorem dX3_copyFrom_18 : decode cX3_copyFrom 18 = .ok (.iload_n 2, 1) := by decide +kernel
theorem dX3_copyFrom_19 : decode cX3_copyFrom 19 = .ok (.bipush 16, 2) := by decide +kernel
theorem dX3_copyFrom_21 : decode cX3_copyFrom 21 = .ok (.if_icmp .ge 57, 3) := by decide +kernel
theorem dX3_copyFrom_24 : decode cX3_copyFrom 24 = .ok (.aload_n 0, 1) := by decide +kernel
theorem dX3_copyFrom_25 : decode cX3_copyFrom 25 = .ok (.getfield 9, 3) := by decide +kernel
theorem dX3_copyFrom_28 : decode cX3_copyFrom 28 = .ok (.iload_n 2, 1) := by decide +kernel
theorem dX3_copyFrom_29 : decode cX3_copyFrom 29 = .ok (.aload_n 1, 1) := by decide +kernel
theorem dX3_copyFrom_30 : decode cX3_copyFrom 30 = .ok (.getfield 9, 3) := by decide +kernel
theorem dX3_copyFrom_33 : decode cX3_copyFrom 33 = .ok (.iload_n 2, 1) := by decide +kernel
theorem dX3_copyFrom_34 : decode cX3_copyFrom 34 = .ok (.iaload, 1) := by decide +kernel
theorem dX3_copyFrom_35 : decode cX3_copyFrom 35 = .ok (.iastore, 1) := by decide +kernel
theorem dX3_copyFrom_36 : decode cX3_copyFrom 36 = .ok (.aload_n 0, 1) := by decide +kernel
theorem dX3_copyFrom_37 : decode cX3_copyFrom 37 = .ok (.getfield 15, 3) := by decide +kernel
theorem dX3_copyFrom_40 : decode cX3_copyFrom 40 = .ok (.iload_n 2, 1) := by decide +kernel
theorem dX3_copyFrom_41 : decode cX3_copyFrom 41 = .ok (.aload_n 1, 1) := by decide +kernel
theorem dX3_copyFrom_42 : decode cX3_copyFrom 42 = .ok (.getfield 15, 3) := by decide +kernel
theorem dX3_copyFrom_45 : decode cX3_copyFrom 45 = .ok (.iload_n 2, 1) := by decide +kernel
theorem dX3_copyFrom_46 : decode cX3_copyFrom 46 = .ok (.iaload, 1) := by decide +kernel
theorem dX3_copyFrom_47 : decode cX3_copyFrom 47 = .ok (.iastore, 1) := by decide +kernel
theorem dX3_copyFrom_48 : decode cX3_copyFrom 48 = .ok (.aload_n 0, 1) := by decide +kernel
theorem dX3_copyFrom_49 : decode cX3_copyFrom 49 = .ok (.getfield 18, 3) := by decide +kernel
theorem dX3_copyFrom_52 : decode cX3_copyFrom 52 = .ok (.iload_n 2, 1) := by decide +kernel
theorem dX3_copyFrom_53 : decode cX3_copyFrom 53 = .ok (.aload_n 1, 1) := by decide +kernel
theorem dX3_copyFrom_54 : decode cX3_copyFrom 54 = .ok (.getfield 18, 3) := by decide +kernel
theorem dX3_copyFrom_57 : decode cX3_copyFrom 57 = .ok (.iload_n 2, 1) := by decide +kernel
theorem dX3_copyFrom_58 : decode cX3_copyFrom 58 = .ok (.iaload, 1) := by decide +kernel
theorem dX3_copyFrom_59 : decode cX3_copyFrom 59 = .ok (.iastore, 1) := by decide +kernel
theorem dX3_copyFrom_60 : decode cX3_copyFrom 60 = .ok (.aload_n 0, 1) := by decide +kernel
theorem dX3_copyFrom_61 : decode cX3_copyFrom 61 = .ok (.getfield 21, 3) := by decide +kernel
theorem dX3_copyFrom_64 : decode cX3_copyFrom 64 = .ok (.iload_n 2, 1) := by decide +kernel
theorem dX3_copyFrom_65 : decode cX3_copyFrom 65 = .ok (.aload_n 1, 1) := by decide +kernel
theorem dX3_copyFrom_66 : decode cX3_copyFrom 66 = .ok (.getfield 21, 3) := by decide +kernel
theorem dX3_copyFrom_69 : decode cX3_copyFrom 69 = .ok (.iload_n 2, 1) := by decide +kernel
theorem dX3_copyFrom_70 : decode cX3_copyFrom 70 = .ok (.iaload, 1) := by decide +kernel
theorem dX3_copyFrom_71 : decode cX3_copyFrom 71 = .ok (.iastore, 1) := by decide +kernel
theorem dX3_copyFrom_72 : decode cX3_copyFrom 72 = .ok (.iinc 2 1, 3) := by decide +kernel
theorem dX3_copyFrom_75 : decode cX3_copyFrom 75 = .ok (.goto (-57), 3) := by decide +kernel
theorem dX3_copyFrom_78 : decode cX3_copyFrom 78 = .ok (.return_, 1) := by decide +kernel
theorem dX3_fits_0 : decode cX3_fits 0 = .ok (.aload_n 0, 1) := by decide +kernel
theorem dX3_fits_1 : decode cX3_fits 1 = .ok (.getfield 9, 3) := by decide +kernel
theorem dX3_fits_4 : decode cX3_fits 4 = .ok (.iload_n 1, 1) := by decide +kernel
theorem dX3_fits_5 : decode cX3_fits 5 = .ok (.iaload, 1) := by decide +kernel
theorem dX3_fits_6 : decode cX3_fits 6 = .ok (.invokestatic 58, 3) := by decide +kernel
theorem dX3_fits_9 : decode cX3_fits 9 = .ok (.istore 4, 2) := by decide +kernel
theorem dX3_fits_11 : decode cX3_fits 11 = .ok (.iload 4, 2) := by decide +kernel
theorem dX3_fits_13 : decode cX3_fits 13 = .ok (.iconst 1, 1) := by decide +kernel
theorem dX3_fits_14 : decode cX3_fits 14 = .ok (.if_icmp .lt 17, 3) := by decide +kernel
theorem dX3_fits_17 : decode cX3_fits 17 = .ok (.iload_n 2, 1) := by decide +kernel
theorem dX3_fits_18 : decode cX3_fits 18 = .ok (.aload_n 0, 1) := by decide +kernel
theorem dX3_fits_19 : decode cX3_fits 19 = .ok (.getfield 15, 3) := by decide +kernel
theorem dX3_fits_22 : decode cX3_fits 22 = .ok (.iload_n 1, 1) := by decide +kernel
theorem dX3_fits_23 : decode cX3_fits 23 = .ok (.iaload, 1) := by decide +kernel
theorem dX3_fits_24 : decode cX3_fits 24 = .ok (.invokestatic 66, 3) := by decide +kernel
theorem dX3_fits_27 : decode cX3_fits 27 = .ok (.iconst 1, 1) := by decide +kernel
theorem dX3_fits_28 : decode cX3_fits 28 = .ok (.if_icmp .ne 27, 3) := by decide +kernel
theorem dX3_fits_31 : decode cX3_fits 31 = .ok (.iload 4, 2) := by decide +kernel
theorem dX3_fits_33 : decode cX3_fits 33 = .ok (.iconst 2, 1) := by decide +kernel
theorem dX3_fits_34 : decode cX3_fits 34 = .ok (.if_icmp .lt 17, 3) := by decide +kernel
theorem dX3_fits_37 : decode cX3_fits 37 = .ok (.iload_n 3, 1) := by decide +kernel
theorem dX3_fits_38 : decode cX3_fits 38 = .ok (.aload_n 0, 1) := by decide +kernel
theorem dX3_fits_39 : decode cX3_fits 39 = .ok (.getfield 18, 3) := by decide +kernel
theorem dX3_fits_42 : decode cX3_fits 42 = .ok (.iload_n 1, 1) := by decide +kernel
theorem dX3_fits_43 : decode cX3_fits 43 = .ok (.iaload, 1) := by decide +kernel
theorem dX3_fits_44 : decode cX3_fits 44 = .ok (.invokestatic 66, 3) := by decide +kernel
theorem dX3_fits_47 : decode cX3_fits 47 = .ok (.iconst 1, 1) := by decide +kernel
theorem dX3_fits_48 : decode cX3_fits 48 = .ok (.if_icmp .ne 7, 3) := by decide +kernel
theorem dX3_fits_51 : decode cX3_fits 51 = .ok (.iconst 1, 1) := by decide +kernel
theorem dX3_fits_52 : decode cX3_fits 52 = .ok (.goto 4, 3) := by decide +kernel
theorem dX3_fits_55 : decode cX3_fits 55 = .ok (.iconst 0, 1) := by decide +kernel
theorem dX3_fits_56 : decode cX3_fits 56 = .ok (.ireturn, 1) := by decide +kernel
theorem dX3_outcomes_0 : decode cX3_outcomes 0 = .ok (.iconst 0, 1) := by decide +kernel
theorem dX3_outcomes_1 : decode cX3_outcomes 1 = .ok (.istore 5, 2) := by decide +kernel
theorem dX3_outcomes_3 : decode cX3_outcomes 3 = .ok (.iconst 0, 1) := by decide +kernel
theorem dX3_outcomes_4 : decode cX3_outcomes 4 = .ok (.istore 6, 2) := by decide +kernel
theorem dX3_outcomes_6 : decode cX3_outcomes 6 = .ok (.iload 6, 2) := by decide +kernel
theorem dX3_outcomes_8 : decode cX3_outcomes 8 = .ok (.aload_n 0, 1) := by decide +kernel
theorem dX3_outcomes_9 : decode cX3_outcomes 9 = .ok (.getfield 24, 3) := by decide +kernel
theorem dX3_outcomes_12 : decode cX3_outcomes 12 = .ok (.if_icmp .ge 56, 3) := by decide +kernel
theorem dX3_outcomes_15 : decode cX3_outcomes 15 = .ok (.iload_n 2, 1) := by decide +kernel
theorem dX3_outcomes_16 : decode cX3_outcomes 16 = .ok (.iload 6, 2) := by decide +kernel
theorem dX3_outcomes_18 : decode cX3_outcomes 18 = .ok (.invokestatic 66, 3) := by decide +kernel
theorem dX3_outcomes_21 : decode cX3_outcomes 21 = .ok (.iconst 1, 1) := by decide +kernel
theorem dX3_outcomes_22 : decode cX3_outcomes 22 = .ok (.if_icmp .ne 40, 3) := by decide +kernel
theorem dX3_outcomes_25 : decode cX3_outcomes 25 = .ok (.aload_n 0, 1) := by decide +kernel
theorem dX3_outcomes_26 : decode cX3_outcomes 26 = .ok (.getfield 9, 3) := by decide +kernel
theorem dX3_outcomes_29 : decode cX3_outcomes 29 = .ok (.iload 6, 2) := by decide +kernel
theorem dX3_outcomes_31 : decode cX3_outcomes 31 = .ok (.iaload, 1) := by decide +kernel
theorem dX3_outcomes_32 : decode cX3_outcomes 32 = .ok (.iload_n 1, 1) := by decide +kernel
theorem dX3_outcomes_33 : decode cX3_outcomes 33 = .ok (.if_icmp .ne 29, 3) := by decide +kernel
theorem dX3_outcomes_36 : decode cX3_outcomes 36 = .ok (.aload_n 0, 1) := by decide +kernel
theorem dX3_outcomes_37 : decode cX3_outcomes 37 = .ok (.iload 6, 2) := by decide +kernel
theorem dX3_outcomes_39 : decode cX3_outcomes 39 = .ok (.iload_n 3, 1) := by decide +kernel
theorem dX3_outcomes_40 : decode cX3_outcomes 40 = .ok (.iload 4, 2) := by decide +kernel
theorem dX3_outcomes_42 : decode cX3_outcomes 42 = .ok (.invokevirtual 70, 3) := by decide +kernel
theorem dX3_outcomes_45 : decode cX3_outcomes 45 = .ok (.ifCond .eq 17, 3) := by decide +kernel
theorem dX3_outcomes_48 : decode cX3_outcomes 48 = .ok (.iload 5, 2) := by decide +kernel
theorem dX3_outcomes_50 : decode cX3_outcomes 50 = .ok (.iconst 1, 1) := by decide +kernel
theorem dX3_outcomes_51 : decode cX3_outcomes 51 = .ok (.aload_n 0, 1) := by decide +kernel
theorem dX3_outcomes_52 : decode cX3_outcomes 52 = .ok (.getfield 21, 3) := by decide +kernel
theorem dX3_outcomes_55 : decode cX3_outcomes 55 = .ok (.iload 6, 2) := by decide +kernel
theorem dX3_outcomes_57 : decode cX3_outcomes 57 = .ok (.iaload, 1) := by decide +kernel
theorem dX3_outcomes_58 : decode cX3_outcomes 58 = .ok (.ishl, 1) := by decide +kernel
theorem dX3_outcomes_59 : decode cX3_outcomes 59 = .ok (.ior, 1) := by decide +kernel
theorem dX3_outcomes_60 : decode cX3_outcomes 60 = .ok (.istore 5, 2) := by decide +kernel
theorem dX3_outcomes_62 : decode cX3_outcomes 62 = .ok (.iinc 6 1, 3) := by decide +kernel
theorem dX3_outcomes_65 : decode cX3_outcomes 65 = .ok (.goto (-59), 3) := by decide +kernel
theorem dX3_outcomes_68 : decode cX3_outcomes 68 = .ok (.iload 5, 2) := by decide +kernel
theorem dX3_outcomes_70 : decode cX3_outcomes 70 = .ok (.ireturn, 1) := by decide +kernel
theorem dX3_reachedStates_0 : decode cX3_reachedStates 0 = .ok (.iconst 0, 1) := by decide +kernel
theorem dX3_reachedStates_1 : decode cX3_reachedStates 1 = .ok (.istore_n 2, 1) := by decide +kernel
theorem dX3_reachedStates_2 : decode cX3_reachedStates 2 = .ok (.iconst 0, 1) := by decide +kernel
theorem dX3_reachedStates_3 : decode cX3_reachedStates 3 = .ok (.istore_n 3, 1) := by decide +kernel
theorem dX3_reachedStates_4 : decode cX3_reachedStates 4 = .ok (.iload_n 3, 1) := by decide +kernel
theorem dX3_reachedStates_5 : decode cX3_reachedStates 5 = .ok (.bipush 6, 2) := by decide +kernel
theorem dX3_reachedStates_7 : decode cX3_reachedStates 7 = .ok (.if_icmp .ge 60, 3) := by decide +kernel
theorem dX3_reachedStates_10 : decode cX3_reachedStates 10 = .ok (.iconst 0, 1) := by decide +kernel
theorem dX3_reachedStates_11 : decode cX3_reachedStates 11 = .ok (.istore 4, 2) := by decide +kernel
theorem dX3_reachedStates_13 : decode cX3_reachedStates 13 = .ok (.iload 4, 2) := by decide +kernel
theorem dX3_reachedStates_15 : decode cX3_reachedStates 15 = .ok (.aload_n 0, 1) := by decide +kernel
theorem dX3_reachedStates_16 : decode cX3_reachedStates 16 = .ok (.getfield 24, 3) := by decide +kernel
theorem dX3_reachedStates_19 : decode cX3_reachedStates 19 = .ok (.if_icmp .ge 42, 3) := by decide +kernel
theorem dX3_reachedStates_22 : decode cX3_reachedStates 22 = .ok (.iload_n 1, 1) := by decide +kernel
theorem dX3_reachedStates_23 : decode cX3_reachedStates 23 = .ok (.iload 4, 2) := by decide +kernel
theorem dX3_reachedStates_25 : decode cX3_reachedStates 25 = .ok (.invokestatic 66, 3) := by decide +kernel
theorem dX3_reachedStates_28 : decode cX3_reachedStates 28 = .ok (.iconst 1, 1) := by decide +kernel
theorem dX3_reachedStates_29 : decode cX3_reachedStates 29 = .ok (.if_icmp .ne 26, 3) := by decide +kernel
theorem dX3_reachedStates_32 : decode cX3_reachedStates 32 = .ok (.aload_n 0, 1) := by decide +kernel
theorem dX3_reachedStates_33 : decode cX3_reachedStates 33 = .ok (.iload 4, 2) := by decide +kernel
theorem dX3_reachedStates_35 : decode cX3_reachedStates 35 = .ok (.iload_n 2, 1) := by decide +kernel
theorem dX3_reachedStates_36 : decode cX3_reachedStates 36 = .ok (.iload_n 2, 1) := by decide +kernel
theorem dX3_reachedStates_37 : decode cX3_reachedStates 37 = .ok (.invokevirtual 70, 3) := by decide +kernel
theorem dX3_reachedStates_40 : decode cX3_reachedStates 40 = .ok (.ifCond .eq 15, 3) := by decide +kernel
theorem dX3_reachedStates_43 : decode cX3_reachedStates 43 = .ok (.iload_n 2, 1) := by decide +kernel
theorem dX3_reachedStates_44 : decode cX3_reachedStates 44 = .ok (.iconst 1, 1) := by decide +kernel
theorem dX3_reachedStates_45 : decode cX3_reachedStates 45 = .ok (.aload_n 0, 1) := by decide +kernel
theorem dX3_reachedStates_46 : decode cX3_reachedStates 46 = .ok (.getfield 21, 3) := by decide +kernel
theorem dX3_reachedStates_49 : decode cX3_reachedStates 49 = .ok (.iload 4, 2) := by decide +kernel
theorem dX3_reachedStates_51 : decode cX3_reachedStates 51 = .ok (.iaload, 1) := by decide +kernel
theorem dX3_reachedStates_52 : decode cX3_reachedStates 52 = .ok (.ishl, 1) := by decide +kernel
theorem dX3_reachedStates_53 : decode cX3_reachedStates 53 = .ok (.ior, 1) := by decide +kernel
theorem dX3_reachedStates_54 : decode cX3_reachedStates 54 = .ok (.istore_n 2, 1) := by decide +kernel
theorem dX3_reachedStates_55 : decode cX3_reachedStates 55 = .ok (.iinc 4 1, 3) := by decide +kernel
theorem dX3_reachedStates_58 : decode cX3_reachedStates 58 = .ok (.goto (-45), 3) := by decide +kernel
theorem dX3_reachedStates_61 : decode cX3_reachedStates 61 = .ok (.iinc 3 1, 3) := by decide +kernel
theorem dX3_reachedStates_64 : decode cX3_reachedStates 64 = .ok (.goto (-60), 3) := by decide +kernel
theorem dX3_reachedStates_67 : decode cX3_reachedStates 67 = .ok (.iload_n 2, 1) := by decide +kernel
theorem dX3_reachedStates_68 : decode cX3_reachedStates 68 = .ok (.ireturn, 1) := by decide +kernel
theorem dX3_usefulStates_0 : decode cX3_usefulStates 0 = .ok (.aload_n 0, 1) := by decide +kernel
theorem dX3_usefulStates_1 : decode cX3_usefulStates 1 = .ok (.iload_n 1, 1) := by decide +kernel
theorem dX3_usefulStates_2 : decode cX3_usefulStates 2 = .ok (.invokevirtual 74, 3) := by decide +kernel
theorem dX3_usefulStates_5 : decode cX3_usefulStates 5 = .ok (.istore_n 3, 1) := by decide +kernel
theorem dX3_usefulStates_6 : decode cX3_usefulStates 6 = .ok (.iload_n 3, 1) := by decide +kernel
theorem dX3_usefulStates_7 : decode cX3_usefulStates 7 = .ok (.iload_n 2, 1) := by decide +kernel
theorem dX3_usefulStates_8 : decode cX3_usefulStates 8 = .ok (.iand, 1) := by decide +kernel
theorem dX3_usefulStates_9 : decode cX3_usefulStates 9 = .ok (.istore 4, 2) := by decide +kernel
theorem dX3_usefulStates_11 : decode cX3_usefulStates 11 = .ok (.iconst 0, 1) := by decide +kernel
theorem dX3_usefulStates_12 : decode cX3_usefulStates 12 = .ok (.istore 5, 2) := by decide +kernel
theorem dX3_usefulStates_14 : decode cX3_usefulStates 14 = .ok (.iload 5, 2) := by decide +kernel
theorem dX3_usefulStates_16 : decode cX3_usefulStates 16 = .ok (.bipush 6, 2) := by decide +kernel
theorem dX3_usefulStates_18 : decode cX3_usefulStates 18 = .ok (.if_icmp .ge 75, 3) := by decide +kernel
theorem dX3_usefulStates_21 : decode cX3_usefulStates 21 = .ok (.iconst 0, 1) := by decide +kernel
theorem dX3_usefulStates_22 : decode cX3_usefulStates 22 = .ok (.istore 6, 2) := by decide +kernel
theorem dX3_usefulStates_24 : decode cX3_usefulStates 24 = .ok (.iload 6, 2) := by decide +kernel
theorem dX3_usefulStates_26 : decode cX3_usefulStates 26 = .ok (.aload_n 0, 1) := by decide +kernel
theorem dX3_usefulStates_27 : decode cX3_usefulStates 27 = .ok (.getfield 24, 3) := by decide +kernel
theorem dX3_usefulStates_30 : decode cX3_usefulStates 30 = .ok (.if_icmp .ge 57, 3) := by decide +kernel
theorem dX3_usefulStates_33 : decode cX3_usefulStates 33 = .ok (.iload_n 1, 1) := by decide +kernel
theorem dX3_usefulStates_34 : decode cX3_usefulStates 34 = .ok (.iload 6, 2) := by decide +kernel
theorem dX3_usefulStates_36 : decode cX3_usefulStates 36 = .ok (.invokestatic 66, 3) := by decide +kernel
theorem dX3_usefulStates_39 : decode cX3_usefulStates 39 = .ok (.iconst 1, 1) := by decide +kernel
theorem dX3_usefulStates_40 : decode cX3_usefulStates 40 = .ok (.if_icmp .ne 41, 3) := by decide +kernel
theorem dX3_usefulStates_43 : decode cX3_usefulStates 43 = .ok (.iload 4, 2) := by decide +kernel
theorem dX3_usefulStates_45 : decode cX3_usefulStates 45 = .ok (.aload_n 0, 1) := by decide +kernel
theorem dX3_usefulStates_46 : decode cX3_usefulStates 46 = .ok (.getfield 21, 3) := by decide +kernel
theorem dX3_usefulStates_49 : decode cX3_usefulStates 49 = .ok (.iload 6, 2) := by decide +kernel
theorem dX3_usefulStates_51 : decode cX3_usefulStates 51 = .ok (.iaload, 1) := by decide +kernel
theorem dX3_usefulStates_52 : decode cX3_usefulStates 52 = .ok (.invokestatic 66, 3) := by decide +kernel
theorem dX3_usefulStates_55 : decode cX3_usefulStates 55 = .ok (.iconst 1, 1) := by decide +kernel
theorem dX3_usefulStates_56 : decode cX3_usefulStates 56 = .ok (.if_icmp .ne 25, 3) := by decide +kernel
theorem dX3_usefulStates_59 : decode cX3_usefulStates 59 = .ok (.aload_n 0, 1) := by decide +kernel
theorem dX3_usefulStates_60 : decode cX3_usefulStates 60 = .ok (.iload 6, 2) := by decide +kernel
theorem dX3_usefulStates_62 : decode cX3_usefulStates 62 = .ok (.iload_n 3, 1) := by decide +kernel
theorem dX3_usefulStates_63 : decode cX3_usefulStates 63 = .ok (.iload_n 3, 1) := by decide +kernel
theorem dX3_usefulStates_64 : decode cX3_usefulStates 64 = .ok (.invokevirtual 70, 3) := by decide +kernel
theorem dX3_usefulStates_67 : decode cX3_usefulStates 67 = .ok (.ifCond .eq 14, 3) := by decide +kernel
theorem dX3_usefulStates_70 : decode cX3_usefulStates 70 = .ok (.iload 4, 2) := by decide +kernel
theorem dX3_usefulStates_72 : decode cX3_usefulStates 72 = .ok (.aload_n 0, 1) := by decide +kernel
theorem dX3_usefulStates_73 : decode cX3_usefulStates 73 = .ok (.iload 6, 2) := by decide +kernel
theorem dX3_usefulStates_75 : decode cX3_usefulStates 75 = .ok (.invokevirtual 77, 3) := by decide +kernel
theorem dX3_usefulStates_78 : decode cX3_usefulStates 78 = .ok (.ior, 1) := by decide +kernel
theorem dX3_usefulStates_79 : decode cX3_usefulStates 79 = .ok (.istore 4, 2) := by decide +kernel
theorem dX3_usefulStates_81 : decode cX3_usefulStates 81 = .ok (.iinc 6 1, 3) := by decide +kernel
theorem dX3_usefulStates_84 : decode cX3_usefulStates 84 = .ok (.goto (-60), 3) := by decide +kernel
theorem dX3_usefulStates_87 : decode cX3_usefulStates 87 = .ok (.iinc 5 1, 3) := by decide +kernel
theorem dX3_usefulStates_90 : decode cX3_usefulStates 90 = .ok (.goto (-76), 3) := by decide +kernel
theorem dX3_usefulStates_93 : decode cX3_usefulStates 93 = .ok (.iload 4, 2) := by decide +kernel
theorem dX3_usefulStates_95 : decode cX3_usefulStates 95 = .ok (.ireturn, 1) := by decide +kernel
theorem dX3_armStates_0 : decode cX3_armStates 0 = .ok (.aload_n 0, 1) := by decide +kernel
theorem dX3_armStates_1 : decode cX3_armStates 1 = .ok (.getfield 9, 3) := by decide +kernel
theorem dX3_armStates_4 : decode cX3_armStates 4 = .ok (.iload_n 1, 1) := by decide +kernel
theorem dX3_armStates_5 : decode cX3_armStates 5 = .ok (.iaload, 1) := by decide +kernel
theorem dX3_armStates_6 : decode cX3_armStates 6 = .ok (.invokestatic 58, 3) := by decide +kernel
theorem dX3_armStates_9 : decode cX3_armStates 9 = .ok (.istore_n 2, 1) := by decide +kernel
theorem dX3_armStates_10 : decode cX3_armStates 10 = .ok (.iload_n 2, 1) := by decide +kernel
theorem dX3_armStates_11 : decode cX3_armStates 11 = .ok (.ifCond .le 14, 3) := by decide +kernel
theorem dX3_armStates_14 : decode cX3_armStates 14 = .ok (.iconst 1, 1) := by decide +kernel
theorem dX3_armStates_15 : decode cX3_armStates 15 = .ok (.aload_n 0, 1) := by decide +kernel
theorem dX3_armStates_16 : decode cX3_armStates 16 = .ok (.getfield 15, 3) := by decide +kernel
theorem dX3_armStates_19 : decode cX3_armStates 19 = .ok (.iload_n 1, 1) := by decide +kernel
theorem dX3_armStates_20 : decode cX3_armStates 20 = .ok (.iaload, 1) := by decide +kernel
theorem dX3_armStates_21 : decode cX3_armStates 21 = .ok (.ishl, 1) := by decide +kernel
theorem dX3_armStates_22 : decode cX3_armStates 22 = .ok (.goto 4, 3) := by decide +kernel
theorem dX3_armStates_25 : decode cX3_armStates 25 = .ok (.iconst 0, 1) := by decide +kernel
theorem dX3_armStates_26 : decode cX3_armStates 26 = .ok (.istore_n 3, 1) := by decide +kernel
theorem dX3_armStates_27 : decode cX3_armStates 27 = .ok (.iload_n 2, 1) := by decide +kernel
theorem dX3_armStates_28 : decode cX3_armStates 28 = .ok (.iconst 1, 1) := by decide +kernel
theorem dX3_armStates_29 : decode cX3_armStates 29 = .ok (.if_icmp .le 16, 3) := by decide +kernel
theorem dX3_armStates_32 : decode cX3_armStates 32 = .ok (.iload_n 3, 1) := by decide +kernel
theorem dX3_armStates_33 : decode cX3_armStates 33 = .ok (.iconst 1, 1) := by decide +kernel
theorem dX3_armStates_34 : decode cX3_armStates 34 = .ok (.aload_n 0, 1) := by decide +kernel
theorem dX3_armStates_35 : decode cX3_armStates 35 = .ok (.getfield 18, 3) := by decide +kernel
theorem dX3_armStates_38 : decode cX3_armStates 38 = .ok (.iload_n 1, 1) := by decide +kernel
theorem dX3_armStates_39 : decode cX3_armStates 39 = .ok (.iaload, 1) := by decide +kernel
theorem dX3_armStates_40 : decode cX3_armStates 40 = .ok (.ishl, 1) := by decide +kernel
theorem dX3_armStates_41 : decode cX3_armStates 41 = .ok (.ior, 1) := by decide +kernel
theorem dX3_armStates_42 : decode cX3_armStates 42 = .ok (.goto 4, 3) := by decide +kernel
theorem dX3_armStates_45 : decode cX3_armStates 45 = .ok (.iload_n 3, 1) := by decide +kernel
theorem dX3_armStates_46 : decode cX3_armStates 46 = .ok (.ireturn, 1) := by decide +kernel
theorem dX4_init_0 : decode cX4_init 0 = .ok (.aload_n 0, 1) := by decide +kernel
theorem dX4_init_1 : decode cX4_init 1 = .ok (.invokespecial 5, 3) := by decide +kernel
theorem dX4_init_4 : decode cX4_init 4 = .ok (.aload_n 0, 1) := by decide +kernel
theorem dX4_init_5 : decode cX4_init 5 = .ok (.bipush 120, 2) := by decide +kernel
theorem dX4_init_7 : decode cX4_init 7 = .ok (.newarray .int, 2) := by decide +kernel
theorem dX4_init_9 : decode cX4_init 9 = .ok (.putfield 11, 3) := by decide +kernel
theorem dX4_init_12 : decode cX4_init 12 = .ok (.aload_n 0, 1) := by decide +kernel
theorem dX4_init_13 : decode cX4_init 13 = .ok (.bipush 120, 2) := by decide +kernel
theorem dX4_init_15 : decode cX4_init 15 = .ok (.newarray .int, 2) := by decide +kernel
theorem dX4_init_17 : decode cX4_init 17 = .ok (.putfield 15, 3) := by decide +kernel
theorem dX4_init_20 : decode cX4_init 20 = .ok (.aload_n 0, 1) := by decide +kernel
theorem dX4_init_21 : decode cX4_init 21 = .ok (.bipush 120, 2) := by decide +kernel
theorem dX4_init_23 : decode cX4_init 23 = .ok (.newarray .int, 2) := by decide +kernel
theorem dX4_init_25 : decode cX4_init 25 = .ok (.putfield 18, 3) := by decide +kernel
theorem dX4_init_28 : decode cX4_init 28 = .ok (.aload_n 0, 1) := by decide +kernel
theorem dX4_init_29 : decode cX4_init 29 = .ok (.bipush 120, 2) := by decide +kernel
theorem dX4_init_31 : decode cX4_init 31 = .ok (.newarray .int, 2) := by decide +kernel
theorem dX4_init_33 : decode cX4_init 33 = .ok (.putfield 21, 3) := by decide +kernel
theorem dX4_init_36 : decode cX4_init 36 = .ok (.aload_n 0, 1) := by decide +kernel
theorem dX4_init_37 : decode cX4_init 37 = .ok (.bipush 120, 2) := by decide +kernel
theorem dX4_init_39 : decode cX4_init 39 = .ok (.newarray .int, 2) := by decide +kernel
theorem dX4_init_41 : decode cX4_init 41 = .ok (.putfield 24, 3) := by decide +kernel
theorem dX4_init_44 : decode cX4_init 44 = .ok (.aload_n 0, 1) := by decide +kernel
theorem dX4_init_45 : decode cX4_init 45 = .ok (.bipush 120, 2) := by decide +kernel
theorem dX4_init_47 : decode cX4_init 47 = .ok (.newarray .int, 2) := by decide +kernel
theorem dX4_init_49 : decode cX4_init 49 = .ok (.putfield 27, 3) := by decide +kernel
theorem dX4_init_52 : decode cX4_init 52 = .ok (.aload_n 0, 1) := by decide +kernel
theorem dX4_init_53 : decode cX4_init 53 = .ok (.bipush 120, 2) := by decide +kernel
theorem dX4_init_55 : decode cX4_init 55 = .ok (.newarray .int, 2) := by decide +kernel
theorem dX4_init_57 : decode cX4_init 57 = .ok (.putfield 30, 3) := by decide +kernel
theorem dX4_init_60 : decode cX4_init 60 = .ok (.aload_n 0, 1) := by decide +kernel
theorem dX4_init_61 : decode cX4_init 61 = .ok (.bipush 120, 2) := by decide +kernel
theorem dX4_init_63 : decode cX4_init 63 = .ok (.newarray .boolean, 2) := by decide +kernel
theorem dX4_init_65 : decode cX4_init 65 = .ok (.putfield 33, 3) := by decide +kernel
theorem dX4_init_68 : decode cX4_init 68 = .ok (.aload_n 0, 1) := by decide +kernel
theorem dX4_init_69 : decode cX4_init 69 = .ok (.sipush 4096, 3) := by decide +kernel
theorem dX4_init_72 : decode cX4_init 72 = .ok (.newarray .short, 2) := by decide +kernel
theorem dX4_init_74 : decode cX4_init 74 = .ok (.putfield 37, 3) := by decide +kernel
theorem dX4_init_77 : decode cX4_init 77 = .ok (.aload_n 0, 1) := by decide +kernel
theorem dX4_init_78 : decode cX4_init 78 = .ok (.bipush 8, 2) := by decide +kernel
theorem dX4_init_80 : decode cX4_init 80 = .ok (.newarray .int, 2) := by decide +kernel
theorem dX4_init_82 : decode cX4_init 82 = .ok (.putfield 41, 3) := by decide +kernel
theorem dX4_init_85 : decode cX4_init 85 = .ok (.aload_n 0, 1) := by decide +kernel
theorem dX4_init_86 : decode cX4_init 86 = .ok (.bipush 120, 2) := by decide +kernel
theorem dX4_init_88 : decode cX4_init 88 = .ok (.newarray .short, 2) := by decide +kernel
theorem dX4_init_90 : decode cX4_init 90 = .ok (.putfield 44, 3) := by decide +kernel
theorem dX4_init_93 : decode cX4_init 93 = .ok (.aload_n 0, 1) := by decide +kernel
theorem dX4_init_94 : decode cX4_init 94 = .ok (.sipush 14400, 3) := by decide +kernel
theorem dX4_init_97 : decode cX4_init 97 = .ok (.newarray .short, 2) := by decide +kernel
theorem dX4_init_99 : decode cX4_init 99 = .ok (.putfield 47, 3) := by decide +kernel
theorem dX4_init_102 : decode cX4_init 102 = .ok (.aload_n 0, 1) := by decide +kernel
theorem dX4_init_103 : decode cX4_init 103 = .ok (.new 50, 3) := by decide +kernel
theorem dX4_init_106 : decode cX4_init 106 = .ok (.dup, 1) := by decide +kernel
theorem dX4_init_107 : decode cX4_init 107 = .ok (.invokespecial 52, 3) := by decide +kernel
theorem dX4_init_110 : decode cX4_init 110 = .ok (.putfield 53, 3) := by decide +kernel
theorem dX4_init_113 : decode cX4_init 113 = .ok (.aload_n 0, 1) := by decide +kernel
theorem dX4_init_114 : decode cX4_init 114 = .ok (.new 57, 3) := by decide +kernel
theorem dX4_init_117 : decode cX4_init 117 = .ok (.dup, 1) := by decide +kernel
theorem dX4_init_118 : decode cX4_init 118 = .ok (.invokespecial 59, 3) := by decide +kernel
theorem dX4_init_121 : decode cX4_init 121 = .ok (.putfield 60, 3) := by decide +kernel
theorem dX4_init_124 : decode cX4_init 124 = .ok (.aload_n 0, 1) := by decide +kernel
theorem dX4_init_125 : decode cX4_init 125 = .ok (.new 64, 3) := by decide +kernel
theorem dX4_init_128 : decode cX4_init 128 = .ok (.dup, 1) := by decide +kernel
theorem dX4_init_129 : decode cX4_init 129 = .ok (.invokespecial 66, 3) := by decide +kernel
theorem dX4_init_132 : decode cX4_init 132 = .ok (.putfield 67, 3) := by decide +kernel
theorem dX4_init_135 : decode cX4_init 135 = .ok (.aload_n 0, 1) := by decide +kernel
theorem dX4_init_136 : decode cX4_init 136 = .ok (.iconst (-1), 1) := by decide +kernel
theorem dX4_init_137 : decode cX4_init 137 = .ok (.putfield 71, 3) := by decide +kernel
theorem dX4_init_140 : decode cX4_init 140 = .ok (.aload_n 0, 1) := by decide +kernel
theorem dX4_init_141 : decode cX4_init 141 = .ok (.iconst (-1), 1) := by decide +kernel
theorem dX4_init_142 : decode cX4_init 142 = .ok (.putfield 75, 3) := by decide +kernel
theorem dX4_init_145 : decode cX4_init 145 = .ok (.return_, 1) := by decide +kernel
theorem dX4_forget_0 : decode cX4_forget 0 = .ok (.iconst 0, 1) := by decide +kernel
theorem dX4_forget_1 : decode cX4_forget 1 = .ok (.istore_n 1, 1) := by decide +kernel
theorem dX4_forget_2 : decode cX4_forget 2 = .ok (.iload_n 1, 1) := by decide +kernel
theorem dX4_forget_3 : decode cX4_forget 3 = .ok (.aload_n 0, 1) := by decide +kernel
theorem dX4_forget_4 : decode cX4_forget 4 = .ok (.getfield 78, 3) := by decide +kernel
theorem dX4_forget_7 : decode cX4_forget 7 = .ok (.if_icmp .ge 21, 3) := by decide +kernel
theorem dX4_forget_10 : decode cX4_forget 10 = .ok (.aload_n 0, 1) := by decide +kernel
theorem dX4_forget_11 : decode cX4_forget 11 = .ok (.getfield 37, 3) := by decide +kernel
theorem dX4_forget_14 : decode cX4_forget 14 = .ok (.aload_n 0, 1) := by decide +kernel
theorem dX4_forget_15 : decode cX4_forget 15 = .ok (.getfield 11, 3) := by decide +kernel
theorem dX4_forget_18 : decode cX4_forget 18 = .ok (.iload_n 1, 1) := by decide +kernel
theorem dX4_forget_19 : decode cX4_forget 19 = .ok (.iaload, 1) := by decide +kernel
theorem dX4_forget_20 : decode cX4_forget 20 = .ok (.iconst 0, 1) := by decide +kernel
theorem dX4_forget_21 : decode cX4_forget 21 = .ok (.sastore, 1) := by decide +kernel
theorem dX4_forget_22 : decode cX4_forget 22 = .ok (.iinc 1 1, 3) := by decide +kernel
theorem dX4_forget_25 : decode cX4_forget 25 = .ok (.goto (-23), 3) := by decide +kernel
theorem dX4_forget_28 : decode cX4_forget 28 = .ok (.aload_n 0, 1) := by decide +kernel
theorem dX4_forget_29 : decode cX4_forget 29 = .ok (.iconst 0, 1) := by decide +kernel
theorem dX4_forget_30 : decode cX4_forget 30 = .ok (.putfield 78, 3) := by decide +kernel
theorem dX4_forget_33 : decode cX4_forget 33 = .ok (.aload_n 0, 1) := by decide +kernel
theorem dX4_forget_34 : decode cX4_forget 34 = .ok (.iconst 0, 1) := by decide +kernel
theorem dX4_forget_35 : decode cX4_forget 35 = .ok (.putfield 81, 3) := by decide +kernel
theorem dX4_forget_38 : decode cX4_forget 38 = .ok (.aload_n 0, 1) := by decide +kernel
theorem dX4_forget_39 : decode cX4_forget 39 = .ok (.iconst (-1), 1) := by decide +kernel
theorem dX4_forget_40 : decode cX4_forget 40 = .ok (.putfield 71, 3) := by decide +kernel
theorem dX4_forget_43 : decode cX4_forget 43 = .ok (.aload_n 0, 1) := by decide +kernel
theorem dX4_forget_44 : decode cX4_forget 44 = .ok (.iconst (-1), 1) := by decide +kernel
theorem dX4_forget_45 : decode cX4_forget 45 = .ok (.putfield 75, 3) := by decide +kernel
theorem dX4_forget_48 : decode cX4_forget 48 = .ok (.return_, 1) := by decide +kernel
theorem dX4_learn_0 : decode cX4_learn 0 = .ok (.iload_n 2, 1) := by decide +kernel
theorem dX4_learn_1 : decode cX4_learn 1 = .ok (.aload_n 0, 1) := by decide +kernel
theorem dX4_learn_2 : decode cX4_learn 2 = .ok (.getfield 71, 3) := by decide +kernel
theorem dX4_learn_5 : decode cX4_learn 5 = .ok (.if_icmp .ne 12, 3) := by decide +kernel
theorem dX4_learn_8 : decode cX4_learn 8 = .ok (.iload_n 3, 1) := by decide +kernel
theorem dX4_learn_9 : decode cX4_learn 9 = .ok (.aload_n 0, 1) := by decide +kernel
theorem dX4_learn_10 : decode cX4_learn 10 = .ok (.getfield 75, 3) := by decide +kernel
theorem dX4_learn_13 : decode cX4_learn 13 = .ok (.if_icmp .ne 4, 3) := by decide +kernel
theorem dX4_learn_16 : decode cX4_learn 16 = .ok (.return_, 1) := by decide +kernel
theorem dX4_learn_17 : decode cX4_learn 17 = .ok (.aload_n 0, 1) := by decide +kernel
theorem dX4_learn_18 : decode cX4_learn 18 = .ok (.invokevirtual 85, 3) := by decide +kernel
theorem dX4_learn_21 : decode cX4_learn 21 = .ok (.aload_n 0, 1) := by decide +kernel
theorem dX4_learn_22 : decode cX4_learn 22 = .ok (.getfield 67, 3) := by decide +kernel
theorem dX4_learn_25 : decode cX4_learn 25 = .ok (.aload_n 1, 1) := by decide +kernel
theorem dX4_learn_26 : decode cX4_learn 26 = .ok (.invokevirtual 88, 3) := by decide +kernel
theorem dX4_learn_29 : decode cX4_learn 29 = .ok (.aload_n 0, 1) := by decide +kernel
theorem dX4_learn_30 : decode cX4_learn 30 = .ok (.iload_n 2, 1) := by decide +kernel
theorem dX4_learn_31 : decode cX4_learn 31 = .ok (.putfield 71, 3) := by decide +kernel
theorem dX4_learn_34 : decode cX4_learn 34 = .ok (.aload_n 0, 1) := by decide +kernel
theorem dX4_learn_35 : decode cX4_learn 35 = .ok (.iload_n 3, 1) := by decide +kernel
theorem dX4_learn_36 : decode cX4_learn 36 = .ok (.putfield 75, 3) := by decide +kernel
theorem dX4_learn_39 : decode cX4_learn 39 = .ok (.aload_n 0, 1) := by decide +kernel
theorem dX4_learn_40 : decode cX4_learn 40 = .ok (.invokevirtual 92, 3) := by decide +kernel
theorem dX4_learn_43 : decode cX4_learn 43 = .ok (.iconst 0, 1) := by decide +kernel
theorem dX4_learn_44 : decode cX4_learn 44 = .ok (.istore 4, 2) := by decide +kernel
theorem dX4_learn_46 : decode cX4_learn 46 = .ok (.iload 4, 2) := by decide +kernel
theorem dX4_learn_48 : decode cX4_learn 48 = .ok (.bipush 120, 2) := by decide +kernel
theorem dX4_learn_50 : decode cX4_learn 50 = .ok (.if_icmp .ge 151, 3) := by decide +kernel
theorem dX4_learn_53 : decode cX4_learn 53 = .ok (.aload_n 0, 1) := by decide +kernel
theorem dX4_learn_54 : decode cX4_learn 54 = .ok (.getfield 81, 3) := by decide +kernel
theorem dX4_learn_57 : decode cX4_learn 57 = .ok (.ifCond .ne 144, 3) := by decide +kernel
theorem dX4_learn_60 : decode cX4_learn 60 = .ok (.aload_n 0, 1) := by decide +kernel
theorem dX4_learn_61 : decode cX4_learn 61 = .ok (.invokevirtual 95, 3) := by decide +kernel
theorem dX4_learn_64 : decode cX4_learn 64 = .ok (.istore 5, 2) := by decide +kernel
theorem dX4_learn_66 : decode cX4_learn 66 = .ok (.iload 5, 2) := by decide +kernel
theorem dX4_learn_68 : decode cX4_learn 68 = .ok (.ifCond .ge 4, 3) := by decide +kernel
theorem dX4_learn_71 : decode cX4_learn 71 = .ok (.return_, 1) := by decide +kernel
theorem dX4_learn_72 : decode cX4_learn 72 = .ok (.aload_n 0, 1) := by decide +kernel
theorem dX4_learn_73 : decode cX4_learn 73 = .ok (.getfield 33, 3) := by decide +kernel
theorem dX4_learn_76 : decode cX4_learn 76 = .ok (.iload 5, 2) := by decide +kernel
theorem dX4_learn_78 : decode cX4_learn 78 = .ok (.iconst 1, 1) := by decide +kernel
theorem dX4_learn_79 : decode cX4_learn 79 = .ok (.bastore, 1) := by decide +kernel
theorem dX4_learn_80 : decode cX4_learn 80 = .ok (.aload_n 0, 1) := by decide +kernel
theorem dX4_learn_81 : decode cX4_learn 81 = .ok (.aload_n 0, 1) := by decide +kernel
theorem dX4_learn_82 : decode cX4_learn 82 = .ok (.getfield 41, 3) := by decide +kernel
theorem dX4_learn_85 : decode cX4_learn 85 = .ok (.iconst 4, 1) := by decide +kernel
theorem dX4_learn_86 : decode cX4_learn 86 = .ok (.iaload, 1) := by decide +kernel
theorem dX4_learn_87 : decode cX4_learn 87 = .ok (.aload_n 0, 1) := by decide +kernel
theorem dX4_learn_88 : decode cX4_learn 88 = .ok (.getfield 15, 3) := by decide +kernel
theorem dX4_learn_91 : decode cX4_learn 91 = .ok (.iload 5, 2) := by decide +kernel
theorem dX4_learn_93 : decode cX4_learn 93 = .ok (.iaload, 1) := by decide +kernel
theorem dX4_learn_94 : decode cX4_learn 94 = .ok (.iand, 1) := by decide +kernel
theorem dX4_learn_95 : decode cX4_learn 95 = .ok (.iconst 4, 1) := by decide +kernel
theorem dX4_learn_96 : decode cX4_learn 96 = .ok (.iload 5, 2) := by decide +kernel
theorem dX4_learn_98 : decode cX4_learn 98 = .ok (.iconst (-1), 1) := by decide +kernel
theorem dX4_learn_99 : decode cX4_learn 99 = .ok (.invokevirtual 99, 3) := by decide +kernel
theorem dX4_learn_102 : decode cX4_learn 102 = .ok (.istore 6, 2) := by decide +kernel
theorem dX4_learn_104 : decode cX4_learn 104 = .ok (.aload_n 0, 1) := by decide +kernel
theorem dX4_learn_105 : decode cX4_learn 105 = .ok (.aload_n 0, 1) := by decide +kernel
theorem dX4_learn_106 : decode cX4_learn 106 = .ok (.getfield 41, 3) := by decide +kernel
theorem dX4_learn_109 : decode cX4_learn 109 = .ok (.iconst 5, 1) := by decide +kernel
theorem dX4_learn_110 : decode cX4_learn 110 = .ok (.iaload, 1) := by decide +kernel
theorem dX4_learn_111 : decode cX4_learn 111 = .ok (.aload_n 0, 1) := by decide +kernel
theorem dX4_learn_112 : decode cX4_learn 112 = .ok (.getfield 15, 3) := by decide +kernel
theorem dX4_learn_115 : decode cX4_learn 115 = .ok (.iload 5, 2) := by decide +kernel
theorem dX4_learn_117 : decode cX4_learn 117 = .ok (.iaload, 1) := by decide +kernel
theorem dX4_learn_118 : decode cX4_learn 118 = .ok (.iand, 1) := by decide +kernel
theorem dX4_learn_119 : decode cX4_learn 119 = .ok (.iconst 5, 1) := by decide +kernel
theorem dX4_learn_120 : decode cX4_learn 120 = .ok (.iload 5, 2) := by decide +kernel
theorem dX4_learn_122 : decode cX4_learn 122 = .ok (.iconst (-1), 1) := by decide +kernel
theorem dX4_learn_123 : decode cX4_learn 123 = .ok (.invokevirtual 99, 3) := by decide +kernel
theorem dX4_learn_126 : decode cX4_learn 126 = .ok (.istore 7, 2) := by decide +kernel
theorem dX4_learn_128 : decode cX4_learn 128 = .ok (.aload_n 0, 1) := by decide +kernel
theorem dX4_learn_129 : decode cX4_learn 129 = .ok (.getfield 44, 3) := by decide +kernel
theorem dX4_learn_132 : decode cX4_learn 132 = .ok (.iload 5, 2) := by decide +kernel
theorem dX4_learn_134 : decode cX4_learn 134 = .ok (.iload 6, 2) := by decide +kernel
theorem dX4_learn_136 : decode cX4_learn 136 = .ok (.iload 7, 2) := by decide +kernel
theorem dX4_learn_138 : decode cX4_learn 138 = .ok (.bipush 7, 2) := by decide +kernel
theorem dX4_learn_140 : decode cX4_learn 140 = .ok (.ishl, 1) := by decide +kernel
theorem dX4_learn_141 : decode cX4_learn 141 = .ok (.ior, 1) := by decide +kernel
theorem dX4_learn_142 : decode cX4_learn 142 = .ok (.i2s, 1) := by decide +kernel
theorem dX4_learn_143 : decode cX4_learn 143 = .ok (.sastore, 1) := by decide +kernel
theorem dX4_learn_144 : decode cX4_learn 144 = .ok (.iconst 0, 1) := by decide +kernel
theorem dX4_learn_145 : decode cX4_learn 145 = .ok (.istore 8, 2) := by decide +kernel
theorem dX4_learn_147 : decode cX4_learn 147 = .ok (.iload 8, 2) := by decide +kernel
theorem dX4_learn_149 : decode cX4_learn 149 = .ok (.aload_n 0, 1) := by decide +kernel
theorem dX4_learn_150 : decode cX4_learn 150 = .ok (.getfield 78, 3) := by decide +kernel
theorem dX4_learn_153 : decode cX4_learn 153 = .ok (.if_icmp .ge 42, 3) := by decide +kernel
theorem dX4_learn_156 : decode cX4_learn 156 = .ok (.aload_n 0, 1) := by decide +kernel
theorem dX4_learn_157 : decode cX4_learn 157 = .ok (.getfield 81, 3) := by decide +kernel
theorem dX4_learn_160 : decode cX4_learn 160 = .ok (.ifCond .ne 35, 3) := by decide +kernel
theorem dX4_learn_163 : decode cX4_learn 163 = .ok (.aload_n 0, 1) := by decide +kernel
theorem dX4_learn_164 : decode cX4_learn 164 = .ok (.getfield 33, 3) := by decide +kernel
theorem dX4_learn_167 : decode cX4_learn 167 = .ok (.iload 8, 2) := by decide +kernel
theorem dX4_learn_169 : decode cX4_learn 169 = .ok (.baload, 1) := by decide +kernel
theorem dX4_learn_170 : decode cX4_learn 170 = .ok (.ifCond .eq 19, 3) := by decide +kernel
theorem dX4_learn_173 : decode cX4_learn 173 = .ok (.aload_n 0, 1) := by decide +kernel
theorem dX4_learn_174 : decode cX4_learn 174 = .ok (.iload 5, 2) := by decide +kernel
theorem dX4_learn_176 : decode cX4_learn 176 = .ok (.iload 8, 2) := by decide +kernel
theorem dX4_learn_178 : decode cX4_learn 178 = .ok (.invokevirtual 103, 3) := by decide +kernel
theorem dX4_learn_181 : decode cX4_learn 181 = .ok (.aload_n 0, 1) := by decide +kernel
theorem dX4_learn_182 : decode cX4_learn 182 = .ok (.iload 8, 2) := by decide +kernel
theorem dX4_learn_184 : decode cX4_learn 184 = .ok (.iload 5, 2) := by decide +kernel
theorem dX4_learn_186 : decode cX4_learn 186 = .ok (.invokevirtual 103, 3) := by decide +kernel
theorem dX4_learn_189 : decode cX4_learn 189 = .ok (.iinc 8 1, 3) := by decide +kernel
theorem dX4_learn_192 : decode cX4_learn 192 = .ok (.goto (-45), 3) := by decide +kernel
theorem dX4_learn_195 : decode cX4_learn 195 = .ok (.iinc 4 1, 3) := by decide +kernel
theorem dX4_learn_198 : decode cX4_learn 198 = .ok (.goto (-152), 3) := by decide +kernel
theorem dX4_learn_201 : decode cX4_learn 201 = .ok (.return_, 1) := by decide +kernel
theorem dX4_begin_0 : decode cX4_begin 0 = .ok (.aload_n 0, 1) := by decide +kernel
theorem dX4_begin_1 : decode cX4_begin 1 = .ok (.getfield 53, 3) := by decide +kernel
theorem dX4_begin_4 : decode cX4_begin 4 = .ok (.invokevirtual 107, 3) := by decide +kernel
theorem dX4_begin_7 : decode cX4_begin 7 = .ok (.iconst 0, 1) := by decide +kernel
theorem dX4_begin_8 : decode cX4_begin 8 = .ok (.istore_n 1, 1) := by decide +kernel
theorem dX4_begin_9 : decode cX4_begin 9 = .ok (.iload_n 1, 1) := by decide +kernel
theorem dX4_begin_10 : decode cX4_begin 10 = .ok (.bipush 8, 2) := by decide +kernel
theorem dX4_begin_12 : decode cX4_begin 12 = .ok (.if_icmp .ge 16, 3) := by decide +kernel
theorem dX4_begin_15 : decode cX4_begin 15 = .ok (.aload_n 0, 1) := by decide +kernel
theorem dX4_begin_16 : decode cX4_begin 16 = .ok (.getfield 41, 3) := by decide +kernel
theorem dX4_begin_19 : decode cX4_begin 19 = .ok (.iload_n 1, 1) := by decide +kernel
theorem dX4_begin_20 : decode cX4_begin 20 = .ok (.iconst 0, 1) := by decide +kernel
theorem dX4_begin_21 : decode cX4_begin 21 = .ok (.iastore, 1) := by decide +kernel
theorem dX4_begin_22 : decode cX4_begin 22 = .ok (.iinc 1 1, 3) := by decide +kernel
