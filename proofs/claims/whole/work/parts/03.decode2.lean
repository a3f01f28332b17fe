theorem dX4_begin_25 : decode cX4_begin 25 = .ok (.goto (-16), 3) := by decide +kernel
theorem dX4_begin_28 : decode cX4_begin 28 = .ok (.iconst 0, 1) := by decide +kernel
theorem dX4_begin_29 : decode cX4_begin 29 = .ok (.istore_n 1, 1) := by decide +kernel
theorem dX4_begin_30 : decode cX4_begin 30 = .ok (.iload_n 1, 1) := by decide +kernel
theorem dX4_begin_31 : decode cX4_begin 31 = .ok (.aload_n 0, 1) := by decide +kernel
theorem dX4_begin_32 : decode cX4_begin 32 = .ok (.getfield 67, 3) := by decide +kernel
theorem dX4_begin_35 : decode cX4_begin 35 = .ok (.getfield 108, 3) := by decide +kernel
theorem dX4_begin_38 : decode cX4_begin 38 = .ok (.if_icmp .ge 50, 3) := by decide +kernel
theorem dX4_begin_41 : decode cX4_begin 41 = .ok (.aload_n 0, 1) := by decide +kernel
theorem dX4_begin_42 : decode cX4_begin 42 = .ok (.getfield 41, 3) := by decide +kernel
theorem dX4_begin_45 : decode cX4_begin 45 = .ok (.aload_n 0, 1) := by decide +kernel
theorem dX4_begin_46 : decode cX4_begin 46 = .ok (.getfield 67, 3) := by decide +kernel
theorem dX4_begin_49 : decode cX4_begin 49 = .ok (.getfield 109, 3) := by decide +kernel
theorem dX4_begin_52 : decode cX4_begin 52 = .ok (.iload_n 1, 1) := by decide +kernel
theorem dX4_begin_53 : decode cX4_begin 53 = .ok (.iaload, 1) := by decide +kernel
theorem dX4_begin_54 : decode cX4_begin 54 = .ok (.dup2, 1) := by decide +kernel
theorem dX4_begin_55 : decode cX4_begin 55 = .ok (.iaload, 1) := by decide +kernel
theorem dX4_begin_56 : decode cX4_begin 56 = .ok (.aload_n 0, 1) := by decide +kernel
theorem dX4_begin_57 : decode cX4_begin 57 = .ok (.getfield 71, 3) := by decide +kernel
theorem dX4_begin_60 : decode cX4_begin 60 = .ok (.iload_n 1, 1) := by decide +kernel
theorem dX4_begin_61 : decode cX4_begin 61 = .ok (.invokestatic 110, 3) := by decide +kernel
theorem dX4_begin_64 : decode cX4_begin 64 = .ok (.iload_n 1, 1) := by decide +kernel
theorem dX4_begin_65 : decode cX4_begin 65 = .ok (.ishl, 1) := by decide +kernel
theorem dX4_begin_66 : decode cX4_begin 66 = .ok (.aload_n 0, 1) := by decide +kernel
theorem dX4_begin_67 : decode cX4_begin 67 = .ok (.getfield 75, 3) := by decide +kernel
theorem dX4_begin_70 : decode cX4_begin 70 = .ok (.iload_n 1, 1) := by decide +kernel
theorem dX4_begin_71 : decode cX4_begin 71 = .ok (.invokestatic 110, 3) := by decide +kernel
theorem dX4_begin_74 : decode cX4_begin 74 = .ok (.iload_n 1, 1) := by decide +kernel
theorem dX4_begin_75 : decode cX4_begin 75 = .ok (.bipush 16, 2) := by decide +kernel
theorem dX4_begin_77 : decode cX4_begin 77 = .ok (.iadd, 1) := by decide +kernel
theorem dX4_begin_78 : decode cX4_begin 78 = .ok (.ishl, 1) := by decide +kernel
theorem dX4_begin_79 : decode cX4_begin 79 = .ok (.ior, 1) := by decide +kernel
theorem dX4_begin_80 : decode cX4_begin 80 = .ok (.ior, 1) := by decide +kernel
theorem dX4_begin_81 : decode cX4_begin 81 = .ok (.iastore, 1) := by decide +kernel
theorem dX4_begin_82 : decode cX4_begin 82 = .ok (.iinc 1 1, 3) := by decide +kernel
theorem dX4_begin_85 : decode cX4_begin 85 = .ok (.goto (-55), 3) := by decide +kernel
theorem dX4_begin_88 : decode cX4_begin 88 = .ok (.iconst 0, 1) := by decide +kernel
theorem dX4_begin_89 : decode cX4_begin 89 = .ok (.istore_n 1, 1) := by decide +kernel
theorem dX4_begin_90 : decode cX4_begin 90 = .ok (.iload_n 1, 1) := by decide +kernel
theorem dX4_begin_91 : decode cX4_begin 91 = .ok (.iconst 4, 1) := by decide +kernel
theorem dX4_begin_92 : decode cX4_begin 92 = .ok (.if_icmp .ge 30, 3) := by decide +kernel
theorem dX4_begin_95 : decode cX4_begin 95 = .ok (.aload_n 0, 1) := by decide +kernel
theorem dX4_begin_96 : decode cX4_begin 96 = .ok (.getfield 53, 3) := by decide +kernel
theorem dX4_begin_99 : decode cX4_begin 99 = .ok (.iload_n 1, 1) := by decide +kernel
theorem dX4_begin_100 : decode cX4_begin 100 = .ok (.aload_n 0, 1) := by decide +kernel
theorem dX4_begin_101 : decode cX4_begin 101 = .ok (.aload_n 0, 1) := by decide +kernel
theorem dX4_begin_102 : decode cX4_begin 102 = .ok (.getfield 41, 3) := by decide +kernel
theorem dX4_begin_105 : decode cX4_begin 105 = .ok (.iload_n 1, 1) := by decide +kernel
theorem dX4_begin_106 : decode cX4_begin 106 = .ok (.iaload, 1) := by decide +kernel
theorem dX4_begin_107 : decode cX4_begin 107 = .ok (.iload_n 1, 1) := by decide +kernel
theorem dX4_begin_108 : decode cX4_begin 108 = .ok (.iconst (-1), 1) := by decide +kernel
theorem dX4_begin_109 : decode cX4_begin 109 = .ok (.iconst (-1), 1) := by decide +kernel
theorem dX4_begin_110 : decode cX4_begin 110 = .ok (.invokevirtual 99, 3) := by decide +kernel
theorem dX4_begin_113 : decode cX4_begin 113 = .ok (.invokevirtual 114, 3) := by decide +kernel
theorem dX4_begin_116 : decode cX4_begin 116 = .ok (.iinc 1 1, 3) := by decide +kernel
theorem dX4_begin_119 : decode cX4_begin 119 = .ok (.goto (-29), 3) := by decide +kernel
theorem dX4_begin_122 : decode cX4_begin 122 = .ok (.return_, 1) := by decide +kernel
theorem dX4_nearest_0 : decode cX4_nearest 0 = .ok (.iconst (-1), 1) := by decide +kernel
theorem dX4_nearest_1 : decode cX4_nearest 1 = .ok (.istore_n 1, 1) := by decide +kernel
theorem dX4_nearest_2 : decode cX4_nearest 2 = .ok (.iconst 0, 1) := by decide +kernel
theorem dX4_nearest_3 : decode cX4_nearest 3 = .ok (.istore_n 2, 1) := by decide +kernel
theorem dX4_nearest_4 : decode cX4_nearest 4 = .ok (.iload_n 2, 1) := by decide +kernel
theorem dX4_nearest_5 : decode cX4_nearest 5 = .ok (.aload_n 0, 1) := by decide +kernel
theorem dX4_nearest_6 : decode cX4_nearest 6 = .ok (.getfield 78, 3) := by decide +kernel
theorem dX4_nearest_9 : decode cX4_nearest 9 = .ok (.if_icmp .ge 39, 3) := by decide +kernel
theorem dX4_nearest_12 : decode cX4_nearest 12 = .ok (.aload_n 0, 1) := by decide +kernel
theorem dX4_nearest_13 : decode cX4_nearest 13 = .ok (.getfield 33, 3) := by decide +kernel
theorem dX4_nearest_16 : decode cX4_nearest 16 = .ok (.iload_n 2, 1) := by decide +kernel
theorem dX4_nearest_17 : decode cX4_nearest 17 = .ok (.baload, 1) := by decide +kernel
theorem dX4_nearest_18 : decode cX4_nearest 18 = .ok (.ifCond .ne 24, 3) := by decide +kernel
theorem dX4_nearest_21 : decode cX4_nearest 21 = .ok (.iload_n 1, 1) := by decide +kernel
theorem dX4_nearest_22 : decode cX4_nearest 22 = .ok (.ifCond .lt 18, 3) := by decide +kernel
theorem dX4_nearest_25 : decode cX4_nearest 25 = .ok (.aload_n 0, 1) := by decide +kernel
theorem dX4_nearest_26 : decode cX4_nearest 26 = .ok (.getfield 21, 3) := by decide +kernel
theorem dX4_nearest_29 : decode cX4_nearest 29 = .ok (.iload_n 2, 1) := by decide +kernel
theorem dX4_nearest_30 : decode cX4_nearest 30 = .ok (.iaload, 1) := by decide +kernel
theorem dX4_nearest_31 : decode cX4_nearest 31 = .ok (.aload_n 0, 1) := by decide +kernel
theorem dX4_nearest_32 : decode cX4_nearest 32 = .ok (.getfield 21, 3) := by decide +kernel
theorem dX4_nearest_35 : decode cX4_nearest 35 = .ok (.iload_n 1, 1) := by decide +kernel
theorem dX4_nearest_36 : decode cX4_nearest 36 = .ok (.iaload, 1) := by decide +kernel
theorem dX4_nearest_37 : decode cX4_nearest 37 = .ok (.if_icmp .ge 5, 3) := by decide +kernel
theorem dX4_nearest_40 : decode cX4_nearest 40 = .ok (.iload_n 2, 1) := by decide +kernel
theorem dX4_nearest_41 : decode cX4_nearest 41 = .ok (.istore_n 1, 1) := by decide +kernel
theorem dX4_nearest_42 : decode cX4_nearest 42 = .ok (.iinc 2 1, 3) := by decide +kernel
theorem dX4_nearest_45 : decode cX4_nearest 45 = .ok (.goto (-41), 3) := by decide +kernel
theorem dX4_nearest_48 : decode cX4_nearest 48 = .ok (.iload_n 1, 1) := by decide +kernel
theorem dX4_nearest_49 : decode cX4_nearest 49 = .ok (.ireturn, 1) := by decide +kernel
theorem dX4_join_0 : decode cX4_join 0 = .ok (.aload_n 0, 1) := by decide +kernel
theorem dX4_join_1 : decode cX4_join 1 = .ok (.getfield 15, 3) := by decide +kernel
theorem dX4_join_4 : decode cX4_join 4 = .ok (.iload_n 1, 1) := by decide +kernel
theorem dX4_join_5 : decode cX4_join 5 = .ok (.iaload, 1) := by decide +kernel
theorem dX4_join_6 : decode cX4_join 6 = .ok (.aload_n 0, 1) := by decide +kernel
theorem dX4_join_7 : decode cX4_join 7 = .ok (.getfield 18, 3) := by decide +kernel
theorem dX4_join_10 : decode cX4_join 10 = .ok (.iload_n 2, 1) := by decide +kernel
theorem dX4_join_11 : decode cX4_join 11 = .ok (.iaload, 1) := by decide +kernel
theorem dX4_join_12 : decode cX4_join 12 = .ok (.iand, 1) := by decide +kernel
theorem dX4_join_13 : decode cX4_join 13 = .ok (.istore_n 3, 1) := by decide +kernel
theorem dX4_join_14 : decode cX4_join 14 = .ok (.aload_n 0, 1) := by decide +kernel
theorem dX4_join_15 : decode cX4_join 15 = .ok (.aload_n 0, 1) := by decide +kernel
theorem dX4_join_16 : decode cX4_join 16 = .ok (.getfield 41, 3) := by decide +kernel
theorem dX4_join_19 : decode cX4_join 19 = .ok (.bipush 6, 2) := by decide +kernel
theorem dX4_join_21 : decode cX4_join 21 = .ok (.iaload, 1) := by decide +kernel
theorem dX4_join_22 : decode cX4_join 22 = .ok (.iload_n 3, 1) := by decide +kernel
theorem dX4_join_23 : decode cX4_join 23 = .ok (.iand, 1) := by decide +kernel
theorem dX4_join_24 : decode cX4_join 24 = .ok (.bipush 6, 2) := by decide +kernel
theorem dX4_join_26 : decode cX4_join 26 = .ok (.iload_n 1, 1) := by decide +kernel
theorem dX4_join_27 : decode cX4_join 27 = .ok (.iload_n 2, 1) := by decide +kernel
theorem dX4_join_28 : decode cX4_join 28 = .ok (.invokevirtual 99, 3) := by decide +kernel
theorem dX4_join_31 : decode cX4_join 31 = .ok (.istore 4, 2) := by decide +kernel
theorem dX4_join_33 : decode cX4_join 33 = .ok (.aload_n 0, 1) := by decide +kernel
theorem dX4_join_34 : decode cX4_join 34 = .ok (.aload_n 0, 1) := by decide +kernel
theorem dX4_join_35 : decode cX4_join 35 = .ok (.getfield 41, 3) := by decide +kernel
theorem dX4_join_38 : decode cX4_join 38 = .ok (.bipush 7, 2) := by decide +kernel
theorem dX4_join_40 : decode cX4_join 40 = .ok (.iaload, 1) := by decide +kernel
theorem dX4_join_41 : decode cX4_join 41 = .ok (.iload_n 3, 1) := by decide +kernel
theorem dX4_join_42 : decode cX4_join 42 = .ok (.iand, 1) := by decide +kernel
theorem dX4_join_43 : decode cX4_join 43 = .ok (.bipush 7, 2) := by decide +kernel
theorem dX4_join_45 : decode cX4_join 45 = .ok (.iload_n 1, 1) := by decide +kernel
theorem dX4_join_46 : decode cX4_join 46 = .ok (.iload_n 2, 1) := by decide +kernel
theorem dX4_join_47 : decode cX4_join 47 = .ok (.invokevirtual 99, 3) := by decide +kernel
theorem dX4_join_50 : decode cX4_join 50 = .ok (.istore 5, 2) := by decide +kernel
theorem dX4_join_52 : decode cX4_join 52 = .ok (.aload_n 0, 1) := by decide +kernel
theorem dX4_join_53 : decode cX4_join 53 = .ok (.getfield 47, 3) := by decide +kernel
theorem dX4_join_56 : decode cX4_join 56 = .ok (.iload_n 1, 1) := by decide +kernel
theorem dX4_join_57 : decode cX4_join 57 = .ok (.bipush 120, 2) := by decide +kernel
theorem dX4_join_59 : decode cX4_join 59 = .ok (.imul, 1) := by decide +kernel
theorem dX4_join_60 : decode cX4_join 60 = .ok (.iload_n 2, 1) := by decide +kernel
theorem dX4_join_61 : decode cX4_join 61 = .ok (.iadd, 1) := by decide +kernel
theorem dX4_join_62 : decode cX4_join 62 = .ok (.iload 4, 2) := by decide +kernel
theorem dX4_join_64 : decode cX4_join 64 = .ok (.iload 5, 2) := by decide +kernel
theorem dX4_join_66 : decode cX4_join 66 = .ok (.bipush 7, 2) := by decide +kernel
theorem dX4_join_68 : decode cX4_join 68 = .ok (.ishl, 1) := by decide +kernel
theorem dX4_join_69 : decode cX4_join 69 = .ok (.ior, 1) := by decide +kernel
theorem dX4_join_70 : decode cX4_join 70 = .ok (.i2s, 1) := by decide +kernel
theorem dX4_join_71 : decode cX4_join 71 = .ok (.sastore, 1) := by decide +kernel
theorem dX4_join_72 : decode cX4_join 72 = .ok (.return_, 1) := by decide +kernel
theorem dX4_offer_0 : decode cX4_offer 0 = .ok (.aload_n 0, 1) := by decide +kernel
theorem dX4_offer_1 : decode cX4_offer 1 = .ok (.iload_n 1, 1) := by decide +kernel
theorem dX4_offer_2 : decode cX4_offer 2 = .ok (.invokevirtual 117, 3) := by decide +kernel
theorem dX4_offer_5 : decode cX4_offer 5 = .ok (.istore 5, 2) := by decide +kernel
theorem dX4_offer_7 : decode cX4_offer 7 = .ok (.aload_n 0, 1) := by decide +kernel
theorem dX4_offer_8 : decode cX4_offer 8 = .ok (.getfield 37, 3) := by decide +kernel
theorem dX4_offer_11 : decode cX4_offer 11 = .ok (.iload 5, 2) := by decide +kernel
theorem dX4_offer_13 : decode cX4_offer 13 = .ok (.saload, 1) := by decide +kernel
theorem dX4_offer_14 : decode cX4_offer 14 = .ok (.iconst 1, 1) := by decide +kernel
theorem dX4_offer_15 : decode cX4_offer 15 = .ok (.isub, 1) := by decide +kernel
theorem dX4_offer_16 : decode cX4_offer 16 = .ok (.istore 6, 2) := by decide +kernel
theorem dX4_offer_18 : decode cX4_offer 18 = .ok (.aload_n 0, 1) := by decide +kernel
theorem dX4_offer_19 : decode cX4_offer 19 = .ok (.iload_n 3, 1) := by decide +kernel
theorem dX4_offer_20 : decode cX4_offer 20 = .ok (.iload 4, 2) := by decide +kernel
theorem dX4_offer_22 : decode cX4_offer 22 = .ok (.invokevirtual 121, 3) := by decide +kernel
theorem dX4_offer_25 : decode cX4_offer 25 = .ok (.istore 7, 2) := by decide +kernel
theorem dX4_offer_27 : decode cX4_offer 27 = .ok (.iload 6, 2) := by decide +kernel
theorem dX4_offer_29 : decode cX4_offer 29 = .ok (.ifCond .ge 34, 3) := by decide +kernel
theorem dX4_offer_32 : decode cX4_offer 32 = .ok (.aload_n 0, 1) := by decide +kernel
theorem dX4_offer_33 : decode cX4_offer 33 = .ok (.getfield 78, 3) := by decide +kernel
theorem dX4_offer_36 : decode cX4_offer 36 = .ok (.bipush 120, 2) := by decide +kernel
theorem dX4_offer_38 : decode cX4_offer 38 = .ok (.if_icmp .lt 10, 3) := by decide +kernel
theorem dX4_offer_41 : decode cX4_offer 41 = .ok (.aload_n 0, 1) := by decide +kernel
theorem dX4_offer_42 : decode cX4_offer 42 = .ok (.iconst 1, 1) := by decide +kernel
theorem dX4_offer_43 : decode cX4_offer 43 = .ok (.putfield 81, 3) := by decide +kernel
theorem dX4_offer_46 : decode cX4_offer 46 = .ok (.iconst 0, 1) := by decide +kernel
theorem dX4_offer_47 : decode cX4_offer 47 = .ok (.ireturn, 1) := by decide +kernel
theorem dX4_offer_48 : decode cX4_offer 48 = .ok (.aload_n 0, 1) := by decide +kernel
theorem dX4_offer_49 : decode cX4_offer 49 = .ok (.getfield 78, 3) := by decide +kernel
theorem dX4_offer_52 : decode cX4_offer 52 = .ok (.istore 6, 2) := by decide +kernel
theorem dX4_offer_54 : decode cX4_offer 54 = .ok (.aload_n 0, 1) := by decide +kernel
theorem dX4_offer_55 : decode cX4_offer 55 = .ok (.iload 5, 2) := by decide +kernel
theorem dX4_offer_57 : decode cX4_offer 57 = .ok (.invokevirtual 124, 3) := by decide +kernel
theorem dX4_offer_60 : decode cX4_offer 60 = .ok (.goto 31, 3) := by decide +kernel
theorem dX4_offer_63 : decode cX4_offer 63 = .ok (.aload_n 0, 1) := by decide +kernel
theorem dX4_offer_64 : decode cX4_offer 64 = .ok (.getfield 33, 3) := by decide +kernel
theorem dX4_offer_67 : decode cX4_offer 67 = .ok (.iload 6, 2) := by decide +kernel
theorem dX4_offer_69 : decode cX4_offer 69 = .ok (.baload, 1) := by decide +kernel
theorem dX4_offer_70 : decode cX4_offer 70 = .ok (.ifCond .ne 18, 3) := by decide +kernel
theorem dX4_offer_73 : decode cX4_offer 73 = .ok (.aload_n 0, 1) := by decide +kernel
theorem dX4_offer_74 : decode cX4_offer 74 = .ok (.iload 7, 2) := by decide +kernel
theorem dX4_offer_76 : decode cX4_offer 76 = .ok (.iload_n 2, 1) := by decide +kernel
theorem dX4_offer_77 : decode cX4_offer 77 = .ok (.iload_n 3, 1) := by decide +kernel
theorem dX4_offer_78 : decode cX4_offer 78 = .ok (.iload 4, 2) := by decide +kernel
theorem dX4_offer_80 : decode cX4_offer 80 = .ok (.iload 6, 2) := by decide +kernel
theorem dX4_offer_82 : decode cX4_offer 82 = .ok (.invokevirtual 128, 3) := by decide +kernel
theorem dX4_offer_85 : decode cX4_offer 85 = .ok (.ifCond .ne 6, 3) := by decide +kernel
theorem dX4_offer_88 : decode cX4_offer 88 = .ok (.iload 6, 2) := by decide +kernel
theorem dX4_offer_90 : decode cX4_offer 90 = .ok (.ireturn, 1) := by decide +kernel
theorem dX4_offer_91 : decode cX4_offer 91 = .ok (.aload_n 0, 1) := by decide +kernel
theorem dX4_offer_92 : decode cX4_offer 92 = .ok (.getfield 21, 3) := by decide +kernel
theorem dX4_offer_95 : decode cX4_offer 95 = .ok (.iload 6, 2) := by decide +kernel
theorem dX4_offer_97 : decode cX4_offer 97 = .ok (.iload 7, 2) := by decide +kernel
theorem dX4_offer_99 : decode cX4_offer 99 = .ok (.iastore, 1) := by decide +kernel
theorem dX4_offer_100 : decode cX4_offer 100 = .ok (.aload_n 0, 1) := by decide +kernel
theorem dX4_offer_101 : decode cX4_offer 101 = .ok (.getfield 24, 3) := by decide +kernel
theorem dX4_offer_104 : decode cX4_offer 104 = .ok (.iload 6, 2) := by decide +kernel
theorem dX4_offer_106 : decode cX4_offer 106 = .ok (.iload_n 2, 1) := by decide +kernel
theorem dX4_offer_107 : decode cX4_offer 107 = .ok (.iastore, 1) := by decide +kernel
theorem dX4_offer_108 : decode cX4_offer 108 = .ok (.aload_n 0, 1) := by decide +kernel
theorem dX4_offer_109 : decode cX4_offer 109 = .ok (.getfield 27, 3) := by decide +kernel
theorem dX4_offer_112 : decode cX4_offer 112 = .ok (.iload 6, 2) := by decide +kernel
theorem dX4_offer_114 : decode cX4_offer 114 = .ok (.iload_n 3, 1) := by decide +kernel
theorem dX4_offer_115 : decode cX4_offer 115 = .ok (.iastore, 1) := by decide +kernel
theorem dX4_offer_116 : decode cX4_offer 116 = .ok (.aload_n 0, 1) := by decide +kernel
theorem dX4_offer_117 : decode cX4_offer 117 = .ok (.getfield 30, 3) := by decide +kernel
theorem dX4_offer_120 : decode cX4_offer 120 = .ok (.iload 6, 2) := by decide +kernel
theorem dX4_offer_122 : decode cX4_offer 122 = .ok (.iload 4, 2) := by decide +kernel
theorem dX4_offer_124 : decode cX4_offer 124 = .ok (.iastore, 1) := by decide +kernel
theorem dX4_offer_125 : decode cX4_offer 125 = .ok (.iload 6, 2) := by decide +kernel
theorem dX4_offer_127 : decode cX4_offer 127 = .ok (.ireturn, 1) := by decide +kernel
theorem dX4_resultsOf_0 : decode cX4_resultsOf 0 = .ok (.iconst 0, 1) := by decide +kernel
theorem dX4_resultsOf_1 : decode cX4_resultsOf 1 = .ok (.istore_n 2, 1) := by decide +kernel
theorem dX4_resultsOf_2 : decode cX4_resultsOf 2 = .ok (.iconst 0, 1) := by decide +kernel
theorem dX4_resultsOf_3 : decode cX4_resultsOf 3 = .ok (.istore_n 3, 1) := by decide +kernel
theorem dX4_resultsOf_4 : decode cX4_resultsOf 4 = .ok (.iload_n 3, 1) := by decide +kernel
theorem dX4_resultsOf_5 : decode cX4_resultsOf 5 = .ok (.aload_n 0, 1) := by decide +kernel
theorem dX4_resultsOf_6 : decode cX4_resultsOf 6 = .ok (.getfield 67, 3) := by decide +kernel
theorem dX4_resultsOf_9 : decode cX4_resultsOf 9 = .ok (.getfield 108, 3) := by decide +kernel
theorem dX4_resultsOf_12 : decode cX4_resultsOf 12 = .ok (.if_icmp .ge 55, 3) := by decide +kernel
theorem dX4_resultsOf_15 : decode cX4_resultsOf 15 = .ok (.iload_n 1, 1) := by decide +kernel
theorem dX4_resultsOf_16 : decode cX4_resultsOf 16 = .ok (.ifCond .eq 51, 3) := by decide +kernel
theorem dX4_resultsOf_19 : decode cX4_resultsOf 19 = .ok (.iload_n 2, 1) := by decide +kernel
theorem dX4_resultsOf_20 : decode cX4_resultsOf 20 = .ok (.iload_n 1, 1) := by decide +kernel
theorem dX4_resultsOf_21 : decode cX4_resultsOf 21 = .ok (.iload_n 3, 1) := by decide +kernel
theorem dX4_resultsOf_22 : decode cX4_resultsOf 22 = .ok (.invokestatic 110, 3) := by decide +kernel
theorem dX4_resultsOf_25 : decode cX4_resultsOf 25 = .ok (.aload_n 0, 1) := by decide +kernel
theorem dX4_resultsOf_26 : decode cX4_resultsOf 26 = .ok (.getfield 67, 3) := by decide +kernel
theorem dX4_resultsOf_29 : decode cX4_resultsOf 29 = .ok (.getfield 132, 3) := by decide +kernel
theorem dX4_resultsOf_32 : decode cX4_resultsOf 32 = .ok (.iload_n 3, 1) := by decide +kernel
theorem dX4_resultsOf_33 : decode cX4_resultsOf 33 = .ok (.iaload, 1) := by decide +kernel
theorem dX4_resultsOf_34 : decode cX4_resultsOf 34 = .ok (.ishl, 1) := by decide +kernel
theorem dX4_resultsOf_35 : decode cX4_resultsOf 35 = .ok (.ior, 1) := by decide +kernel
theorem dX4_resultsOf_36 : decode cX4_resultsOf 36 = .ok (.istore_n 2, 1) := by decide +kernel
theorem dX4_resultsOf_37 : decode cX4_resultsOf 37 = .ok (.iload_n 2, 1) := by decide +kernel
theorem dX4_resultsOf_38 : decode cX4_resultsOf 38 = .ok (.iload_n 1, 1) := by decide +kernel
theorem dX4_resultsOf_39 : decode cX4_resultsOf 39 = .ok (.iload_n 3, 1) := by decide +kernel
theorem dX4_resultsOf_40 : decode cX4_resultsOf 40 = .ok (.bipush 16, 2) := by decide +kernel
theorem dX4_resultsOf_42 : decode cX4_resultsOf 42 = .ok (.iadd, 1) := by decide +kernel
theorem dX4_resultsOf_43 : decode cX4_resultsOf 43 = .ok (.invokestatic 110, 3) := by decide +kernel
theorem dX4_resultsOf_46 : decode cX4_resultsOf 46 = .ok (.aload_n 0, 1) := by decide +kernel
theorem dX4_resultsOf_47 : decode cX4_resultsOf 47 = .ok (.getfield 67, 3) := by decide +kernel
theorem dX4_resultsOf_50 : decode cX4_resultsOf 50 = .ok (.getfield 132, 3) := by decide +kernel
theorem dX4_resultsOf_53 : decode cX4_resultsOf 53 = .ok (.iload_n 3, 1) := by decide +kernel
theorem dX4_resultsOf_54 : decode cX4_resultsOf 54 = .ok (.iaload, 1) := by decide +kernel
theorem dX4_resultsOf_55 : decode cX4_resultsOf 55 = .ok (.bipush 6, 2) := by decide +kernel
theorem dX4_resultsOf_57 : decode cX4_resultsOf 57 = .ok (.iadd, 1) := by decide +kernel
theorem dX4_resultsOf_58 : decode cX4_resultsOf 58 = .ok (.ishl, 1) := by decide +kernel
theorem dX4_resultsOf_59 : decode cX4_resultsOf 59 = .ok (.ior, 1) := by decide +kernel
theorem dX4_resultsOf_60 : decode cX4_resultsOf 60 = .ok (.istore_n 2, 1) := by decide +kernel
theorem dX4_resultsOf_61 : decode cX4_resultsOf 61 = .ok (.iinc 3 1, 3) := by decide +kernel
theorem dX4_resultsOf_64 : decode cX4_resultsOf 64 = .ok (.goto (-60), 3) := by decide +kernel
theorem dX4_resultsOf_67 : decode cX4_resultsOf 67 = .ok (.iload_n 2, 1) := by decide +kernel
theorem dX4_resultsOf_68 : decode cX4_resultsOf 68 = .ok (.ireturn, 1) := by decide +kernel
theorem dX4_sizeOver_0 : decode cX4_sizeOver 0 = .ok (.iconst 1, 1) := by decide +kernel
theorem dX4_sizeOver_1 : decode cX4_sizeOver 1 = .ok (.istore_n 3, 1) := by decide +kernel
theorem dX4_sizeOver_2 : decode cX4_sizeOver 2 = .ok (.iload_n 1, 1) := by decide +kernel
theorem dX4_sizeOver_3 : decode cX4_sizeOver 3 = .ok (.ifCond .lt 12, 3) := by decide +kernel
theorem dX4_sizeOver_6 : decode cX4_sizeOver 6 = .ok (.iload_n 3, 1) := by decide +kernel
theorem dX4_sizeOver_7 : decode cX4_sizeOver 7 = .ok (.aload_n 0, 1) := by decide +kernel
theorem dX4_sizeOver_8 : decode cX4_sizeOver 8 = .ok (.getfield 21, 3) := by decide +kernel
theorem dX4_sizeOver_11 : decode cX4_sizeOver 11 = .ok (.iload_n 1, 1) := by decide +kernel
theorem dX4_sizeOver_12 : decode cX4_sizeOver 12 = .ok (.iaload, 1) := by decide +kernel
theorem dX4_sizeOver_13 : decode cX4_sizeOver 13 = .ok (.iadd, 1) := by decide +kernel
theorem dX4_sizeOver_14 : decode cX4_sizeOver 14 = .ok (.istore_n 3, 1) := by decide +kernel
theorem dX4_sizeOver_15 : decode cX4_sizeOver 15 = .ok (.iload_n 2, 1) := by decide +kernel
theorem dX4_sizeOver_16 : decode cX4_sizeOver 16 = .ok (.ifCond .lt 12, 3) := by decide +kernel
theorem dX4_sizeOver_19 : decode cX4_sizeOver 19 = .ok (.iload_n 3, 1) := by decide +kernel
theorem dX4_sizeOver_20 : decode cX4_sizeOver 20 = .ok (.aload_n 0, 1) := by decide +kernel
theorem dX4_sizeOver_21 : decode cX4_sizeOver 21 = .ok (.getfield 21, 3) := by decide +kernel
theorem dX4_sizeOver_24 : decode cX4_sizeOver 24 = .ok (.iload_n 2, 1) := by decide +kernel
theorem dX4_sizeOver_25 : decode cX4_sizeOver 25 = .ok (.iaload, 1) := by decide +kernel
theorem dX4_sizeOver_26 : decode cX4_sizeOver 26 = .ok (.iadd, 1) := by decide +kernel
theorem dX4_sizeOver_27 : decode cX4_sizeOver 27 = .ok (.istore_n 3, 1) := by decide +kernel
theorem dX4_sizeOver_28 : decode cX4_sizeOver 28 = .ok (.iload_n 3, 1) := by decide +kernel
theorem dX4_sizeOver_29 : decode cX4_sizeOver 29 = .ok (.bipush 32, 2) := by decide +kernel
theorem dX4_sizeOver_31 : decode cX4_sizeOver 31 = .ok (.invokestatic 135, 3) := by decide +kernel
theorem dX4_sizeOver_34 : decode cX4_sizeOver 34 = .ok (.ireturn, 1) := by decide +kernel
theorem dX4_add_0 : decode cX4_add 0 = .ok (.aload_n 0, 1) := by decide +kernel
theorem dX4_add_1 : decode cX4_add 1 = .ok (.getfield 78, 3) := by decide +kernel
theorem dX4_add_4 : decode cX4_add 4 = .ok (.istore_n 2, 1) := by decide +kernel
theorem dX4_add_5 : decode cX4_add 5 = .ok (.aload_n 0, 1) := by decide +kernel
theorem dX4_add_6 : decode cX4_add 6 = .ok (.dup, 1) := by decide +kernel
theorem dX4_add_7 : decode cX4_add 7 = .ok (.getfield 78, 3) := by decide +kernel
theorem dX4_add_10 : decode cX4_add 10 = .ok (.iconst 1, 1) := by decide +kernel
theorem dX4_add_11 : decode cX4_add 11 = .ok (.iadd, 1) := by decide +kernel
theorem dX4_add_12 : decode cX4_add 12 = .ok (.putfield 78, 3) := by decide +kernel
theorem dX4_add_15 : decode cX4_add 15 = .ok (.aload_n 0, 1) := by decide +kernel
theorem dX4_add_16 : decode cX4_add 16 = .ok (.getfield 37, 3) := by decide +kernel
theorem dX4_add_19 : decode cX4_add 19 = .ok (.iload_n 1, 1) := by decide +kernel
theorem dX4_add_20 : decode cX4_add 20 = .ok (.aload_n 0, 1) := by decide +kernel
theorem dX4_add_21 : decode cX4_add 21 = .ok (.getfield 78, 3) := by decide +kernel
theorem dX4_add_24 : decode cX4_add 24 = .ok (.i2s, 1) := by decide +kernel
theorem dX4_add_25 : decode cX4_add 25 = .ok (.sastore, 1) := by decide +kernel
theorem dX4_add_26 : decode cX4_add 26 = .ok (.aload_n 0, 1) := by decide +kernel
theorem dX4_add_27 : decode cX4_add 27 = .ok (.getfield 11, 3) := by decide +kernel
theorem dX4_add_30 : decode cX4_add 30 = .ok (.iload_n 2, 1) := by decide +kernel
theorem dX4_add_31 : decode cX4_add 31 = .ok (.iload_n 1, 1) := by decide +kernel
theorem dX4_add_32 : decode cX4_add 32 = .ok (.iastore, 1) := by decide +kernel
theorem dX4_add_33 : decode cX4_add 33 = .ok (.aload_n 0, 1) := by decide +kernel
theorem dX4_add_34 : decode cX4_add 34 = .ok (.getfield 33, 3) := by decide +kernel
theorem dX4_add_37 : decode cX4_add 37 = .ok (.iload_n 2, 1) := by decide +kernel
theorem dX4_add_38 : decode cX4_add 38 = .ok (.iconst 0, 1) := by decide +kernel
theorem dX4_add_39 : decode cX4_add 39 = .ok (.bastore, 1) := by decide +kernel
theorem dX4_add_40 : decode cX4_add 40 = .ok (.aload_n 0, 1) := by decide +kernel
theorem dX4_add_41 : decode cX4_add 41 = .ok (.getfield 15, 3) := by decide +kernel
theorem dX4_add_44 : decode cX4_add 44 = .ok (.iload_n 2, 1) := by decide +kernel
theorem dX4_add_45 : decode cX4_add 45 = .ok (.iconst 0, 1) := by decide +kernel
theorem dX4_add_46 : decode cX4_add 46 = .ok (.iastore, 1) := by decide +kernel
theorem dX4_add_47 : decode cX4_add 47 = .ok (.aload_n 0, 1) := by decide +kernel
theorem dX4_add_48 : decode cX4_add 48 = .ok (.getfield 18, 3) := by decide +kernel
theorem dX4_add_51 : decode cX4_add 51 = .ok (.iload_n 2, 1) := by decide +kernel
theorem dX4_add_52 : decode cX4_add 52 = .ok (.iconst 0, 1) := by decide +kernel
theorem dX4_add_53 : decode cX4_add 53 = .ok (.iastore, 1) := by decide +kernel
theorem dX4_add_54 : decode cX4_add 54 = .ok (.iconst 0, 1) := by decide +kernel
theorem dX4_add_55 : decode cX4_add 55 = .ok (.istore_n 3, 1) := by decide +kernel
theorem dX4_add_56 : decode cX4_add 56 = .ok (.iload_n 3, 1) := by decide +kernel
theorem dX4_add_57 : decode cX4_add 57 = .ok (.aload_n 0, 1) := by decide +kernel
theorem dX4_add_58 : decode cX4_add 58 = .ok (.getfield 67, 3) := by decide +kernel
theorem dX4_add_61 : decode cX4_add 61 = .ok (.getfield 108, 3) := by decide +kernel
theorem dX4_add_64 : decode cX4_add 64 = .ok (.if_icmp .ge 86, 3) := by decide +kernel
theorem dX4_add_67 : decode cX4_add 67 = .ok (.aload_n 0, 1) := by decide +kernel
theorem dX4_add_68 : decode cX4_add 68 = .ok (.getfield 67, 3) := by decide +kernel
theorem dX4_add_71 : decode cX4_add 71 = .ok (.getfield 109, 3) := by decide +kernel
theorem dX4_add_74 : decode cX4_add 74 = .ok (.iload_n 3, 1) := by decide +kernel
theorem dX4_add_75 : decode cX4_add 75 = .ok (.iaload, 1) := by decide +kernel
theorem dX4_add_76 : decode cX4_add 76 = .ok (.invokestatic 140, 3) := by decide +kernel
theorem dX4_add_79 : decode cX4_add 79 = .ok (.ifCond .le 26, 3) := by decide +kernel
theorem dX4_add_82 : decode cX4_add 82 = .ok (.aload_n 0, 1) := by decide +kernel
theorem dX4_add_83 : decode cX4_add 83 = .ok (.getfield 15, 3) := by decide +kernel
theorem dX4_add_86 : decode cX4_add 86 = .ok (.iload_n 2, 1) := by decide +kernel
theorem dX4_add_87 : decode cX4_add 87 = .ok (.dup2, 1) := by decide +kernel
theorem dX4_add_88 : decode cX4_add 88 = .ok (.iaload, 1) := by decide +kernel
theorem dX4_add_89 : decode cX4_add 89 = .ok (.iload_n 1, 1) := by decide +kernel
theorem dX4_add_90 : decode cX4_add 90 = .ok (.aload_n 0, 1) := by decide +kernel
theorem dX4_add_91 : decode cX4_add 91 = .ok (.getfield 67, 3) := by decide +kernel
theorem dX4_add_94 : decode cX4_add 94 = .ok (.getfield 143, 3) := by decide +kernel
theorem dX4_add_97 : decode cX4_add 97 = .ok (.iload_n 3, 1) := by decide +kernel
theorem dX4_add_98 : decode cX4_add 98 = .ok (.iaload, 1) := by decide +kernel
theorem dX4_add_99 : decode cX4_add 99 = .ok (.iload_n 3, 1) := by decide +kernel
theorem dX4_add_100 : decode cX4_add 100 = .ok (.invokestatic 144, 3) := by decide +kernel
theorem dX4_add_103 : decode cX4_add 103 = .ok (.ior, 1) := by decide +kernel
theorem dX4_add_104 : decode cX4_add 104 = .ok (.iastore, 1) := by decide +kernel
theorem dX4_add_105 : decode cX4_add 105 = .ok (.aload_n 0, 1) := by decide +kernel
theorem dX4_add_106 : decode cX4_add 106 = .ok (.getfield 67, 3) := by decide +kernel
theorem dX4_add_109 : decode cX4_add 109 = .ok (.getfield 109, 3) := by decide +kernel
theorem dX4_add_112 : decode cX4_add 112 = .ok (.iload_n 3, 1) := by decide +kernel
theorem dX4_add_113 : decode cX4_add 113 = .ok (.iaload, 1) := by decide +kernel
theorem dX4_add_114 : decode cX4_add 114 = .ok (.invokestatic 140, 3) := by decide +kernel
theorem dX4_add_117 : decode cX4_add 117 = .ok (.iconst 1, 1) := by decide +kernel
theorem dX4_add_118 : decode cX4_add 118 = .ok (.if_icmp .le 26, 3) := by decide +kernel
theorem dX4_add_121 : decode cX4_add 121 = .ok (.aload_n 0, 1) := by decide +kernel
theorem dX4_add_122 : decode cX4_add 122 = .ok (.getfield 18, 3) := by decide +kernel
theorem dX4_add_125 : decode cX4_add 125 = .ok (.iload_n 2, 1) := by decide +kernel
theorem dX4_add_126 : decode cX4_add 126 = .ok (.dup2, 1) := by decide +kernel
theorem dX4_add_127 : decode cX4_add 127 = .ok (.iaload, 1) := by decide +kernel
theorem dX4_add_128 : decode cX4_add 128 = .ok (.iload_n 1, 1) := by decide +kernel
theorem dX4_add_129 : decode cX4_add 129 = .ok (.aload_n 0, 1) := by decide +kernel
theorem dX4_add_130 : decode cX4_add 130 = .ok (.getfield 67, 3) := by decide +kernel
theorem dX4_add_133 : decode cX4_add 133 = .ok (.getfield 148, 3) := by decide +kernel
theorem dX4_add_136 : decode cX4_add 136 = .ok (.iload_n 3, 1) := by decide +kernel
theorem dX4_add_137 : decode cX4_add 137 = .ok (.iaload, 1) := by decide +kernel
theorem dX4_add_138 : decode cX4_add 138 = .ok (.iload_n 3, 1) := by decide +kernel
theorem dX4_add_139 : decode cX4_add 139 = .ok (.invokestatic 144, 3) := by decide +kernel
theorem dX4_add_142 : decode cX4_add 142 = .ok (.ior, 1) := by decide +kernel
theorem dX4_add_143 : decode cX4_add 143 = .ok (.iastore, 1) := by decide +kernel
theorem dX4_add_144 : decode cX4_add 144 = .ok (.iinc 3 1, 3) := by decide +kernel
theorem dX4_add_147 : decode cX4_add 147 = .ok (.goto (-91), 3) := by decide +kernel
theorem dX4_add_150 : decode cX4_add 150 = .ok (.return_, 1) := by decide +kernel
theorem dX4_ruleBits_0 : decode cX4_ruleBits 0 = .ok (.iload_n 0, 1) := by decide +kernel
theorem dX4_ruleBits_1 : decode cX4_ruleBits 1 = .ok (.iload_n 1, 1) := by decide +kernel
theorem dX4_ruleBits_2 : decode cX4_ruleBits 2 = .ok (.invokestatic 110, 3) := by decide +kernel
theorem dX4_ruleBits_5 : decode cX4_ruleBits 5 = .ok (.iload_n 2, 1) := by decide +kernel
theorem dX4_ruleBits_6 : decode cX4_ruleBits 6 = .ok (.ishl, 1) := by decide +kernel
theorem dX4_ruleBits_7 : decode cX4_ruleBits 7 = .ok (.iload_n 0, 1) := by decide +kernel
theorem dX4_ruleBits_8 : decode cX4_ruleBits 8 = .ok (.iload_n 1, 1) := by decide +kernel
theorem dX4_ruleBits_9 : decode cX4_ruleBits 9 = .ok (.bipush 6, 2) := by decide +kernel
theorem dX4_ruleBits_11 : decode cX4_ruleBits 11 = .ok (.iadd, 1) := by decide +kernel
theorem dX4_ruleBits_12 : decode cX4_ruleBits 12 = .ok (.invokestatic 110, 3) := by decide +kernel
theorem dX4_ruleBits_15 : decode cX4_ruleBits 15 = .ok (.iload_n 2, 1) := by decide +kernel
theorem dX4_ruleBits_16 : decode cX4_ruleBits 16 = .ok (.bipush 16, 2) := by decide +kernel
theorem dX4_ruleBits_18 : decode cX4_ruleBits 18 = .ok (.iadd, 1) := by decide +kernel
theorem dX4_ruleBits_19 : decode cX4_ruleBits 19 = .ok (.ishl, 1) := by decide +kernel
theorem dX4_ruleBits_20 : decode cX4_ruleBits 20 = .ok (.ior, 1) := by decide +kernel
theorem dX4_ruleBits_21 : decode cX4_ruleBits 21 = .ok (.ireturn, 1) := by decide +kernel
theorem dX4_isLess_0 : decode cX4_isLess 0 = .ok (.iload_n 1, 1) := by decide +kernel
theorem dX4_isLess_1 : decode cX4_isLess 1 = .ok (.aload_n 0, 1) := by decide +kernel
theorem dX4_isLess_2 : decode cX4_isLess 2 = .ok (.getfield 21, 3) := by decide +kernel
theorem dX4_isLess_5 : decode cX4_isLess 5 = .ok (.iload 5, 2) := by decide +kernel
theorem dX4_isLess_7 : decode cX4_isLess 7 = .ok (.iaload, 1) := by decide +kernel
theorem dX4_isLess_8 : decode cX4_isLess 8 = .ok (.if_icmp .ne 9, 3) := by decide +kernel
theorem dX4_isLess_11 : decode cX4_isLess 11 = .ok (.iload_n 1, 1) := by decide +kernel
theorem dX4_isLess_12 : decode cX4_isLess 12 = .ok (.bipush 32, 2) := by decide +kernel
theorem dX4_isLess_14 : decode cX4_isLess 14 = .ok (.if_icmp .ne 20, 3) := by decide +kernel
theorem dX4_isLess_17 : decode cX4_isLess 17 = .ok (.iload_n 1, 1) := by decide +kernel
theorem dX4_isLess_18 : decode cX4_isLess 18 = .ok (.aload_n 0, 1) := by decide +kernel
theorem dX4_isLess_19 : decode cX4_isLess 19 = .ok (.getfield 21, 3) := by decide +kernel
theorem dX4_isLess_22 : decode cX4_isLess 22 = .ok (.iload 5, 2) := by decide +kernel
theorem dX4_isLess_24 : decode cX4_isLess 24 = .ok (.iaload, 1) := by decide +kernel
theorem dX4_isLess_25 : decode cX4_isLess 25 = .ok (.if_icmp .ge 7, 3) := by decide +kernel
theorem dX4_isLess_28 : decode cX4_isLess 28 = .ok (.iconst 1, 1) := by decide +kernel
theorem dX4_isLess_29 : decode cX4_isLess 29 = .ok (.goto 4, 3) := by decide +kernel
theorem dX4_isLess_32 : decode cX4_isLess 32 = .ok (.iconst 0, 1) := by decide +kernel
theorem dX4_isLess_33 : decode cX4_isLess 33 = .ok (.ireturn, 1) := by decide +kernel
theorem dX4_isLess_34 : decode cX4_isLess 34 = .ok (.iload_n 2, 1) := by decide +kernel
theorem dX4_isLess_35 : decode cX4_isLess 35 = .ok (.aload_n 0, 1) := by decide +kernel
theorem dX4_isLess_36 : decode cX4_isLess 36 = .ok (.getfield 24, 3) := by decide +kernel
theorem dX4_isLess_39 : decode cX4_isLess 39 = .ok (.iload 5, 2) := by decide +kernel
theorem dX4_isLess_41 : decode cX4_isLess 41 = .ok (.iaload, 1) := by decide +kernel
theorem dX4_isLess_42 : decode cX4_isLess 42 = .ok (.if_icmp .eq 20, 3) := by decide +kernel
theorem dX4_isLess_45 : decode cX4_isLess 45 = .ok (.iload_n 2, 1) := by decide +kernel
theorem dX4_isLess_46 : decode cX4_isLess 46 = .ok (.aload_n 0, 1) := by decide +kernel
theorem dX4_isLess_47 : decode cX4_isLess 47 = .ok (.getfield 24, 3) := by decide +kernel
theorem dX4_isLess_50 : decode cX4_isLess 50 = .ok (.iload 5, 2) := by decide +kernel
theorem dX4_isLess_52 : decode cX4_isLess 52 = .ok (.iaload, 1) := by decide +kernel
theorem dX4_isLess_53 : decode cX4_isLess 53 = .ok (.if_icmp .ge 7, 3) := by decide +kernel
theorem dX4_isLess_56 : decode cX4_isLess 56 = .ok (.iconst 1, 1) := by decide +kernel
theorem dX4_isLess_57 : decode cX4_isLess 57 = .ok (.goto 4, 3) := by decide +kernel
theorem dX4_isLess_60 : decode cX4_isLess 60 = .ok (.iconst 0, 1) := by decide +kernel
theorem dX4_isLess_61 : decode cX4_isLess 61 = .ok (.ireturn, 1) := by decide +kernel
theorem dX4_isLess_62 : decode cX4_isLess 62 = .ok (.iload_n 3, 1) := by decide +kernel
theorem dX4_isLess_63 : decode cX4_isLess 63 = .ok (.aload_n 0, 1) := by decide +kernel
theorem dX4_isLess_64 : decode cX4_isLess 64 = .ok (.getfield 27, 3) := by decide +kernel
theorem dX4_isLess_67 : decode cX4_isLess 67 = .ok (.iload 5, 2) := by decide +kernel
theorem dX4_isLess_69 : decode cX4_isLess 69 = .ok (.iaload, 1) := by decide +kernel
theorem dX4_isLess_70 : decode cX4_isLess 70 = .ok (.if_icmp .eq 18, 3) := by decide +kernel
theorem dX4_isLess_73 : decode cX4_isLess 73 = .ok (.aload_n 0, 1) := by decide +kernel
theorem dX4_isLess_74 : decode cX4_isLess 74 = .ok (.iload_n 3, 1) := by decide +kernel
theorem dX4_isLess_75 : decode cX4_isLess 75 = .ok (.aload_n 0, 1) := by decide +kernel
theorem dX4_isLess_76 : decode cX4_isLess 76 = .ok (.getfield 27, 3) := by decide +kernel
theorem dX4_isLess_79 : decode cX4_isLess 79 = .ok (.iload 5, 2) := by decide +kernel
theorem dX4_isLess_81 : decode cX4_isLess 81 = .ok (.iaload, 1) := by decide +kernel
theorem dX4_isLess_82 : decode cX4_isLess 82 = .ok (.invokevirtual 149, 3) := by decide +kernel
theorem dX4_isLess_85 : decode cX4_isLess 85 = .ok (.goto 16, 3) := by decide +kernel
theorem dX4_isLess_88 : decode cX4_isLess 88 = .ok (.aload_n 0, 1) := by decide +kernel
theorem dX4_isLess_89 : decode cX4_isLess 89 = .ok (.iload 4, 2) := by decide +kernel
theorem dX4_isLess_91 : decode cX4_isLess 91 = .ok (.aload_n 0, 1) := by decide +kernel
theorem dX4_isLess_92 : decode cX4_isLess 92 = .ok (.getfield 30, 3) := by decide +kernel
theorem dX4_isLess_95 : decode cX4_isLess 95 = .ok (.iload 5, 2) := by decide +kernel
theorem dX4_isLess_97 : decode cX4_isLess 97 = .ok (.iaload, 1) := by decide +kernel
theorem dX4_isLess_98 : decode cX4_isLess 98 = .ok (.invokevirtual 149, 3) := by decide +kernel
theorem dX4_isLess_101 : decode cX4_isLess 101 = .ok (.ireturn, 1) := by decide +kernel
theorem dX4_comesBefore_0 : decode cX4_comesBefore 0 = .ok (.iload_n 1, 1) := by decide +kernel
theorem dX4_comesBefore_1 : decode cX4_comesBefore 1 = .ok (.istore_n 3, 1) := by decide +kernel
theorem dX4_comesBefore_2 : decode cX4_comesBefore 2 = .ok (.iload_n 2, 1) := by decide +kernel
theorem dX4_comesBefore_3 : decode cX4_comesBefore 3 = .ok (.istore 4, 2) := by decide +kernel
theorem dX4_comesBefore_5 : decode cX4_comesBefore 5 = .ok (.iconst 0, 1) := by decide +kernel
theorem dX4_comesBefore_6 : decode cX4_comesBefore 6 = .ok (.istore 5, 2) := by decide +kernel
theorem dX4_comesBefore_8 : decode cX4_comesBefore 8 = .ok (.iload 5, 2) := by decide +kernel
theorem dX4_comesBefore_10 : decode cX4_comesBefore 10 = .ok (.bipush 31, 2) := by decide +kernel
theorem dX4_comesBefore_12 : decode cX4_comesBefore 12 = .ok (.if_icmp .ge 130, 3) := by decide +kernel
theorem dX4_comesBefore_15 : decode cX4_comesBefore 15 = .ok (.iload_n 3, 1) := by decide +kernel
theorem dX4_comesBefore_16 : decode cX4_comesBefore 16 = .ok (.ifCond .lt 126, 3) := by decide +kernel
theorem dX4_comesBefore_19 : decode cX4_comesBefore 19 = .ok (.iload 4, 2) := by decide +kernel
theorem dX4_comesBefore_21 : decode cX4_comesBefore 21 = .ok (.ifCond .lt 121, 3) := by decide +kernel
theorem dX4_comesBefore_24 : decode cX4_comesBefore 24 = .ok (.iload_n 3, 1) := by decide +kernel
theorem dX4_comesBefore_25 : decode cX4_comesBefore 25 = .ok (.iload 4, 2) := by decide +kernel
theorem dX4_comesBefore_27 : decode cX4_comesBefore 27 = .ok (.if_icmp .eq 115, 3) := by decide +kernel
theorem dX4_comesBefore_30 : decode cX4_comesBefore 30 = .ok (.aload_n 0, 1) := by decide +kernel
theorem dX4_comesBefore_31 : decode cX4_comesBefore 31 = .ok (.getfield 24, 3) := by decide +kernel
theorem dX4_comesBefore_34 : decode cX4_comesBefore 34 = .ok (.iload_n 3, 1) := by decide +kernel
theorem dX4_comesBefore_35 : decode cX4_comesBefore 35 = .ok (.iaload, 1) := by decide +kernel
theorem dX4_comesBefore_36 : decode cX4_comesBefore 36 = .ok (.aload_n 0, 1) := by decide +kernel
theorem dX4_comesBefore_37 : decode cX4_comesBefore 37 = .ok (.getfield 24, 3) := by decide +kernel
theorem dX4_comesBefore_40 : decode cX4_comesBefore 40 = .ok (.iload 4, 2) := by decide +kernel
theorem dX4_comesBefore_42 : decode cX4_comesBefore 42 = .ok (.iaload, 1) := by decide +kernel
theorem dX4_comesBefore_43 : decode cX4_comesBefore 43 = .ok (.if_icmp .eq 25, 3) := by decide +kernel
theorem dX4_comesBefore_46 : decode cX4_comesBefore 46 = .ok (.aload_n 0, 1) := by decide +kernel
theorem dX4_comesBefore_47 : decode cX4_comesBefore 47 = .ok (.getfield 24, 3) := by decide +kernel
theorem dX4_comesBefore_50 : decode cX4_comesBefore 50 = .ok (.iload_n 3, 1) := by decide +kernel
theorem dX4_comesBefore_51 : decode cX4_comesBefore 51 = .ok (.iaload, 1) := by decide +kernel
theorem dX4_comesBefore_52 : decode cX4_comesBefore 52 = .ok (.aload_n 0, 1) := by decide +kernel
theorem dX4_comesBefore_53 : decode cX4_comesBefore 53 = .ok (.getfield 24, 3) := by decide +kernel
theorem dX4_comesBefore_56 : decode cX4_comesBefore 56 = .ok (.iload 4, 2) := by decide +kernel
theorem dX4_comesBefore_58 : decode cX4_comesBefore 58 = .ok (.iaload, 1) := by decide +kernel
theorem dX4_comesBefore_59 : decode cX4_comesBefore 59 = .ok (.if_icmp .ge 7, 3) := by decide +kernel
theorem dX4_comesBefore_62 : decode cX4_comesBefore 62 = .ok (.iconst 1, 1) := by decide +kernel
theorem dX4_comesBefore_63 : decode cX4_comesBefore 63 = .ok (.goto 4, 3) := by decide +kernel
theorem dX4_comesBefore_66 : decode cX4_comesBefore 66 = .ok (.iconst 0, 1) := by decide +kernel
theorem dX4_comesBefore_67 : decode cX4_comesBefore 67 = .ok (.ireturn, 1) := by decide +kernel
theorem dX4_comesBefore_68 : decode cX4_comesBefore 68 = .ok (.aload_n 0, 1) := by decide +kernel
theorem dX4_comesBefore_69 : decode cX4_comesBefore 69 = .ok (.getfield 27, 3) := by decide +kernel
theorem dX4_comesBefore_72 : decode cX4_comesBefore 72 = .ok (.iload_n 3, 1) := by decide +kernel
theorem dX4_comesBefore_73 : decode cX4_comesBefore 73 = .ok (.iaload, 1) := by decide +kernel
theorem dX4_comesBefore_74 : decode cX4_comesBefore 74 = .ok (.aload_n 0, 1) := by decide +kernel
theorem dX4_comesBefore_75 : decode cX4_comesBefore 75 = .ok (.getfield 27, 3) := by decide +kernel
theorem dX4_comesBefore_78 : decode cX4_comesBefore 78 = .ok (.iload 4, 2) := by decide +kernel
theorem dX4_comesBefore_80 : decode cX4_comesBefore 80 = .ok (.iaload, 1) := by decide +kernel
theorem dX4_comesBefore_81 : decode cX4_comesBefore 81 = .ok (.if_icmp .ne 7, 3) := by decide +kernel
theorem dX4_comesBefore_84 : decode cX4_comesBefore 84 = .ok (.iconst 1, 1) := by decide +kernel
theorem dX4_comesBefore_85 : decode cX4_comesBefore 85 = .ok (.goto 4, 3) := by decide +kernel
theorem dX4_comesBefore_88 : decode cX4_comesBefore 88 = .ok (.iconst 0, 1) := by decide +kernel
theorem dX4_comesBefore_89 : decode cX4_comesBefore 89 = .ok (.istore 6, 2) := by decide +kernel
theorem dX4_comesBefore_91 : decode cX4_comesBefore 91 = .ok (.iload 6, 2) := by decide +kernel
theorem dX4_comesBefore_93 : decode cX4_comesBefore 93 = .ok (.ifCond .eq 12, 3) := by decide +kernel
theorem dX4_comesBefore_96 : decode cX4_comesBefore 96 = .ok (.aload_n 0, 1) := by decide +kernel
theorem dX4_comesBefore_97 : decode cX4_comesBefore 97 = .ok (.getfield 30, 3) := by decide +kernel
theorem dX4_comesBefore_100 : decode cX4_comesBefore 100 = .ok (.iload_n 3, 1) := by decide +kernel
theorem dX4_comesBefore_101 : decode cX4_comesBefore 101 = .ok (.iaload, 1) := by decide +kernel
theorem dX4_comesBefore_102 : decode cX4_comesBefore 102 = .ok (.goto 9, 3) := by decide +kernel
theorem dX4_comesBefore_105 : decode cX4_comesBefore 105 = .ok (.aload_n 0, 1) := by decide +kernel
theorem dX4_comesBefore_106 : decode cX4_comesBefore 106 = .ok (.getfield 27, 3) := by decide +kernel
theorem dX4_comesBefore_109 : decode cX4_comesBefore 109 = .ok (.iload_n 3, 1) := by decide +kernel
theorem dX4_comesBefore_110 : decode cX4_comesBefore 110 = .ok (.iaload, 1) := by decide +kernel
theorem dX4_comesBefore_111 : decode cX4_comesBefore 111 = .ok (.istore_n 3, 1) := by decide +kernel
theorem dX4_comesBefore_112 : decode cX4_comesBefore 112 = .ok (.iload 6, 2) := by decide +kernel
theorem dX4_comesBefore_114 : decode cX4_comesBefore 114 = .ok (.ifCond .eq 13, 3) := by decide +kernel
theorem dX4_comesBefore_117 : decode cX4_comesBefore 117 = .ok (.aload_n 0, 1) := by decide +kernel
theorem dX4_comesBefore_118 : decode cX4_comesBefore 118 = .ok (.getfield 30, 3) := by decide +kernel
theorem dX4_comesBefore_121 : decode cX4_comesBefore 121 = .ok (.iload 4, 2) := by decide +kernel
theorem dX4_comesBefore_123 : decode cX4_comesBefore 123 = .ok (.iaload, 1) := by decide +kernel
theorem dX4_comesBefore_124 : decode cX4_comesBefore 124 = .ok (.goto 10, 3) := by decide +kernel
theorem dX4_comesBefore_127 : decode cX4_comesBefore 127 = .ok (.aload_n 0, 1) := by decide +kernel
theorem dX4_comesBefore_128 : decode cX4_comesBefore 128 = .ok (.getfield 27, 3) := by decide +kernel
theorem dX4_comesBefore_131 : decode cX4_comesBefore 131 = .ok (.iload 4, 2) := by decide +kernel
theorem dX4_comesBefore_133 : decode cX4_comesBefore 133 = .ok (.iaload, 1) := by decide +kernel
theorem dX4_comesBefore_134 : decode cX4_comesBefore 134 = .ok (.istore 4, 2) := by decide +kernel
theorem dX4_comesBefore_136 : decode cX4_comesBefore 136 = .ok (.iinc 5 1, 3) := by decide +kernel
theorem dX4_comesBefore_139 : decode cX4_comesBefore 139 = .ok (.goto (-131), 3) := by decide +kernel
theorem dX4_comesBefore_142 : decode cX4_comesBefore 142 = .ok (.iconst 0, 1) := by decide +kernel
theorem dX4_comesBefore_143 : decode cX4_comesBefore 143 = .ok (.ireturn, 1) := by decide +kernel
theorem dX4_sizeOf_0 : decode cX4_sizeOf 0 = .ok (.aload_n 0, 1) := by decide +kernel
theorem dX4_sizeOf_1 : decode cX4_sizeOf 1 = .ok (.getfield 21, 3) := by decide +kernel
theorem dX4_sizeOf_4 : decode cX4_sizeOf 4 = .ok (.iload_n 1, 1) := by decide +kernel
theorem dX4_sizeOf_5 : decode cX4_sizeOf 5 = .ok (.iaload, 1) := by decide +kernel
theorem dX4_sizeOf_6 : decode cX4_sizeOf 6 = .ok (.ireturn, 1) := by decide +kernel
theorem dX4_overOne_0 : decode cX4_overOne 0 = .ok (.aload_n 0, 1) := by decide +kernel
theorem dX4_overOne_1 : decode cX4_overOne 1 = .ok (.getfield 44, 3) := by decide +kernel
theorem dX4_overOne_4 : decode cX4_overOne 4 = .ok (.iload_n 1, 1) := by decide +kernel
theorem dX4_overOne_5 : decode cX4_overOne 5 = .ok (.saload, 1) := by decide +kernel
theorem dX4_overOne_6 : decode cX4_overOne 6 = .ok (.ireturn, 1) := by decide +kernel
theorem dX4_overTwo_0 : decode cX4_overTwo 0 = .ok (.aload_n 0, 1) := by decide +kernel
theorem dX4_overTwo_1 : decode cX4_overTwo 1 = .ok (.getfield 47, 3) := by decide +kernel
theorem dX4_overTwo_4 : decode cX4_overTwo 4 = .ok (.iload_n 1, 1) := by decide +kernel
theorem dX4_overTwo_5 : decode cX4_overTwo 5 = .ok (.bipush 120, 2) := by decide +kernel
theorem dX4_overTwo_7 : decode cX4_overTwo 7 = .ok (.imul, 1) := by decide +kernel
theorem dX4_overTwo_8 : decode cX4_overTwo 8 = .ok (.iload_n 2, 1) := by decide +kernel
theorem dX4_overTwo_9 : decode cX4_overTwo 9 = .ok (.iadd, 1) := by decide +kernel
theorem dX4_overTwo_10 : decode cX4_overTwo 10 = .ok (.saload, 1) := by decide +kernel
theorem dX4_overTwo_11 : decode cX4_overTwo 11 = .ok (.ireturn, 1) := by decide +kernel
theorem dX4_lowOf_0 : decode cX4_lowOf 0 = .ok (.iload_n 0, 1) := by decide +kernel
theorem dX4_lowOf_1 : decode cX4_lowOf 1 = .ok (.bipush 127, 2) := by decide +kernel
theorem dX4_lowOf_3 : decode cX4_lowOf 3 = .ok (.iand, 1) := by decide +kernel
theorem dX4_lowOf_4 : decode cX4_lowOf 4 = .ok (.ireturn, 1) := by decide +kernel
theorem dX4_highOf_0 : decode cX4_highOf 0 = .ok (.iload_n 0, 1) := by decide +kernel
theorem dX4_highOf_1 : decode cX4_highOf 1 = .ok (.bipush 7, 2) := by decide +kernel
theorem dX4_highOf_3 : decode cX4_highOf 3 = .ok (.ishr, 1) := by decide +kernel
theorem dX4_highOf_4 : decode cX4_highOf 4 = .ok (.bipush 127, 2) := by decide +kernel
theorem dX4_highOf_6 : decode cX4_highOf 6 = .ok (.iand, 1) := by decide +kernel
theorem dX4_highOf_7 : decode cX4_highOf 7 = .ok (.ireturn, 1) := by decide +kernel
theorem dX4_isGoodHere_0 : decode cX4_isGoodHere 0 = .ok (.aload_n 0, 1) := by decide +kernel
theorem dX4_isGoodHere_1 : decode cX4_isGoodHere 1 = .ok (.getfield 11, 3) := by decide +kernel
theorem dX4_isGoodHere_4 : decode cX4_isGoodHere 4 = .ok (.iload_n 1, 1) := by decide +kernel
theorem dX4_isGoodHere_5 : decode cX4_isGoodHere 5 = .ok (.iaload, 1) := by decide +kernel
theorem dX4_isGoodHere_6 : decode cX4_isGoodHere 6 = .ok (.iload_n 2, 1) := by decide +kernel
theorem dX4_isGoodHere_7 : decode cX4_isGoodHere 7 = .ok (.iand, 1) := by decide +kernel
theorem dX4_isGoodHere_8 : decode cX4_isGoodHere 8 = .ok (.ifCond .eq 7, 3) := by decide +kernel
theorem dX4_isGoodHere_11 : decode cX4_isGoodHere 11 = .ok (.iconst 1, 1) := by decide +kernel
theorem dX4_isGoodHere_12 : decode cX4_isGoodHere 12 = .ok (.goto 4, 3) := by decide +kernel
theorem dX4_isGoodHere_15 : decode cX4_isGoodHere 15 = .ok (.iconst 0, 1) := by decide +kernel
theorem dX4_isGoodHere_16 : decode cX4_isGoodHere 16 = .ok (.ireturn, 1) := by decide +kernel
theorem dX4_isGoodThere_0 : decode cX4_isGoodThere 0 = .ok (.aload_n 0, 1) := by decide +kernel
theorem dX4_isGoodThere_1 : decode cX4_isGoodThere 1 = .ok (.getfield 11, 3) := by decide +kernel
theorem dX4_isGoodThere_4 : decode cX4_isGoodThere 4 = .ok (.iload_n 1, 1) := by decide +kernel
theorem dX4_isGoodThere_5 : decode cX4_isGoodThere 5 = .ok (.iaload, 1) := by decide +kernel
theorem dX4_isGoodThere_6 : decode cX4_isGoodThere 6 = .ok (.bipush 6, 2) := by decide +kernel
theorem dX4_isGoodThere_8 : decode cX4_isGoodThere 8 = .ok (.ishr, 1) := by decide +kernel
theorem dX4_isGoodThere_9 : decode cX4_isGoodThere 9 = .ok (.iload_n 2, 1) := by decide +kernel
theorem dX4_isGoodThere_10 : decode cX4_isGoodThere 10 = .ok (.iand, 1) := by decide +kernel
theorem dX4_isGoodThere_11 : decode cX4_isGoodThere 11 = .ok (.ifCond .eq 7, 3) := by decide +kernel
theorem dX4_isGoodThere_14 : decode cX4_isGoodThere 14 = .ok (.iconst 1, 1) := by decide +kernel
theorem dX4_isGoodThere_15 : decode cX4_isGoodThere 15 = .ok (.goto 4, 3) := by decide +kernel
theorem dX4_isGoodThere_18 : decode cX4_isGoodThere 18 = .ok (.iconst 0, 1) := by decide +kernel
theorem dX4_isGoodThere_19 : decode cX4_isGoodThere 19 = .ok (.ireturn, 1) := by decide +kernel
theorem dX4_isApart_0 : decode cX4_isApart 0 = .ok (.aload_n 0, 1) := by decide +kernel
theorem dX4_isApart_1 : decode cX4_isApart 1 = .ok (.iload_n 1, 1) := by decide +kernel
theorem dX4_isApart_2 : decode cX4_isApart 2 = .ok (.iload_n 2, 1) := by decide +kernel
theorem dX4_isApart_3 : decode cX4_isApart 3 = .ok (.invokevirtual 153, 3) := by decide +kernel
theorem dX4_isApart_6 : decode cX4_isApart 6 = .ok (.aload_n 0, 1) := by decide +kernel
theorem dX4_isApart_7 : decode cX4_isApart 7 = .ok (.iload_n 1, 1) := by decide +kernel
theorem dX4_isApart_8 : decode cX4_isApart 8 = .ok (.iload_n 3, 1) := by decide +kernel
theorem dX4_isApart_9 : decode cX4_isApart 9 = .ok (.invokevirtual 156, 3) := by decide +kernel
theorem dX4_isApart_12 : decode cX4_isApart 12 = .ok (.if_icmp .eq 7, 3) := by decide +kernel
theorem dX4_isApart_15 : decode cX4_isApart 15 = .ok (.iconst 1, 1) := by decide +kernel
theorem dX4_isApart_16 : decode cX4_isApart 16 = .ok (.goto 4, 3) := by decide +kernel
theorem dX4_isApart_19 : decode cX4_isApart 19 = .ok (.iconst 0, 1) := by decide +kernel
theorem dX4_isApart_20 : decode cX4_isApart 20 = .ok (.ireturn, 1) := by decide +kernel
theorem dX4_leastApart_0 : decode cX4_leastApart 0 = .ok (.bipush (-9), 2) := by decide +kernel
theorem dX4_leastApart_2 : decode cX4_leastApart 2 = .ok (.istore_n 3, 1) := by decide +kernel
theorem dX4_leastApart_3 : decode cX4_leastApart 3 = .ok (.iconst 0, 1) := by decide +kernel
theorem dX4_leastApart_4 : decode cX4_leastApart 4 = .ok (.istore 4, 2) := by decide +kernel
theorem dX4_leastApart_6 : decode cX4_leastApart 6 = .ok (.iload 4, 2) := by decide +kernel
theorem dX4_leastApart_8 : decode cX4_leastApart 8 = .ok (.aload_n 0, 1) := by decide +kernel
theorem dX4_leastApart_9 : decode cX4_leastApart 9 = .ok (.getfield 78, 3) := by decide +kernel
theorem dX4_leastApart_12 : decode cX4_leastApart 12 = .ok (.if_icmp .ge 81, 3) := by decide +kernel
theorem dX4_leastApart_15 : decode cX4_leastApart 15 = .ok (.aload_n 0, 1) := by decide +kernel
theorem dX4_leastApart_16 : decode cX4_leastApart 16 = .ok (.getfield 21, 3) := by decide +kernel
theorem dX4_leastApart_19 : decode cX4_leastApart 19 = .ok (.iload 4, 2) := by decide +kernel
theorem dX4_leastApart_21 : decode cX4_leastApart 21 = .ok (.iaload, 1) := by decide +kernel
theorem dX4_leastApart_22 : decode cX4_leastApart 22 = .ok (.bipush 32, 2) := by decide +kernel
theorem dX4_leastApart_24 : decode cX4_leastApart 24 = .ok (.if_icmp .eq 63, 3) := by decide +kernel
theorem dX4_leastApart_27 : decode cX4_leastApart 27 = .ok (.aload_n 0, 1) := by decide +kernel
theorem dX4_leastApart_28 : decode cX4_leastApart 28 = .ok (.iload 4, 2) := by decide +kernel
theorem dX4_leastApart_30 : decode cX4_leastApart 30 = .ok (.iload_n 1, 1) := by decide +kernel
theorem dX4_leastApart_31 : decode cX4_leastApart 31 = .ok (.iload_n 2, 1) := by decide +kernel
theorem dX4_leastApart_32 : decode cX4_leastApart 32 = .ok (.invokevirtual 159, 3) := by decide +kernel
theorem dX4_leastApart_35 : decode cX4_leastApart 35 = .ok (.ifCond .eq 52, 3) := by decide +kernel
theorem dX4_leastApart_38 : decode cX4_leastApart 38 = .ok (.iload_n 3, 1) := by decide +kernel
theorem dX4_leastApart_39 : decode cX4_leastApart 39 = .ok (.ifCond .lt 45, 3) := by decide +kernel
theorem dX4_leastApart_42 : decode cX4_leastApart 42 = .ok (.aload_n 0, 1) := by decide +kernel
theorem dX4_leastApart_43 : decode cX4_leastApart 43 = .ok (.getfield 21, 3) := by decide +kernel
theorem dX4_leastApart_46 : decode cX4_leastApart 46 = .ok (.iload 4, 2) := by decide +kernel
theorem dX4_leastApart_48 : decode cX4_leastApart 48 = .ok (.iaload, 1) := by decide +kernel
theorem dX4_leastApart_49 : decode cX4_leastApart 49 = .ok (.aload_n 0, 1) := by decide +kernel
theorem dX4_leastApart_50 : decode cX4_leastApart 50 = .ok (.getfield 21, 3) := by decide +kernel
theorem dX4_leastApart_53 : decode cX4_leastApart 53 = .ok (.iload_n 3, 1) := by decide +kernel
theorem dX4_leastApart_54 : decode cX4_leastApart 54 = .ok (.iaload, 1) := by decide +kernel
theorem dX4_leastApart_55 : decode cX4_leastApart 55 = .ok (.if_icmp .lt 29, 3) := by decide +kernel
theorem dX4_leastApart_58 : decode cX4_leastApart 58 = .ok (.aload_n 0, 1) := by decide +kernel
theorem dX4_leastApart_59 : decode cX4_leastApart 59 = .ok (.getfield 21, 3) := by decide +kernel
theorem dX4_leastApart_62 : decode cX4_leastApart 62 = .ok (.iload 4, 2) := by decide +kernel
theorem dX4_leastApart_64 : decode cX4_leastApart 64 = .ok (.iaload, 1) := by decide +kernel
theorem dX4_leastApart_65 : decode cX4_leastApart 65 = .ok (.aload_n 0, 1) := by decide +kernel
theorem dX4_leastApart_66 : decode cX4_leastApart 66 = .ok (.getfield 21, 3) := by decide +kernel
theorem dX4_leastApart_69 : decode cX4_leastApart 69 = .ok (.iload_n 3, 1) := by decide +kernel
theorem dX4_leastApart_70 : decode cX4_leastApart 70 = .ok (.iaload, 1) := by decide +kernel
theorem dX4_leastApart_71 : decode cX4_leastApart 71 = .ok (.if_icmp .ne 16, 3) := by decide +kernel
theorem dX4_leastApart_74 : decode cX4_leastApart 74 = .ok (.aload_n 0, 1) := by decide +kernel
theorem dX4_leastApart_75 : decode cX4_leastApart 75 = .ok (.iload 4, 2) := by decide +kernel
theorem dX4_leastApart_77 : decode cX4_leastApart 77 = .ok (.iload_n 3, 1) := by decide +kernel
theorem dX4_leastApart_78 : decode cX4_leastApart 78 = .ok (.invokevirtual 149, 3) := by decide +kernel
theorem dX4_leastApart_81 : decode cX4_leastApart 81 = .ok (.ifCond .eq 6, 3) := by decide +kernel
theorem dX4_leastApart_84 : decode cX4_leastApart 84 = .ok (.iload 4, 2) := by decide +kernel
theorem dX4_leastApart_86 : decode cX4_leastApart 86 = .ok (.istore_n 3, 1) := by decide +kernel
theorem dX4_leastApart_87 : decode cX4_leastApart 87 = .ok (.iinc 4 1, 3) := by decide +kernel
theorem dX4_leastApart_90 : decode cX4_leastApart 90 = .ok (.goto (-84), 3) := by decide +kernel
theorem dX4_leastApart_93 : decode cX4_leastApart 93 = .ok (.iload_n 3, 1) := by decide +kernel
theorem dX4_leastApart_94 : decode cX4_leastApart 94 = .ok (.ireturn, 1) := by decide +kernel
theorem dX4_tellTree_0 : decode cX4_tellTree 0 = .ok (.iload_n 1, 1) := by decide +kernel
theorem dX4_tellTree_1 : decode cX4_tellTree 1 = .ok (.ifCond .lt 11, 3) := by decide +kernel
theorem dX4_tellTree_4 : decode cX4_tellTree 4 = .ok (.iload_n 1, 1) := by decide +kernel
theorem dX4_tellTree_5 : decode cX4_tellTree 5 = .ok (.aload_n 0, 1) := by decide +kernel
theorem dX4_tellTree_6 : decode cX4_tellTree 6 = .ok (.getfield 78, 3) := by decide +kernel
theorem dX4_tellTree_9 : decode cX4_tellTree 9 = .ok (.if_icmp .lt 6, 3) := by decide +kernel
theorem dX4_tellTree_12 : decode cX4_tellTree 12 = .ok (.bipush (-9), 2) := by decide +kernel
theorem dX4_tellTree_14 : decode cX4_tellTree 14 = .ok (.ireturn, 1) := by decide +kernel
theorem dX4_tellTree_15 : decode cX4_tellTree 15 = .ok (.iload_n 2, 1) := by decide +kernel
theorem dX4_tellTree_16 : decode cX4_tellTree 16 = .ok (.ifCond .ge 10, 3) := by decide +kernel
theorem dX4_tellTree_19 : decode cX4_tellTree 19 = .ok (.aload_n 0, 1) := by decide +kernel
theorem dX4_tellTree_20 : decode cX4_tellTree 20 = .ok (.getfield 21, 3) := by decide +kernel
theorem dX4_tellTree_23 : decode cX4_tellTree 23 = .ok (.iload_n 1, 1) := by decide +kernel
theorem dX4_tellTree_24 : decode cX4_tellTree 24 = .ok (.iaload, 1) := by decide +kernel
theorem dX4_tellTree_25 : decode cX4_tellTree 25 = .ok (.ireturn, 1) := by decide +kernel
theorem dX4_tellTree_26 : decode cX4_tellTree 26 = .ok (.iload_n 2, 1) := by decide +kernel
theorem dX4_tellTree_27 : decode cX4_tellTree 27 = .ok (.aload_n 0, 1) := by decide +kernel
theorem dX4_tellTree_28 : decode cX4_tellTree 28 = .ok (.getfield 21, 3) := by decide +kernel
theorem dX4_tellTree_31 : decode cX4_tellTree 31 = .ok (.iload_n 1, 1) := by decide +kernel
theorem dX4_tellTree_32 : decode cX4_tellTree 32 = .ok (.iaload, 1) := by decide +kernel
theorem dX4_tellTree_33 : decode cX4_tellTree 33 = .ok (.if_icmp .ge 12, 3) := by decide +kernel
theorem dX4_tellTree_36 : decode cX4_tellTree 36 = .ok (.aload_n 0, 1) := by decide +kernel
theorem dX4_tellTree_37 : decode cX4_tellTree 37 = .ok (.iload_n 1, 1) := by decide +kernel
theorem dX4_tellTree_38 : decode cX4_tellTree 38 = .ok (.iload_n 2, 1) := by decide +kernel
theorem dX4_tellTree_39 : decode cX4_tellTree 39 = .ok (.invokevirtual 163, 3) := by decide +kernel
theorem dX4_tellTree_42 : decode cX4_tellTree 42 = .ok (.goto 5, 3) := by decide +kernel
theorem dX4_tellTree_45 : decode cX4_tellTree 45 = .ok (.bipush (-5), 2) := by decide +kernel
theorem dX4_tellTree_47 : decode cX4_tellTree 47 = .ok (.ireturn, 1) := by decide +kernel
theorem dX4_signAt_0 : decode cX4_signAt 0 = .ok (.iload_n 1, 1) := by decide +kernel
theorem dX4_signAt_1 : decode cX4_signAt 1 = .ok (.istore_n 3, 1) := by decide +kernel
theorem dX4_signAt_2 : decode cX4_signAt 2 = .ok (.iload_n 2, 1) := by decide +kernel
theorem dX4_signAt_3 : decode cX4_signAt 3 = .ok (.istore 4, 2) := by decide +kernel
theorem dX4_signAt_5 : decode cX4_signAt 5 = .ok (.iconst 0, 1) := by decide +kernel
theorem dX4_signAt_6 : decode cX4_signAt 6 = .ok (.istore 5, 2) := by decide +kernel
theorem dX4_signAt_8 : decode cX4_signAt 8 = .ok (.iload 5, 2) := by decide +kernel
theorem dX4_signAt_10 : decode cX4_signAt 10 = .ok (.bipush 31, 2) := by decide +kernel
theorem dX4_signAt_12 : decode cX4_signAt 12 = .ok (.if_icmp .ge 78, 3) := by decide +kernel
theorem dX4_signAt_15 : decode cX4_signAt 15 = .ok (.iload 4, 2) := by decide +kernel
theorem dX4_signAt_17 : decode cX4_signAt 17 = .ok (.ifCond .le 73, 3) := by decide +kernel
theorem dX4_signAt_20 : decode cX4_signAt 20 = .ok (.aload_n 0, 1) := by decide +kernel
theorem dX4_signAt_21 : decode cX4_signAt 21 = .ok (.getfield 27, 3) := by decide +kernel
theorem dX4_signAt_24 : decode cX4_signAt 24 = .ok (.iload_n 3, 1) := by decide +kernel
theorem dX4_signAt_25 : decode cX4_signAt 25 = .ok (.iaload, 1) := by decide +kernel
theorem dX4_signAt_26 : decode cX4_signAt 26 = .ok (.ifCond .lt 64, 3) := by decide +kernel
theorem dX4_signAt_29 : decode cX4_signAt 29 = .ok (.aload_n 0, 1) := by decide +kernel
theorem dX4_signAt_30 : decode cX4_signAt 30 = .ok (.getfield 27, 3) := by decide +kernel
theorem dX4_signAt_33 : decode cX4_signAt 33 = .ok (.iload_n 3, 1) := by decide +kernel
theorem dX4_signAt_34 : decode cX4_signAt 34 = .ok (.iaload, 1) := by decide +kernel
theorem dX4_signAt_35 : decode cX4_signAt 35 = .ok (.istore 6, 2) := by decide +kernel
theorem dX4_signAt_37 : decode cX4_signAt 37 = .ok (.iinc 4 (-1), 3) := by decide +kernel
theorem dX4_signAt_40 : decode cX4_signAt 40 = .ok (.iload 4, 2) := by decide +kernel
theorem dX4_signAt_42 : decode cX4_signAt 42 = .ok (.aload_n 0, 1) := by decide +kernel
theorem dX4_signAt_43 : decode cX4_signAt 43 = .ok (.getfield 21, 3) := by decide +kernel
theorem dX4_signAt_46 : decode cX4_signAt 46 = .ok (.iload 6, 2) := by decide +kernel
theorem dX4_signAt_48 : decode cX4_signAt 48 = .ok (.iaload, 1) := by decide +kernel
theorem dX4_signAt_49 : decode cX4_signAt 49 = .ok (.if_icmp .lt 32, 3) := by decide +kernel
theorem dX4_signAt_52 : decode cX4_signAt 52 = .ok (.aload_n 0, 1) := by decide +kernel
theorem dX4_signAt_53 : decode cX4_signAt 53 = .ok (.getfield 30, 3) := by decide +kernel
theorem dX4_signAt_56 : decode cX4_signAt 56 = .ok (.iload_n 3, 1) := by decide +kernel
theorem dX4_signAt_57 : decode cX4_signAt 57 = .ok (.iaload, 1) := by decide +kernel
theorem dX4_signAt_58 : decode cX4_signAt 58 = .ok (.ifCond .lt 23, 3) := by decide +kernel
theorem dX4_signAt_61 : decode cX4_signAt 61 = .ok (.iload 4, 2) := by decide +kernel
theorem dX4_signAt_63 : decode cX4_signAt 63 = .ok (.aload_n 0, 1) := by decide +kernel
theorem dX4_signAt_64 : decode cX4_signAt 64 = .ok (.getfield 21, 3) := by decide +kernel
theorem dX4_signAt_67 : decode cX4_signAt 67 = .ok (.iload 6, 2) := by decide +kernel
theorem dX4_signAt_69 : decode cX4_signAt 69 = .ok (.iaload, 1) := by decide +kernel
theorem dX4_signAt_70 : decode cX4_signAt 70 = .ok (.isub, 1) := by decide +kernel
theorem dX4_signAt_71 : decode cX4_signAt 71 = .ok (.istore 4, 2) := by decide +kernel
theorem dX4_signAt_73 : decode cX4_signAt 73 = .ok (.aload_n 0, 1) := by decide +kernel
theorem dX4_signAt_74 : decode cX4_signAt 74 = .ok (.getfield 30, 3) := by decide +kernel
theorem dX4_signAt_77 : decode cX4_signAt 77 = .ok (.iload_n 3, 1) := by decide +kernel
theorem dX4_signAt_78 : decode cX4_signAt 78 = .ok (.iaload, 1) := by decide +kernel
theorem dX4_signAt_79 : decode cX4_signAt 79 = .ok (.istore 6, 2) := by decide +kernel
theorem dX4_signAt_81 : decode cX4_signAt 81 = .ok (.iload 6, 2) := by decide +kernel
theorem dX4_signAt_83 : decode cX4_signAt 83 = .ok (.istore_n 3, 1) := by decide +kernel
theorem dX4_signAt_84 : decode cX4_signAt 84 = .ok (.iinc 5 1, 3) := by decide +kernel
theorem dX4_signAt_87 : decode cX4_signAt 87 = .ok (.goto (-79), 3) := by decide +kernel
theorem dX4_signAt_90 : decode cX4_signAt 90 = .ok (.aload_n 0, 1) := by decide +kernel
theorem dX4_signAt_91 : decode cX4_signAt 91 = .ok (.getfield 24, 3) := by decide +kernel
theorem dX4_signAt_94 : decode cX4_signAt 94 = .ok (.iload_n 3, 1) := by decide +kernel
theorem dX4_signAt_95 : decode cX4_signAt 95 = .ok (.iaload, 1) := by decide +kernel
theorem dX4_signAt_96 : decode cX4_signAt 96 = .ok (.ireturn, 1) := by decide +kernel
theorem dX5_init_0 : decode cX5_init 0 = .ok (.aload_n 0, 1) := by decide +kernel
theorem dX5_init_1 : decode cX5_init 1 = .ok (.invokespecial 3, 3) := by decide +kernel
theorem dX5_init_4 : decode cX5_init 4 = .ok (.aload_n 0, 1) := by decide +kernel
theorem dX5_init_5 : decode cX5_init 5 = .ok (.sipush 2048, 3) := by decide +kernel
theorem dX5_init_8 : decode cX5_init 8 = .ok (.newarray .long, 2) := by decide +kernel
theorem dX5_init_10 : decode cX5_init 10 = .ok (.putfield 13, 3) := by decide +kernel
theorem dX5_init_13 : decode cX5_init 13 = .ok (.aload_n 0, 1) := by decide +kernel
theorem dX5_init_14 : decode cX5_init 14 = .ok (.iconst 4, 1) := by decide +kernel
theorem dX5_init_15 : decode cX5_init 15 = .ok (.newarray .int, 2) := by decide +kernel
theorem dX5_init_17 : decode cX5_init 17 = .ok (.putfield 17, 3) := by decide +kernel
theorem dX5_init_20 : decode cX5_init 20 = .ok (.return_, 1) := by decide +kernel
theorem dX5_begin_0 : decode cX5_begin 0 = .ok (.aload_n 0, 1) := by decide +kernel
theorem dX5_begin_1 : decode cX5_begin 1 = .ok (.iconst 0, 1) := by decide +kernel
theorem dX5_begin_2 : decode cX5_begin 2 = .ok (.putfield 21, 3) := by decide +kernel
theorem dX5_begin_5 : decode cX5_begin 5 = .ok (.return_, 1) := by decide +kernel
theorem dX5_putLeaf_0 : decode cX5_putLeaf 0 = .ok (.iload_n 1, 1) := by decide +kernel
theorem dX5_putLeaf_1 : decode cX5_putLeaf 1 = .ok (.ifCond .lt 15, 3) := by decide +kernel
theorem dX5_putLeaf_4 : decode cX5_putLeaf 4 = .ok (.iload_n 1, 1) := by decide +kernel
theorem dX5_putLeaf_5 : decode cX5_putLeaf 5 = .ok (.iconst 4, 1) := by decide +kernel
theorem dX5_putLeaf_6 : decode cX5_putLeaf 6 = .ok (.if_icmp .ge 10, 3) := by decide +kernel
theorem dX5_putLeaf_9 : decode cX5_putLeaf 9 = .ok (.aload_n 0, 1) := by decide +kernel
theorem dX5_putLeaf_10 : decode cX5_putLeaf 10 = .ok (.getfield 17, 3) := by decide +kernel
theorem dX5_putLeaf_13 : decode cX5_putLeaf 13 = .ok (.iload_n 1, 1) := by decide +kernel
theorem dX5_putLeaf_14 : decode cX5_putLeaf 14 = .ok (.iload_n 2, 1) := by decide +kernel
theorem dX5_putLeaf_15 : decode cX5_putLeaf 15 = .ok (.iastore, 1) := by decide +kernel
theorem dX5_putLeaf_16 : decode cX5_putLeaf 16 = .ok (.return_, 1) := by decide +kernel
theorem dX5_treesOf_0 : decode cX5_treesOf 0 = .ok (.aload_n 0, 1) := by decide +kernel
theorem dX5_treesOf_1 : decode cX5_treesOf 1 = .ok (.getfield 21, 3) := by decide +kernel
theorem dX5_treesOf_4 : decode cX5_treesOf 4 = .ok (.ifCond .ne 42, 3) := by decide +kernel
theorem dX5_treesOf_7 : decode cX5_treesOf 7 = .ok (.aload_n 0, 1) := by decide +kernel
theorem dX5_treesOf_8 : decode cX5_treesOf 8 = .ok (.invokevirtual 25, 3) := by decide +kernel
theorem dX5_treesOf_11 : decode cX5_treesOf 11 = .ok (.iconst 2, 1) := by decide +kernel
theorem dX5_treesOf_12 : decode cX5_treesOf 12 = .ok (.istore 4, 2) := by decide +kernel
theorem dX5_treesOf_14 : decode cX5_treesOf 14 = .ok (.iload 4, 2) := by decide +kernel
theorem dX5_treesOf_16 : decode cX5_treesOf 16 = .ok (.bipush 16, 2) := by decide +kernel
theorem dX5_treesOf_18 : decode cX5_treesOf 18 = .ok (.if_icmp .ge 23, 3) := by decide +kernel
theorem dX5_treesOf_21 : decode cX5_treesOf 21 = .ok (.aload_n 0, 1) := by decide +kernel
theorem dX5_treesOf_22 : decode cX5_treesOf 22 = .ok (.aload_n 1, 1) := by decide +kernel
theorem dX5_treesOf_23 : decode cX5_treesOf 23 = .ok (.iload 4, 2) := by decide +kernel
theorem dX5_treesOf_25 : decode cX5_treesOf 25 = .ok (.invokevirtual 28, 3) := by decide +kernel
theorem dX5_treesOf_28 : decode cX5_treesOf 28 = .ok (.aload_n 0, 1) := by decide +kernel
theorem dX5_treesOf_29 : decode cX5_treesOf 29 = .ok (.aload_n 1, 1) := by decide +kernel
theorem dX5_treesOf_30 : decode cX5_treesOf 30 = .ok (.iload 4, 2) := by decide +kernel
theorem dX5_treesOf_32 : decode cX5_treesOf 32 = .ok (.invokevirtual 32, 3) := by decide +kernel
theorem dX5_treesOf_35 : decode cX5_treesOf 35 = .ok (.iinc 4 1, 3) := by decide +kernel
theorem dX5_treesOf_38 : decode cX5_treesOf 38 = .ok (.goto (-24), 3) := by decide +kernel
theorem dX5_treesOf_41 : decode cX5_treesOf 41 = .ok (.aload_n 0, 1) := by decide +kernel
theorem dX5_treesOf_42 : decode cX5_treesOf 42 = .ok (.iconst 1, 1) := by decide +kernel
theorem dX5_treesOf_43 : decode cX5_treesOf 43 = .ok (.putfield 21, 3) := by decide +kernel
theorem dX5_treesOf_46 : decode cX5_treesOf 46 = .ok (.aload_n 0, 1) := by decide +kernel
theorem dX5_treesOf_47 : decode cX5_treesOf 47 = .ok (.getfield 13, 3) := by decide +kernel
theorem dX5_treesOf_50 : decode cX5_treesOf 50 = .ok (.iload_n 2, 1) := by decide +kernel
theorem dX5_treesOf_51 : decode cX5_treesOf 51 = .ok (.bipush 16, 2) := by decide +kernel
theorem dX5_treesOf_53 : decode cX5_treesOf 53 = .ok (.imul, 1) := by decide +kernel
theorem dX5_treesOf_54 : decode cX5_treesOf 54 = .ok (.iload_n 3, 1) := by decide +kernel
theorem dX5_treesOf_55 : decode cX5_treesOf 55 = .ok (.iadd, 1) := by decide +kernel
theorem dX5_treesOf_56 : decode cX5_treesOf 56 = .ok (.laload, 1) := by decide +kernel
theorem dX5_treesOf_57 : decode cX5_treesOf 57 = .ok (.lreturn, 1) := by decide +kernel
theorem dX5_addLeaves_0 : decode cX5_addLeaves 0 = .ok (.iconst 0, 1) := by decide +kernel
theorem dX5_addLeaves_1 : decode cX5_addLeaves 1 = .ok (.istore_n 1, 1) := by decide +kernel
theorem dX5_addLeaves_2 : decode cX5_addLeaves 2 = .ok (.iload_n 1, 1) := by decide +kernel
theorem dX5_addLeaves_3 : decode cX5_addLeaves 3 = .ok (.sipush 2048, 3) := by decide +kernel
theorem dX5_addLeaves_6 : decode cX5_addLeaves 6 = .ok (.if_icmp .ge 16, 3) := by decide +kernel
theorem dX5_addLeaves_9 : decode cX5_addLeaves 9 = .ok (.aload_n 0, 1) := by decide +kernel
theorem dX5_addLeaves_10 : decode cX5_addLeaves 10 = .ok (.getfield 13, 3) := by decide +kernel
theorem dX5_addLeaves_13 : decode cX5_addLeaves 13 = .ok (.iload_n 1, 1) := by decide +kernel
theorem dX5_addLeaves_14 : decode cX5_addLeaves 14 = .ok (.lconst 0, 1) := by decide +kernel
theorem dX5_addLeaves_15 : decode cX5_addLeaves 15 = .ok (.lastore, 1) := by decide +kernel
theorem dX5_addLeaves_16 : decode cX5_addLeaves 16 = .ok (.iinc 1 1, 3) := by decide +kernel
theorem dX5_addLeaves_19 : decode cX5_addLeaves 19 = .ok (.goto (-17), 3) := by decide +kernel
theorem dX5_addLeaves_22 : decode cX5_addLeaves 22 = .ok (.iconst 0, 1) := by decide +kernel
theorem dX5_addLeaves_23 : decode cX5_addLeaves 23 = .ok (.istore_n 1, 1) := by decide +kernel
theorem dX5_addLeaves_24 : decode cX5_addLeaves 24 = .ok (.iload_n 1, 1) := by decide +kernel
theorem dX5_addLeaves_25 : decode cX5_addLeaves 25 = .ok (.iconst 4, 1) := by decide +kernel
theorem dX5_addLeaves_26 : decode cX5_addLeaves 26 = .ok (.if_icmp .ge 29, 3) := by decide +kernel
theorem dX5_addLeaves_29 : decode cX5_addLeaves 29 = .ok (.aload_n 0, 1) := by decide +kernel
theorem dX5_addLeaves_30 : decode cX5_addLeaves 30 = .ok (.getfield 13, 3) := by decide +kernel
theorem dX5_addLeaves_33 : decode cX5_addLeaves 33 = .ok (.aload_n 0, 1) := by decide +kernel
theorem dX5_addLeaves_34 : decode cX5_addLeaves 34 = .ok (.getfield 17, 3) := by decide +kernel
theorem dX5_addLeaves_37 : decode cX5_addLeaves 37 = .ok (.iload_n 1, 1) := by decide +kernel
theorem dX5_addLeaves_38 : decode cX5_addLeaves 38 = .ok (.iaload, 1) := by decide +kernel
theorem dX5_addLeaves_39 : decode cX5_addLeaves 39 = .ok (.bipush 16, 2) := by decide +kernel
theorem dX5_addLeaves_41 : decode cX5_addLeaves 41 = .ok (.imul, 1) := by decide +kernel
theorem dX5_addLeaves_42 : decode cX5_addLeaves 42 = .ok (.iconst 1, 1) := by decide +kernel
theorem dX5_addLeaves_43 : decode cX5_addLeaves 43 = .ok (.iadd, 1) := by decide +kernel
theorem dX5_addLeaves_44 : decode cX5_addLeaves 44 = .ok (.dup2, 1) := by decide +kernel
theorem dX5_addLeaves_45 : decode cX5_addLeaves 45 = .ok (.laload, 1) := by decide +kernel
theorem dX5_addLeaves_46 : decode cX5_addLeaves 46 = .ok (.lconst 1, 1) := by decide +kernel
theorem dX5_addLeaves_47 : decode cX5_addLeaves 47 = .ok (.ladd, 1) := by decide +kernel
theorem dX5_addLeaves_48 : decode cX5_addLeaves 48 = .ok (.lastore, 1) := by decide +kernel
theorem dX5_addLeaves_49 : decode cX5_addLeaves 49 = .ok (.iinc 1 1, 3) := by decide +kernel
theorem dX5_addLeaves_52 : decode cX5_addLeaves 52 = .ok (.goto (-28), 3) := by decide +kernel
theorem dX5_addLeaves_55 : decode cX5_addLeaves 55 = .ok (.return_, 1) := by decide +kernel
theorem dX5_addOneArmed_0 : decode cX5_addOneArmed 0 = .ok (.iconst 0, 1) := by decide +kernel
theorem dX5_addOneArmed_1 : decode cX5_addOneArmed 1 = .ok (.istore_n 3, 1) := by decide +kernel
theorem dX5_addOneArmed_2 : decode cX5_addOneArmed 2 = .ok (.iload_n 3, 1) := by decide +kernel
theorem dX5_addOneArmed_3 : decode cX5_addOneArmed 3 = .ok (.aload_n 1, 1) := by decide +kernel
theorem dX5_addOneArmed_4 : decode cX5_addOneArmed 4 = .ok (.getfield 35, 3) := by decide +kernel
theorem dX5_addOneArmed_7 : decode cX5_addOneArmed 7 = .ok (.if_icmp .ge 32, 3) := by decide +kernel
theorem dX5_addOneArmed_10 : decode cX5_addOneArmed 10 = .ok (.aload_n 0, 1) := by decide +kernel
theorem dX5_addOneArmed_11 : decode cX5_addOneArmed 11 = .ok (.aload_n 1, 1) := by decide +kernel
theorem dX5_addOneArmed_12 : decode cX5_addOneArmed 12 = .ok (.iload_n 3, 1) := by decide +kernel
theorem dX5_addOneArmed_13 : decode cX5_addOneArmed 13 = .ok (.invokevirtual 39, 3) := by decide +kernel
theorem dX5_addOneArmed_16 : decode cX5_addOneArmed 16 = .ok (.iload_n 2, 1) := by decide +kernel
theorem dX5_addOneArmed_17 : decode cX5_addOneArmed 17 = .ok (.aload_n 0, 1) := by decide +kernel
theorem dX5_addOneArmed_18 : decode cX5_addOneArmed 18 = .ok (.getfield 13, 3) := by decide +kernel
theorem dX5_addOneArmed_21 : decode cX5_addOneArmed 21 = .ok (.iload_n 3, 1) := by decide +kernel
theorem dX5_addOneArmed_22 : decode cX5_addOneArmed 22 = .ok (.bipush 16, 2) := by decide +kernel
theorem dX5_addOneArmed_24 : decode cX5_addOneArmed 24 = .ok (.imul, 1) := by decide +kernel
theorem dX5_addOneArmed_25 : decode cX5_addOneArmed 25 = .ok (.iload_n 2, 1) := by decide +kernel
theorem dX5_addOneArmed_26 : decode cX5_addOneArmed 26 = .ok (.iadd, 1) := by decide +kernel
theorem dX5_addOneArmed_27 : decode cX5_addOneArmed 27 = .ok (.iconst 1, 1) := by decide +kernel
theorem dX5_addOneArmed_28 : decode cX5_addOneArmed 28 = .ok (.isub, 1) := by decide +kernel
theorem dX5_addOneArmed_29 : decode cX5_addOneArmed 29 = .ok (.laload, 1) := by decide +kernel
theorem dX5_addOneArmed_30 : decode cX5_addOneArmed 30 = .ok (.invokevirtual 43, 3) := by decide +kernel
theorem dX5_addOneArmed_33 : decode cX5_addOneArmed 33 = .ok (.iinc 3 1, 3) := by decide +kernel
theorem dX5_addOneArmed_36 : decode cX5_addOneArmed 36 = .ok (.goto (-34), 3) := by decide +kernel
theorem dX5_addOneArmed_39 : decode cX5_addOneArmed 39 = .ok (.return_, 1) := by decide +kernel
theorem dX5_addTwoArmed_0 : decode cX5_addTwoArmed 0 = .ok (.iconst 0, 1) := by decide +kernel
theorem dX5_addTwoArmed_1 : decode cX5_addTwoArmed 1 = .ok (.istore_n 3, 1) := by decide +kernel
theorem dX5_addTwoArmed_2 : decode cX5_addTwoArmed 2 = .ok (.iload_n 3, 1) := by decide +kernel
theorem dX5_addTwoArmed_3 : decode cX5_addTwoArmed 3 = .ok (.aload_n 1, 1) := by decide +kernel
theorem dX5_addTwoArmed_4 : decode cX5_addTwoArmed 4 = .ok (.getfield 35, 3) := by decide +kernel
theorem dX5_addTwoArmed_7 : decode cX5_addTwoArmed 7 = .ok (.if_icmp .ge 114, 3) := by decide +kernel
theorem dX5_addTwoArmed_10 : decode cX5_addTwoArmed 10 = .ok (.iconst 0, 1) := by decide +kernel
theorem dX5_addTwoArmed_11 : decode cX5_addTwoArmed 11 = .ok (.istore 4, 2) := by decide +kernel
theorem dX5_addTwoArmed_13 : decode cX5_addTwoArmed 13 = .ok (.iload 4, 2) := by decide +kernel
theorem dX5_addTwoArmed_15 : decode cX5_addTwoArmed 15 = .ok (.aload_n 1, 1) := by decide +kernel
theorem dX5_addTwoArmed_16 : decode cX5_addTwoArmed 16 = .ok (.getfield 35, 3) := by decide +kernel
theorem dX5_addTwoArmed_19 : decode cX5_addTwoArmed 19 = .ok (.if_icmp .ge 96, 3) := by decide +kernel
theorem dX5_addTwoArmed_22 : decode cX5_addTwoArmed 22 = .ok (.lconst 0, 1) := by decide +kernel
theorem dX5_addTwoArmed_23 : decode cX5_addTwoArmed 23 = .ok (.lstore 5, 2) := by decide +kernel
theorem dX5_addTwoArmed_25 : decode cX5_addTwoArmed 25 = .ok (.aload_n 1, 1) := by decide +kernel
theorem dX5_addTwoArmed_26 : decode cX5_addTwoArmed 26 = .ok (.iload_n 3, 1) := by decide +kernel
theorem dX5_addTwoArmed_27 : decode cX5_addTwoArmed 27 = .ok (.invokevirtual 47, 3) := by decide +kernel
theorem dX5_addTwoArmed_30 : decode cX5_addTwoArmed 30 = .ok (.istore 7, 2) := by decide +kernel
theorem dX5_addTwoArmed_32 : decode cX5_addTwoArmed 32 = .ok (.iload 7, 2) := by decide +kernel
theorem dX5_addTwoArmed_34 : decode cX5_addTwoArmed 34 = .ok (.iload_n 2, 1) := by decide +kernel
theorem dX5_addTwoArmed_35 : decode cX5_addTwoArmed 35 = .ok (.iconst 1, 1) := by decide +kernel
theorem dX5_addTwoArmed_36 : decode cX5_addTwoArmed 36 = .ok (.isub, 1) := by decide +kernel
theorem dX5_addTwoArmed_37 : decode cX5_addTwoArmed 37 = .ok (.aload_n 1, 1) := by decide +kernel
theorem dX5_addTwoArmed_38 : decode cX5_addTwoArmed 38 = .ok (.iload 4, 2) := by decide +kernel
theorem dX5_addTwoArmed_40 : decode cX5_addTwoArmed 40 = .ok (.invokevirtual 47, 3) := by decide +kernel
theorem dX5_addTwoArmed_43 : decode cX5_addTwoArmed 43 = .ok (.isub, 1) := by decide +kernel
theorem dX5_addTwoArmed_44 : decode cX5_addTwoArmed 44 = .ok (.if_icmp .gt 44, 3) := by decide +kernel
theorem dX5_addTwoArmed_47 : decode cX5_addTwoArmed 47 = .ok (.lload 5, 2) := by decide +kernel
theorem dX5_addTwoArmed_49 : decode cX5_addTwoArmed 49 = .ok (.aload_n 0, 1) := by decide +kernel
theorem dX5_addTwoArmed_50 : decode cX5_addTwoArmed 50 = .ok (.getfield 13, 3) := by decide +kernel
theorem dX5_addTwoArmed_53 : decode cX5_addTwoArmed 53 = .ok (.iload_n 3, 1) := by decide +kernel
theorem dX5_addTwoArmed_54 : decode cX5_addTwoArmed 54 = .ok (.bipush 16, 2) := by decide +kernel
theorem dX5_addTwoArmed_56 : decode cX5_addTwoArmed 56 = .ok (.imul, 1) := by decide +kernel
theorem dX5_addTwoArmed_57 : decode cX5_addTwoArmed 57 = .ok (.iload 7, 2) := by decide +kernel
theorem dX5_addTwoArmed_59 : decode cX5_addTwoArmed 59 = .ok (.iadd, 1) := by decide +kernel
theorem dX5_addTwoArmed_60 : decode cX5_addTwoArmed 60 = .ok (.laload, 1) := by decide +kernel
theorem dX5_addTwoArmed_61 : decode cX5_addTwoArmed 61 = .ok (.aload_n 0, 1) := by decide +kernel
theorem dX5_addTwoArmed_62 : decode cX5_addTwoArmed 62 = .ok (.getfield 13, 3) := by decide +kernel
theorem dX5_addTwoArmed_65 : decode cX5_addTwoArmed 65 = .ok (.iload 4, 2) := by decide +kernel
theorem dX5_addTwoArmed_67 : decode cX5_addTwoArmed 67 = .ok (.bipush 16, 2) := by decide +kernel
theorem dX5_addTwoArmed_69 : decode cX5_addTwoArmed 69 = .ok (.imul, 1) := by decide +kernel
theorem dX5_addTwoArmed_70 : decode cX5_addTwoArmed 70 = .ok (.iload_n 2, 1) := by decide +kernel
theorem dX5_addTwoArmed_71 : decode cX5_addTwoArmed 71 = .ok (.iadd, 1) := by decide +kernel
theorem dX5_addTwoArmed_72 : decode cX5_addTwoArmed 72 = .ok (.iconst 1, 1) := by decide +kernel
theorem dX5_addTwoArmed_73 : decode cX5_addTwoArmed 73 = .ok (.isub, 1) := by decide +kernel
theorem dX5_addTwoArmed_74 : decode cX5_addTwoArmed 74 = .ok (.iload 7, 2) := by decide +kernel
theorem dX5_addTwoArmed_76 : decode cX5_addTwoArmed 76 = .ok (.isub, 1) := by decide +kernel
theorem dX5_addTwoArmed_77 : decode cX5_addTwoArmed 77 = .ok (.laload, 1) := by decide +kernel
theorem dX5_addTwoArmed_78 : decode cX5_addTwoArmed 78 = .ok (.lmul, 1) := by decide +kernel
theorem dX5_addTwoArmed_79 : decode cX5_addTwoArmed 79 = .ok (.ladd, 1) := by decide +kernel
theorem dX5_addTwoArmed_80 : decode cX5_addTwoArmed 80 = .ok (.lstore 5, 2) := by decide +kernel
theorem dX5_addTwoArmed_82 : decode cX5_addTwoArmed 82 = .ok (.iinc 7 1, 3) := by decide +kernel
theorem dX5_addTwoArmed_85 : decode cX5_addTwoArmed 85 = .ok (.goto (-53), 3) := by decide +kernel
theorem dX5_addTwoArmed_88 : decode cX5_addTwoArmed 88 = .ok (.lload 5, 2) := by decide +kernel
theorem dX5_addTwoArmed_90 : decode cX5_addTwoArmed 90 = .ok (.lconst 0, 1) := by decide +kernel
theorem dX5_addTwoArmed_91 : decode cX5_addTwoArmed 91 = .ok (.lcmp, 1) := by decide +kernel
theorem dX5_addTwoArmed_92 : decode cX5_addTwoArmed 92 = .ok (.ifCond .eq 17, 3) := by decide +kernel
theorem dX5_addTwoArmed_95 : decode cX5_addTwoArmed 95 = .ok (.aload_n 0, 1) := by decide +kernel
theorem dX5_addTwoArmed_96 : decode cX5_addTwoArmed 96 = .ok (.aload_n 1, 1) := by decide +kernel
theorem dX5_addTwoArmed_97 : decode cX5_addTwoArmed 97 = .ok (.iload_n 3, 1) := by decide +kernel
theorem dX5_addTwoArmed_98 : decode cX5_addTwoArmed 98 = .ok (.iload 4, 2) := by decide +kernel
theorem dX5_addTwoArmed_100 : decode cX5_addTwoArmed 100 = .ok (.invokevirtual 50, 3) := by decide +kernel
theorem dX5_addTwoArmed_103 : decode cX5_addTwoArmed 103 = .ok (.iload_n 2, 1) := by decide +kernel
theorem dX5_addTwoArmed_104 : decode cX5_addTwoArmed 104 = .ok (.lload 5, 2) := by decide +kernel
theorem dX5_addTwoArmed_106 : decode cX5_addTwoArmed 106 = .ok (.invokevirtual 43, 3) := by decide +kernel
theorem dX5_addTwoArmed_109 : decode cX5_addTwoArmed 109 = .ok (.iinc 4 1, 3) := by decide +kernel
theorem dX5_addTwoArmed_112 : decode cX5_addTwoArmed 112 = .ok (.goto (-99), 3) := by decide +kernel
theorem dX5_addTwoArmed_115 : decode cX5_addTwoArmed 115 = .ok (.iinc 3 1, 3) := by decide +kernel
theorem dX5_addTwoArmed_118 : decode cX5_addTwoArmed 118 = .ok (.goto (-116), 3) := by decide +kernel
theorem dX5_addTwoArmed_121 : decode cX5_addTwoArmed 121 = .ok (.return_, 1) := by decide +kernel
theorem dX5_addBoth_0 : decode cX5_addBoth 0 = .ok (.aload_n 0, 1) := by decide +kernel
theorem dX5_addBoth_1 : decode cX5_addBoth 1 = .ok (.getfield 13, 3) := by decide +kernel
theorem dX5_addBoth_4 : decode cX5_addBoth 4 = .ok (.iload_n 1, 1) := by decide +kernel
theorem dX5_addBoth_5 : decode cX5_addBoth 5 = .ok (.invokestatic 54, 3) := by decide +kernel
theorem dX5_addBoth_8 : decode cX5_addBoth 8 = .ok (.bipush 16, 2) := by decide +kernel
theorem dX5_addBoth_10 : decode cX5_addBoth 10 = .ok (.imul, 1) := by decide +kernel
theorem dX5_addBoth_11 : decode cX5_addBoth 11 = .ok (.iload_n 2, 1) := by decide +kernel
theorem dX5_addBoth_12 : decode cX5_addBoth 12 = .ok (.iadd, 1) := by decide +kernel
theorem dX5_addBoth_13 : decode cX5_addBoth 13 = .ok (.dup2, 1) := by decide +kernel
theorem dX5_addBoth_14 : decode cX5_addBoth 14 = .ok (.laload, 1) := by decide +kernel
theorem dX5_addBoth_15 : decode cX5_addBoth 15 = .ok (.lload_n 3, 1) := by decide +kernel
theorem dX5_addBoth_16 : decode cX5_addBoth 16 = .ok (.ladd, 1) := by decide +kernel
theorem dX5_addBoth_17 : decode cX5_addBoth 17 = .ok (.lastore, 1) := by decide +kernel
theorem dX5_addBoth_18 : decode cX5_addBoth 18 = .ok (.aload_n 0, 1) := by decide +kernel
theorem dX5_addBoth_19 : decode cX5_addBoth 19 = .ok (.getfield 13, 3) := by decide +kernel
theorem dX5_addBoth_22 : decode cX5_addBoth 22 = .ok (.iload_n 1, 1) := by decide +kernel
theorem dX5_addBoth_23 : decode cX5_addBoth 23 = .ok (.invokestatic 57, 3) := by decide +kernel
theorem dX5_addBoth_26 : decode cX5_addBoth 26 = .ok (.bipush 16, 2) := by decide +kernel
theorem dX5_addBoth_28 : decode cX5_addBoth 28 = .ok (.imul, 1) := by decide +kernel
theorem dX5_addBoth_29 : decode cX5_addBoth 29 = .ok (.iload_n 2, 1) := by decide +kernel
theorem dX5_addBoth_30 : decode cX5_addBoth 30 = .ok (.iadd, 1) := by decide +kernel
theorem dX5_addBoth_31 : decode cX5_addBoth 31 = .ok (.dup2, 1) := by decide +kernel
theorem dX5_addBoth_32 : decode cX5_addBoth 32 = .ok (.laload, 1) := by decide +kernel
theorem dX5_addBoth_33 : decode cX5_addBoth 33 = .ok (.lload_n 3, 1) := by decide +kernel
theorem dX5_addBoth_34 : decode cX5_addBoth 34 = .ok (.ladd, 1) := by decide +kernel
theorem dX5_addBoth_35 : decode cX5_addBoth 35 = .ok (.lastore, 1) := by decide +kernel
theorem dX5_addBoth_36 : decode cX5_addBoth 36 = .ok (.return_, 1) := by decide +kernel
theorem dX6_init_0 : decode cX6_init 0 = .ok (.aload_n 0, 1) := by decide +kernel
theorem dX6_init_1 : decode cX6_init 1 = .ok (.invokespecial 3, 3) := by decide +kernel
theorem dX6_init_4 : decode cX6_init 4 = .ok (.aload_n 0, 1) := by decide +kernel
theorem dX6_init_5 : decode cX6_init 5 = .ok (.sipush 300, 3) := by decide +kernel
theorem dX6_init_8 : decode cX6_init 8 = .ok (.newarray .int, 2) := by decide +kernel
theorem dX6_init_10 : decode cX6_init 10 = .ok (.putfield 9, 3) := by decide +kernel
theorem dX6_init_13 : decode cX6_init 13 = .ok (.return_, 1) := by decide +kernel
theorem dX6_put_0 : decode cX6_put 0 = .ok (.aload_n 0, 1) := by decide +kernel
theorem dX6_put_1 : decode cX6_put 1 = .ok (.getfield 15, 3) := by decide +kernel
theorem dX6_put_4 : decode cX6_put 4 = .ok (.sipush 300, 3) := by decide +kernel
theorem dX6_put_7 : decode cX6_put 7 = .ok (.if_icmp .ge 23, 3) := by decide +kernel
theorem dX6_put_10 : decode cX6_put 10 = .ok (.aload_n 0, 1) := by decide +kernel
theorem dX6_put_11 : decode cX6_put 11 = .ok (.getfield 9, 3) := by decide +kernel
theorem dX6_put_14 : decode cX6_put 14 = .ok (.aload_n 0, 1) := by decide +kernel
theorem dX6_put_15 : decode cX6_put 15 = .ok (.getfield 15, 3) := by decide +kernel
theorem dX6_put_18 : decode cX6_put 18 = .ok (.iload_n 1, 1) := by decide +kernel
theorem dX6_put_19 : decode cX6_put 19 = .ok (.iastore, 1) := by decide +kernel
theorem dX6_put_20 : decode cX6_put 20 = .ok (.aload_n 0, 1) := by decide +kernel
theorem dX6_put_21 : decode cX6_put 21 = .ok (.dup, 1) := by decide +kernel
theorem dX6_put_22 : decode cX6_put 22 = .ok (.getfield 15, 3) := by decide +kernel
theorem dX6_put_25 : decode cX6_put 25 = .ok (.iconst 1, 1) := by decide +kernel
theorem dX6_put_26 : decode cX6_put 26 = .ok (.iadd, 1) := by decide +kernel
theorem dX6_put_27 : decode cX6_put 27 = .ok (.putfield 15, 3) := by decide +kernel
theorem dX6_put_30 : decode cX6_put 30 = .ok (.return_, 1) := by decide +kernel
theorem dX6_byteAt_0 : decode cX6_byteAt 0 = .ok (.iload_n 1, 1) := by decide +kernel
theorem dX6_byteAt_1 : decode cX6_byteAt 1 = .ok (.ifCond .lt 27, 3) := by decide +kernel
theorem dX6_byteAt_4 : decode cX6_byteAt 4 = .ok (.iload_n 1, 1) := by decide +kernel
theorem dX6_byteAt_5 : decode cX6_byteAt 5 = .ok (.aload_n 0, 1) := by decide +kernel
theorem dX6_byteAt_6 : decode cX6_byteAt 6 = .ok (.getfield 15, 3) := by decide +kernel
theorem dX6_byteAt_9 : decode cX6_byteAt 9 = .ok (.if_icmp .ge 19, 3) := by decide +kernel
theorem dX6_byteAt_12 : decode cX6_byteAt 12 = .ok (.iload_n 1, 1) := by decide +kernel
theorem dX6_byteAt_13 : decode cX6_byteAt 13 = .ok (.sipush 300, 3) := by decide +kernel
theorem dX6_byteAt_16 : decode cX6_byteAt 16 = .ok (.if_icmp .ge 12, 3) := by decide +kernel
theorem dX6_byteAt_19 : decode cX6_byteAt 19 = .ok (.aload_n 0, 1) := by decide +kernel
theorem dX6_byteAt_20 : decode cX6_byteAt 20 = .ok (.getfield 9, 3) := by decide +kernel
theorem dX6_byteAt_23 : decode cX6_byteAt 23 = .ok (.iload_n 1, 1) := by decide +kernel
theorem dX6_byteAt_24 : decode cX6_byteAt 24 = .ok (.iaload, 1) := by decide +kernel
theorem dX6_byteAt_25 : decode cX6_byteAt 25 = .ok (.goto 4, 3) := by decide +kernel
theorem dX6_byteAt_28 : decode cX6_byteAt 28 = .ok (.iconst (-1), 1) := by decide +kernel
theorem dX6_byteAt_29 : decode cX6_byteAt 29 = .ok (.ireturn, 1) := by decide +kernel
theorem dX6_begin_0 : decode cX6_begin 0 = .ok (.aload_n 0, 1) := by decide +kernel
theorem dX6_begin_1 : decode cX6_begin 1 = .ok (.iconst 0, 1) := by decide +kernel
theorem dX6_begin_2 : decode cX6_begin 2 = .ok (.putfield 19, 3) := by decide +kernel
theorem dX6_begin_5 : decode cX6_begin 5 = .ok (.aload_n 0, 1) := by decide +kernel
theorem dX6_begin_6 : decode cX6_begin 6 = .ok (.invokevirtual 22, 3) := by decide +kernel
theorem dX6_begin_9 : decode cX6_begin 9 = .ok (.return_, 1) := by decide +kernel
theorem dX6_next_0 : decode cX6_next 0 = .ok (.iconst 0, 1) := by decide +kernel
theorem dX6_next_1 : decode cX6_next 1 = .ok (.istore_n 1, 1) := by decide +kernel
theorem dX6_next_2 : decode cX6_next 2 = .ok (.iload_n 1, 1) := by decide +kernel
theorem dX6_next_3 : decode cX6_next 3 = .ok (.sipush 300, 3) := by decide +kernel
theorem dX6_next_6 : decode cX6_next 6 = .ok (.if_icmp .ge 32, 3) := by decide +kernel
theorem dX6_next_9 : decode cX6_next 9 = .ok (.aload_n 0, 1) := by decide +kernel
theorem dX6_next_10 : decode cX6_next 10 = .ok (.aload_n 0, 1) := by decide +kernel
theorem dX6_next_11 : decode cX6_next 11 = .ok (.getfield 19, 3) := by decide +kernel
theorem dX6_next_14 : decode cX6_next 14 = .ok (.invokevirtual 25, 3) := by decide +kernel
theorem dX6_next_17 : decode cX6_next 17 = .ok (.bipush 32, 2) := by decide +kernel
theorem dX6_next_19 : decode cX6_next 19 = .ok (.if_icmp .ne 19, 3) := by decide +kernel
theorem dX6_next_22 : decode cX6_next 22 = .ok (.aload_n 0, 1) := by decide +kernel
theorem dX6_next_23 : decode cX6_next 23 = .ok (.dup, 1) := by decide +kernel
theorem dX6_next_24 : decode cX6_next 24 = .ok (.getfield 19, 3) := by decide +kernel
theorem dX6_next_27 : decode cX6_next 27 = .ok (.iconst 1, 1) := by decide +kernel
theorem dX6_next_28 : decode cX6_next 28 = .ok (.iadd, 1) := by decide +kernel
theorem dX6_next_29 : decode cX6_next 29 = .ok (.putfield 19, 3) := by decide +kernel
theorem dX6_next_32 : decode cX6_next 32 = .ok (.iinc 1 1, 3) := by decide +kernel
theorem dX6_next_35 : decode cX6_next 35 = .ok (.goto (-33), 3) := by decide +kernel
theorem dX6_next_38 : decode cX6_next 38 = .ok (.aload_n 0, 1) := by decide +kernel
theorem dX6_next_39 : decode cX6_next 39 = .ok (.aload_n 0, 1) := by decide +kernel
theorem dX6_next_40 : decode cX6_next 40 = .ok (.getfield 19, 3) := by decide +kernel
theorem dX6_next_43 : decode cX6_next 43 = .ok (.putfield 29, 3) := by decide +kernel
theorem dX6_next_46 : decode cX6_next 46 = .ok (.aload_n 0, 1) := by decide +kernel
theorem dX6_next_47 : decode cX6_next 47 = .ok (.iconst 0, 1) := by decide +kernel
theorem dX6_next_48 : decode cX6_next 48 = .ok (.putfield 32, 3) := by decide +kernel
theorem dX6_next_51 : decode cX6_next 51 = .ok (.aload_n 0, 1) := by decide +kernel
theorem dX6_next_52 : decode cX6_next 52 = .ok (.aload_n 0, 1) := by decide +kernel
theorem dX6_next_53 : decode cX6_next 53 = .ok (.getfield 19, 3) := by decide +kernel
theorem dX6_next_56 : decode cX6_next 56 = .ok (.invokevirtual 25, 3) := by decide +kernel
theorem dX6_next_59 : decode cX6_next 59 = .ok (.istore_n 1, 1) := by decide +kernel
theorem dX6_next_60 : decode cX6_next 60 = .ok (.iload_n 1, 1) := by decide +kernel
theorem dX6_next_61 : decode cX6_next 61 = .ok (.ifCond .ge 11, 3) := by decide +kernel
theorem dX6_next_64 : decode cX6_next 64 = .ok (.aload_n 0, 1) := by decide +kernel
theorem dX6_next_65 : decode cX6_next 65 = .ok (.iconst 0, 1) := by decide +kernel
theorem dX6_next_66 : decode cX6_next 66 = .ok (.putfield 35, 3) := by decide +kernel
theorem dX6_next_69 : decode cX6_next 69 = .ok (.goto 56, 3) := by decide +kernel
theorem dX6_next_72 : decode cX6_next 72 = .ok (.iload_n 1, 1) := by decide +kernel
theorem dX6_next_73 : decode cX6_next 73 = .ok (.invokestatic 38, 3) := by decide +kernel
theorem dX6_next_76 : decode cX6_next 76 = .ok (.ifCond .eq 10, 3) := by decide +kernel
theorem dX6_next_79 : decode cX6_next 79 = .ok (.aload_n 0, 1) := by decide +kernel
theorem dX6_next_80 : decode cX6_next 80 = .ok (.invokevirtual 42, 3) := by decide +kernel
theorem dX6_next_83 : decode cX6_next 83 = .ok (.goto 42, 3) := by decide +kernel
theorem dX6_next_86 : decode cX6_next 86 = .ok (.iload_n 1, 1) := by decide +kernel
theorem dX6_next_87 : decode cX6_next 87 = .ok (.invokestatic 45, 3) := by decide +kernel
theorem dX6_next_90 : decode cX6_next 90 = .ok (.ifCond .eq 10, 3) := by decide +kernel
theorem dX6_next_93 : decode cX6_next 93 = .ok (.aload_n 0, 1) := by decide +kernel
theorem dX6_next_94 : decode cX6_next 94 = .ok (.invokevirtual 48, 3) := by decide +kernel
theorem dX6_next_97 : decode cX6_next 97 = .ok (.goto 28, 3) := by decide +kernel
theorem dX6_next_100 : decode cX6_next 100 = .ok (.aload_n 0, 1) := by decide +kernel
theorem dX6_next_101 : decode cX6_next 101 = .ok (.iload_n 1, 1) := by decide +kernel
theorem dX6_next_102 : decode cX6_next 102 = .ok (.bipush 59, 2) := by decide +kernel
theorem dX6_next_104 : decode cX6_next 104 = .ok (.if_icmp .ne 7, 3) := by decide +kernel
theorem dX6_next_107 : decode cX6_next 107 = .ok (.iconst 4, 1) := by decide +kernel
theorem dX6_next_108 : decode cX6_next 108 = .ok (.goto 4, 3) := by decide +kernel
theorem dX6_next_111 : decode cX6_next 111 = .ok (.iconst 5, 1) := by decide +kernel
theorem dX6_next_112 : decode cX6_next 112 = .ok (.putfield 35, 3) := by decide +kernel
theorem dX6_next_115 : decode cX6_next 115 = .ok (.aload_n 0, 1) := by decide +kernel
theorem dX6_next_116 : decode cX6_next 116 = .ok (.dup, 1) := by decide +kernel
theorem dX6_next_117 : decode cX6_next 117 = .ok (.getfield 19, 3) := by decide +kernel
theorem dX6_next_120 : decode cX6_next 120 = .ok (.iconst 1, 1) := by decide +kernel
theorem dX6_next_121 : decode cX6_next 121 = .ok (.iadd, 1) := by decide +kernel
theorem dX6_next_122 : decode cX6_next 122 = .ok (.putfield 19, 3) := by decide +kernel
theorem dX6_next_125 : decode cX6_next 125 = .ok (.return_, 1) := by decide +kernel
theorem dX6_isStateNext_0 : decode cX6_isStateNext 0 = .ok (.aload_n 0, 1) := by decide +kernel
theorem dX6_isStateNext_1 : decode cX6_isStateNext 1 = .ok (.getfield 35, 3) := by decide +kernel
theorem dX6_isStateNext_4 : decode cX6_isStateNext 4 = .ok (.iconst 3, 1) := by decide +kernel
theorem dX6_isStateNext_5 : decode cX6_isStateNext 5 = .ok (.if_icmp .ne 17, 3) := by decide +kernel
theorem dX6_isStateNext_8 : decode cX6_isStateNext 8 = .ok (.aload_n 0, 1) := by decide +kernel
theorem dX6_isStateNext_9 : decode cX6_isStateNext 9 = .ok (.getfield 32, 3) := by decide +kernel
theorem dX6_isStateNext_12 : decode cX6_isStateNext 12 = .ok (.invokestatic 51, 3) := by decide +kernel
theorem dX6_isStateNext_15 : decode cX6_isStateNext 15 = .ok (.ifCond .eq 7, 3) := by decide +kernel
theorem dX6_isStateNext_18 : decode cX6_isStateNext 18 = .ok (.iconst 1, 1) := by decide +kernel
theorem dX6_isStateNext_19 : decode cX6_isStateNext 19 = .ok (.goto 4, 3) := by decide +kernel
theorem dX6_isStateNext_22 : decode cX6_isStateNext 22 = .ok (.iconst 0, 1) := by decide +kernel
theorem dX6_isStateNext_23 : decode cX6_isStateNext 23 = .ok (.ireturn, 1) := by decide +kernel
theorem dX6_readWord_0 : decode cX6_readWord 0 = .ok (.iconst 0, 1) := by decide +kernel
theorem dX6_readWord_1 : decode cX6_readWord 1 = .ok (.istore_n 1, 1) := by decide +kernel
theorem dX6_readWord_2 : decode cX6_readWord 2 = .ok (.iload_n 1, 1) := by decide +kernel
theorem dX6_readWord_3 : decode cX6_readWord 3 = .ok (.sipush 300, 3) := by decide +kernel
theorem dX6_readWord_6 : decode cX6_readWord 6 = .ok (.if_icmp .ge 33, 3) := by decide +kernel
theorem dX6_readWord_9 : decode cX6_readWord 9 = .ok (.aload_n 0, 1) := by decide +kernel
theorem dX6_readWord_10 : decode cX6_readWord 10 = .ok (.aload_n 0, 1) := by decide +kernel
theorem dX6_readWord_11 : decode cX6_readWord 11 = .ok (.getfield 19, 3) := by decide +kernel
theorem dX6_readWord_14 : decode cX6_readWord 14 = .ok (.invokevirtual 25, 3) := by decide +kernel
theorem dX6_readWord_17 : decode cX6_readWord 17 = .ok (.invokestatic 38, 3) := by decide +kernel
theorem dX6_readWord_20 : decode cX6_readWord 20 = .ok (.ifCond .eq 19, 3) := by decide +kernel
theorem dX6_readWord_23 : decode cX6_readWord 23 = .ok (.aload_n 0, 1) := by decide +kernel
theorem dX6_readWord_24 : decode cX6_readWord 24 = .ok (.dup, 1) := by decide +kernel
theorem dX6_readWord_25 : decode cX6_readWord 25 = .ok (.getfield 19, 3) := by decide +kernel
theorem dX6_readWord_28 : decode cX6_readWord 28 = .ok (.iconst 1, 1) := by decide +kernel
theorem dX6_readWord_29 : decode cX6_readWord 29 = .ok (.iadd, 1) := by decide +kernel
theorem dX6_readWord_30 : decode cX6_readWord 30 = .ok (.putfield 19, 3) := by decide +kernel
theorem dX6_readWord_33 : decode cX6_readWord 33 = .ok (.iinc 1 1, 3) := by decide +kernel
theorem dX6_readWord_36 : decode cX6_readWord 36 = .ok (.goto (-34), 3) := by decide +kernel
theorem dX6_readWord_39 : decode cX6_readWord 39 = .ok (.aload_n 0, 1) := by decide +kernel
theorem dX6_readWord_40 : decode cX6_readWord 40 = .ok (.aload_n 0, 1) := by decide +kernel
theorem dX6_readWord_41 : decode cX6_readWord 41 = .ok (.getfield 29, 3) := by decide +kernel
theorem dX6_readWord_44 : decode cX6_readWord 44 = .ok (.invokevirtual 25, 3) := by decide +kernel
theorem dX6_readWord_47 : decode cX6_readWord 47 = .ok (.bipush 97, 2) := by decide +kernel
theorem dX6_readWord_49 : decode cX6_readWord 49 = .ok (.isub, 1) := by decide +kernel
theorem dX6_readWord_50 : decode cX6_readWord 50 = .ok (.istore_n 1, 1) := by decide +kernel
theorem dX6_readWord_51 : decode cX6_readWord 51 = .ok (.aload_n 0, 1) := by decide +kernel
theorem dX6_readWord_52 : decode cX6_readWord 52 = .ok (.getfield 19, 3) := by decide +kernel
theorem dX6_readWord_55 : decode cX6_readWord 55 = .ok (.aload_n 0, 1) := by decide +kernel
theorem dX6_readWord_56 : decode cX6_readWord 56 = .ok (.getfield 29, 3) := by decide +kernel
theorem dX6_readWord_59 : decode cX6_readWord 59 = .ok (.isub, 1) := by decide +kernel
theorem dX6_readWord_60 : decode cX6_readWord 60 = .ok (.iconst 1, 1) := by decide +kernel
theorem dX6_readWord_61 : decode cX6_readWord 61 = .ok (.if_icmp .ne 22, 3) := by decide +kernel
theorem dX6_readWord_64 : decode cX6_readWord 64 = .ok (.iload_n 1, 1) := by decide +kernel
theorem dX6_readWord_65 : decode cX6_readWord 65 = .ok (.bipush 8, 2) := by decide +kernel
theorem dX6_readWord_67 : decode cX6_readWord 67 = .ok (.if_icmp .ge 16, 3) := by decide +kernel
theorem dX6_readWord_70 : decode cX6_readWord 70 = .ok (.aload_n 0, 1) := by decide +kernel
theorem dX6_readWord_71 : decode cX6_readWord 71 = .ok (.iconst 1, 1) := by decide +kernel
theorem dX6_readWord_72 : decode cX6_readWord 72 = .ok (.putfield 35, 3) := by decide +kernel
theorem dX6_readWord_75 : decode cX6_readWord 75 = .ok (.aload_n 0, 1) := by decide +kernel
theorem dX6_readWord_76 : decode cX6_readWord 76 = .ok (.iload_n 1, 1) := by decide +kernel
theorem dX6_readWord_77 : decode cX6_readWord 77 = .ok (.putfield 32, 3) := by decide +kernel
theorem dX6_readWord_80 : decode cX6_readWord 80 = .ok (.goto 19, 3) := by decide +kernel
theorem dX6_readWord_83 : decode cX6_readWord 83 = .ok (.aload_n 0, 1) := by decide +kernel
theorem dX6_readWord_84 : decode cX6_readWord 84 = .ok (.aload_n 0, 1) := by decide +kernel
theorem dX6_readWord_85 : decode cX6_readWord 85 = .ok (.invokevirtual 54, 3) := by decide +kernel
theorem dX6_readWord_88 : decode cX6_readWord 88 = .ok (.ifCond .eq 7, 3) := by decide +kernel
theorem dX6_readWord_91 : decode cX6_readWord 91 = .ok (.iconst 2, 1) := by decide +kernel
theorem dX6_readWord_92 : decode cX6_readWord 92 = .ok (.goto 4, 3) := by decide +kernel
theorem dX6_readWord_95 : decode cX6_readWord 95 = .ok (.iconst 5, 1) := by decide +kernel
theorem dX6_readWord_96 : decode cX6_readWord 96 = .ok (.putfield 35, 3) := by decide +kernel
theorem dX6_readWord_99 : decode cX6_readWord 99 = .ok (.return_, 1) := by decide +kernel
theorem dX6_isGoodWord_0 : decode cX6_isGoodWord 0 = .ok (.aload_n 0, 1) := by decide +kernel
theorem dX6_isGoodWord_1 : decode cX6_isGoodWord 1 = .ok (.getfield 19, 3) := by decide +kernel
theorem dX6_isGoodWord_4 : decode cX6_isGoodWord 4 = .ok (.aload_n 0, 1) := by decide +kernel
theorem dX6_isGoodWord_5 : decode cX6_isGoodWord 5 = .ok (.getfield 29, 3) := by decide +kernel
theorem dX6_isGoodWord_8 : decode cX6_isGoodWord 8 = .ok (.isub, 1) := by decide +kernel
theorem dX6_isGoodWord_9 : decode cX6_isGoodWord 9 = .ok (.iconst 4, 1) := by decide +kernel
theorem dX6_isGoodWord_10 : decode cX6_isGoodWord 10 = .ok (.if_icmp .ne 65, 3) := by decide +kernel
theorem dX6_isGoodWord_13 : decode cX6_isGoodWord 13 = .ok (.aload_n 0, 1) := by decide +kernel
theorem dX6_isGoodWord_14 : decode cX6_isGoodWord 14 = .ok (.aload_n 0, 1) := by decide +kernel
theorem dX6_isGoodWord_15 : decode cX6_isGoodWord 15 = .ok (.getfield 29, 3) := by decide +kernel
theorem dX6_isGoodWord_18 : decode cX6_isGoodWord 18 = .ok (.invokevirtual 25, 3) := by decide +kernel
theorem dX6_isGoodWord_21 : decode cX6_isGoodWord 21 = .ok (.bipush 103, 2) := by decide +kernel
theorem dX6_isGoodWord_23 : decode cX6_isGoodWord 23 = .ok (.if_icmp .ne 52, 3) := by decide +kernel
theorem dX6_isGoodWord_26 : decode cX6_isGoodWord 26 = .ok (.aload_n 0, 1) := by decide +kernel
theorem dX6_isGoodWord_27 : decode cX6_isGoodWord 27 = .ok (.aload_n 0, 1) := by decide +kernel
theorem dX6_isGoodWord_28 : decode cX6_isGoodWord 28 = .ok (.getfield 29, 3) := by decide +kernel
theorem dX6_isGoodWord_31 : decode cX6_isGoodWord 31 = .ok (.iconst 1, 1) := by decide +kernel
theorem dX6_isGoodWord_32 : decode cX6_isGoodWord 32 = .ok (.iadd, 1) := by decide +kernel
theorem dX6_isGoodWord_33 : decode cX6_isGoodWord 33 = .ok (.invokevirtual 25, 3) := by decide +kernel
theorem dX6_isGoodWord_36 : decode cX6_isGoodWord 36 = .ok (.bipush 111, 2) := by decide +kernel
theorem dX6_isGoodWord_38 : decode cX6_isGoodWord 38 = .ok (.if_icmp .ne 37, 3) := by decide +kernel
theorem dX6_isGoodWord_41 : decode cX6_isGoodWord 41 = .ok (.aload_n 0, 1) := by decide +kernel
theorem dX6_isGoodWord_42 : decode cX6_isGoodWord 42 = .ok (.aload_n 0, 1) := by decide +kernel
theorem dX6_isGoodWord_43 : decode cX6_isGoodWord 43 = .ok (.getfield 29, 3) := by decide +kernel
theorem dX6_isGoodWord_46 : decode cX6_isGoodWord 46 = .ok (.iconst 2, 1) := by decide +kernel
theorem dX6_isGoodWord_47 : decode cX6_isGoodWord 47 = .ok (.iadd, 1) := by decide +kernel
theorem dX6_isGoodWord_48 : decode cX6_isGoodWord 48 = .ok (.invokevirtual 25, 3) := by decide +kernel
theorem dX6_isGoodWord_51 : decode cX6_isGoodWord 51 = .ok (.bipush 111, 2) := by decide +kernel
theorem dX6_isGoodWord_53 : decode cX6_isGoodWord 53 = .ok (.if_icmp .ne 22, 3) := by decide +kernel
theorem dX6_isGoodWord_56 : decode cX6_isGoodWord 56 = .ok (.aload_n 0, 1) := by decide +kernel
theorem dX6_isGoodWord_57 : decode cX6_isGoodWord 57 = .ok (.aload_n 0, 1) := by decide +kernel
theorem dX6_isGoodWord_58 : decode cX6_isGoodWord 58 = .ok (.getfield 29, 3) := by decide +kernel
theorem dX6_isGoodWord_61 : decode cX6_isGoodWord 61 = .ok (.iconst 3, 1) := by decide +kernel
theorem dX6_isGoodWord_62 : decode cX6_isGoodWord 62 = .ok (.iadd, 1) := by decide +kernel
theorem dX6_isGoodWord_63 : decode cX6_isGoodWord 63 = .ok (.invokevirtual 25, 3) := by decide +kernel
theorem dX6_isGoodWord_66 : decode cX6_isGoodWord 66 = .ok (.bipush 100, 2) := by decide +kernel
theorem dX6_isGoodWord_68 : decode cX6_isGoodWord 68 = .ok (.if_icmp .ne 7, 3) := by decide +kernel
theorem dX6_isGoodWord_71 : decode cX6_isGoodWord 71 = .ok (.iconst 1, 1) := by decide +kernel
theorem dX6_isGoodWord_72 : decode cX6_isGoodWord 72 = .ok (.goto 4, 3) := by decide +kernel
theorem dX6_isGoodWord_75 : decode cX6_isGoodWord 75 = .ok (.iconst 0, 1) := by decide +kernel
theorem dX6_isGoodWord_76 : decode cX6_isGoodWord 76 = .ok (.ireturn, 1) := by decide +kernel
theorem dX6_readNumber_0 : decode cX6_readNumber 0 = .ok (.iconst 0, 1) := by decide +kernel
theorem dX6_readNumber_1 : decode cX6_readNumber 1 = .ok (.istore_n 1, 1) := by decide +kernel
theorem dX6_readNumber_2 : decode cX6_readNumber 2 = .ok (.iload_n 1, 1) := by decide +kernel
theorem dX6_readNumber_3 : decode cX6_readNumber 3 = .ok (.sipush 300, 3) := by decide +kernel
theorem dX6_readNumber_6 : decode cX6_readNumber 6 = .ok (.if_icmp .ge 61, 3) := by decide +kernel
theorem dX6_readNumber_9 : decode cX6_readNumber 9 = .ok (.aload_n 0, 1) := by decide +kernel
theorem dX6_readNumber_10 : decode cX6_readNumber 10 = .ok (.aload_n 0, 1) := by decide +kernel
theorem dX6_readNumber_11 : decode cX6_readNumber 11 = .ok (.getfield 19, 3) := by decide +kernel
theorem dX6_readNumber_14 : decode cX6_readNumber 14 = .ok (.invokevirtual 25, 3) := by decide +kernel
theorem dX6_readNumber_17 : decode cX6_readNumber 17 = .ok (.invokestatic 45, 3) := by decide +kernel
theorem dX6_readNumber_20 : decode cX6_readNumber 20 = .ok (.ifCond .eq 47, 3) := by decide +kernel
theorem dX6_readNumber_23 : decode cX6_readNumber 23 = .ok (.iload_n 1, 1) := by decide +kernel
theorem dX6_readNumber_24 : decode cX6_readNumber 24 = .ok (.iconst 2, 1) := by decide +kernel
theorem dX6_readNumber_25 : decode cX6_readNumber 25 = .ok (.if_icmp .ge 26, 3) := by decide +kernel
theorem dX6_readNumber_28 : decode cX6_readNumber 28 = .ok (.aload_n 0, 1) := by decide +kernel
theorem dX6_readNumber_29 : decode cX6_readNumber 29 = .ok (.aload_n 0, 1) := by decide +kernel
theorem dX6_readNumber_30 : decode cX6_readNumber 30 = .ok (.getfield 32, 3) := by decide +kernel
theorem dX6_readNumber_33 : decode cX6_readNumber 33 = .ok (.bipush 10, 2) := by decide +kernel
theorem dX6_readNumber_35 : decode cX6_readNumber 35 = .ok (.imul, 1) := by decide +kernel
theorem dX6_readNumber_36 : decode cX6_readNumber 36 = .ok (.aload_n 0, 1) := by decide +kernel
theorem dX6_readNumber_37 : decode cX6_readNumber 37 = .ok (.aload_n 0, 1) := by decide +kernel
theorem dX6_readNumber_38 : decode cX6_readNumber 38 = .ok (.getfield 19, 3) := by decide +kernel
theorem dX6_readNumber_41 : decode cX6_readNumber 41 = .ok (.invokevirtual 25, 3) := by decide +kernel
theorem dX6_readNumber_44 : decode cX6_readNumber 44 = .ok (.iadd, 1) := by decide +kernel
theorem dX6_readNumber_45 : decode cX6_readNumber 45 = .ok (.bipush 48, 2) := by decide +kernel
theorem dX6_readNumber_47 : decode cX6_readNumber 47 = .ok (.isub, 1) := by decide +kernel
theorem dX6_readNumber_48 : decode cX6_readNumber 48 = .ok (.putfield 32, 3) := by decide +kernel
theorem dX6_readNumber_51 : decode cX6_readNumber 51 = .ok (.aload_n 0, 1) := by decide +kernel
theorem dX6_readNumber_52 : decode cX6_readNumber 52 = .ok (.dup, 1) := by decide +kernel
theorem dX6_readNumber_53 : decode cX6_readNumber 53 = .ok (.getfield 19, 3) := by decide +kernel
theorem dX6_readNumber_56 : decode cX6_readNumber 56 = .ok (.iconst 1, 1) := by decide +kernel
theorem dX6_readNumber_57 : decode cX6_readNumber 57 = .ok (.iadd, 1) := by decide +kernel
theorem dX6_readNumber_58 : decode cX6_readNumber 58 = .ok (.putfield 19, 3) := by decide +kernel
theorem dX6_readNumber_61 : decode cX6_readNumber 61 = .ok (.iinc 1 1, 3) := by decide +kernel
theorem dX6_readNumber_64 : decode cX6_readNumber 64 = .ok (.goto (-62), 3) := by decide +kernel
theorem dX6_readNumber_67 : decode cX6_readNumber 67 = .ok (.aload_n 0, 1) := by decide +kernel
theorem dX6_readNumber_68 : decode cX6_readNumber 68 = .ok (.getfield 19, 3) := by decide +kernel
theorem dX6_readNumber_71 : decode cX6_readNumber 71 = .ok (.aload_n 0, 1) := by decide +kernel
theorem dX6_readNumber_72 : decode cX6_readNumber 72 = .ok (.getfield 29, 3) := by decide +kernel
theorem dX6_readNumber_75 : decode cX6_readNumber 75 = .ok (.isub, 1) := by decide +kernel
theorem dX6_readNumber_76 : decode cX6_readNumber 76 = .ok (.istore_n 1, 1) := by decide +kernel
theorem dX6_readNumber_77 : decode cX6_readNumber 77 = .ok (.iload_n 1, 1) := by decide +kernel
theorem dX6_readNumber_78 : decode cX6_readNumber 78 = .ok (.iconst 1, 1) := by decide +kernel
theorem dX6_readNumber_79 : decode cX6_readNumber 79 = .ok (.if_icmp .le 20, 3) := by decide +kernel
theorem dX6_readNumber_82 : decode cX6_readNumber 82 = .ok (.aload_n 0, 1) := by decide +kernel
theorem dX6_readNumber_83 : decode cX6_readNumber 83 = .ok (.aload_n 0, 1) := by decide +kernel
theorem dX6_readNumber_84 : decode cX6_readNumber 84 = .ok (.getfield 29, 3) := by decide +kernel
theorem dX6_readNumber_87 : decode cX6_readNumber 87 = .ok (.invokevirtual 25, 3) := by decide +kernel
theorem dX6_readNumber_90 : decode cX6_readNumber 90 = .ok (.bipush 48, 2) := by decide +kernel
theorem dX6_readNumber_92 : decode cX6_readNumber 92 = .ok (.if_icmp .ne 7, 3) := by decide +kernel
theorem dX6_readNumber_95 : decode cX6_readNumber 95 = .ok (.iconst 1, 1) := by decide +kernel
theorem dX6_readNumber_96 : decode cX6_readNumber 96 = .ok (.goto 4, 3) := by decide +kernel
theorem dX6_readNumber_99 : decode cX6_readNumber 99 = .ok (.iconst 0, 1) := by decide +kernel
theorem dX6_readNumber_100 : decode cX6_readNumber 100 = .ok (.istore_n 2, 1) := by decide +kernel
theorem dX6_readNumber_101 : decode cX6_readNumber 101 = .ok (.aload_n 0, 1) := by decide +kernel
theorem dX6_readNumber_102 : decode cX6_readNumber 102 = .ok (.iload_n 1, 1) := by decide +kernel
theorem dX6_readNumber_103 : decode cX6_readNumber 103 = .ok (.iconst 2, 1) := by decide +kernel
theorem dX6_readNumber_104 : decode cX6_readNumber 104 = .ok (.if_icmp .gt 7, 3) := by decide +kernel
theorem dX6_readNumber_107 : decode cX6_readNumber 107 = .ok (.iload_n 2, 1) := by decide +kernel
theorem dX6_readNumber_108 : decode cX6_readNumber 108 = .ok (.ifCond .eq 7, 3) := by decide +kernel
theorem dX6_readNumber_111 : decode cX6_readNumber 111 = .ok (.iconst 5, 1) := by decide +kernel
theorem dX6_readNumber_112 : decode cX6_readNumber 112 = .ok (.goto 4, 3) := by decide +kernel
theorem dX6_readNumber_115 : decode cX6_readNumber 115 = .ok (.iconst 3, 1) := by decide +kernel
theorem dX6_readNumber_116 : decode cX6_readNumber 116 = .ok (.putfield 35, 3) := by decide +kernel
theorem dX6_readNumber_119 : decode cX6_readNumber 119 = .ok (.return_, 1) := by decide +kernel
theorem dX6_isLetter_0 : decode cX6_isLetter 0 = .ok (.iload_n 0, 1) := by decide +kernel
theorem dX6_isLetter_1 : decode cX6_isLetter 1 = .ok (.bipush 97, 2) := by decide +kernel
theorem dX6_isLetter_3 : decode cX6_isLetter 3 = .ok (.if_icmp .lt 13, 3) := by decide +kernel
theorem dX6_isLetter_6 : decode cX6_isLetter 6 = .ok (.iload_n 0, 1) := by decide +kernel
theorem dX6_isLetter_7 : decode cX6_isLetter 7 = .ok (.bipush 122, 2) := by decide +kernel
theorem dX6_isLetter_9 : decode cX6_isLetter 9 = .ok (.if_icmp .gt 7, 3) := by decide +kernel
theorem dX6_isLetter_12 : decode cX6_isLetter 12 = .ok (.iconst 1, 1) := by decide +kernel
theorem dX6_isLetter_13 : decode cX6_isLetter 13 = .ok (.goto 4, 3) := by decide +kernel
theorem dX6_isLetter_16 : decode cX6_isLetter 16 = .ok (.iconst 0, 1) := by decide +kernel
theorem dX6_isLetter_17 : decode cX6_isLetter 17 = .ok (.ireturn, 1) := by decide +kernel
theorem dX6_isDigit_0 : decode cX6_isDigit 0 = .ok (.iload_n 0, 1) := by decide +kernel
theorem dX6_isDigit_1 : decode cX6_isDigit 1 = .ok (.bipush 48, 2) := by decide +kernel
theorem dX6_isDigit_3 : decode cX6_isDigit 3 = .ok (.if_icmp .lt 13, 3) := by decide +kernel
theorem dX6_isDigit_6 : decode cX6_isDigit 6 = .ok (.iload_n 0, 1) := by decide +kernel
theorem dX6_isDigit_7 : decode cX6_isDigit 7 = .ok (.bipush 57, 2) := by decide +kernel
theorem dX6_isDigit_9 : decode cX6_isDigit 9 = .ok (.if_icmp .gt 7, 3) := by decide +kernel
theorem dX6_isDigit_12 : decode cX6_isDigit 12 = .ok (.iconst 1, 1) := by decide +kernel
theorem dX6_isDigit_13 : decode cX6_isDigit 13 = .ok (.goto 4, 3) := by decide +kernel
theorem dX6_isDigit_16 : decode cX6_isDigit 16 = .ok (.iconst 0, 1) := by decide +kernel
theorem dX6_isDigit_17 : decode cX6_isDigit 17 = .ok (.ireturn, 1) := by decide +kernel
theorem dX7_init_0 : decode cX7_init 0 = .ok (.aload_n 0, 1) := by decide +kernel
theorem dX7_init_1 : decode cX7_init 1 = .ok (.invokespecial 3, 3) := by decide +kernel
theorem dX7_init_4 : decode cX7_init 4 = .ok (.aload_n 0, 1) := by decide +kernel
theorem dX7_init_5 : decode cX7_init 5 = .ok (.bipush 31, 2) := by decide +kernel
theorem dX7_init_7 : decode cX7_init 7 = .ok (.newarray .int, 2) := by decide +kernel
theorem dX7_init_9 : decode cX7_init 9 = .ok (.putfield 9, 3) := by decide +kernel
theorem dX7_init_12 : decode cX7_init 12 = .ok (.aload_n 0, 1) := by decide +kernel
theorem dX7_init_13 : decode cX7_init 13 = .ok (.bipush 31, 2) := by decide +kernel
theorem dX7_init_15 : decode cX7_init 15 = .ok (.newarray .int, 2) := by decide +kernel
theorem dX7_init_17 : decode cX7_init 17 = .ok (.putfield 15, 3) := by decide +kernel
theorem dX7_init_20 : decode cX7_init 20 = .ok (.aload_n 0, 1) := by decide +kernel
theorem dX7_init_21 : decode cX7_init 21 = .ok (.bipush 31, 2) := by decide +kernel
theorem dX7_init_23 : decode cX7_init 23 = .ok (.newarray .int, 2) := by decide +kernel
theorem dX7_init_25 : decode cX7_init 25 = .ok (.putfield 18, 3) := by decide +kernel
theorem dX7_init_28 : decode cX7_init 28 = .ok (.aload_n 0, 1) := by decide +kernel
theorem dX7_init_29 : decode cX7_init 29 = .ok (.bipush 31, 2) := by decide +kernel
theorem dX7_init_31 : decode cX7_init 31 = .ok (.newarray .int, 2) := by decide +kernel
theorem dX7_init_33 : decode cX7_init 33 = .ok (.putfield 21, 3) := by decide +kernel
theorem dX7_init_36 : decode cX7_init 36 = .ok (.return_, 1) := by decide +kernel
theorem dX7_has_0 : decode cX7_has 0 = .ok (.iload_n 1, 1) := by decide +kernel
theorem dX7_has_1 : decode cX7_has 1 = .ok (.ifCond .lt 21, 3) := by decide +kernel
theorem dX7_has_4 : decode cX7_has 4 = .ok (.iload_n 1, 1) := by decide +kernel
theorem dX7_has_5 : decode cX7_has 5 = .ok (.aload_n 0, 1) := by decide +kernel
theorem dX7_has_6 : decode cX7_has 6 = .ok (.getfield 24, 3) := by decide +kernel
theorem dX7_has_9 : decode cX7_has 9 = .ok (.if_icmp .ge 13, 3) := by decide +kernel
theorem dX7_has_12 : decode cX7_has 12 = .ok (.iload_n 1, 1) := by decide +kernel
theorem dX7_has_13 : decode cX7_has 13 = .ok (.bipush 31, 2) := by decide +kernel
theorem dX7_has_15 : decode cX7_has 15 = .ok (.if_icmp .ge 7, 3) := by decide +kernel
theorem dX7_has_18 : decode cX7_has 18 = .ok (.iconst 1, 1) := by decide +kernel
theorem dX7_has_19 : decode cX7_has 19 = .ok (.goto 4, 3) := by decide +kernel
theorem dX7_has_22 : decode cX7_has 22 = .ok (.iconst 0, 1) := by decide +kernel
theorem dX7_has_23 : decode cX7_has 23 = .ok (.ireturn, 1) := by decide +kernel
theorem dX7_read_0 : decode cX7_read 0 = .ok (.aload_n 0, 1) := by decide +kernel
theorem dX7_read_1 : decode cX7_read 1 = .ok (.iconst 0, 1) := by decide +kernel
theorem dX7_read_2 : decode cX7_read 2 = .ok (.putfield 24, 3) := by decide +kernel
theorem dX7_read_5 : decode cX7_read 5 = .ok (.iconst 1, 1) := by decide +kernel
theorem dX7_read_6 : decode cX7_read 6 = .ok (.istore_n 2, 1) := by decide +kernel
theorem dX7_read_7 : decode cX7_read 7 = .ok (.iconst 0, 1) := by decide +kernel
theorem dX7_read_8 : decode cX7_read 8 = .ok (.istore_n 3, 1) := by decide +kernel
theorem dX7_read_9 : decode cX7_read 9 = .ok (.iload_n 3, 1) := by decide +kernel
theorem dX7_read_10 : decode cX7_read 10 = .ok (.aload_n 1, 1) := by decide +kernel
theorem dX7_read_11 : decode cX7_read 11 = .ok (.getfield 28, 3) := by decide +kernel
theorem dX7_read_14 : decode cX7_read 14 = .ok (.if_icmp .ge 94, 3) := by decide +kernel
theorem dX7_read_17 : decode cX7_read 17 = .ok (.aload_n 1, 1) := by decide +kernel
theorem dX7_read_18 : decode cX7_read 18 = .ok (.iload_n 3, 1) := by decide +kernel
theorem dX7_read_19 : decode cX7_read 19 = .ok (.invokevirtual 33, 3) := by decide +kernel
theorem dX7_read_22 : decode cX7_read 22 = .ok (.istore 4, 2) := by decide +kernel
theorem dX7_read_24 : decode cX7_read 24 = .ok (.iload 4, 2) := by decide +kernel
theorem dX7_read_26 : decode cX7_read 26 = .ok (.bipush 32, 2) := by decide +kernel
theorem dX7_read_28 : decode cX7_read 28 = .ok (.if_icmp .ne 6, 3) := by decide +kernel
theorem dX7_read_31 : decode cX7_read 31 = .ok (.goto 71, 3) := by decide +kernel
theorem dX7_read_34 : decode cX7_read 34 = .ok (.iload 4, 2) := by decide +kernel
theorem dX7_read_36 : decode cX7_read 36 = .ok (.bipush 97, 2) := by decide +kernel
theorem dX7_read_38 : decode cX7_read 38 = .ok (.isub, 1) := by decide +kernel
theorem dX7_read_39 : decode cX7_read 39 = .ok (.istore 5, 2) := by decide +kernel
theorem dX7_read_41 : decode cX7_read 41 = .ok (.iload 5, 2) := by decide +kernel
theorem dX7_read_43 : decode cX7_read 43 = .ok (.ifCond .lt 23, 3) := by decide +kernel
theorem dX7_read_46 : decode cX7_read 46 = .ok (.iload 5, 2) := by decide +kernel
theorem dX7_read_48 : decode cX7_read 48 = .ok (.bipush 8, 2) := by decide +kernel
theorem dX7_read_50 : decode cX7_read 50 = .ok (.if_icmp .ge 16, 3) := by decide +kernel
theorem dX7_read_53 : decode cX7_read 53 = .ok (.iload_n 2, 1) := by decide +kernel
theorem dX7_read_54 : decode cX7_read 54 = .ok (.ifCond .eq 12, 3) := by decide +kernel
theorem dX7_read_57 : decode cX7_read 57 = .ok (.aload_n 0, 1) := by decide +kernel
theorem dX7_read_58 : decode cX7_read 58 = .ok (.getfield 24, 3) := by decide +kernel
theorem dX7_read_61 : decode cX7_read 61 = .ok (.bipush 31, 2) := by decide +kernel
theorem dX7_read_63 : decode cX7_read 63 = .ok (.if_icmp .lt 8, 3) := by decide +kernel
theorem dX7_read_66 : decode cX7_read 66 = .ok (.bipush (-10), 2) := by decide +kernel
theorem dX7_read_68 : decode cX7_read 68 = .ok (.iload_n 3, 1) := by decide +kernel
theorem dX7_read_69 : decode cX7_read 69 = .ok (.isub, 1) := by decide +kernel
theorem dX7_read_70 : decode cX7_read 70 = .ok (.ireturn, 1) := by decide +kernel
theorem dX7_read_71 : decode cX7_read 71 = .ok (.aload_n 0, 1) := by decide +kernel
theorem dX7_read_72 : decode cX7_read 72 = .ok (.getfield 9, 3) := by decide +kernel
theorem dX7_read_75 : decode cX7_read 75 = .ok (.aload_n 0, 1) := by decide +kernel
theorem dX7_read_76 : decode cX7_read 76 = .ok (.getfield 24, 3) := by decide +kernel
theorem dX7_read_79 : decode cX7_read 79 = .ok (.iload 5, 2) := by decide +kernel
theorem dX7_read_81 : decode cX7_read 81 = .ok (.iastore, 1) := by decide +kernel
theorem dX7_read_82 : decode cX7_read 82 = .ok (.aload_n 0, 1) := by decide +kernel
theorem dX7_read_83 : decode cX7_read 83 = .ok (.dup, 1) := by decide +kernel
theorem dX7_read_84 : decode cX7_read 84 = .ok (.getfield 24, 3) := by decide +kernel
theorem dX7_read_87 : decode cX7_read 87 = .ok (.iconst 1, 1) := by decide +kernel
theorem dX7_read_88 : decode cX7_read 88 = .ok (.iadd, 1) := by decide +kernel
theorem dX7_read_89 : decode cX7_read 89 = .ok (.putfield 24, 3) := by decide +kernel
theorem dX7_read_92 : decode cX7_read 92 = .ok (.iload_n 2, 1) := by decide +kernel
theorem dX7_read_93 : decode cX7_read 93 = .ok (.iload 5, 2) := by decide +kernel
theorem dX7_read_95 : decode cX7_read 95 = .ok (.invokestatic 37, 3) := by decide +kernel
theorem dX7_read_98 : decode cX7_read 98 = .ok (.iconst 1, 1) := by decide +kernel
theorem dX7_read_99 : decode cX7_read 99 = .ok (.isub, 1) := by decide +kernel
theorem dX7_read_100 : decode cX7_read 100 = .ok (.iadd, 1) := by decide +kernel
theorem dX7_read_101 : decode cX7_read 101 = .ok (.istore_n 2, 1) := by decide +kernel
theorem dX7_read_102 : decode cX7_read 102 = .ok (.iinc 3 1, 3) := by decide +kernel
theorem dX7_read_105 : decode cX7_read 105 = .ok (.goto (-96), 3) := by decide +kernel
theorem dX7_read_108 : decode cX7_read 108 = .ok (.iload_n 2, 1) := by decide +kernel
theorem dX7_read_109 : decode cX7_read 109 = .ok (.ifCond .le 11, 3) := by decide +kernel
theorem dX7_read_112 : decode cX7_read 112 = .ok (.bipush (-10), 2) := by decide +kernel
theorem dX7_read_114 : decode cX7_read 114 = .ok (.aload_n 1, 1) := by decide +kernel
theorem dX7_read_115 : decode cX7_read 115 = .ok (.getfield 28, 3) := by decide +kernel
theorem dX7_read_118 : decode cX7_read 118 = .ok (.isub, 1) := by decide +kernel
theorem dX7_read_119 : decode cX7_read 119 = .ok (.ireturn, 1) := by decide +kernel
theorem dX7_read_120 : decode cX7_read 120 = .ok (.aload_n 0, 1) := by decide +kernel
theorem dX7_read_121 : decode cX7_read 121 = .ok (.invokevirtual 40, 3) := by decide +kernel
theorem dX7_read_124 : decode cX7_read 124 = .ok (.aload_n 0, 1) := by decide +kernel
theorem dX7_read_125 : decode cX7_read 125 = .ok (.getfield 24, 3) := by decide +kernel
theorem dX7_read_128 : decode cX7_read 128 = .ok (.ireturn, 1) := by decide +kernel
theorem dX7_settle_0 : decode cX7_settle 0 = .ok (.aload_n 0, 1) := by decide +kernel
theorem dX7_settle_1 : decode cX7_settle 1 = .ok (.getfield 24, 3) := by decide +kernel
theorem dX7_settle_4 : decode cX7_settle 4 = .ok (.iconst 1, 1) := by decide +kernel
theorem dX7_settle_5 : decode cX7_settle 5 = .ok (.isub, 1) := by decide +kernel
theorem dX7_settle_6 : decode cX7_settle 6 = .ok (.istore_n 1, 1) := by decide +kernel
theorem dX7_settle_7 : decode cX7_settle 7 = .ok (.iload_n 1, 1) := by decide +kernel
theorem dX7_settle_8 : decode cX7_settle 8 = .ok (.ifCond .lt 87, 3) := by decide +kernel
theorem dX7_settle_11 : decode cX7_settle 11 = .ok (.aload_n 0, 1) := by decide +kernel
theorem dX7_settle_12 : decode cX7_settle 12 = .ok (.getfield 9, 3) := by decide +kernel
theorem dX7_settle_15 : decode cX7_settle 15 = .ok (.iload_n 1, 1) := by decide +kernel
theorem dX7_settle_16 : decode cX7_settle 16 = .ok (.iaload, 1) := by decide +kernel
theorem dX7_settle_17 : decode cX7_settle 17 = .ok (.invokestatic 37, 3) := by decide +kernel
theorem dX7_settle_20 : decode cX7_settle 20 = .ok (.istore_n 2, 1) := by decide +kernel
theorem dX7_settle_21 : decode cX7_settle 21 = .ok (.iconst 1, 1) := by decide +kernel
theorem dX7_settle_22 : decode cX7_settle 22 = .ok (.istore_n 3, 1) := by decide +kernel
theorem dX7_settle_23 : decode cX7_settle 23 = .ok (.iload_n 1, 1) := by decide +kernel
theorem dX7_settle_24 : decode cX7_settle 24 = .ok (.iconst 1, 1) := by decide +kernel
theorem dX7_settle_25 : decode cX7_settle 25 = .ok (.iadd, 1) := by decide +kernel
theorem dX7_settle_26 : decode cX7_settle 26 = .ok (.istore 4, 2) := by decide +kernel
theorem dX7_settle_28 : decode cX7_settle 28 = .ok (.iconst 0, 1) := by decide +kernel
theorem dX7_settle_29 : decode cX7_settle 29 = .ok (.istore 5, 2) := by decide +kernel
theorem dX7_settle_31 : decode cX7_settle 31 = .ok (.iload 5, 2) := by decide +kernel
theorem dX7_settle_33 : decode cX7_settle 33 = .ok (.iload_n 2, 1) := by decide +kernel
theorem dX7_settle_34 : decode cX7_settle 34 = .ok (.if_icmp .ge 48, 3) := by decide +kernel
theorem dX7_settle_37 : decode cX7_settle 37 = .ok (.aload_n 0, 1) := by decide +kernel
theorem dX7_settle_38 : decode cX7_settle 38 = .ok (.iload 4, 2) := by decide +kernel
theorem dX7_settle_40 : decode cX7_settle 40 = .ok (.invokevirtual 43, 3) := by decide +kernel
theorem dX7_settle_43 : decode cX7_settle 43 = .ok (.ifCond .eq 39, 3) := by decide +kernel
theorem dX7_settle_46 : decode cX7_settle 46 = .ok (.aload_n 0, 1) := by decide +kernel
theorem dX7_settle_47 : decode cX7_settle 47 = .ok (.getfield 18, 3) := by decide +kernel
theorem dX7_settle_50 : decode cX7_settle 50 = .ok (.iload 4, 2) := by decide +kernel
theorem dX7_settle_52 : decode cX7_settle 52 = .ok (.iload_n 1, 1) := by decide +kernel
theorem dX7_settle_53 : decode cX7_settle 53 = .ok (.iastore, 1) := by decide +kernel
theorem dX7_settle_54 : decode cX7_settle 54 = .ok (.iload_n 3, 1) := by decide +kernel
theorem dX7_settle_55 : decode cX7_settle 55 = .ok (.aload_n 0, 1) := by decide +kernel
theorem dX7_settle_56 : decode cX7_settle 56 = .ok (.getfield 15, 3) := by decide +kernel
theorem dX7_settle_59 : decode cX7_settle 59 = .ok (.iload 4, 2) := by decide +kernel
theorem dX7_settle_61 : decode cX7_settle 61 = .ok (.iaload, 1) := by decide +kernel
theorem dX7_settle_62 : decode cX7_settle 62 = .ok (.iadd, 1) := by decide +kernel
theorem dX7_settle_63 : decode cX7_settle 63 = .ok (.istore_n 3, 1) := by decide +kernel
theorem dX7_settle_64 : decode cX7_settle 64 = .ok (.iload 4, 2) := by decide +kernel
theorem dX7_settle_66 : decode cX7_settle 66 = .ok (.aload_n 0, 1) := by decide +kernel
theorem dX7_settle_67 : decode cX7_settle 67 = .ok (.getfield 15, 3) := by decide +kernel
theorem dX7_settle_70 : decode cX7_settle 70 = .ok (.iload 4, 2) := by decide +kernel
theorem dX7_settle_72 : decode cX7_settle 72 = .ok (.iaload, 1) := by decide +kernel
theorem dX7_settle_73 : decode cX7_settle 73 = .ok (.iadd, 1) := by decide +kernel
theorem dX7_settle_74 : decode cX7_settle 74 = .ok (.istore 4, 2) := by decide +kernel
theorem dX7_settle_76 : decode cX7_settle 76 = .ok (.iinc 5 1, 3) := by decide +kernel
theorem dX7_settle_79 : decode cX7_settle 79 = .ok (.goto (-48), 3) := by decide +kernel
theorem dX7_settle_82 : decode cX7_settle 82 = .ok (.aload_n 0, 1) := by decide +kernel
theorem dX7_settle_83 : decode cX7_settle 83 = .ok (.getfield 15, 3) := by decide +kernel
theorem dX7_settle_86 : decode cX7_settle 86 = .ok (.iload_n 1, 1) := by decide +kernel
theorem dX7_settle_87 : decode cX7_settle 87 = .ok (.iload_n 3, 1) := by decide +kernel
theorem dX7_settle_88 : decode cX7_settle 88 = .ok (.iastore, 1) := by decide +kernel
theorem dX7_settle_89 : decode cX7_settle 89 = .ok (.iinc 1 (-1), 3) := by decide +kernel
theorem dX7_settle_92 : decode cX7_settle 92 = .ok (.goto (-85), 3) := by decide +kernel
theorem dX7_settle_95 : decode cX7_settle 95 = .ok (.aload_n 0, 1) := by decide +kernel
theorem dX7_settle_96 : decode cX7_settle 96 = .ok (.getfield 18, 3) := by decide +kernel
theorem dX7_settle_99 : decode cX7_settle 99 = .ok (.iconst 0, 1) := by decide +kernel
theorem dX7_settle_100 : decode cX7_settle 100 = .ok (.bipush (-9), 2) := by decide +kernel
theorem dX7_settle_102 : decode cX7_settle 102 = .ok (.iastore, 1) := by decide +kernel
theorem dX7_settle_103 : decode cX7_settle 103 = .ok (.return_, 1) := by decide +kernel
theorem dX7_secondArm_0 : decode cX7_secondArm 0 = .ok (.aload_n 0, 1) := by decide +kernel
theorem dX7_secondArm_1 : decode cX7_secondArm 1 = .ok (.iload_n 1, 1) := by decide +kernel
theorem dX7_secondArm_2 : decode cX7_secondArm 2 = .ok (.iconst 1, 1) := by decide +kernel
theorem dX7_secondArm_3 : decode cX7_secondArm 3 = .ok (.iadd, 1) := by decide +kernel
