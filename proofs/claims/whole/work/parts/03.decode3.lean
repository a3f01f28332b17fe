theorem dX7_secondArm_4 : decode cX7_secondArm 4 = .ok (.invokevirtual 43, 3) := by decide +kernel
theorem dX7_secondArm_7 : decode cX7_secondArm 7 = .ok (.ifCond .eq 18, 3) := by decide +kernel
theorem dX7_secondArm_10 : decode cX7_secondArm 10 = .ok (.iload_n 1, 1) := by decide +kernel
theorem dX7_secondArm_11 : decode cX7_secondArm 11 = .ok (.iconst 1, 1) := by decide +kernel
theorem dX7_secondArm_12 : decode cX7_secondArm 12 = .ok (.iadd, 1) := by decide +kernel
theorem dX7_secondArm_13 : decode cX7_secondArm 13 = .ok (.aload_n 0, 1) := by decide +kernel
theorem dX7_secondArm_14 : decode cX7_secondArm 14 = .ok (.getfield 15, 3) := by decide +kernel
theorem dX7_secondArm_17 : decode cX7_secondArm 17 = .ok (.iload_n 1, 1) := by decide +kernel
theorem dX7_secondArm_18 : decode cX7_secondArm 18 = .ok (.iconst 1, 1) := by decide +kernel
theorem dX7_secondArm_19 : decode cX7_secondArm 19 = .ok (.iadd, 1) := by decide +kernel
theorem dX7_secondArm_20 : decode cX7_secondArm 20 = .ok (.iaload, 1) := by decide +kernel
theorem dX7_secondArm_21 : decode cX7_secondArm 21 = .ok (.iadd, 1) := by decide +kernel
theorem dX7_secondArm_22 : decode cX7_secondArm 22 = .ok (.goto 7, 3) := by decide +kernel
theorem dX7_secondArm_25 : decode cX7_secondArm 25 = .ok (.aload_n 0, 1) := by decide +kernel
theorem dX7_secondArm_26 : decode cX7_secondArm 26 = .ok (.getfield 24, 3) := by decide +kernel
theorem dX7_secondArm_29 : decode cX7_secondArm 29 = .ok (.ireturn, 1) := by decide +kernel
theorem dX7_swapArms_0 : decode cX7_swapArms 0 = .ok (.iload_n 1, 1) := by decide +kernel
theorem dX7_swapArms_1 : decode cX7_swapArms 1 = .ok (.iconst 1, 1) := by decide +kernel
theorem dX7_swapArms_2 : decode cX7_swapArms 2 = .ok (.iadd, 1) := by decide +kernel
theorem dX7_swapArms_3 : decode cX7_swapArms 3 = .ok (.istore_n 2, 1) := by decide +kernel
theorem dX7_swapArms_4 : decode cX7_swapArms 4 = .ok (.aload_n 0, 1) := by decide +kernel
theorem dX7_swapArms_5 : decode cX7_swapArms 5 = .ok (.iload_n 1, 1) := by decide +kernel
theorem dX7_swapArms_6 : decode cX7_swapArms 6 = .ok (.invokevirtual 47, 3) := by decide +kernel
theorem dX7_swapArms_9 : decode cX7_swapArms 9 = .ok (.istore_n 3, 1) := by decide +kernel
theorem dX7_swapArms_10 : decode cX7_swapArms 10 = .ok (.iload_n 1, 1) := by decide +kernel
theorem dX7_swapArms_11 : decode cX7_swapArms 11 = .ok (.aload_n 0, 1) := by decide +kernel
theorem dX7_swapArms_12 : decode cX7_swapArms 12 = .ok (.getfield 15, 3) := by decide +kernel
theorem dX7_swapArms_15 : decode cX7_swapArms 15 = .ok (.iload_n 1, 1) := by decide +kernel
theorem dX7_swapArms_16 : decode cX7_swapArms 16 = .ok (.iaload, 1) := by decide +kernel
theorem dX7_swapArms_17 : decode cX7_swapArms 17 = .ok (.iadd, 1) := by decide +kernel
theorem dX7_swapArms_18 : decode cX7_swapArms 18 = .ok (.istore 4, 2) := by decide +kernel
theorem dX7_swapArms_20 : decode cX7_swapArms 20 = .ok (.iconst 0, 1) := by decide +kernel
theorem dX7_swapArms_21 : decode cX7_swapArms 21 = .ok (.istore 5, 2) := by decide +kernel
theorem dX7_swapArms_23 : decode cX7_swapArms 23 = .ok (.iload_n 3, 1) := by decide +kernel
theorem dX7_swapArms_24 : decode cX7_swapArms 24 = .ok (.istore 6, 2) := by decide +kernel
theorem dX7_swapArms_26 : decode cX7_swapArms 26 = .ok (.iload 6, 2) := by decide +kernel
theorem dX7_swapArms_28 : decode cX7_swapArms 28 = .ok (.iload 4, 2) := by decide +kernel
theorem dX7_swapArms_30 : decode cX7_swapArms 30 = .ok (.if_icmp .ge 35, 3) := by decide +kernel
theorem dX7_swapArms_33 : decode cX7_swapArms 33 = .ok (.aload_n 0, 1) := by decide +kernel
theorem dX7_swapArms_34 : decode cX7_swapArms 34 = .ok (.iload 6, 2) := by decide +kernel
theorem dX7_swapArms_36 : decode cX7_swapArms 36 = .ok (.invokevirtual 43, 3) := by decide +kernel
theorem dX7_swapArms_39 : decode cX7_swapArms 39 = .ok (.ifCond .eq 26, 3) := by decide +kernel
theorem dX7_swapArms_42 : decode cX7_swapArms 42 = .ok (.aload_n 0, 1) := by decide +kernel
theorem dX7_swapArms_43 : decode cX7_swapArms 43 = .ok (.getfield 21, 3) := by decide +kernel
theorem dX7_swapArms_46 : decode cX7_swapArms 46 = .ok (.iload 5, 2) := by decide +kernel
theorem dX7_swapArms_48 : decode cX7_swapArms 48 = .ok (.aload_n 0, 1) := by decide +kernel
theorem dX7_swapArms_49 : decode cX7_swapArms 49 = .ok (.getfield 9, 3) := by decide +kernel
theorem dX7_swapArms_52 : decode cX7_swapArms 52 = .ok (.iload 6, 2) := by decide +kernel
theorem dX7_swapArms_54 : decode cX7_swapArms 54 = .ok (.iaload, 1) := by decide +kernel
theorem dX7_swapArms_55 : decode cX7_swapArms 55 = .ok (.iastore, 1) := by decide +kernel
theorem dX7_swapArms_56 : decode cX7_swapArms 56 = .ok (.iinc 5 1, 3) := by decide +kernel
theorem dX7_swapArms_59 : decode cX7_swapArms 59 = .ok (.iinc 6 1, 3) := by decide +kernel
theorem dX7_swapArms_62 : decode cX7_swapArms 62 = .ok (.goto (-36), 3) := by decide +kernel
theorem dX7_swapArms_65 : decode cX7_swapArms 65 = .ok (.iload_n 2, 1) := by decide +kernel
theorem dX7_swapArms_66 : decode cX7_swapArms 66 = .ok (.istore 6, 2) := by decide +kernel
theorem dX7_swapArms_68 : decode cX7_swapArms 68 = .ok (.iload 6, 2) := by decide +kernel
theorem dX7_swapArms_70 : decode cX7_swapArms 70 = .ok (.iload_n 3, 1) := by decide +kernel
theorem dX7_swapArms_71 : decode cX7_swapArms 71 = .ok (.if_icmp .ge 35, 3) := by decide +kernel
theorem dX7_swapArms_74 : decode cX7_swapArms 74 = .ok (.aload_n 0, 1) := by decide +kernel
theorem dX7_swapArms_75 : decode cX7_swapArms 75 = .ok (.iload 6, 2) := by decide +kernel
theorem dX7_swapArms_77 : decode cX7_swapArms 77 = .ok (.invokevirtual 43, 3) := by decide +kernel
theorem dX7_swapArms_80 : decode cX7_swapArms 80 = .ok (.ifCond .eq 26, 3) := by decide +kernel
theorem dX7_swapArms_83 : decode cX7_swapArms 83 = .ok (.aload_n 0, 1) := by decide +kernel
theorem dX7_swapArms_84 : decode cX7_swapArms 84 = .ok (.getfield 21, 3) := by decide +kernel
theorem dX7_swapArms_87 : decode cX7_swapArms 87 = .ok (.iload 5, 2) := by decide +kernel
theorem dX7_swapArms_89 : decode cX7_swapArms 89 = .ok (.aload_n 0, 1) := by decide +kernel
theorem dX7_swapArms_90 : decode cX7_swapArms 90 = .ok (.getfield 9, 3) := by decide +kernel
theorem dX7_swapArms_93 : decode cX7_swapArms 93 = .ok (.iload 6, 2) := by decide +kernel
theorem dX7_swapArms_95 : decode cX7_swapArms 95 = .ok (.iaload, 1) := by decide +kernel
theorem dX7_swapArms_96 : decode cX7_swapArms 96 = .ok (.iastore, 1) := by decide +kernel
theorem dX7_swapArms_97 : decode cX7_swapArms 97 = .ok (.iinc 5 1, 3) := by decide +kernel
theorem dX7_swapArms_100 : decode cX7_swapArms 100 = .ok (.iinc 6 1, 3) := by decide +kernel
theorem dX7_swapArms_103 : decode cX7_swapArms 103 = .ok (.goto (-35), 3) := by decide +kernel
theorem dX7_swapArms_106 : decode cX7_swapArms 106 = .ok (.iconst 0, 1) := by decide +kernel
theorem dX7_swapArms_107 : decode cX7_swapArms 107 = .ok (.istore 6, 2) := by decide +kernel
theorem dX7_swapArms_109 : decode cX7_swapArms 109 = .ok (.iload 6, 2) := by decide +kernel
theorem dX7_swapArms_111 : decode cX7_swapArms 111 = .ok (.iload 5, 2) := by decide +kernel
theorem dX7_swapArms_113 : decode cX7_swapArms 113 = .ok (.if_icmp .ge 36, 3) := by decide +kernel
theorem dX7_swapArms_116 : decode cX7_swapArms 116 = .ok (.aload_n 0, 1) := by decide +kernel
theorem dX7_swapArms_117 : decode cX7_swapArms 117 = .ok (.iload_n 2, 1) := by decide +kernel
theorem dX7_swapArms_118 : decode cX7_swapArms 118 = .ok (.iload 6, 2) := by decide +kernel
theorem dX7_swapArms_120 : decode cX7_swapArms 120 = .ok (.iadd, 1) := by decide +kernel
theorem dX7_swapArms_121 : decode cX7_swapArms 121 = .ok (.invokevirtual 43, 3) := by decide +kernel
theorem dX7_swapArms_124 : decode cX7_swapArms 124 = .ok (.ifCond .eq 25, 3) := by decide +kernel
theorem dX7_swapArms_127 : decode cX7_swapArms 127 = .ok (.aload_n 0, 1) := by decide +kernel
theorem dX7_swapArms_128 : decode cX7_swapArms 128 = .ok (.getfield 9, 3) := by decide +kernel
theorem dX7_swapArms_131 : decode cX7_swapArms 131 = .ok (.iload_n 2, 1) := by decide +kernel
theorem dX7_swapArms_132 : decode cX7_swapArms 132 = .ok (.iload 6, 2) := by decide +kernel
theorem dX7_swapArms_134 : decode cX7_swapArms 134 = .ok (.iadd, 1) := by decide +kernel
theorem dX7_swapArms_135 : decode cX7_swapArms 135 = .ok (.aload_n 0, 1) := by decide +kernel
theorem dX7_swapArms_136 : decode cX7_swapArms 136 = .ok (.getfield 21, 3) := by decide +kernel
theorem dX7_swapArms_139 : decode cX7_swapArms 139 = .ok (.iload 6, 2) := by decide +kernel
theorem dX7_swapArms_141 : decode cX7_swapArms 141 = .ok (.iaload, 1) := by decide +kernel
theorem dX7_swapArms_142 : decode cX7_swapArms 142 = .ok (.iastore, 1) := by decide +kernel
theorem dX7_swapArms_143 : decode cX7_swapArms 143 = .ok (.iinc 6 1, 3) := by decide +kernel
theorem dX7_swapArms_146 : decode cX7_swapArms 146 = .ok (.goto (-37), 3) := by decide +kernel
theorem dX7_swapArms_149 : decode cX7_swapArms 149 = .ok (.aload_n 0, 1) := by decide +kernel
theorem dX7_swapArms_150 : decode cX7_swapArms 150 = .ok (.invokevirtual 40, 3) := by decide +kernel
theorem dX7_swapArms_153 : decode cX7_swapArms 153 = .ok (.return_, 1) := by decide +kernel
theorem dX7_copyFrom_0 : decode cX7_copyFrom 0 = .ok (.aload_n 0, 1) := by decide +kernel
theorem dX7_copyFrom_1 : decode cX7_copyFrom 1 = .ok (.aload_n 1, 1) := by decide +kernel
theorem dX7_copyFrom_2 : decode cX7_copyFrom 2 = .ok (.getfield 24, 3) := by decide +kernel
theorem dX7_copyFrom_5 : decode cX7_copyFrom 5 = .ok (.putfield 24, 3) := by decide +kernel
theorem dX7_copyFrom_8 : decode cX7_copyFrom 8 = .ok (.iconst 0, 1) := by decide +kernel
theorem dX7_copyFrom_9 : decode cX7_copyFrom 9 = .ok (.istore_n 2, 1) := by decide +kernel
theorem dX7_copyFrom_10 : decode cX7_copyFrom 10 = .ok (.iload_n 2, 1) := by decide +kernel
theorem dX7_copyFrom_11 : decode cX7_copyFrom 11 = .ok (.bipush 31, 2) := by decide +kernel
theorem dX7_copyFrom_13 : decode cX7_copyFrom 13 = .ok (.if_icmp .ge 45, 3) := by decide +kernel
theorem dX7_copyFrom_16 : decode cX7_copyFrom 16 = .ok (.aload_n 0, 1) := by decide +kernel
theorem dX7_copyFrom_17 : decode cX7_copyFrom 17 = .ok (.getfield 9, 3) := by decide +kernel
theorem dX7_copyFrom_20 : decode cX7_copyFrom 20 = .ok (.iload_n 2, 1) := by decide +kernel
theorem dX7_copyFrom_21 : decode cX7_copyFrom 21 = .ok (.aload_n 1, 1) := by decide +kernel
theorem dX7_copyFrom_22 : decode cX7_copyFrom 22 = .ok (.getfield 9, 3) := by decide +kernel
theorem dX7_copyFrom_25 : decode cX7_copyFrom 25 = .ok (.iload_n 2, 1) := by decide +kernel
theorem dX7_copyFrom_26 : decode cX7_copyFrom 26 = .ok (.iaload, 1) := by decide +kernel
theorem dX7_copyFrom_27 : decode cX7_copyFrom 27 = .ok (.iastore, 1) := by decide +kernel
theorem dX7_copyFrom_28 : decode cX7_copyFrom 28 = .ok (.aload_n 0, 1) := by decide +kernel
theorem dX7_copyFrom_29 : decode cX7_copyFrom 29 = .ok (.getfield 15, 3) := by decide +kernel
theorem dX7_copyFrom_32 : decode cX7_copyFrom 32 = .ok (.iload_n 2, 1) := by decide +kernel
theorem dX7_copyFrom_33 : decode cX7_copyFrom 33 = .ok (.aload_n 1, 1) := by decide +kernel
theorem dX7_copyFrom_34 : decode cX7_copyFrom 34 = .ok (.getfield 15, 3) := by decide +kernel
theorem dX7_copyFrom_37 : decode cX7_copyFrom 37 = .ok (.iload_n 2, 1) := by decide +kernel
theorem dX7_copyFrom_38 : decode cX7_copyFrom 38 = .ok (.iaload, 1) := by decide +kernel
theorem dX7_copyFrom_39 : decode cX7_copyFrom 39 = .ok (.iastore, 1) := by decide +kernel
theorem dX7_copyFrom_40 : decode cX7_copyFrom 40 = .ok (.aload_n 0, 1) := by decide +kernel
theorem dX7_copyFrom_41 : decode cX7_copyFrom 41 = .ok (.getfield 18, 3) := by decide +kernel
theorem dX7_copyFrom_44 : decode cX7_copyFrom 44 = .ok (.iload_n 2, 1) := by decide +kernel
theorem dX7_copyFrom_45 : decode cX7_copyFrom 45 = .ok (.aload_n 1, 1) := by decide +kernel
theorem dX7_copyFrom_46 : decode cX7_copyFrom 46 = .ok (.getfield 18, 3) := by decide +kernel
theorem dX7_copyFrom_49 : decode cX7_copyFrom 49 = .ok (.iload_n 2, 1) := by decide +kernel
theorem dX7_copyFrom_50 : decode cX7_copyFrom 50 = .ok (.iaload, 1) := by decide +kernel
theorem dX7_copyFrom_51 : decode cX7_copyFrom 51 = .ok (.iastore, 1) := by decide +kernel
theorem dX7_copyFrom_52 : decode cX7_copyFrom 52 = .ok (.iinc 2 1, 3) := by decide +kernel
theorem dX7_copyFrom_55 : decode cX7_copyFrom 55 = .ok (.goto (-45), 3) := by decide +kernel
theorem dX7_copyFrom_58 : decode cX7_copyFrom 58 = .ok (.return_, 1) := by decide +kernel
theorem dX8_init_0 : decode cX8_init 0 = .ok (.aload_n 0, 1) := by decide +kernel
theorem dX8_init_1 : decode cX8_init 1 = .ok (.invokespecial 1, 3) := by decide +kernel
theorem dX8_init_4 : decode cX8_init 4 = .ok (.aload_n 0, 1) := by decide +kernel
theorem dX8_init_5 : decode cX8_init 5 = .ok (.new 7, 3) := by decide +kernel
theorem dX8_init_8 : decode cX8_init 8 = .ok (.dup, 1) := by decide +kernel
theorem dX8_init_9 : decode cX8_init 9 = .ok (.invokespecial 9, 3) := by decide +kernel
theorem dX8_init_12 : decode cX8_init 12 = .ok (.putfield 10, 3) := by decide +kernel
theorem dX8_init_15 : decode cX8_init 15 = .ok (.aload_n 0, 1) := by decide +kernel
theorem dX8_init_16 : decode cX8_init 16 = .ok (.iconst 2, 1) := by decide +kernel
theorem dX8_init_17 : decode cX8_init 17 = .ok (.anewarray 16, 3) := by decide +kernel
theorem dX8_init_20 : decode cX8_init 20 = .ok (.putfield 18, 3) := by decide +kernel
theorem dX8_init_23 : decode cX8_init 23 = .ok (.aload_n 0, 1) := by decide +kernel
theorem dX8_init_24 : decode cX8_init 24 = .ok (.new 22, 3) := by decide +kernel
theorem dX8_init_27 : decode cX8_init 27 = .ok (.dup, 1) := by decide +kernel
theorem dX8_init_28 : decode cX8_init 28 = .ok (.invokespecial 24, 3) := by decide +kernel
theorem dX8_init_31 : decode cX8_init 31 = .ok (.putfield 25, 3) := by decide +kernel
theorem dX8_init_34 : decode cX8_init 34 = .ok (.aload_n 0, 1) := by decide +kernel
theorem dX8_init_35 : decode cX8_init 35 = .ok (.new 29, 3) := by decide +kernel
theorem dX8_init_38 : decode cX8_init 38 = .ok (.dup, 1) := by decide +kernel
theorem dX8_init_39 : decode cX8_init 39 = .ok (.invokespecial 31, 3) := by decide +kernel
theorem dX8_init_42 : decode cX8_init 42 = .ok (.putfield 32, 3) := by decide +kernel
theorem dX8_init_45 : decode cX8_init 45 = .ok (.aload_n 0, 1) := by decide +kernel
theorem dX8_init_46 : decode cX8_init 46 = .ok (.new 36, 3) := by decide +kernel
theorem dX8_init_49 : decode cX8_init 49 = .ok (.dup, 1) := by decide +kernel
theorem dX8_init_50 : decode cX8_init 50 = .ok (.invokespecial 38, 3) := by decide +kernel
theorem dX8_init_53 : decode cX8_init 53 = .ok (.putfield 39, 3) := by decide +kernel
theorem dX8_init_56 : decode cX8_init 56 = .ok (.aload_n 0, 1) := by decide +kernel
theorem dX8_init_57 : decode cX8_init 57 = .ok (.new 36, 3) := by decide +kernel
theorem dX8_init_60 : decode cX8_init 60 = .ok (.dup, 1) := by decide +kernel
theorem dX8_init_61 : decode cX8_init 61 = .ok (.invokespecial 38, 3) := by decide +kernel
theorem dX8_init_64 : decode cX8_init 64 = .ok (.putfield 43, 3) := by decide +kernel
theorem dX8_init_67 : decode cX8_init 67 = .ok (.aload_n 0, 1) := by decide +kernel
theorem dX8_init_68 : decode cX8_init 68 = .ok (.new 46, 3) := by decide +kernel
theorem dX8_init_71 : decode cX8_init 71 = .ok (.dup, 1) := by decide +kernel
theorem dX8_init_72 : decode cX8_init 72 = .ok (.invokespecial 48, 3) := by decide +kernel
theorem dX8_init_75 : decode cX8_init 75 = .ok (.putfield 49, 3) := by decide +kernel
theorem dX8_init_78 : decode cX8_init 78 = .ok (.aload_n 0, 1) := by decide +kernel
theorem dX8_init_79 : decode cX8_init 79 = .ok (.new 46, 3) := by decide +kernel
theorem dX8_init_82 : decode cX8_init 82 = .ok (.dup, 1) := by decide +kernel
theorem dX8_init_83 : decode cX8_init 83 = .ok (.invokespecial 48, 3) := by decide +kernel
theorem dX8_init_86 : decode cX8_init 86 = .ok (.putfield 53, 3) := by decide +kernel
theorem dX8_init_89 : decode cX8_init 89 = .ok (.iconst 0, 1) := by decide +kernel
theorem dX8_init_90 : decode cX8_init 90 = .ok (.istore_n 1, 1) := by decide +kernel
theorem dX8_init_91 : decode cX8_init 91 = .ok (.iload_n 1, 1) := by decide +kernel
theorem dX8_init_92 : decode cX8_init 92 = .ok (.iconst 2, 1) := by decide +kernel
theorem dX8_init_93 : decode cX8_init 93 = .ok (.if_icmp .ge 22, 3) := by decide +kernel
theorem dX8_init_96 : decode cX8_init 96 = .ok (.aload_n 0, 1) := by decide +kernel
theorem dX8_init_97 : decode cX8_init 97 = .ok (.getfield 18, 3) := by decide +kernel
theorem dX8_init_100 : decode cX8_init 100 = .ok (.iload_n 1, 1) := by decide +kernel
theorem dX8_init_101 : decode cX8_init 101 = .ok (.new 16, 3) := by decide +kernel
theorem dX8_init_104 : decode cX8_init 104 = .ok (.dup, 1) := by decide +kernel
theorem dX8_init_105 : decode cX8_init 105 = .ok (.invokespecial 56, 3) := by decide +kernel
theorem dX8_init_108 : decode cX8_init 108 = .ok (.aastore, 1) := by decide +kernel
theorem dX8_init_109 : decode cX8_init 109 = .ok (.iinc 1 1, 3) := by decide +kernel
theorem dX8_init_112 : decode cX8_init 112 = .ok (.goto (-21), 3) := by decide +kernel
theorem dX8_init_115 : decode cX8_init 115 = .ok (.return_, 1) := by decide +kernel
theorem dX8_type_0 : decode cX8_type 0 = .ok (.iload_n 3, 1) := by decide +kernel
theorem dX8_type_1 : decode cX8_type 1 = .ok (.iconst 1, 1) := by decide +kernel
theorem dX8_type_2 : decode cX8_type 2 = .ok (.if_icmp .lt 9, 3) := by decide +kernel
theorem dX8_type_5 : decode cX8_type 5 = .ok (.iload_n 3, 1) := by decide +kernel
theorem dX8_type_6 : decode cX8_type 6 = .ok (.bipush 8, 2) := by decide +kernel
theorem dX8_type_8 : decode cX8_type 8 = .ok (.if_icmp .le 5, 3) := by decide +kernel
theorem dX8_type_11 : decode cX8_type 11 = .ok (.iconst (-1), 1) := by decide +kernel
theorem dX8_type_12 : decode cX8_type 12 = .ok (.ireturn, 1) := by decide +kernel
theorem dX8_type_13 : decode cX8_type 13 = .ok (.aload_n 0, 1) := by decide +kernel
theorem dX8_type_14 : decode cX8_type 14 = .ok (.getfield 10, 3) := by decide +kernel
theorem dX8_type_17 : decode cX8_type 17 = .ok (.getfield 57, 3) := by decide +kernel
theorem dX8_type_20 : decode cX8_type 20 = .ok (.iload_n 3, 1) := by decide +kernel
theorem dX8_type_21 : decode cX8_type 21 = .ok (.iadd, 1) := by decide +kernel
theorem dX8_type_22 : decode cX8_type 22 = .ok (.sipush 300, 3) := by decide +kernel
theorem dX8_type_25 : decode cX8_type 25 = .ok (.if_icmp .le 6, 3) := by decide +kernel
theorem dX8_type_28 : decode cX8_type 28 = .ok (.bipush (-3), 2) := by decide +kernel
theorem dX8_type_30 : decode cX8_type 30 = .ok (.ireturn, 1) := by decide +kernel
theorem dX8_type_31 : decode cX8_type 31 = .ok (.iload_n 3, 1) := by decide +kernel
theorem dX8_type_32 : decode cX8_type 32 = .ok (.iconst 1, 1) := by decide +kernel
theorem dX8_type_33 : decode cX8_type 33 = .ok (.isub, 1) := by decide +kernel
theorem dX8_type_34 : decode cX8_type 34 = .ok (.istore 4, 2) := by decide +kernel
theorem dX8_type_36 : decode cX8_type 36 = .ok (.iload 4, 2) := by decide +kernel
theorem dX8_type_38 : decode cX8_type 38 = .ok (.ifCond .lt 28, 3) := by decide +kernel
theorem dX8_type_41 : decode cX8_type 41 = .ok (.aload_n 0, 1) := by decide +kernel
theorem dX8_type_42 : decode cX8_type 42 = .ok (.getfield 10, 3) := by decide +kernel
theorem dX8_type_45 : decode cX8_type 45 = .ok (.lload_n 1, 1) := by decide +kernel
theorem dX8_type_46 : decode cX8_type 46 = .ok (.bipush 8, 2) := by decide +kernel
theorem dX8_type_48 : decode cX8_type 48 = .ok (.iload 4, 2) := by decide +kernel
theorem dX8_type_50 : decode cX8_type 50 = .ok (.imul, 1) := by decide +kernel
theorem dX8_type_51 : decode cX8_type 51 = .ok (.lshr, 1) := by decide +kernel
theorem dX8_type_52 : decode cX8_type 52 = .ok (.l2i, 1) := by decide +kernel
theorem dX8_type_53 : decode cX8_type 53 = .ok (.sipush 255, 3) := by decide +kernel
theorem dX8_type_56 : decode cX8_type 56 = .ok (.iand, 1) := by decide +kernel
theorem dX8_type_57 : decode cX8_type 57 = .ok (.invokevirtual 61, 3) := by decide +kernel
theorem dX8_type_60 : decode cX8_type 60 = .ok (.iinc 4 (-1), 3) := by decide +kernel
theorem dX8_type_63 : decode cX8_type 63 = .ok (.goto (-27), 3) := by decide +kernel
theorem dX8_type_66 : decode cX8_type 66 = .ok (.aload_n 0, 1) := by decide +kernel
theorem dX8_type_67 : decode cX8_type 67 = .ok (.getfield 10, 3) := by decide +kernel
theorem dX8_type_70 : decode cX8_type 70 = .ok (.getfield 57, 3) := by decide +kernel
theorem dX8_type_73 : decode cX8_type 73 = .ok (.ireturn, 1) := by decide +kernel
theorem dX8_clear_0 : decode cX8_clear 0 = .ok (.aload_n 0, 1) := by decide +kernel
theorem dX8_clear_1 : decode cX8_clear 1 = .ok (.getfield 10, 3) := by decide +kernel
theorem dX8_clear_4 : decode cX8_clear 4 = .ok (.getfield 57, 3) := by decide +kernel
theorem dX8_clear_7 : decode cX8_clear 7 = .ok (.istore_n 1, 1) := by decide +kernel
theorem dX8_clear_8 : decode cX8_clear 8 = .ok (.aload_n 0, 1) := by decide +kernel
theorem dX8_clear_9 : decode cX8_clear 9 = .ok (.getfield 10, 3) := by decide +kernel
theorem dX8_clear_12 : decode cX8_clear 12 = .ok (.iconst 0, 1) := by decide +kernel
theorem dX8_clear_13 : decode cX8_clear 13 = .ok (.putfield 57, 3) := by decide +kernel
theorem dX8_clear_16 : decode cX8_clear 16 = .ok (.iload_n 1, 1) := by decide +kernel
theorem dX8_clear_17 : decode cX8_clear 17 = .ok (.ireturn, 1) := by decide +kernel
theorem dX8_law_0 : decode cX8_law 0 = .ok (.aload_n 0, 1) := by decide +kernel
theorem dX8_law_1 : decode cX8_law 1 = .ok (.getfield 43, 3) := by decide +kernel
theorem dX8_law_4 : decode cX8_law 4 = .ok (.aload_n 0, 1) := by decide +kernel
theorem dX8_law_5 : decode cX8_law 5 = .ok (.getfield 10, 3) := by decide +kernel
theorem dX8_law_8 : decode cX8_law 8 = .ok (.invokevirtual 65, 3) := by decide +kernel
theorem dX8_law_11 : decode cX8_law 11 = .ok (.istore_n 1, 1) := by decide +kernel
theorem dX8_law_12 : decode cX8_law 12 = .ok (.iload_n 1, 1) := by decide +kernel
theorem dX8_law_13 : decode cX8_law 13 = .ok (.ifCond .ge 5, 3) := by decide +kernel
theorem dX8_law_16 : decode cX8_law 16 = .ok (.iload_n 1, 1) := by decide +kernel
theorem dX8_law_17 : decode cX8_law 17 = .ok (.ireturn, 1) := by decide +kernel
theorem dX8_law_18 : decode cX8_law 18 = .ok (.aload_n 0, 1) := by decide +kernel
theorem dX8_law_19 : decode cX8_law 19 = .ok (.getfield 39, 3) := by decide +kernel
theorem dX8_law_22 : decode cX8_law 22 = .ok (.astore_n 2, 1) := by decide +kernel
theorem dX8_law_23 : decode cX8_law 23 = .ok (.aload_n 0, 1) := by decide +kernel
theorem dX8_law_24 : decode cX8_law 24 = .ok (.aload_n 0, 1) := by decide +kernel
theorem dX8_law_25 : decode cX8_law 25 = .ok (.getfield 43, 3) := by decide +kernel
theorem dX8_law_28 : decode cX8_law 28 = .ok (.putfield 39, 3) := by decide +kernel
theorem dX8_law_31 : decode cX8_law 31 = .ok (.aload_n 0, 1) := by decide +kernel
theorem dX8_law_32 : decode cX8_law 32 = .ok (.aload_n 2, 1) := by decide +kernel
theorem dX8_law_33 : decode cX8_law 33 = .ok (.putfield 43, 3) := by decide +kernel
theorem dX8_law_36 : decode cX8_law 36 = .ok (.aload_n 0, 1) := by decide +kernel
theorem dX8_law_37 : decode cX8_law 37 = .ok (.getfield 10, 3) := by decide +kernel
theorem dX8_law_40 : decode cX8_law 40 = .ok (.iconst 0, 1) := by decide +kernel
theorem dX8_law_41 : decode cX8_law 41 = .ok (.putfield 57, 3) := by decide +kernel
theorem dX8_law_44 : decode cX8_law 44 = .ok (.aload_n 0, 1) := by decide +kernel
theorem dX8_law_45 : decode cX8_law 45 = .ok (.aload_n 0, 1) := by decide +kernel
theorem dX8_law_46 : decode cX8_law 46 = .ok (.getfield 39, 3) := by decide +kernel
theorem dX8_law_49 : decode cX8_law 49 = .ok (.invokevirtual 69, 3) := by decide +kernel
theorem dX8_law_52 : decode cX8_law 52 = .ok (.putfield 73, 3) := by decide +kernel
theorem dX8_law_55 : decode cX8_law 55 = .ok (.aload_n 0, 1) := by decide +kernel
theorem dX8_law_56 : decode cX8_law 56 = .ok (.aload_n 0, 1) := by decide +kernel
theorem dX8_law_57 : decode cX8_law 57 = .ok (.getfield 39, 3) := by decide +kernel
theorem dX8_law_60 : decode cX8_law 60 = .ok (.getfield 76, 3) := by decide +kernel
theorem dX8_law_63 : decode cX8_law 63 = .ok (.putfield 79, 3) := by decide +kernel
theorem dX8_law_66 : decode cX8_law 66 = .ok (.iconst 0, 1) := by decide +kernel
theorem dX8_law_67 : decode cX8_law 67 = .ok (.istore_n 3, 1) := by decide +kernel
theorem dX8_law_68 : decode cX8_law 68 = .ok (.iload_n 3, 1) := by decide +kernel
theorem dX8_law_69 : decode cX8_law 69 = .ok (.iconst 2, 1) := by decide +kernel
theorem dX8_law_70 : decode cX8_law 70 = .ok (.if_icmp .ge 19, 3) := by decide +kernel
theorem dX8_law_73 : decode cX8_law 73 = .ok (.aload_n 0, 1) := by decide +kernel
theorem dX8_law_74 : decode cX8_law 74 = .ok (.getfield 18, 3) := by decide +kernel
theorem dX8_law_77 : decode cX8_law 77 = .ok (.iload_n 3, 1) := by decide +kernel
theorem dX8_law_78 : decode cX8_law 78 = .ok (.aaload, 1) := by decide +kernel
theorem dX8_law_79 : decode cX8_law 79 = .ok (.iconst 0, 1) := by decide +kernel
theorem dX8_law_80 : decode cX8_law 80 = .ok (.putfield 82, 3) := by decide +kernel
theorem dX8_law_83 : decode cX8_law 83 = .ok (.iinc 3 1, 3) := by decide +kernel
theorem dX8_law_86 : decode cX8_law 86 = .ok (.goto (-18), 3) := by decide +kernel
theorem dX8_law_89 : decode cX8_law 89 = .ok (.aload_n 0, 1) := by decide +kernel
theorem dX8_law_90 : decode cX8_law 90 = .ok (.getfield 32, 3) := by decide +kernel
theorem dX8_law_93 : decode cX8_law 93 = .ok (.invokevirtual 86, 3) := by decide +kernel
theorem dX8_law_96 : decode cX8_law 96 = .ok (.iload_n 1, 1) := by decide +kernel
theorem dX8_law_97 : decode cX8_law 97 = .ok (.ireturn, 1) := by decide +kernel
theorem dX8_tree_0 : decode cX8_tree 0 = .ok (.aload_n 0, 1) := by decide +kernel
theorem dX8_tree_1 : decode cX8_tree 1 = .ok (.getfield 53, 3) := by decide +kernel
theorem dX8_tree_4 : decode cX8_tree 4 = .ok (.aload_n 0, 1) := by decide +kernel
theorem dX8_tree_5 : decode cX8_tree 5 = .ok (.getfield 10, 3) := by decide +kernel
theorem dX8_tree_8 : decode cX8_tree 8 = .ok (.invokevirtual 89, 3) := by decide +kernel
theorem dX8_tree_11 : decode cX8_tree 11 = .ok (.istore_n 1, 1) := by decide +kernel
theorem dX8_tree_12 : decode cX8_tree 12 = .ok (.iload_n 1, 1) := by decide +kernel
theorem dX8_tree_13 : decode cX8_tree 13 = .ok (.ifCond .ge 5, 3) := by decide +kernel
theorem dX8_tree_16 : decode cX8_tree 16 = .ok (.iload_n 1, 1) := by decide +kernel
theorem dX8_tree_17 : decode cX8_tree 17 = .ok (.ireturn, 1) := by decide +kernel
theorem dX8_tree_18 : decode cX8_tree 18 = .ok (.aload_n 0, 1) := by decide +kernel
theorem dX8_tree_19 : decode cX8_tree 19 = .ok (.getfield 49, 3) := by decide +kernel
theorem dX8_tree_22 : decode cX8_tree 22 = .ok (.astore_n 2, 1) := by decide +kernel
theorem dX8_tree_23 : decode cX8_tree 23 = .ok (.aload_n 0, 1) := by decide +kernel
theorem dX8_tree_24 : decode cX8_tree 24 = .ok (.aload_n 0, 1) := by decide +kernel
theorem dX8_tree_25 : decode cX8_tree 25 = .ok (.getfield 53, 3) := by decide +kernel
theorem dX8_tree_28 : decode cX8_tree 28 = .ok (.putfield 49, 3) := by decide +kernel
theorem dX8_tree_31 : decode cX8_tree 31 = .ok (.aload_n 0, 1) := by decide +kernel
theorem dX8_tree_32 : decode cX8_tree 32 = .ok (.aload_n 2, 1) := by decide +kernel
theorem dX8_tree_33 : decode cX8_tree 33 = .ok (.putfield 53, 3) := by decide +kernel
theorem dX8_tree_36 : decode cX8_tree 36 = .ok (.aload_n 0, 1) := by decide +kernel
theorem dX8_tree_37 : decode cX8_tree 37 = .ok (.getfield 10, 3) := by decide +kernel
theorem dX8_tree_40 : decode cX8_tree 40 = .ok (.iconst 0, 1) := by decide +kernel
theorem dX8_tree_41 : decode cX8_tree 41 = .ok (.putfield 57, 3) := by decide +kernel
theorem dX8_tree_44 : decode cX8_tree 44 = .ok (.iload_n 1, 1) := by decide +kernel
theorem dX8_tree_45 : decode cX8_tree 45 = .ok (.ireturn, 1) := by decide +kernel
theorem dX8_rule_0 : decode cX8_rule 0 = .ok (.aload_n 0, 1) := by decide +kernel
theorem dX8_rule_1 : decode cX8_rule 1 = .ok (.getfield 39, 3) := by decide +kernel
theorem dX8_rule_4 : decode cX8_rule 4 = .ok (.iload_n 1, 1) := by decide +kernel
theorem dX8_rule_5 : decode cX8_rule 5 = .ok (.invokevirtual 90, 3) := by decide +kernel
theorem dX8_rule_8 : decode cX8_rule 8 = .ok (.ifCond .ne 5, 3) := by decide +kernel
theorem dX8_rule_11 : decode cX8_rule 11 = .ok (.iconst (-1), 1) := by decide +kernel
theorem dX8_rule_12 : decode cX8_rule 12 = .ok (.ireturn, 1) := by decide +kernel
theorem dX8_rule_13 : decode cX8_rule 13 = .ok (.iload_n 2, 1) := by decide +kernel
theorem dX8_rule_14 : decode cX8_rule 14 = .ok (.tableswitch 83 0 4 #[34, 44, 54, 64, 74], 34) := by decide +kernel
theorem dX8_rule_48 : decode cX8_rule 48 = .ok (.aload_n 0, 1) := by decide +kernel
theorem dX8_rule_49 : decode cX8_rule 49 = .ok (.getfield 39, 3) := by decide +kernel
theorem dX8_rule_52 : decode cX8_rule 52 = .ok (.getfield 94, 3) := by decide +kernel
theorem dX8_rule_55 : decode cX8_rule 55 = .ok (.iload_n 1, 1) := by decide +kernel
theorem dX8_rule_56 : decode cX8_rule 56 = .ok (.iaload, 1) := by decide +kernel
theorem dX8_rule_57 : decode cX8_rule 57 = .ok (.ireturn, 1) := by decide +kernel
theorem dX8_rule_58 : decode cX8_rule 58 = .ok (.aload_n 0, 1) := by decide +kernel
theorem dX8_rule_59 : decode cX8_rule 59 = .ok (.getfield 39, 3) := by decide +kernel
theorem dX8_rule_62 : decode cX8_rule 62 = .ok (.getfield 98, 3) := by decide +kernel
theorem dX8_rule_65 : decode cX8_rule 65 = .ok (.iload_n 1, 1) := by decide +kernel
theorem dX8_rule_66 : decode cX8_rule 66 = .ok (.iaload, 1) := by decide +kernel
theorem dX8_rule_67 : decode cX8_rule 67 = .ok (.ireturn, 1) := by decide +kernel
theorem dX8_rule_68 : decode cX8_rule 68 = .ok (.aload_n 0, 1) := by decide +kernel
theorem dX8_rule_69 : decode cX8_rule 69 = .ok (.getfield 39, 3) := by decide +kernel
theorem dX8_rule_72 : decode cX8_rule 72 = .ok (.getfield 101, 3) := by decide +kernel
theorem dX8_rule_75 : decode cX8_rule 75 = .ok (.iload_n 1, 1) := by decide +kernel
theorem dX8_rule_76 : decode cX8_rule 76 = .ok (.iaload, 1) := by decide +kernel
theorem dX8_rule_77 : decode cX8_rule 77 = .ok (.ireturn, 1) := by decide +kernel
theorem dX8_rule_78 : decode cX8_rule 78 = .ok (.aload_n 0, 1) := by decide +kernel
theorem dX8_rule_79 : decode cX8_rule 79 = .ok (.getfield 39, 3) := by decide +kernel
theorem dX8_rule_82 : decode cX8_rule 82 = .ok (.getfield 104, 3) := by decide +kernel
theorem dX8_rule_85 : decode cX8_rule 85 = .ok (.iload_n 1, 1) := by decide +kernel
theorem dX8_rule_86 : decode cX8_rule 86 = .ok (.iaload, 1) := by decide +kernel
theorem dX8_rule_87 : decode cX8_rule 87 = .ok (.ireturn, 1) := by decide +kernel
theorem dX8_rule_88 : decode cX8_rule 88 = .ok (.aload_n 0, 1) := by decide +kernel
theorem dX8_rule_89 : decode cX8_rule 89 = .ok (.getfield 73, 3) := by decide +kernel
theorem dX8_rule_92 : decode cX8_rule 92 = .ok (.iload_n 1, 1) := by decide +kernel
theorem dX8_rule_93 : decode cX8_rule 93 = .ok (.invokestatic 107, 3) := by decide +kernel
theorem dX8_rule_96 : decode cX8_rule 96 = .ok (.ireturn, 1) := by decide +kernel
theorem dX8_rule_97 : decode cX8_rule 97 = .ok (.iconst (-1), 1) := by decide +kernel
theorem dX8_rule_98 : decode cX8_rule 98 = .ok (.ireturn, 1) := by decide +kernel
theorem dX8_turn_0 : decode cX8_turn 0 = .ok (.aload_n 0, 1) := by decide +kernel
theorem dX8_turn_1 : decode cX8_turn 1 = .ok (.getfield 39, 3) := by decide +kernel
theorem dX8_turn_4 : decode cX8_turn 4 = .ok (.iload_n 1, 1) := by decide +kernel
theorem dX8_turn_5 : decode cX8_turn 5 = .ok (.invokevirtual 90, 3) := by decide +kernel
theorem dX8_turn_8 : decode cX8_turn 8 = .ok (.ifCond .eq 10, 3) := by decide +kernel
theorem dX8_turn_11 : decode cX8_turn 11 = .ok (.iload_n 2, 1) := by decide +kernel
theorem dX8_turn_12 : decode cX8_turn 12 = .ok (.invokestatic 111, 3) := by decide +kernel
theorem dX8_turn_15 : decode cX8_turn 15 = .ok (.ifCond .ne 5, 3) := by decide +kernel
theorem dX8_turn_18 : decode cX8_turn 18 = .ok (.iconst (-1), 1) := by decide +kernel
theorem dX8_turn_19 : decode cX8_turn 19 = .ok (.ireturn, 1) := by decide +kernel
theorem dX8_turn_20 : decode cX8_turn 20 = .ok (.aload_n 0, 1) := by decide +kernel
theorem dX8_turn_21 : decode cX8_turn 21 = .ok (.getfield 73, 3) := by decide +kernel
theorem dX8_turn_24 : decode cX8_turn 24 = .ok (.iload_n 1, 1) := by decide +kernel
theorem dX8_turn_25 : decode cX8_turn 25 = .ok (.invokestatic 107, 3) := by decide +kernel
theorem dX8_turn_28 : decode cX8_turn 28 = .ok (.istore_n 3, 1) := by decide +kernel
theorem dX8_turn_29 : decode cX8_turn 29 = .ok (.aload_n 0, 1) := by decide +kernel
theorem dX8_turn_30 : decode cX8_turn 30 = .ok (.aload_n 0, 1) := by decide +kernel
theorem dX8_turn_31 : decode cX8_turn 31 = .ok (.getfield 73, 3) := by decide +kernel
theorem dX8_turn_34 : decode cX8_turn 34 = .ok (.iload_n 1, 1) := by decide +kernel
theorem dX8_turn_35 : decode cX8_turn 35 = .ok (.iload_n 2, 1) := by decide +kernel
theorem dX8_turn_36 : decode cX8_turn 36 = .ok (.invokestatic 114, 3) := by decide +kernel
theorem dX8_turn_39 : decode cX8_turn 39 = .ok (.putfield 73, 3) := by decide +kernel
theorem dX8_turn_42 : decode cX8_turn 42 = .ok (.iload_n 3, 1) := by decide +kernel
theorem dX8_turn_43 : decode cX8_turn 43 = .ok (.ireturn, 1) := by decide +kernel
theorem dX8_good_0 : decode cX8_good 0 = .ok (.iload_n 1, 1) := by decide +kernel
theorem dX8_good_1 : decode cX8_good 1 = .ok (.invokestatic 118, 3) := by decide +kernel
theorem dX8_good_4 : decode cX8_good 4 = .ok (.ifCond .eq 10, 3) := by decide +kernel
theorem dX8_good_7 : decode cX8_good 7 = .ok (.iload_n 2, 1) := by decide +kernel
theorem dX8_good_8 : decode cX8_good 8 = .ok (.invokestatic 111, 3) := by decide +kernel
theorem dX8_good_11 : decode cX8_good 11 = .ok (.ifCond .ne 5, 3) := by decide +kernel
theorem dX8_good_14 : decode cX8_good 14 = .ok (.iconst (-1), 1) := by decide +kernel
theorem dX8_good_15 : decode cX8_good 15 = .ok (.ireturn, 1) := by decide +kernel
theorem dX8_good_16 : decode cX8_good 16 = .ok (.aload_n 0, 1) := by decide +kernel
theorem dX8_good_17 : decode cX8_good 17 = .ok (.getfield 79, 3) := by decide +kernel
theorem dX8_good_20 : decode cX8_good 20 = .ok (.iload_n 1, 1) := by decide +kernel
theorem dX8_good_21 : decode cX8_good 21 = .ok (.invokestatic 107, 3) := by decide +kernel
theorem dX8_good_24 : decode cX8_good 24 = .ok (.istore_n 3, 1) := by decide +kernel
theorem dX8_good_25 : decode cX8_good 25 = .ok (.aload_n 0, 1) := by decide +kernel
theorem dX8_good_26 : decode cX8_good 26 = .ok (.aload_n 0, 1) := by decide +kernel
theorem dX8_good_27 : decode cX8_good 27 = .ok (.getfield 79, 3) := by decide +kernel
theorem dX8_good_30 : decode cX8_good 30 = .ok (.iload_n 1, 1) := by decide +kernel
theorem dX8_good_31 : decode cX8_good 31 = .ok (.iload_n 2, 1) := by decide +kernel
theorem dX8_good_32 : decode cX8_good 32 = .ok (.invokestatic 114, 3) := by decide +kernel
theorem dX8_good_35 : decode cX8_good 35 = .ok (.putfield 79, 3) := by decide +kernel
theorem dX8_good_38 : decode cX8_good 38 = .ok (.iload_n 3, 1) := by decide +kernel
theorem dX8_good_39 : decode cX8_good 39 = .ok (.ireturn, 1) := by decide +kernel
theorem dX8_node_0 : decode cX8_node 0 = .ok (.aload_n 0, 1) := by decide +kernel
theorem dX8_node_1 : decode cX8_node 1 = .ok (.getfield 49, 3) := by decide +kernel
theorem dX8_node_4 : decode cX8_node 4 = .ok (.iload_n 1, 1) := by decide +kernel
theorem dX8_node_5 : decode cX8_node 5 = .ok (.invokevirtual 121, 3) := by decide +kernel
theorem dX8_node_8 : decode cX8_node 8 = .ok (.ifCond .ne 5, 3) := by decide +kernel
theorem dX8_node_11 : decode cX8_node 11 = .ok (.iconst (-1), 1) := by decide +kernel
theorem dX8_node_12 : decode cX8_node 12 = .ok (.ireturn, 1) := by decide +kernel
theorem dX8_node_13 : decode cX8_node 13 = .ok (.iload_n 2, 1) := by decide +kernel
theorem dX8_node_14 : decode cX8_node 14 = .ok (.tableswitch 66 0 3 #[30, 40, 50, 60], 30) := by decide +kernel
theorem dX8_node_44 : decode cX8_node 44 = .ok (.aload_n 0, 1) := by decide +kernel
theorem dX8_node_45 : decode cX8_node 45 = .ok (.getfield 49, 3) := by decide +kernel
theorem dX8_node_48 : decode cX8_node 48 = .ok (.getfield 122, 3) := by decide +kernel
theorem dX8_node_51 : decode cX8_node 51 = .ok (.iload_n 1, 1) := by decide +kernel
theorem dX8_node_52 : decode cX8_node 52 = .ok (.iaload, 1) := by decide +kernel
theorem dX8_node_53 : decode cX8_node 53 = .ok (.ireturn, 1) := by decide +kernel
theorem dX8_node_54 : decode cX8_node 54 = .ok (.aload_n 0, 1) := by decide +kernel
theorem dX8_node_55 : decode cX8_node 55 = .ok (.getfield 49, 3) := by decide +kernel
theorem dX8_node_58 : decode cX8_node 58 = .ok (.getfield 123, 3) := by decide +kernel
theorem dX8_node_61 : decode cX8_node 61 = .ok (.iload_n 1, 1) := by decide +kernel
theorem dX8_node_62 : decode cX8_node 62 = .ok (.iaload, 1) := by decide +kernel
theorem dX8_node_63 : decode cX8_node 63 = .ok (.ireturn, 1) := by decide +kernel
theorem dX8_node_64 : decode cX8_node 64 = .ok (.aload_n 0, 1) := by decide +kernel
theorem dX8_node_65 : decode cX8_node 65 = .ok (.getfield 49, 3) := by decide +kernel
theorem dX8_node_68 : decode cX8_node 68 = .ok (.getfield 126, 3) := by decide +kernel
theorem dX8_node_71 : decode cX8_node 71 = .ok (.iload_n 1, 1) := by decide +kernel
theorem dX8_node_72 : decode cX8_node 72 = .ok (.iaload, 1) := by decide +kernel
theorem dX8_node_73 : decode cX8_node 73 = .ok (.ireturn, 1) := by decide +kernel
theorem dX8_node_74 : decode cX8_node 74 = .ok (.aload_n 0, 1) := by decide +kernel
theorem dX8_node_75 : decode cX8_node 75 = .ok (.iload_n 1, 1) := by decide +kernel
theorem dX8_node_76 : decode cX8_node 76 = .ok (.invokevirtual 129, 3) := by decide +kernel
theorem dX8_node_79 : decode cX8_node 79 = .ok (.ireturn, 1) := by decide +kernel
theorem dX8_node_80 : decode cX8_node 80 = .ok (.iconst (-1), 1) := by decide +kernel
theorem dX8_node_81 : decode cX8_node 81 = .ok (.ireturn, 1) := by decide +kernel
theorem dX8_sign_0 : decode cX8_sign 0 = .ok (.aload_n 0, 1) := by decide +kernel
theorem dX8_sign_1 : decode cX8_sign 1 = .ok (.getfield 49, 3) := by decide +kernel
theorem dX8_sign_4 : decode cX8_sign 4 = .ok (.iload_n 1, 1) := by decide +kernel
theorem dX8_sign_5 : decode cX8_sign 5 = .ok (.invokevirtual 121, 3) := by decide +kernel
theorem dX8_sign_8 : decode cX8_sign 8 = .ok (.ifCond .eq 32, 3) := by decide +kernel
theorem dX8_sign_11 : decode cX8_sign 11 = .ok (.iload_n 2, 1) := by decide +kernel
theorem dX8_sign_12 : decode cX8_sign 12 = .ok (.ifCond .lt 28, 3) := by decide +kernel
theorem dX8_sign_15 : decode cX8_sign 15 = .ok (.iload_n 2, 1) := by decide +kernel
theorem dX8_sign_16 : decode cX8_sign 16 = .ok (.bipush 8, 2) := by decide +kernel
theorem dX8_sign_18 : decode cX8_sign 18 = .ok (.if_icmp .ge 22, 3) := by decide +kernel
theorem dX8_sign_21 : decode cX8_sign 21 = .ok (.iload_n 2, 1) := by decide +kernel
theorem dX8_sign_22 : decode cX8_sign 22 = .ok (.invokestatic 133, 3) := by decide +kernel
theorem dX8_sign_25 : decode cX8_sign 25 = .ok (.aload_n 0, 1) := by decide +kernel
theorem dX8_sign_26 : decode cX8_sign 26 = .ok (.getfield 49, 3) := by decide +kernel
theorem dX8_sign_29 : decode cX8_sign 29 = .ok (.getfield 122, 3) := by decide +kernel
theorem dX8_sign_32 : decode cX8_sign 32 = .ok (.iload_n 1, 1) := by decide +kernel
theorem dX8_sign_33 : decode cX8_sign 33 = .ok (.iaload, 1) := by decide +kernel
theorem dX8_sign_34 : decode cX8_sign 34 = .ok (.invokestatic 133, 3) := by decide +kernel
theorem dX8_sign_37 : decode cX8_sign 37 = .ok (.if_icmp .eq 5, 3) := by decide +kernel
theorem dX8_sign_40 : decode cX8_sign 40 = .ok (.iconst (-1), 1) := by decide +kernel
theorem dX8_sign_41 : decode cX8_sign 41 = .ok (.ireturn, 1) := by decide +kernel
theorem dX8_sign_42 : decode cX8_sign 42 = .ok (.aload_n 0, 1) := by decide +kernel
theorem dX8_sign_43 : decode cX8_sign 43 = .ok (.getfield 49, 3) := by decide +kernel
theorem dX8_sign_46 : decode cX8_sign 46 = .ok (.getfield 122, 3) := by decide +kernel
theorem dX8_sign_49 : decode cX8_sign 49 = .ok (.iload_n 1, 1) := by decide +kernel
theorem dX8_sign_50 : decode cX8_sign 50 = .ok (.iaload, 1) := by decide +kernel
theorem dX8_sign_51 : decode cX8_sign 51 = .ok (.istore_n 3, 1) := by decide +kernel
theorem dX8_sign_52 : decode cX8_sign 52 = .ok (.aload_n 0, 1) := by decide +kernel
theorem dX8_sign_53 : decode cX8_sign 53 = .ok (.getfield 49, 3) := by decide +kernel
theorem dX8_sign_56 : decode cX8_sign 56 = .ok (.getfield 122, 3) := by decide +kernel
theorem dX8_sign_59 : decode cX8_sign 59 = .ok (.iload_n 1, 1) := by decide +kernel
theorem dX8_sign_60 : decode cX8_sign 60 = .ok (.iload_n 2, 1) := by decide +kernel
theorem dX8_sign_61 : decode cX8_sign 61 = .ok (.iastore, 1) := by decide +kernel
theorem dX8_sign_62 : decode cX8_sign 62 = .ok (.iload_n 3, 1) := by decide +kernel
theorem dX8_sign_63 : decode cX8_sign 63 = .ok (.ireturn, 1) := by decide +kernel
theorem dX8_exchange_0 : decode cX8_exchange 0 = .ok (.aload_n 0, 1) := by decide +kernel
theorem dX8_exchange_1 : decode cX8_exchange 1 = .ok (.getfield 49, 3) := by decide +kernel
theorem dX8_exchange_4 : decode cX8_exchange 4 = .ok (.iload_n 1, 1) := by decide +kernel
theorem dX8_exchange_5 : decode cX8_exchange 5 = .ok (.invokevirtual 121, 3) := by decide +kernel
theorem dX8_exchange_8 : decode cX8_exchange 8 = .ok (.ifCond .ne 5, 3) := by decide +kernel
theorem dX8_exchange_11 : decode cX8_exchange 11 = .ok (.iconst (-1), 1) := by decide +kernel
theorem dX8_exchange_12 : decode cX8_exchange 12 = .ok (.ireturn, 1) := by decide +kernel
theorem dX8_exchange_13 : decode cX8_exchange 13 = .ok (.aload_n 0, 1) := by decide +kernel
theorem dX8_exchange_14 : decode cX8_exchange 14 = .ok (.getfield 49, 3) := by decide +kernel
theorem dX8_exchange_17 : decode cX8_exchange 17 = .ok (.getfield 122, 3) := by decide +kernel
theorem dX8_exchange_20 : decode cX8_exchange 20 = .ok (.iload_n 1, 1) := by decide +kernel
theorem dX8_exchange_21 : decode cX8_exchange 21 = .ok (.iaload, 1) := by decide +kernel
theorem dX8_exchange_22 : decode cX8_exchange 22 = .ok (.invokestatic 133, 3) := by decide +kernel
theorem dX8_exchange_25 : decode cX8_exchange 25 = .ok (.iconst 2, 1) := by decide +kernel
theorem dX8_exchange_26 : decode cX8_exchange 26 = .ok (.if_icmp .eq 6, 3) := by decide +kernel
theorem dX8_exchange_29 : decode cX8_exchange 29 = .ok (.bipush (-2), 2) := by decide +kernel
theorem dX8_exchange_31 : decode cX8_exchange 31 = .ok (.ireturn, 1) := by decide +kernel
theorem dX8_exchange_32 : decode cX8_exchange 32 = .ok (.aload_n 0, 1) := by decide +kernel
theorem dX8_exchange_33 : decode cX8_exchange 33 = .ok (.getfield 49, 3) := by decide +kernel
theorem dX8_exchange_36 : decode cX8_exchange 36 = .ok (.iload_n 1, 1) := by decide +kernel
theorem dX8_exchange_37 : decode cX8_exchange 37 = .ok (.invokevirtual 136, 3) := by decide +kernel
theorem dX8_exchange_40 : decode cX8_exchange 40 = .ok (.iconst 1, 1) := by decide +kernel
theorem dX8_exchange_41 : decode cX8_exchange 41 = .ok (.ireturn, 1) := by decide +kernel
theorem dX8_isGood_0 : decode cX8_isGood 0 = .ok (.aload_n 0, 1) := by decide +kernel
theorem dX8_isGood_1 : decode cX8_isGood 1 = .ok (.getfield 49, 3) := by decide +kernel
theorem dX8_isGood_4 : decode cX8_isGood 4 = .ok (.getfield 139, 3) := by decide +kernel
theorem dX8_isGood_7 : decode cX8_isGood 7 = .ok (.ifCond .ne 6, 3) := by decide +kernel
theorem dX8_isGood_10 : decode cX8_isGood 10 = .ok (.bipush (-2), 2) := by decide +kernel
theorem dX8_isGood_12 : decode cX8_isGood 12 = .ok (.ireturn, 1) := by decide +kernel
theorem dX8_isGood_13 : decode cX8_isGood 13 = .ok (.aload_n 0, 1) := by decide +kernel
theorem dX8_isGood_14 : decode cX8_isGood 14 = .ok (.iconst 0, 1) := by decide +kernel
theorem dX8_isGood_15 : decode cX8_isGood 15 = .ok (.invokevirtual 129, 3) := by decide +kernel
theorem dX8_isGood_18 : decode cX8_isGood 18 = .ok (.aload_n 0, 1) := by decide +kernel
theorem dX8_isGood_19 : decode cX8_isGood 19 = .ok (.getfield 79, 3) := by decide +kernel
theorem dX8_isGood_22 : decode cX8_isGood 22 = .ok (.iand, 1) := by decide +kernel
theorem dX8_isGood_23 : decode cX8_isGood 23 = .ok (.ifCond .eq 7, 3) := by decide +kernel
theorem dX8_isGood_26 : decode cX8_isGood 26 = .ok (.iconst 1, 1) := by decide +kernel
theorem dX8_isGood_27 : decode cX8_isGood 27 = .ok (.goto 4, 3) := by decide +kernel
theorem dX8_isGood_30 : decode cX8_isGood 30 = .ok (.iconst 0, 1) := by decide +kernel
theorem dX8_isGood_31 : decode cX8_isGood 31 = .ok (.ireturn, 1) := by decide +kernel
theorem dX8_runs_0 : decode cX8_runs 0 = .ok (.aload_n 0, 1) := by decide +kernel
theorem dX8_runs_1 : decode cX8_runs 1 = .ok (.getfield 49, 3) := by decide +kernel
theorem dX8_runs_4 : decode cX8_runs 4 = .ok (.getfield 139, 3) := by decide +kernel
theorem dX8_runs_7 : decode cX8_runs 7 = .ok (.ifCond .ne 6, 3) := by decide +kernel
theorem dX8_runs_10 : decode cX8_runs 10 = .ok (.bipush (-2), 2) := by decide +kernel
theorem dX8_runs_12 : decode cX8_runs 12 = .ok (.ireturn, 1) := by decide +kernel
theorem dX8_runs_13 : decode cX8_runs 13 = .ok (.aload_n 0, 1) := by decide +kernel
theorem dX8_runs_14 : decode cX8_runs 14 = .ok (.getfield 25, 3) := by decide +kernel
theorem dX8_runs_17 : decode cX8_runs 17 = .ok (.aload_n 0, 1) := by decide +kernel
theorem dX8_runs_18 : decode cX8_runs 18 = .ok (.getfield 49, 3) := by decide +kernel
theorem dX8_runs_21 : decode cX8_runs 21 = .ok (.aload_n 0, 1) := by decide +kernel
theorem dX8_runs_22 : decode cX8_runs 22 = .ok (.getfield 39, 3) := by decide +kernel
theorem dX8_runs_25 : decode cX8_runs 25 = .ok (.aload_n 0, 1) := by decide +kernel
theorem dX8_runs_26 : decode cX8_runs 26 = .ok (.getfield 73, 3) := by decide +kernel
theorem dX8_runs_29 : decode cX8_runs 29 = .ok (.invokevirtual 142, 3) := by decide +kernel
theorem dX8_runs_32 : decode cX8_runs 32 = .ok (.aload_n 0, 1) := by decide +kernel
theorem dX8_runs_33 : decode cX8_runs 33 = .ok (.getfield 25, 3) := by decide +kernel
theorem dX8_runs_36 : decode cX8_runs 36 = .ok (.aload_n 0, 1) := by decide +kernel
theorem dX8_runs_37 : decode cX8_runs 37 = .ok (.getfield 79, 3) := by decide +kernel
theorem dX8_runs_40 : decode cX8_runs 40 = .ok (.invokevirtual 146, 3) := by decide +kernel
theorem dX8_runs_43 : decode cX8_runs 43 = .ok (.ireturn, 1) := by decide +kernel
theorem dX8_places_0 : decode cX8_places 0 = .ok (.iload_n 1, 1) := by decide +kernel
theorem dX8_places_1 : decode cX8_places 1 = .ok (.invokestatic 118, 3) := by decide +kernel
theorem dX8_places_4 : decode cX8_places 4 = .ok (.ifCond .ne 5, 3) := by decide +kernel
theorem dX8_places_7 : decode cX8_places 7 = .ok (.iconst (-1), 1) := by decide +kernel
theorem dX8_places_8 : decode cX8_places 8 = .ok (.ireturn, 1) := by decide +kernel
theorem dX8_places_9 : decode cX8_places 9 = .ok (.aload_n 0, 1) := by decide +kernel
theorem dX8_places_10 : decode cX8_places 10 = .ok (.getfield 25, 3) := by decide +kernel
theorem dX8_places_13 : decode cX8_places 13 = .ok (.aload_n 0, 1) := by decide +kernel
theorem dX8_places_14 : decode cX8_places 14 = .ok (.getfield 49, 3) := by decide +kernel
theorem dX8_places_17 : decode cX8_places 17 = .ok (.aload_n 0, 1) := by decide +kernel
theorem dX8_places_18 : decode cX8_places 18 = .ok (.getfield 39, 3) := by decide +kernel
theorem dX8_places_21 : decode cX8_places 21 = .ok (.aload_n 0, 1) := by decide +kernel
theorem dX8_places_22 : decode cX8_places 22 = .ok (.getfield 73, 3) := by decide +kernel
theorem dX8_places_25 : decode cX8_places 25 = .ok (.invokevirtual 149, 3) := by decide +kernel
theorem dX8_places_28 : decode cX8_places 28 = .ok (.iconst 0, 1) := by decide +kernel
theorem dX8_places_29 : decode cX8_places 29 = .ok (.istore_n 2, 1) := by decide +kernel
theorem dX8_places_30 : decode cX8_places 30 = .ok (.iconst 0, 1) := by decide +kernel
theorem dX8_places_31 : decode cX8_places 31 = .ok (.istore_n 3, 1) := by decide +kernel
theorem dX8_places_32 : decode cX8_places 32 = .ok (.iload_n 3, 1) := by decide +kernel
theorem dX8_places_33 : decode cX8_places 33 = .ok (.aload_n 0, 1) := by decide +kernel
theorem dX8_places_34 : decode cX8_places 34 = .ok (.getfield 49, 3) := by decide +kernel
theorem dX8_places_37 : decode cX8_places 37 = .ok (.getfield 139, 3) := by decide +kernel
theorem dX8_places_40 : decode cX8_places 40 = .ok (.if_icmp .ge 27, 3) := by decide +kernel
theorem dX8_places_43 : decode cX8_places 43 = .ok (.iload_n 2, 1) := by decide +kernel
theorem dX8_places_44 : decode cX8_places 44 = .ok (.aload_n 0, 1) := by decide +kernel
theorem dX8_places_45 : decode cX8_places 45 = .ok (.getfield 25, 3) := by decide +kernel
theorem dX8_places_48 : decode cX8_places 48 = .ok (.getfield 152, 3) := by decide +kernel
theorem dX8_places_51 : decode cX8_places 51 = .ok (.iload_n 3, 1) := by decide +kernel
theorem dX8_places_52 : decode cX8_places 52 = .ok (.iaload, 1) := by decide +kernel
theorem dX8_places_53 : decode cX8_places 53 = .ok (.iload_n 1, 1) := by decide +kernel
theorem dX8_places_54 : decode cX8_places 54 = .ok (.invokestatic 107, 3) := by decide +kernel
theorem dX8_places_57 : decode cX8_places 57 = .ok (.iload_n 3, 1) := by decide +kernel
theorem dX8_places_58 : decode cX8_places 58 = .ok (.ishl, 1) := by decide +kernel
theorem dX8_places_59 : decode cX8_places 59 = .ok (.ior, 1) := by decide +kernel
theorem dX8_places_60 : decode cX8_places 60 = .ok (.istore_n 2, 1) := by decide +kernel
theorem dX8_places_61 : decode cX8_places 61 = .ok (.iinc 3 1, 3) := by decide +kernel
theorem dX8_places_64 : decode cX8_places 64 = .ok (.goto (-32), 3) := by decide +kernel
theorem dX8_places_67 : decode cX8_places 67 = .ok (.iload_n 2, 1) := by decide +kernel
theorem dX8_places_68 : decode cX8_places 68 = .ok (.ireturn, 1) := by decide +kernel
theorem dX8_mend_0 : decode cX8_mend 0 = .ok (.iload_n 1, 1) := by decide +kernel
theorem dX8_mend_1 : decode cX8_mend 1 = .ok (.iconst (-1), 1) := by decide +kernel
theorem dX8_mend_2 : decode cX8_mend 2 = .ok (.if_icmp .eq 16, 3) := by decide +kernel
theorem dX8_mend_5 : decode cX8_mend 5 = .ok (.aload_n 0, 1) := by decide +kernel
theorem dX8_mend_6 : decode cX8_mend 6 = .ok (.getfield 49, 3) := by decide +kernel
theorem dX8_mend_9 : decode cX8_mend 9 = .ok (.iload_n 1, 1) := by decide +kernel
theorem dX8_mend_10 : decode cX8_mend 10 = .ok (.invokevirtual 121, 3) := by decide +kernel
theorem dX8_mend_13 : decode cX8_mend 13 = .ok (.ifCond .ne 5, 3) := by decide +kernel
theorem dX8_mend_16 : decode cX8_mend 16 = .ok (.iconst (-1), 1) := by decide +kernel
theorem dX8_mend_17 : decode cX8_mend 17 = .ok (.ireturn, 1) := by decide +kernel
theorem dX8_mend_18 : decode cX8_mend 18 = .ok (.aload_n 0, 1) := by decide +kernel
theorem dX8_mend_19 : decode cX8_mend 19 = .ok (.getfield 49, 3) := by decide +kernel
theorem dX8_mend_22 : decode cX8_mend 22 = .ok (.getfield 139, 3) := by decide +kernel
theorem dX8_mend_25 : decode cX8_mend 25 = .ok (.ifCond .ne 6, 3) := by decide +kernel
theorem dX8_mend_28 : decode cX8_mend 28 = .ok (.bipush (-2), 2) := by decide +kernel
theorem dX8_mend_30 : decode cX8_mend 30 = .ok (.ireturn, 1) := by decide +kernel
theorem dX8_mend_31 : decode cX8_mend 31 = .ok (.aload_n 0, 1) := by decide +kernel
theorem dX8_mend_32 : decode cX8_mend 32 = .ok (.getfield 25, 3) := by decide +kernel
theorem dX8_mend_35 : decode cX8_mend 35 = .ok (.aload_n 0, 1) := by decide +kernel
theorem dX8_mend_36 : decode cX8_mend 36 = .ok (.getfield 49, 3) := by decide +kernel
theorem dX8_mend_39 : decode cX8_mend 39 = .ok (.aload_n 0, 1) := by decide +kernel
theorem dX8_mend_40 : decode cX8_mend 40 = .ok (.getfield 39, 3) := by decide +kernel
theorem dX8_mend_43 : decode cX8_mend 43 = .ok (.aload_n 0, 1) := by decide +kernel
theorem dX8_mend_44 : decode cX8_mend 44 = .ok (.getfield 73, 3) := by decide +kernel
theorem dX8_mend_47 : decode cX8_mend 47 = .ok (.invokevirtual 155, 3) := by decide +kernel
theorem dX8_mend_50 : decode cX8_mend 50 = .ok (.aload_n 0, 1) := by decide +kernel
theorem dX8_mend_51 : decode cX8_mend 51 = .ok (.getfield 25, 3) := by decide +kernel
theorem dX8_mend_54 : decode cX8_mend 54 = .ok (.aload_n 0, 1) := by decide +kernel
theorem dX8_mend_55 : decode cX8_mend 55 = .ok (.getfield 79, 3) := by decide +kernel
theorem dX8_mend_58 : decode cX8_mend 58 = .ok (.invokevirtual 158, 3) := by decide +kernel
theorem dX8_mend_61 : decode cX8_mend 61 = .ok (.istore_n 2, 1) := by decide +kernel
theorem dX8_mend_62 : decode cX8_mend 62 = .ok (.iload_n 2, 1) := by decide +kernel
theorem dX8_mend_63 : decode cX8_mend 63 = .ok (.invokestatic 118, 3) := by decide +kernel
theorem dX8_mend_66 : decode cX8_mend 66 = .ok (.ifCond .ne 6, 3) := by decide +kernel
theorem dX8_mend_69 : decode cX8_mend 69 = .ok (.bipush (-9), 2) := by decide +kernel
theorem dX8_mend_71 : decode cX8_mend 71 = .ok (.ireturn, 1) := by decide +kernel
theorem dX8_mend_72 : decode cX8_mend 72 = .ok (.iload_n 1, 1) := by decide +kernel
theorem dX8_mend_73 : decode cX8_mend 73 = .ok (.iconst (-1), 1) := by decide +kernel
theorem dX8_mend_74 : decode cX8_mend 74 = .ok (.if_icmp .ne 13, 3) := by decide +kernel
theorem dX8_mend_77 : decode cX8_mend 77 = .ok (.aload_n 0, 1) := by decide +kernel
theorem dX8_mend_78 : decode cX8_mend 78 = .ok (.getfield 25, 3) := by decide +kernel
theorem dX8_mend_81 : decode cX8_mend 81 = .ok (.getfield 161, 3) := by decide +kernel
theorem dX8_mend_84 : decode cX8_mend 84 = .ok (.iload_n 2, 1) := by decide +kernel
theorem dX8_mend_85 : decode cX8_mend 85 = .ok (.iaload, 1) := by decide +kernel
theorem dX8_mend_86 : decode cX8_mend 86 = .ok (.ireturn, 1) := by decide +kernel
theorem dX8_mend_87 : decode cX8_mend 87 = .ok (.aload_n 0, 1) := by decide +kernel
theorem dX8_mend_88 : decode cX8_mend 88 = .ok (.getfield 49, 3) := by decide +kernel
theorem dX8_mend_91 : decode cX8_mend 91 = .ok (.getfield 122, 3) := by decide +kernel
theorem dX8_mend_94 : decode cX8_mend 94 = .ok (.iload_n 1, 1) := by decide +kernel
theorem dX8_mend_95 : decode cX8_mend 95 = .ok (.iaload, 1) := by decide +kernel
theorem dX8_mend_96 : decode cX8_mend 96 = .ok (.invokestatic 133, 3) := by decide +kernel
theorem dX8_mend_99 : decode cX8_mend 99 = .ok (.invokestatic 164, 3) := by decide +kernel
theorem dX8_mend_102 : decode cX8_mend 102 = .ok (.aload_n 0, 1) := by decide +kernel
theorem dX8_mend_103 : decode cX8_mend 103 = .ok (.getfield 25, 3) := by decide +kernel
theorem dX8_mend_106 : decode cX8_mend 106 = .ok (.getfield 167, 3) := by decide +kernel
theorem dX8_mend_109 : decode cX8_mend 109 = .ok (.iload_n 2, 1) := by decide +kernel
theorem dX8_mend_110 : decode cX8_mend 110 = .ok (.laload, 1) := by decide +kernel
theorem dX8_mend_111 : decode cX8_mend 111 = .ok (.iload_n 1, 1) := by decide +kernel
theorem dX8_mend_112 : decode cX8_mend 112 = .ok (.invokestatic 171, 3) := by decide +kernel
theorem dX8_mend_115 : decode cX8_mend 115 = .ok (.iadd, 1) := by decide +kernel
theorem dX8_mend_116 : decode cX8_mend 116 = .ok (.ireturn, 1) := by decide +kernel
theorem dX8_sets_0 : decode cX8_sets 0 = .ok (.aload_n 0, 1) := by decide +kernel
theorem dX8_sets_1 : decode cX8_sets 1 = .ok (.iconst 0, 1) := by decide +kernel
theorem dX8_sets_2 : decode cX8_sets 2 = .ok (.invokevirtual 175, 3) := by decide +kernel
theorem dX8_sets_5 : decode cX8_sets 5 = .ok (.getfield 179, 3) := by decide +kernel
theorem dX8_sets_8 : decode cX8_sets 8 = .ok (.ireturn, 1) := by decide +kernel
theorem dX8_classes_0 : decode cX8_classes 0 = .ok (.aload_n 0, 1) := by decide +kernel
theorem dX8_classes_1 : decode cX8_classes 1 = .ok (.iconst 0, 1) := by decide +kernel
theorem dX8_classes_2 : decode cX8_classes 2 = .ok (.invokevirtual 175, 3) := by decide +kernel
theorem dX8_classes_5 : decode cX8_classes 5 = .ok (.astore_n 1, 1) := by decide +kernel
theorem dX8_classes_6 : decode cX8_classes 6 = .ok (.aload_n 1, 1) := by decide +kernel
theorem dX8_classes_7 : decode cX8_classes 7 = .ok (.getfield 180, 3) := by decide +kernel
theorem dX8_classes_10 : decode cX8_classes 10 = .ok (.aload_n 1, 1) := by decide +kernel
theorem dX8_classes_11 : decode cX8_classes 11 = .ok (.aload_n 0, 1) := by decide +kernel
theorem dX8_classes_12 : decode cX8_classes 12 = .ok (.getfield 79, 3) := by decide +kernel
theorem dX8_classes_15 : decode cX8_classes 15 = .ok (.invokevirtual 184, 3) := by decide +kernel
theorem dX8_classes_18 : decode cX8_classes 18 = .ok (.ireturn, 1) := by decide +kernel
theorem dX8_useful_0 : decode cX8_useful 0 = .ok (.aload_n 0, 1) := by decide +kernel
theorem dX8_useful_1 : decode cX8_useful 1 = .ok (.getfield 39, 3) := by decide +kernel
theorem dX8_useful_4 : decode cX8_useful 4 = .ok (.aload_n 0, 1) := by decide +kernel
theorem dX8_useful_5 : decode cX8_useful 5 = .ok (.getfield 73, 3) := by decide +kernel
theorem dX8_useful_8 : decode cX8_useful 8 = .ok (.aload_n 0, 1) := by decide +kernel
theorem dX8_useful_9 : decode cX8_useful 9 = .ok (.getfield 79, 3) := by decide +kernel
theorem dX8_useful_12 : decode cX8_useful 12 = .ok (.invokevirtual 190, 3) := by decide +kernel
theorem dX8_useful_15 : decode cX8_useful 15 = .ok (.ireturn, 1) := by decide +kernel
theorem dX8_least_0 : decode cX8_least 0 = .ok (.iload_n 1, 1) := by decide +kernel
theorem dX8_least_1 : decode cX8_least 1 = .ok (.iconst (-1), 1) := by decide +kernel
theorem dX8_least_2 : decode cX8_least 2 = .ok (.if_icmp .ge 5, 3) := by decide +kernel
theorem dX8_least_5 : decode cX8_least 5 = .ok (.iconst (-1), 1) := by decide +kernel
theorem dX8_least_6 : decode cX8_least 6 = .ok (.ireturn, 1) := by decide +kernel
theorem dX8_least_7 : decode cX8_least 7 = .ok (.aload_n 0, 1) := by decide +kernel
theorem dX8_least_8 : decode cX8_least 8 = .ok (.iconst 0, 1) := by decide +kernel
theorem dX8_least_9 : decode cX8_least 9 = .ok (.invokevirtual 175, 3) := by decide +kernel
theorem dX8_least_12 : decode cX8_least 12 = .ok (.astore_n 2, 1) := by decide +kernel
theorem dX8_least_13 : decode cX8_least 13 = .ok (.aload_n 2, 1) := by decide +kernel
theorem dX8_least_14 : decode cX8_least 14 = .ok (.aload_n 2, 1) := by decide +kernel
theorem dX8_least_15 : decode cX8_least 15 = .ok (.aload_n 0, 1) := by decide +kernel
theorem dX8_least_16 : decode cX8_least 16 = .ok (.getfield 79, 3) := by decide +kernel
theorem dX8_least_19 : decode cX8_least 19 = .ok (.iconst 0, 1) := by decide +kernel
theorem dX8_least_20 : decode cX8_least 20 = .ok (.invokevirtual 193, 3) := by decide +kernel
theorem dX8_least_23 : decode cX8_least 23 = .ok (.iload_n 1, 1) := by decide +kernel
theorem dX8_least_24 : decode cX8_least 24 = .ok (.invokevirtual 196, 3) := by decide +kernel
theorem dX8_least_27 : decode cX8_least 27 = .ok (.ireturn, 1) := by decide +kernel
theorem dX8_many_0 : decode cX8_many 0 = .ok (.iload_n 1, 1) := by decide +kernel
theorem dX8_many_1 : decode cX8_many 1 = .ok (.invokestatic 199, 3) := by decide +kernel
theorem dX8_many_4 : decode cX8_many 4 = .ok (.ifCond .ne 7, 3) := by decide +kernel
theorem dX8_many_7 : decode cX8_many 7 = .ok (.ldc2_w 202, 3) := by decide +kernel
theorem dX8_many_10 : decode cX8_many 10 = .ok (.lreturn, 1) := by decide +kernel
theorem dX8_many_11 : decode cX8_many 11 = .ok (.aload_n 0, 1) := by decide +kernel
theorem dX8_many_12 : decode cX8_many 12 = .ok (.iconst 0, 1) := by decide +kernel
theorem dX8_many_13 : decode cX8_many 13 = .ok (.invokevirtual 175, 3) := by decide +kernel
theorem dX8_many_16 : decode cX8_many 16 = .ok (.astore_n 2, 1) := by decide +kernel
theorem dX8_many_17 : decode cX8_many 17 = .ok (.lconst 0, 1) := by decide +kernel
theorem dX8_many_18 : decode cX8_many 18 = .ok (.lstore_n 3, 1) := by decide +kernel
theorem dX8_many_19 : decode cX8_many 19 = .ok (.iconst 0, 1) := by decide +kernel
theorem dX8_many_20 : decode cX8_many 20 = .ok (.istore 5, 2) := by decide +kernel
theorem dX8_many_22 : decode cX8_many 22 = .ok (.iload 5, 2) := by decide +kernel
theorem dX8_many_24 : decode cX8_many 24 = .ok (.aload_n 2, 1) := by decide +kernel
theorem dX8_many_25 : decode cX8_many 25 = .ok (.getfield 179, 3) := by decide +kernel
theorem dX8_many_28 : decode cX8_many 28 = .ok (.if_icmp .ge 36, 3) := by decide +kernel
theorem dX8_many_31 : decode cX8_many 31 = .ok (.aload_n 2, 1) := by decide +kernel
theorem dX8_many_32 : decode cX8_many 32 = .ok (.iload 5, 2) := by decide +kernel
theorem dX8_many_34 : decode cX8_many 34 = .ok (.aload_n 0, 1) := by decide +kernel
theorem dX8_many_35 : decode cX8_many 35 = .ok (.getfield 79, 3) := by decide +kernel
theorem dX8_many_38 : decode cX8_many 38 = .ok (.invokevirtual 204, 3) := by decide +kernel
theorem dX8_many_41 : decode cX8_many 41 = .ok (.ifCond .eq 17, 3) := by decide +kernel
theorem dX8_many_44 : decode cX8_many 44 = .ok (.lload_n 3, 1) := by decide +kernel
theorem dX8_many_45 : decode cX8_many 45 = .ok (.aload_n 2, 1) := by decide +kernel
theorem dX8_many_46 : decode cX8_many 46 = .ok (.getfield 208, 3) := by decide +kernel
theorem dX8_many_49 : decode cX8_many 49 = .ok (.aload_n 2, 1) := by decide +kernel
theorem dX8_many_50 : decode cX8_many 50 = .ok (.iload 5, 2) := by decide +kernel
theorem dX8_many_52 : decode cX8_many 52 = .ok (.iload_n 1, 1) := by decide +kernel
theorem dX8_many_53 : decode cX8_many 53 = .ok (.invokevirtual 212, 3) := by decide +kernel
theorem dX8_many_56 : decode cX8_many 56 = .ok (.ladd, 1) := by decide +kernel
theorem dX8_many_57 : decode cX8_many 57 = .ok (.lstore_n 3, 1) := by decide +kernel
theorem dX8_many_58 : decode cX8_many 58 = .ok (.iinc 5 1, 3) := by decide +kernel
theorem dX8_many_61 : decode cX8_many 61 = .ok (.goto (-39), 3) := by decide +kernel
theorem dX8_many_64 : decode cX8_many 64 = .ok (.lload_n 3, 1) := by decide +kernel
theorem dX8_many_65 : decode cX8_many 65 = .ok (.lreturn, 1) := by decide +kernel
theorem dX8_alike_0 : decode cX8_alike 0 = .ok (.aload_n 0, 1) := by decide +kernel
theorem dX8_alike_1 : decode cX8_alike 1 = .ok (.iload_n 1, 1) := by decide +kernel
theorem dX8_alike_2 : decode cX8_alike 2 = .ok (.invokevirtual 218, 3) := by decide +kernel
theorem dX8_alike_5 : decode cX8_alike 5 = .ok (.istore_n 2, 1) := by decide +kernel
theorem dX8_alike_6 : decode cX8_alike 6 = .ok (.iload_n 2, 1) := by decide +kernel
theorem dX8_alike_7 : decode cX8_alike 7 = .ok (.ifCond .eq 5, 3) := by decide +kernel
theorem dX8_alike_10 : decode cX8_alike 10 = .ok (.iload_n 2, 1) := by decide +kernel
theorem dX8_alike_11 : decode cX8_alike 11 = .ok (.ireturn, 1) := by decide +kernel
theorem dX8_alike_12 : decode cX8_alike 12 = .ok (.aload_n 0, 1) := by decide +kernel
theorem dX8_alike_13 : decode cX8_alike 13 = .ok (.aload_n 0, 1) := by decide +kernel
theorem dX8_alike_14 : decode cX8_alike 14 = .ok (.getfield 18, 3) := by decide +kernel
theorem dX8_alike_17 : decode cX8_alike 17 = .ok (.iload_n 1, 1) := by decide +kernel
theorem dX8_alike_18 : decode cX8_alike 18 = .ok (.aaload, 1) := by decide +kernel
theorem dX8_alike_19 : decode cX8_alike 19 = .ok (.getfield 221, 3) := by decide +kernel
theorem dX8_alike_22 : decode cX8_alike 22 = .ok (.invokevirtual 175, 3) := by decide +kernel
theorem dX8_alike_25 : decode cX8_alike 25 = .ok (.astore_n 3, 1) := by decide +kernel
theorem dX8_alike_26 : decode cX8_alike 26 = .ok (.aload_n 3, 1) := by decide +kernel
theorem dX8_alike_27 : decode cX8_alike 27 = .ok (.getfield 222, 3) := by decide +kernel
theorem dX8_alike_30 : decode cX8_alike 30 = .ok (.ifCond .eq 6, 3) := by decide +kernel
theorem dX8_alike_33 : decode cX8_alike 33 = .ok (.bipush (-3), 2) := by decide +kernel
theorem dX8_alike_35 : decode cX8_alike 35 = .ok (.ireturn, 1) := by decide +kernel
theorem dX8_alike_36 : decode cX8_alike 36 = .ok (.iconst 0, 1) := by decide +kernel
theorem dX8_alike_37 : decode cX8_alike 37 = .ok (.istore 4, 2) := by decide +kernel
theorem dX8_alike_39 : decode cX8_alike 39 = .ok (.iload 4, 2) := by decide +kernel
theorem dX8_alike_41 : decode cX8_alike 41 = .ok (.aload_n 3, 1) := by decide +kernel
theorem dX8_alike_42 : decode cX8_alike 42 = .ok (.getfield 179, 3) := by decide +kernel
theorem dX8_alike_45 : decode cX8_alike 45 = .ok (.if_icmp .ge 33, 3) := by decide +kernel
theorem dX8_alike_48 : decode cX8_alike 48 = .ok (.aload_n 3, 1) := by decide +kernel
theorem dX8_alike_49 : decode cX8_alike 49 = .ok (.iload 4, 2) := by decide +kernel
theorem dX8_alike_51 : decode cX8_alike 51 = .ok (.aload_n 0, 1) := by decide +kernel
theorem dX8_alike_52 : decode cX8_alike 52 = .ok (.getfield 79, 3) := by decide +kernel
theorem dX8_alike_55 : decode cX8_alike 55 = .ok (.aload_n 0, 1) := by decide +kernel
theorem dX8_alike_56 : decode cX8_alike 56 = .ok (.getfield 18, 3) := by decide +kernel
theorem dX8_alike_59 : decode cX8_alike 59 = .ok (.iload_n 1, 1) := by decide +kernel
theorem dX8_alike_60 : decode cX8_alike 60 = .ok (.aaload, 1) := by decide +kernel
theorem dX8_alike_61 : decode cX8_alike 61 = .ok (.getfield 225, 3) := by decide +kernel
theorem dX8_alike_64 : decode cX8_alike 64 = .ok (.invokevirtual 226, 3) := by decide +kernel
theorem dX8_alike_67 : decode cX8_alike 67 = .ok (.ifCond .eq 5, 3) := by decide +kernel
theorem dX8_alike_70 : decode cX8_alike 70 = .ok (.iconst 0, 1) := by decide +kernel
theorem dX8_alike_71 : decode cX8_alike 71 = .ok (.ireturn, 1) := by decide +kernel
theorem dX8_alike_72 : decode cX8_alike 72 = .ok (.iinc 4 1, 3) := by decide +kernel
theorem dX8_alike_75 : decode cX8_alike 75 = .ok (.goto (-36), 3) := by decide +kernel
theorem dX8_alike_78 : decode cX8_alike 78 = .ok (.iconst 1, 1) := by decide +kernel
theorem dX8_alike_79 : decode cX8_alike 79 = .ok (.ireturn, 1) := by decide +kernel
theorem dX8_apart_0 : decode cX8_apart 0 = .ok (.iload_n 2, 1) := by decide +kernel
theorem dX8_apart_1 : decode cX8_apart 1 = .ok (.iconst (-1), 1) := by decide +kernel
theorem dX8_apart_2 : decode cX8_apart 2 = .ok (.if_icmp .ge 7, 3) := by decide +kernel
theorem dX8_apart_5 : decode cX8_apart 5 = .ok (.iconst (-1), 1) := by decide +kernel
theorem dX8_apart_6 : decode cX8_apart 6 = .ok (.goto 8, 3) := by decide +kernel
theorem dX8_apart_9 : decode cX8_apart 9 = .ok (.aload_n 0, 1) := by decide +kernel
theorem dX8_apart_10 : decode cX8_apart 10 = .ok (.iload_n 1, 1) := by decide +kernel
theorem dX8_apart_11 : decode cX8_apart 11 = .ok (.invokevirtual 218, 3) := by decide +kernel
theorem dX8_apart_14 : decode cX8_apart 14 = .ok (.istore_n 3, 1) := by decide +kernel
theorem dX8_apart_15 : decode cX8_apart 15 = .ok (.iload_n 3, 1) := by decide +kernel
theorem dX8_apart_16 : decode cX8_apart 16 = .ok (.ifCond .eq 5, 3) := by decide +kernel
theorem dX8_apart_19 : decode cX8_apart 19 = .ok (.iload_n 3, 1) := by decide +kernel
theorem dX8_apart_20 : decode cX8_apart 20 = .ok (.ireturn, 1) := by decide +kernel
theorem dX8_apart_21 : decode cX8_apart 21 = .ok (.aload_n 0, 1) := by decide +kernel
theorem dX8_apart_22 : decode cX8_apart 22 = .ok (.aload_n 0, 1) := by decide +kernel
theorem dX8_apart_23 : decode cX8_apart 23 = .ok (.getfield 18, 3) := by decide +kernel
theorem dX8_apart_26 : decode cX8_apart 26 = .ok (.iload_n 1, 1) := by decide +kernel
theorem dX8_apart_27 : decode cX8_apart 27 = .ok (.aaload, 1) := by decide +kernel
theorem dX8_apart_28 : decode cX8_apart 28 = .ok (.getfield 221, 3) := by decide +kernel
theorem dX8_apart_31 : decode cX8_apart 31 = .ok (.invokevirtual 175, 3) := by decide +kernel
theorem dX8_apart_34 : decode cX8_apart 34 = .ok (.astore 4, 2) := by decide +kernel
theorem dX8_apart_36 : decode cX8_apart 36 = .ok (.aload 4, 2) := by decide +kernel
theorem dX8_apart_38 : decode cX8_apart 38 = .ok (.getfield 222, 3) := by decide +kernel
theorem dX8_apart_41 : decode cX8_apart 41 = .ok (.ifCond .eq 6, 3) := by decide +kernel
theorem dX8_apart_44 : decode cX8_apart 44 = .ok (.bipush (-3), 2) := by decide +kernel
theorem dX8_apart_46 : decode cX8_apart 46 = .ok (.ireturn, 1) := by decide +kernel
theorem dX8_apart_47 : decode cX8_apart 47 = .ok (.aload 4, 2) := by decide +kernel
theorem dX8_apart_49 : decode cX8_apart 49 = .ok (.aload 4, 2) := by decide +kernel
theorem dX8_apart_51 : decode cX8_apart 51 = .ok (.aload_n 0, 1) := by decide +kernel
theorem dX8_apart_52 : decode cX8_apart 52 = .ok (.getfield 79, 3) := by decide +kernel
theorem dX8_apart_55 : decode cX8_apart 55 = .ok (.aload_n 0, 1) := by decide +kernel
theorem dX8_apart_56 : decode cX8_apart 56 = .ok (.getfield 18, 3) := by decide +kernel
theorem dX8_apart_59 : decode cX8_apart 59 = .ok (.iload_n 1, 1) := by decide +kernel
theorem dX8_apart_60 : decode cX8_apart 60 = .ok (.aaload, 1) := by decide +kernel
theorem dX8_apart_61 : decode cX8_apart 61 = .ok (.getfield 225, 3) := by decide +kernel
theorem dX8_apart_64 : decode cX8_apart 64 = .ok (.invokevirtual 193, 3) := by decide +kernel
theorem dX8_apart_67 : decode cX8_apart 67 = .ok (.iload_n 2, 1) := by decide +kernel
theorem dX8_apart_68 : decode cX8_apart 68 = .ok (.invokevirtual 196, 3) := by decide +kernel
theorem dX8_apart_71 : decode cX8_apart 71 = .ok (.ireturn, 1) := by decide +kernel
theorem dX8_both_0 : decode cX8_both 0 = .ok (.iload_n 2, 1) := by decide +kernel
theorem dX8_both_1 : decode cX8_both 1 = .ok (.invokestatic 199, 3) := by decide +kernel
theorem dX8_both_4 : decode cX8_both 4 = .ok (.ifCond .eq 11, 3) := by decide +kernel
theorem dX8_both_7 : decode cX8_both 7 = .ok (.aload_n 0, 1) := by decide +kernel
theorem dX8_both_8 : decode cX8_both 8 = .ok (.iload_n 1, 1) := by decide +kernel
theorem dX8_both_9 : decode cX8_both 9 = .ok (.invokevirtual 218, 3) := by decide +kernel
theorem dX8_both_12 : decode cX8_both 12 = .ok (.goto 4, 3) := by decide +kernel
theorem dX8_both_15 : decode cX8_both 15 = .ok (.iconst (-1), 1) := by decide +kernel
theorem dX8_both_16 : decode cX8_both 16 = .ok (.istore_n 3, 1) := by decide +kernel
theorem dX8_both_17 : decode cX8_both 17 = .ok (.iload_n 3, 1) := by decide +kernel
theorem dX8_both_18 : decode cX8_both 18 = .ok (.ifCond .eq 6, 3) := by decide +kernel
theorem dX8_both_21 : decode cX8_both 21 = .ok (.iload_n 3, 1) := by decide +kernel
theorem dX8_both_22 : decode cX8_both 22 = .ok (.i2l, 1) := by decide +kernel
theorem dX8_both_23 : decode cX8_both 23 = .ok (.lreturn, 1) := by decide +kernel
theorem dX8_both_24 : decode cX8_both 24 = .ok (.aload_n 0, 1) := by decide +kernel
theorem dX8_both_25 : decode cX8_both 25 = .ok (.aload_n 0, 1) := by decide +kernel
theorem dX8_both_26 : decode cX8_both 26 = .ok (.getfield 18, 3) := by decide +kernel
theorem dX8_both_29 : decode cX8_both 29 = .ok (.iload_n 1, 1) := by decide +kernel
theorem dX8_both_30 : decode cX8_both 30 = .ok (.aaload, 1) := by decide +kernel
theorem dX8_both_31 : decode cX8_both 31 = .ok (.getfield 221, 3) := by decide +kernel
theorem dX8_both_34 : decode cX8_both 34 = .ok (.invokevirtual 175, 3) := by decide +kernel
theorem dX8_both_37 : decode cX8_both 37 = .ok (.astore 4, 2) := by decide +kernel
theorem dX8_both_39 : decode cX8_both 39 = .ok (.aload 4, 2) := by decide +kernel
theorem dX8_both_41 : decode cX8_both 41 = .ok (.getfield 222, 3) := by decide +kernel
theorem dX8_both_44 : decode cX8_both 44 = .ok (.ifCond .eq 7, 3) := by decide +kernel
theorem dX8_both_47 : decode cX8_both 47 = .ok (.ldc2_w 230, 3) := by decide +kernel
theorem dX8_both_50 : decode cX8_both 50 = .ok (.lreturn, 1) := by decide +kernel
theorem dX8_both_51 : decode cX8_both 51 = .ok (.lconst 0, 1) := by decide +kernel
theorem dX8_both_52 : decode cX8_both 52 = .ok (.lstore 5, 2) := by decide +kernel
theorem dX8_both_54 : decode cX8_both 54 = .ok (.iconst 0, 1) := by decide +kernel
theorem dX8_both_55 : decode cX8_both 55 = .ok (.istore 7, 2) := by decide +kernel
theorem dX8_both_57 : decode cX8_both 57 = .ok (.iload 7, 2) := by decide +kernel
theorem dX8_both_59 : decode cX8_both 59 = .ok (.aload 4, 2) := by decide +kernel
theorem dX8_both_61 : decode cX8_both 61 = .ok (.getfield 179, 3) := by decide +kernel
theorem dX8_both_64 : decode cX8_both 64 = .ok (.if_icmp .ge 60, 3) := by decide +kernel
theorem dX8_both_67 : decode cX8_both 67 = .ok (.aload 4, 2) := by decide +kernel
theorem dX8_both_69 : decode cX8_both 69 = .ok (.iload 7, 2) := by decide +kernel
theorem dX8_both_71 : decode cX8_both 71 = .ok (.aload_n 0, 1) := by decide +kernel
theorem dX8_both_72 : decode cX8_both 72 = .ok (.getfield 79, 3) := by decide +kernel
theorem dX8_both_75 : decode cX8_both 75 = .ok (.invokevirtual 204, 3) := by decide +kernel
theorem dX8_both_78 : decode cX8_both 78 = .ok (.ifCond .eq 40, 3) := by decide +kernel
theorem dX8_both_81 : decode cX8_both 81 = .ok (.aload 4, 2) := by decide +kernel
theorem dX8_both_83 : decode cX8_both 83 = .ok (.iload 7, 2) := by decide +kernel
theorem dX8_both_85 : decode cX8_both 85 = .ok (.aload_n 0, 1) := by decide +kernel
theorem dX8_both_86 : decode cX8_both 86 = .ok (.getfield 18, 3) := by decide +kernel
theorem dX8_both_89 : decode cX8_both 89 = .ok (.iload_n 1, 1) := by decide +kernel
theorem dX8_both_90 : decode cX8_both 90 = .ok (.aaload, 1) := by decide +kernel
theorem dX8_both_91 : decode cX8_both 91 = .ok (.getfield 225, 3) := by decide +kernel
theorem dX8_both_94 : decode cX8_both 94 = .ok (.invokevirtual 232, 3) := by decide +kernel
theorem dX8_both_97 : decode cX8_both 97 = .ok (.ifCond .eq 21, 3) := by decide +kernel
theorem dX8_both_100 : decode cX8_both 100 = .ok (.lload 5, 2) := by decide +kernel
theorem dX8_both_102 : decode cX8_both 102 = .ok (.aload 4, 2) := by decide +kernel
theorem dX8_both_104 : decode cX8_both 104 = .ok (.getfield 208, 3) := by decide +kernel
theorem dX8_both_107 : decode cX8_both 107 = .ok (.aload 4, 2) := by decide +kernel
theorem dX8_both_109 : decode cX8_both 109 = .ok (.iload 7, 2) := by decide +kernel
theorem dX8_both_111 : decode cX8_both 111 = .ok (.iload_n 2, 1) := by decide +kernel
theorem dX8_both_112 : decode cX8_both 112 = .ok (.invokevirtual 212, 3) := by decide +kernel
theorem dX8_both_115 : decode cX8_both 115 = .ok (.ladd, 1) := by decide +kernel
theorem dX8_both_116 : decode cX8_both 116 = .ok (.lstore 5, 2) := by decide +kernel
theorem dX8_both_118 : decode cX8_both 118 = .ok (.iinc 7 1, 3) := by decide +kernel
theorem dX8_both_121 : decode cX8_both 121 = .ok (.goto (-64), 3) := by decide +kernel
theorem dX8_both_124 : decode cX8_both 124 = .ok (.lload 5, 2) := by decide +kernel
theorem dX8_both_126 : decode cX8_both 126 = .ok (.lreturn, 1) := by decide +kernel
theorem dX8_mark_0 : decode cX8_mark 0 = .ok (.iload_n 1, 1) := by decide +kernel
theorem dX8_mark_1 : decode cX8_mark 1 = .ok (.ifCond .lt 19, 3) := by decide +kernel
theorem dX8_mark_4 : decode cX8_mark 4 = .ok (.iload_n 1, 1) := by decide +kernel
theorem dX8_mark_5 : decode cX8_mark 5 = .ok (.iconst 5, 1) := by decide +kernel
theorem dX8_mark_6 : decode cX8_mark 6 = .ok (.if_icmp .gt 14, 3) := by decide +kernel
theorem dX8_mark_9 : decode cX8_mark 9 = .ok (.aload_n 0, 1) := by decide +kernel
theorem dX8_mark_10 : decode cX8_mark 10 = .ok (.getfield 49, 3) := by decide +kernel
theorem dX8_mark_13 : decode cX8_mark 13 = .ok (.iload_n 2, 1) := by decide +kernel
theorem dX8_mark_14 : decode cX8_mark 14 = .ok (.invokevirtual 121, 3) := by decide +kernel
theorem dX8_mark_17 : decode cX8_mark 17 = .ok (.ifCond .ne 6, 3) := by decide +kernel
theorem dX8_mark_20 : decode cX8_mark 20 = .ok (.ldc 235, 2) := by decide +kernel
theorem dX8_mark_22 : decode cX8_mark 22 = .ok (.ireturn, 1) := by decide +kernel
theorem dX8_mark_23 : decode cX8_mark 23 = .ok (.aload_n 0, 1) := by decide +kernel
theorem dX8_mark_24 : decode cX8_mark 24 = .ok (.iload_n 1, 1) := by decide +kernel
theorem dX8_mark_25 : decode cX8_mark 25 = .ok (.iload_n 2, 1) := by decide +kernel
theorem dX8_mark_26 : decode cX8_mark 26 = .ok (.invokevirtual 236, 3) := by decide +kernel
theorem dX8_mark_29 : decode cX8_mark 29 = .ok (.ireturn, 1) := by decide +kernel
theorem dX8_keep_0 : decode cX8_keep 0 = .ok (.iload_n 1, 1) := by decide +kernel
theorem dX8_keep_1 : decode cX8_keep 1 = .ok (.invokestatic 239, 3) := by decide +kernel
theorem dX8_keep_4 : decode cX8_keep 4 = .ok (.ifCond .ne 5, 3) := by decide +kernel
theorem dX8_keep_7 : decode cX8_keep 7 = .ok (.iconst (-1), 1) := by decide +kernel
theorem dX8_keep_8 : decode cX8_keep 8 = .ok (.ireturn, 1) := by decide +kernel
theorem dX8_keep_9 : decode cX8_keep 9 = .ok (.aload_n 0, 1) := by decide +kernel
theorem dX8_keep_10 : decode cX8_keep 10 = .ok (.getfield 18, 3) := by decide +kernel
theorem dX8_keep_13 : decode cX8_keep 13 = .ok (.iload_n 1, 1) := by decide +kernel
theorem dX8_keep_14 : decode cX8_keep 14 = .ok (.aaload, 1) := by decide +kernel
theorem dX8_keep_15 : decode cX8_keep 15 = .ok (.astore_n 2, 1) := by decide +kernel
theorem dX8_keep_16 : decode cX8_keep 16 = .ok (.aload_n 2, 1) := by decide +kernel
theorem dX8_keep_17 : decode cX8_keep 17 = .ok (.iconst 1, 1) := by decide +kernel
theorem dX8_keep_18 : decode cX8_keep 18 = .ok (.putfield 82, 3) := by decide +kernel
theorem dX8_keep_21 : decode cX8_keep 21 = .ok (.aload_n 2, 1) := by decide +kernel
theorem dX8_keep_22 : decode cX8_keep 22 = .ok (.aload_n 0, 1) := by decide +kernel
theorem dX8_keep_23 : decode cX8_keep 23 = .ok (.getfield 73, 3) := by decide +kernel
theorem dX8_keep_26 : decode cX8_keep 26 = .ok (.putfield 221, 3) := by decide +kernel
theorem dX8_keep_29 : decode cX8_keep 29 = .ok (.aload_n 2, 1) := by decide +kernel
theorem dX8_keep_30 : decode cX8_keep 30 = .ok (.aload_n 0, 1) := by decide +kernel
theorem dX8_keep_31 : decode cX8_keep 31 = .ok (.getfield 79, 3) := by decide +kernel
theorem dX8_keep_34 : decode cX8_keep 34 = .ok (.putfield 225, 3) := by decide +kernel
theorem dX8_keep_37 : decode cX8_keep 37 = .ok (.aload_n 2, 1) := by decide +kernel
theorem dX8_keep_38 : decode cX8_keep 38 = .ok (.getfield 242, 3) := by decide +kernel
theorem dX8_keep_41 : decode cX8_keep 41 = .ok (.aload_n 0, 1) := by decide +kernel
theorem dX8_keep_42 : decode cX8_keep 42 = .ok (.getfield 49, 3) := by decide +kernel
theorem dX8_keep_45 : decode cX8_keep 45 = .ok (.invokevirtual 243, 3) := by decide +kernel
theorem dX8_keep_48 : decode cX8_keep 48 = .ok (.aload_n 0, 1) := by decide +kernel
theorem dX8_keep_49 : decode cX8_keep 49 = .ok (.getfield 73, 3) := by decide +kernel
theorem dX8_keep_52 : decode cX8_keep 52 = .ok (.invokestatic 247, 3) := by decide +kernel
theorem dX8_keep_55 : decode cX8_keep 55 = .ok (.ireturn, 1) := by decide +kernel
theorem dX8_back_0 : decode cX8_back 0 = .ok (.aload_n 0, 1) := by decide +kernel
theorem dX8_back_1 : decode cX8_back 1 = .ok (.iload_n 1, 1) := by decide +kernel
theorem dX8_back_2 : decode cX8_back 2 = .ok (.invokevirtual 218, 3) := by decide +kernel
theorem dX8_back_5 : decode cX8_back 5 = .ok (.istore_n 2, 1) := by decide +kernel
theorem dX8_back_6 : decode cX8_back 6 = .ok (.iload_n 2, 1) := by decide +kernel
theorem dX8_back_7 : decode cX8_back 7 = .ok (.ifCond .eq 5, 3) := by decide +kernel
theorem dX8_back_10 : decode cX8_back 10 = .ok (.iload_n 2, 1) := by decide +kernel
theorem dX8_back_11 : decode cX8_back 11 = .ok (.ireturn, 1) := by decide +kernel
theorem dX8_back_12 : decode cX8_back 12 = .ok (.aload_n 0, 1) := by decide +kernel
theorem dX8_back_13 : decode cX8_back 13 = .ok (.getfield 18, 3) := by decide +kernel
theorem dX8_back_16 : decode cX8_back 16 = .ok (.iload_n 1, 1) := by decide +kernel
theorem dX8_back_17 : decode cX8_back 17 = .ok (.aaload, 1) := by decide +kernel
theorem dX8_back_18 : decode cX8_back 18 = .ok (.astore_n 3, 1) := by decide +kernel
theorem dX8_back_19 : decode cX8_back 19 = .ok (.aload_n 0, 1) := by decide +kernel
theorem dX8_back_20 : decode cX8_back 20 = .ok (.aload_n 3, 1) := by decide +kernel
theorem dX8_back_21 : decode cX8_back 21 = .ok (.getfield 221, 3) := by decide +kernel
theorem dX8_back_24 : decode cX8_back 24 = .ok (.putfield 73, 3) := by decide +kernel
theorem dX8_back_27 : decode cX8_back 27 = .ok (.aload_n 0, 1) := by decide +kernel
theorem dX8_back_28 : decode cX8_back 28 = .ok (.aload_n 3, 1) := by decide +kernel
theorem dX8_back_29 : decode cX8_back 29 = .ok (.getfield 225, 3) := by decide +kernel
theorem dX8_back_32 : decode cX8_back 32 = .ok (.putfield 79, 3) := by decide +kernel
theorem dX8_back_35 : decode cX8_back 35 = .ok (.aload_n 0, 1) := by decide +kernel
theorem dX8_back_36 : decode cX8_back 36 = .ok (.getfield 49, 3) := by decide +kernel
theorem dX8_back_39 : decode cX8_back 39 = .ok (.aload_n 3, 1) := by decide +kernel
theorem dX8_back_40 : decode cX8_back 40 = .ok (.getfield 242, 3) := by decide +kernel
theorem dX8_back_43 : decode cX8_back 43 = .ok (.invokevirtual 243, 3) := by decide +kernel
theorem dX8_back_46 : decode cX8_back 46 = .ok (.aload_n 0, 1) := by decide +kernel
theorem dX8_back_47 : decode cX8_back 47 = .ok (.getfield 73, 3) := by decide +kernel
theorem dX8_back_50 : decode cX8_back 50 = .ok (.invokestatic 247, 3) := by decide +kernel
theorem dX8_back_53 : decode cX8_back 53 = .ok (.ireturn, 1) := by decide +kernel
theorem dX8_count_0 : decode cX8_count 0 = .ok (.iload_n 1, 1) := by decide +kernel
theorem dX8_count_1 : decode cX8_count 1 = .ok (.tableswitch 72 0 4 #[35, 43, 51, 56, 64], 35) := by decide +kernel
theorem dX8_count_36 : decode cX8_count 36 = .ok (.aload_n 0, 1) := by decide +kernel
theorem dX8_count_37 : decode cX8_count 37 = .ok (.getfield 39, 3) := by decide +kernel
theorem dX8_count_40 : decode cX8_count 40 = .ok (.getfield 252, 3) := by decide +kernel
theorem dX8_count_43 : decode cX8_count 43 = .ok (.ireturn, 1) := by decide +kernel
theorem dX8_count_44 : decode cX8_count 44 = .ok (.aload_n 0, 1) := by decide +kernel
theorem dX8_count_45 : decode cX8_count 45 = .ok (.getfield 73, 3) := by decide +kernel
theorem dX8_count_48 : decode cX8_count 48 = .ok (.invokestatic 247, 3) := by decide +kernel
theorem dX8_count_51 : decode cX8_count 51 = .ok (.ireturn, 1) := by decide +kernel
theorem dX8_count_52 : decode cX8_count 52 = .ok (.aload_n 0, 1) := by decide +kernel
theorem dX8_count_53 : decode cX8_count 53 = .ok (.getfield 79, 3) := by decide +kernel
theorem dX8_count_56 : decode cX8_count 56 = .ok (.ireturn, 1) := by decide +kernel
theorem dX8_count_57 : decode cX8_count 57 = .ok (.aload_n 0, 1) := by decide +kernel
theorem dX8_count_58 : decode cX8_count 58 = .ok (.getfield 49, 3) := by decide +kernel
theorem dX8_count_61 : decode cX8_count 61 = .ok (.getfield 139, 3) := by decide +kernel
theorem dX8_count_64 : decode cX8_count 64 = .ok (.ireturn, 1) := by decide +kernel
theorem dX8_count_65 : decode cX8_count 65 = .ok (.aload_n 0, 1) := by decide +kernel
theorem dX8_count_66 : decode cX8_count 66 = .ok (.getfield 10, 3) := by decide +kernel
theorem dX8_count_69 : decode cX8_count 69 = .ok (.getfield 57, 3) := by decide +kernel
theorem dX8_count_72 : decode cX8_count 72 = .ok (.ireturn, 1) := by decide +kernel
theorem dX8_count_73 : decode cX8_count 73 = .ok (.iconst (-1), 1) := by decide +kernel
theorem dX8_count_74 : decode cX8_count 74 = .ok (.ireturn, 1) := by decide +kernel
theorem dX8_trace_0 : decode cX8_trace 0 = .ok (.aload_n 0, 1) := by decide +kernel
theorem dX8_trace_1 : decode cX8_trace 1 = .ok (.getfield 253, 3) := by decide +kernel
theorem dX8_trace_4 : decode cX8_trace 4 = .ok (.lreturn, 1) := by decide +kernel
theorem dX8_worthAs_0 : decode cX8_worthAs 0 = .ok (.iload_n 1, 1) := by decide +kernel
theorem dX8_worthAs_1 : decode cX8_worthAs 1 = .ok (.tableswitch 166 1 5 #[35, 56, 85, 117, 145], 35) := by decide +kernel
theorem dX8_worthAs_36 : decode cX8_worthAs 36 = .ok (.aload_n 0, 1) := by decide +kernel
theorem dX8_worthAs_37 : decode cX8_worthAs 37 = .ok (.dup, 1) := by decide +kernel
theorem dX8_worthAs_38 : decode cX8_worthAs 38 = .ok (.getfield 253, 3) := by decide +kernel
theorem dX8_worthAs_41 : decode cX8_worthAs 41 = .ok (.ldc2_w 257, 3) := by decide +kernel
theorem dX8_worthAs_44 : decode cX8_worthAs 44 = .ok (.ladd, 1) := by decide +kernel
theorem dX8_worthAs_45 : decode cX8_worthAs 45 = .ok (.putfield 253, 3) := by decide +kernel
theorem dX8_worthAs_48 : decode cX8_worthAs 48 = .ok (.aload_n 0, 1) := by decide +kernel
theorem dX8_worthAs_49 : decode cX8_worthAs 49 = .ok (.iconst 0, 1) := by decide +kernel
theorem dX8_worthAs_50 : decode cX8_worthAs 50 = .ok (.iload_n 2, 1) := by decide +kernel
theorem dX8_worthAs_51 : decode cX8_worthAs 51 = .ok (.invokevirtual 236, 3) := by decide +kernel
theorem dX8_worthAs_54 : decode cX8_worthAs 54 = .ok (.iconst 2, 1) := by decide +kernel
theorem dX8_worthAs_55 : decode cX8_worthAs 55 = .ok (.imul, 1) := by decide +kernel
theorem dX8_worthAs_56 : decode cX8_worthAs 56 = .ok (.ireturn, 1) := by decide +kernel
theorem dX8_worthAs_57 : decode cX8_worthAs 57 = .ok (.aload_n 0, 1) := by decide +kernel
theorem dX8_worthAs_58 : decode cX8_worthAs 58 = .ok (.dup, 1) := by decide +kernel
theorem dX8_worthAs_59 : decode cX8_worthAs 59 = .ok (.getfield 253, 3) := by decide +kernel
theorem dX8_worthAs_62 : decode cX8_worthAs 62 = .ok (.ldc2_w 259, 3) := by decide +kernel
theorem dX8_worthAs_65 : decode cX8_worthAs 65 = .ok (.ladd, 1) := by decide +kernel
theorem dX8_worthAs_66 : decode cX8_worthAs 66 = .ok (.putfield 253, 3) := by decide +kernel
theorem dX8_worthAs_69 : decode cX8_worthAs 69 = .ok (.aload_n 0, 1) := by decide +kernel
theorem dX8_worthAs_70 : decode cX8_worthAs 70 = .ok (.iconst 0, 1) := by decide +kernel
theorem dX8_worthAs_71 : decode cX8_worthAs 71 = .ok (.iload_n 2, 1) := by decide +kernel
theorem dX8_worthAs_72 : decode cX8_worthAs 72 = .ok (.invokevirtual 236, 3) := by decide +kernel
theorem dX8_worthAs_75 : decode cX8_worthAs 75 = .ok (.aload_n 0, 1) := by decide +kernel
theorem dX8_worthAs_76 : decode cX8_worthAs 76 = .ok (.getfield 49, 3) := by decide +kernel
theorem dX8_worthAs_79 : decode cX8_worthAs 79 = .ok (.getfield 122, 3) := by decide +kernel
theorem dX8_worthAs_82 : decode cX8_worthAs 82 = .ok (.iload_n 2, 1) := by decide +kernel
theorem dX8_worthAs_83 : decode cX8_worthAs 83 = .ok (.iaload, 1) := by decide +kernel
theorem dX8_worthAs_84 : decode cX8_worthAs 84 = .ok (.iadd, 1) := by decide +kernel
theorem dX8_worthAs_85 : decode cX8_worthAs 85 = .ok (.ireturn, 1) := by decide +kernel
theorem dX8_worthAs_86 : decode cX8_worthAs 86 = .ok (.aload_n 0, 1) := by decide +kernel
theorem dX8_worthAs_87 : decode cX8_worthAs 87 = .ok (.dup, 1) := by decide +kernel
theorem dX8_worthAs_88 : decode cX8_worthAs 88 = .ok (.getfield 253, 3) := by decide +kernel
theorem dX8_worthAs_91 : decode cX8_worthAs 91 = .ok (.ldc2_w 261, 3) := by decide +kernel
theorem dX8_worthAs_94 : decode cX8_worthAs 94 = .ok (.ladd, 1) := by decide +kernel
theorem dX8_worthAs_95 : decode cX8_worthAs 95 = .ok (.putfield 253, 3) := by decide +kernel
theorem dX8_worthAs_98 : decode cX8_worthAs 98 = .ok (.aload_n 0, 1) := by decide +kernel
theorem dX8_worthAs_99 : decode cX8_worthAs 99 = .ok (.iconst 1, 1) := by decide +kernel
theorem dX8_worthAs_100 : decode cX8_worthAs 100 = .ok (.iload_n 2, 1) := by decide +kernel
theorem dX8_worthAs_101 : decode cX8_worthAs 101 = .ok (.invokevirtual 236, 3) := by decide +kernel
theorem dX8_worthAs_104 : decode cX8_worthAs 104 = .ok (.aload_n 0, 1) := by decide +kernel
theorem dX8_worthAs_105 : decode cX8_worthAs 105 = .ok (.getfield 49, 3) := by decide +kernel
theorem dX8_worthAs_108 : decode cX8_worthAs 108 = .ok (.getfield 122, 3) := by decide +kernel
theorem dX8_worthAs_111 : decode cX8_worthAs 111 = .ok (.iload_n 2, 1) := by decide +kernel
theorem dX8_worthAs_112 : decode cX8_worthAs 112 = .ok (.iaload, 1) := by decide +kernel
theorem dX8_worthAs_113 : decode cX8_worthAs 113 = .ok (.invokestatic 133, 3) := by decide +kernel
theorem dX8_worthAs_116 : decode cX8_worthAs 116 = .ok (.iadd, 1) := by decide +kernel
theorem dX8_worthAs_117 : decode cX8_worthAs 117 = .ok (.ireturn, 1) := by decide +kernel
theorem dX8_worthAs_118 : decode cX8_worthAs 118 = .ok (.aload_n 0, 1) := by decide +kernel
theorem dX8_worthAs_119 : decode cX8_worthAs 119 = .ok (.dup, 1) := by decide +kernel
theorem dX8_worthAs_120 : decode cX8_worthAs 120 = .ok (.getfield 253, 3) := by decide +kernel
theorem dX8_worthAs_123 : decode cX8_worthAs 123 = .ok (.ldc2_w 263, 3) := by decide +kernel
theorem dX8_worthAs_126 : decode cX8_worthAs 126 = .ok (.ladd, 1) := by decide +kernel
theorem dX8_worthAs_127 : decode cX8_worthAs 127 = .ok (.putfield 253, 3) := by decide +kernel
theorem dX8_worthAs_130 : decode cX8_worthAs 130 = .ok (.aload_n 0, 1) := by decide +kernel
theorem dX8_worthAs_131 : decode cX8_worthAs 131 = .ok (.iconst 2, 1) := by decide +kernel
theorem dX8_worthAs_132 : decode cX8_worthAs 132 = .ok (.iload_n 2, 1) := by decide +kernel
theorem dX8_worthAs_133 : decode cX8_worthAs 133 = .ok (.invokevirtual 236, 3) := by decide +kernel
theorem dX8_worthAs_136 : decode cX8_worthAs 136 = .ok (.aload_n 0, 1) := by decide +kernel
theorem dX8_worthAs_137 : decode cX8_worthAs 137 = .ok (.iload_n 2, 1) := by decide +kernel
theorem dX8_worthAs_138 : decode cX8_worthAs 138 = .ok (.invokevirtual 129, 3) := by decide +kernel
theorem dX8_worthAs_141 : decode cX8_worthAs 141 = .ok (.invokestatic 247, 3) := by decide +kernel
theorem dX8_worthAs_144 : decode cX8_worthAs 144 = .ok (.isub, 1) := by decide +kernel
theorem dX8_worthAs_145 : decode cX8_worthAs 145 = .ok (.ireturn, 1) := by decide +kernel
theorem dX8_worthAs_146 : decode cX8_worthAs 146 = .ok (.aload_n 0, 1) := by decide +kernel
theorem dX8_worthAs_147 : decode cX8_worthAs 147 = .ok (.dup, 1) := by decide +kernel
theorem dX8_worthAs_148 : decode cX8_worthAs 148 = .ok (.getfield 253, 3) := by decide +kernel
theorem dX8_worthAs_151 : decode cX8_worthAs 151 = .ok (.ldc2_w 265, 3) := by decide +kernel
theorem dX8_worthAs_154 : decode cX8_worthAs 154 = .ok (.ladd, 1) := by decide +kernel
theorem dX8_worthAs_155 : decode cX8_worthAs 155 = .ok (.putfield 253, 3) := by decide +kernel
theorem dX8_worthAs_158 : decode cX8_worthAs 158 = .ok (.aload_n 0, 1) := by decide +kernel
theorem dX8_worthAs_159 : decode cX8_worthAs 159 = .ok (.iconst 0, 1) := by decide +kernel
theorem dX8_worthAs_160 : decode cX8_worthAs 160 = .ok (.iload_n 2, 1) := by decide +kernel
theorem dX8_worthAs_161 : decode cX8_worthAs 161 = .ok (.invokevirtual 236, 3) := by decide +kernel
theorem dX8_worthAs_164 : decode cX8_worthAs 164 = .ok (.iload_n 2, 1) := by decide +kernel
theorem dX8_worthAs_165 : decode cX8_worthAs 165 = .ok (.iadd, 1) := by decide +kernel
theorem dX8_worthAs_166 : decode cX8_worthAs 166 = .ok (.ireturn, 1) := by decide +kernel
theorem dX8_worthAs_167 : decode cX8_worthAs 167 = .ok (.aload_n 0, 1) := by decide +kernel
theorem dX8_worthAs_168 : decode cX8_worthAs 168 = .ok (.dup, 1) := by decide +kernel
theorem dX8_worthAs_169 : decode cX8_worthAs 169 = .ok (.getfield 253, 3) := by decide +kernel
theorem dX8_worthAs_172 : decode cX8_worthAs 172 = .ok (.lconst 1, 1) := by decide +kernel
theorem dX8_worthAs_173 : decode cX8_worthAs 173 = .ok (.ladd, 1) := by decide +kernel
theorem dX8_worthAs_174 : decode cX8_worthAs 174 = .ok (.putfield 253, 3) := by decide +kernel
theorem dX8_worthAs_177 : decode cX8_worthAs 177 = .ok (.aload_n 0, 1) := by decide +kernel
theorem dX8_worthAs_178 : decode cX8_worthAs 178 = .ok (.getfield 49, 3) := by decide +kernel
theorem dX8_worthAs_181 : decode cX8_worthAs 181 = .ok (.getfield 123, 3) := by decide +kernel
theorem dX8_worthAs_184 : decode cX8_worthAs 184 = .ok (.iload_n 2, 1) := by decide +kernel
theorem dX8_worthAs_185 : decode cX8_worthAs 185 = .ok (.iaload, 1) := by decide +kernel
theorem dX8_worthAs_186 : decode cX8_worthAs 186 = .ok (.ireturn, 1) := by decide +kernel
theorem dX8_comesTo_0 : decode cX8_comesTo 0 = .ok (.aload_n 0, 1) := by decide +kernel
theorem dX8_comesTo_1 : decode cX8_comesTo 1 = .ok (.getfield 25, 3) := by decide +kernel
theorem dX8_comesTo_4 : decode cX8_comesTo 4 = .ok (.aload_n 0, 1) := by decide +kernel
theorem dX8_comesTo_5 : decode cX8_comesTo 5 = .ok (.getfield 49, 3) := by decide +kernel
theorem dX8_comesTo_8 : decode cX8_comesTo 8 = .ok (.aload_n 0, 1) := by decide +kernel
theorem dX8_comesTo_9 : decode cX8_comesTo 9 = .ok (.getfield 39, 3) := by decide +kernel
theorem dX8_comesTo_12 : decode cX8_comesTo 12 = .ok (.aload_n 0, 1) := by decide +kernel
theorem dX8_comesTo_13 : decode cX8_comesTo 13 = .ok (.getfield 73, 3) := by decide +kernel
theorem dX8_comesTo_16 : decode cX8_comesTo 16 = .ok (.invokevirtual 149, 3) := by decide +kernel
theorem dX8_comesTo_19 : decode cX8_comesTo 19 = .ok (.aload_n 0, 1) := by decide +kernel
theorem dX8_comesTo_20 : decode cX8_comesTo 20 = .ok (.getfield 25, 3) := by decide +kernel
theorem dX8_comesTo_23 : decode cX8_comesTo 23 = .ok (.getfield 152, 3) := by decide +kernel
theorem dX8_comesTo_26 : decode cX8_comesTo 26 = .ok (.iload_n 1, 1) := by decide +kernel
theorem dX8_comesTo_27 : decode cX8_comesTo 27 = .ok (.iaload, 1) := by decide +kernel
theorem dX8_comesTo_28 : decode cX8_comesTo 28 = .ok (.ireturn, 1) := by decide +kernel
theorem dX8_pairsWith_0 : decode cX8_pairsWith 0 = .ok (.aload_n 0, 1) := by decide +kernel
theorem dX8_pairsWith_1 : decode cX8_pairsWith 1 = .ok (.getfield 32, 3) := by decide +kernel
theorem dX8_pairsWith_4 : decode cX8_pairsWith 4 = .ok (.aload_n 0, 1) := by decide +kernel
theorem dX8_pairsWith_5 : decode cX8_pairsWith 5 = .ok (.getfield 39, 3) := by decide +kernel
theorem dX8_pairsWith_8 : decode cX8_pairsWith 8 = .ok (.aload_n 0, 1) := by decide +kernel
theorem dX8_pairsWith_9 : decode cX8_pairsWith 9 = .ok (.getfield 73, 3) := by decide +kernel
theorem dX8_pairsWith_12 : decode cX8_pairsWith 12 = .ok (.iload_n 1, 1) := by decide +kernel
theorem dX8_pairsWith_13 : decode cX8_pairsWith 13 = .ok (.invokevirtual 267, 3) := by decide +kernel
theorem dX8_pairsWith_16 : decode cX8_pairsWith 16 = .ok (.aload_n 0, 1) := by decide +kernel
theorem dX8_pairsWith_17 : decode cX8_pairsWith 17 = .ok (.getfield 32, 3) := by decide +kernel
theorem dX8_pairsWith_20 : decode cX8_pairsWith 20 = .ok (.areturn, 1) := by decide +kernel
theorem dX8_refusalOf_0 : decode cX8_refusalOf 0 = .ok (.iload_n 1, 1) := by decide +kernel
theorem dX8_refusalOf_1 : decode cX8_refusalOf 1 = .ok (.invokestatic 239, 3) := by decide +kernel
theorem dX8_refusalOf_4 : decode cX8_refusalOf 4 = .ok (.ifCond .ne 5, 3) := by decide +kernel
theorem dX8_refusalOf_7 : decode cX8_refusalOf 7 = .ok (.iconst (-1), 1) := by decide +kernel
theorem dX8_refusalOf_8 : decode cX8_refusalOf 8 = .ok (.ireturn, 1) := by decide +kernel
theorem dX8_refusalOf_9 : decode cX8_refusalOf 9 = .ok (.aload_n 0, 1) := by decide +kernel
theorem dX8_refusalOf_10 : decode cX8_refusalOf 10 = .ok (.getfield 18, 3) := by decide +kernel
theorem dX8_refusalOf_13 : decode cX8_refusalOf 13 = .ok (.iload_n 1, 1) := by decide +kernel
theorem dX8_refusalOf_14 : decode cX8_refusalOf 14 = .ok (.aaload, 1) := by decide +kernel
theorem dX8_refusalOf_15 : decode cX8_refusalOf 15 = .ok (.getfield 82, 3) := by decide +kernel
theorem dX8_refusalOf_18 : decode cX8_refusalOf 18 = .ok (.ifCond .eq 7, 3) := by decide +kernel
theorem dX8_refusalOf_21 : decode cX8_refusalOf 21 = .ok (.iconst 0, 1) := by decide +kernel
theorem dX8_refusalOf_22 : decode cX8_refusalOf 22 = .ok (.goto 5, 3) := by decide +kernel
theorem dX8_refusalOf_25 : decode cX8_refusalOf 25 = .ok (.bipush (-2), 2) := by decide +kernel
theorem dX8_refusalOf_27 : decode cX8_refusalOf 27 = .ok (.ireturn, 1) := by decide +kernel
theorem dX8_isImage_0 : decode cX8_isImage 0 = .ok (.iload_n 0, 1) := by decide +kernel
theorem dX8_isImage_1 : decode cX8_isImage 1 = .ok (.ifCond .lt 12, 3) := by decide +kernel
theorem dX8_isImage_4 : decode cX8_isImage 4 = .ok (.iload_n 0, 1) := by decide +kernel
theorem dX8_isImage_5 : decode cX8_isImage 5 = .ok (.iconst 2, 1) := by decide +kernel
theorem dX8_isImage_6 : decode cX8_isImage 6 = .ok (.if_icmp .ge 7, 3) := by decide +kernel
theorem dX8_isImage_9 : decode cX8_isImage 9 = .ok (.iconst 1, 1) := by decide +kernel
theorem dX8_isImage_10 : decode cX8_isImage 10 = .ok (.goto 4, 3) := by decide +kernel
theorem dX8_isImage_13 : decode cX8_isImage 13 = .ok (.iconst 0, 1) := by decide +kernel
theorem dX8_isImage_14 : decode cX8_isImage 14 = .ok (.ireturn, 1) := by decide +kernel
theorem dX8_isCounted_0 : decode cX8_isCounted 0 = .ok (.iload_n 0, 1) := by decide +kernel
theorem dX8_isCounted_1 : decode cX8_isCounted 1 = .ok (.iconst 1, 1) := by decide +kernel
theorem dX8_isCounted_2 : decode cX8_isCounted 2 = .ok (.if_icmp .lt 13, 3) := by decide +kernel
theorem dX8_isCounted_5 : decode cX8_isCounted 5 = .ok (.iload_n 0, 1) := by decide +kernel
theorem dX8_isCounted_6 : decode cX8_isCounted 6 = .ok (.bipush 15, 2) := by decide +kernel
theorem dX8_isCounted_8 : decode cX8_isCounted 8 = .ok (.if_icmp .gt 7, 3) := by decide +kernel
theorem dX8_isCounted_11 : decode cX8_isCounted 11 = .ok (.iconst 1, 1) := by decide +kernel
theorem dX8_isCounted_12 : decode cX8_isCounted 12 = .ok (.goto 4, 3) := by decide +kernel
theorem dX8_isCounted_15 : decode cX8_isCounted 15 = .ok (.iconst 0, 1) := by decide +kernel
theorem dX8_isCounted_16 : decode cX8_isCounted 16 = .ok (.ireturn, 1) := by decide +kernel
theorem dX8_isState_0 : decode cX8_isState 0 = .ok (.iload_n 0, 1) := by decide +kernel
theorem dX8_isState_1 : decode cX8_isState 1 = .ok (.ifCond .lt 13, 3) := by decide +kernel
theorem dX8_isState_4 : decode cX8_isState 4 = .ok (.iload_n 0, 1) := by decide +kernel
theorem dX8_isState_5 : decode cX8_isState 5 = .ok (.bipush 6, 2) := by decide +kernel
theorem dX8_isState_7 : decode cX8_isState 7 = .ok (.if_icmp .ge 7, 3) := by decide +kernel
theorem dX8_isState_10 : decode cX8_isState 10 = .ok (.iconst 1, 1) := by decide +kernel
theorem dX8_isState_11 : decode cX8_isState 11 = .ok (.goto 4, 3) := by decide +kernel
theorem dX8_isState_14 : decode cX8_isState 14 = .ok (.iconst 0, 1) := by decide +kernel
theorem dX8_isState_15 : decode cX8_isState 15 = .ok (.ireturn, 1) := by decide +kernel
theorem dX8_isBit_0 : decode cX8_isBit 0 = .ok (.iload_n 0, 1) := by decide +kernel
theorem dX8_isBit_1 : decode cX8_isBit 1 = .ok (.ifCond .eq 8, 3) := by decide +kernel
theorem dX8_isBit_4 : decode cX8_isBit 4 = .ok (.iload_n 0, 1) := by decide +kernel
theorem dX8_isBit_5 : decode cX8_isBit 5 = .ok (.iconst 1, 1) := by decide +kernel
theorem dX8_isBit_6 : decode cX8_isBit 6 = .ok (.if_icmp .ne 7, 3) := by decide +kernel
theorem dX8_isBit_9 : decode cX8_isBit 9 = .ok (.iconst 1, 1) := by decide +kernel
theorem dX8_isBit_10 : decode cX8_isBit 10 = .ok (.goto 4, 3) := by decide +kernel
theorem dX8_isBit_13 : decode cX8_isBit 13 = .ok (.iconst 0, 1) := by decide +kernel
theorem dX8_isBit_14 : decode cX8_isBit 14 = .ok (.ireturn, 1) := by decide +kernel
theorem dX8_bit_0 : decode cX8_bit 0 = .ok (.iload_n 0, 1) := by decide +kernel
theorem dX8_bit_1 : decode cX8_bit 1 = .ok (.iload_n 1, 1) := by decide +kernel
theorem dX8_bit_2 : decode cX8_bit 2 = .ok (.ishr, 1) := by decide +kernel
theorem dX8_bit_3 : decode cX8_bit 3 = .ok (.iconst 1, 1) := by decide +kernel
theorem dX8_bit_4 : decode cX8_bit 4 = .ok (.iand, 1) := by decide +kernel
theorem dX8_bit_5 : decode cX8_bit 5 = .ok (.ireturn, 1) := by decide +kernel
theorem dX8_withBit_0 : decode cX8_withBit 0 = .ok (.iload_n 2, 1) := by decide +kernel
theorem dX8_withBit_1 : decode cX8_withBit 1 = .ok (.iconst 1, 1) := by decide +kernel
theorem dX8_withBit_2 : decode cX8_withBit 2 = .ok (.if_icmp .ne 11, 3) := by decide +kernel
theorem dX8_withBit_5 : decode cX8_withBit 5 = .ok (.iload_n 0, 1) := by decide +kernel
theorem dX8_withBit_6 : decode cX8_withBit 6 = .ok (.iconst 1, 1) := by decide +kernel
theorem dX8_withBit_7 : decode cX8_withBit 7 = .ok (.iload_n 1, 1) := by decide +kernel
theorem dX8_withBit_8 : decode cX8_withBit 8 = .ok (.ishl, 1) := by decide +kernel
theorem dX8_withBit_9 : decode cX8_withBit 9 = .ok (.ior, 1) := by decide +kernel
theorem dX8_withBit_10 : decode cX8_withBit 10 = .ok (.goto 10, 3) := by decide +kernel
theorem dX8_withBit_13 : decode cX8_withBit 13 = .ok (.iload_n 0, 1) := by decide +kernel
theorem dX8_withBit_14 : decode cX8_withBit 14 = .ok (.iconst 1, 1) := by decide +kernel
theorem dX8_withBit_15 : decode cX8_withBit 15 = .ok (.iload_n 1, 1) := by decide +kernel
theorem dX8_withBit_16 : decode cX8_withBit 16 = .ok (.ishl, 1) := by decide +kernel
theorem dX8_withBit_17 : decode cX8_withBit 17 = .ok (.iconst (-1), 1) := by decide +kernel
theorem dX8_withBit_18 : decode cX8_withBit 18 = .ok (.ixor, 1) := by decide +kernel
theorem dX8_withBit_19 : decode cX8_withBit 19 = .ok (.iand, 1) := by decide +kernel
theorem dX8_withBit_20 : decode cX8_withBit 20 = .ok (.ireturn, 1) := by decide +kernel
theorem dX8_armsOf_0 : decode cX8_armsOf 0 = .ok (.iload_n 0, 1) := by decide +kernel
theorem dX8_armsOf_1 : decode cX8_armsOf 1 = .ok (.iconst 4, 1) := by decide +kernel
theorem dX8_armsOf_2 : decode cX8_armsOf 2 = .ok (.if_icmp .ge 7, 3) := by decide +kernel
theorem dX8_armsOf_5 : decode cX8_armsOf 5 = .ok (.iconst 0, 1) := by decide +kernel
theorem dX8_armsOf_6 : decode cX8_armsOf 6 = .ok (.goto 14, 3) := by decide +kernel
theorem dX8_armsOf_9 : decode cX8_armsOf 9 = .ok (.iload_n 0, 1) := by decide +kernel
theorem dX8_armsOf_10 : decode cX8_armsOf 10 = .ok (.bipush 6, 2) := by decide +kernel
theorem dX8_armsOf_12 : decode cX8_armsOf 12 = .ok (.if_icmp .ge 7, 3) := by decide +kernel
theorem dX8_armsOf_15 : decode cX8_armsOf 15 = .ok (.iconst 1, 1) := by decide +kernel
theorem dX8_armsOf_16 : decode cX8_armsOf 16 = .ok (.goto 4, 3) := by decide +kernel
theorem dX8_armsOf_19 : decode cX8_armsOf 19 = .ok (.iconst 2, 1) := by decide +kernel
theorem dX8_armsOf_20 : decode cX8_armsOf 20 = .ok (.ireturn, 1) := by decide +kernel
theorem dX8_firstSignWith_0 : decode cX8_firstSignWith 0 = .ok (.iload_n 0, 1) := by decide +kernel
theorem dX8_firstSignWith_1 : decode cX8_firstSignWith 1 = .ok (.ifCond .ne 7, 3) := by decide +kernel
theorem dX8_firstSignWith_4 : decode cX8_firstSignWith 4 = .ok (.iconst 0, 1) := by decide +kernel
theorem dX8_firstSignWith_5 : decode cX8_firstSignWith 5 = .ok (.goto 14, 3) := by decide +kernel
theorem dX8_firstSignWith_8 : decode cX8_firstSignWith 8 = .ok (.iload_n 0, 1) := by decide +kernel
theorem dX8_firstSignWith_9 : decode cX8_firstSignWith 9 = .ok (.iconst 1, 1) := by decide +kernel
theorem dX8_firstSignWith_10 : decode cX8_firstSignWith 10 = .ok (.if_icmp .ne 7, 3) := by decide +kernel
theorem dX8_firstSignWith_13 : decode cX8_firstSignWith 13 = .ok (.iconst 4, 1) := by decide +kernel
theorem dX8_firstSignWith_14 : decode cX8_firstSignWith 14 = .ok (.goto 5, 3) := by decide +kernel
theorem dX8_firstSignWith_17 : decode cX8_firstSignWith 17 = .ok (.bipush 6, 2) := by decide +kernel
theorem dX8_firstSignWith_19 : decode cX8_firstSignWith 19 = .ok (.ireturn, 1) := by decide +kernel
theorem dX9_init_0 : decode cX9_init 0 = .ok (.aload_n 0, 1) := by decide +kernel
theorem dX9_init_1 : decode cX9_init 1 = .ok (.invokespecial 1, 3) := by decide +kernel
theorem dX9_init_4 : decode cX9_init 4 = .ok (.aload_n 0, 1) := by decide +kernel
theorem dX9_init_5 : decode cX9_init 5 = .ok (.sipush 300, 3) := by decide +kernel
theorem dX9_init_8 : decode cX9_init 8 = .ok (.newarray .byte, 2) := by decide +kernel
theorem dX9_init_10 : decode cX9_init 10 = .ok (.putfield 7, 3) := by decide +kernel
theorem dX9_init_13 : decode cX9_init 13 = .ok (.aload_n 0, 1) := by decide +kernel
theorem dX9_init_14 : decode cX9_init 14 = .ok (.iconst 2, 1) := by decide +kernel
theorem dX9_init_15 : decode cX9_init 15 = .ok (.newarray .int, 2) := by decide +kernel
theorem dX9_init_17 : decode cX9_init 17 = .ok (.putfield 13, 3) := by decide +kernel
theorem dX9_init_20 : decode cX9_init 20 = .ok (.aload_n 0, 1) := by decide +kernel
theorem dX9_init_21 : decode cX9_init 21 = .ok (.bipush 32, 2) := by decide +kernel
theorem dX9_init_23 : decode cX9_init 23 = .ok (.newarray .int, 2) := by decide +kernel
theorem dX9_init_25 : decode cX9_init 25 = .ok (.putfield 17, 3) := by decide +kernel
theorem dX9_init_28 : decode cX9_init 28 = .ok (.aload_n 0, 1) := by decide +kernel
theorem dX9_init_29 : decode cX9_init 29 = .ok (.bipush 32, 2) := by decide +kernel
theorem dX9_init_31 : decode cX9_init 31 = .ok (.newarray .int, 2) := by decide +kernel
theorem dX9_init_33 : decode cX9_init 33 = .ok (.putfield 20, 3) := by decide +kernel
theorem dX9_init_36 : decode cX9_init 36 = .ok (.aload_n 0, 1) := by decide +kernel
theorem dX9_init_37 : decode cX9_init 37 = .ok (.bipush 32, 2) := by decide +kernel
theorem dX9_init_39 : decode cX9_init 39 = .ok (.newarray .int, 2) := by decide +kernel
theorem dX9_init_41 : decode cX9_init 41 = .ok (.putfield 23, 3) := by decide +kernel
theorem dX9_init_44 : decode cX9_init 44 = .ok (.aload_n 0, 1) := by decide +kernel
theorem dX9_init_45 : decode cX9_init 45 = .ok (.bipush 32, 2) := by decide +kernel
theorem dX9_init_47 : decode cX9_init 47 = .ok (.newarray .int, 2) := by decide +kernel
theorem dX9_init_49 : decode cX9_init 49 = .ok (.putfield 26, 3) := by decide +kernel
theorem dX9_init_52 : decode cX9_init 52 = .ok (.aload_n 0, 1) := by decide +kernel
theorem dX9_init_53 : decode cX9_init 53 = .ok (.bipush 102, 2) := by decide +kernel
theorem dX9_init_55 : decode cX9_init 55 = .ok (.newarray .int, 2) := by decide +kernel
theorem dX9_init_57 : decode cX9_init 57 = .ok (.putfield 29, 3) := by decide +kernel
theorem dX9_init_60 : decode cX9_init 60 = .ok (.aload_n 0, 1) := by decide +kernel
theorem dX9_init_61 : decode cX9_init 61 = .ok (.iconst 2, 1) := by decide +kernel
theorem dX9_init_62 : decode cX9_init 62 = .ok (.newarray .boolean, 2) := by decide +kernel
theorem dX9_init_64 : decode cX9_init 64 = .ok (.putfield 32, 3) := by decide +kernel
theorem dX9_init_67 : decode cX9_init 67 = .ok (.aload_n 0, 1) := by decide +kernel
theorem dX9_init_68 : decode cX9_init 68 = .ok (.bipush 31, 2) := by decide +kernel
theorem dX9_init_70 : decode cX9_init 70 = .ok (.newarray .int, 2) := by decide +kernel
theorem dX9_init_72 : decode cX9_init 72 = .ok (.putfield 36, 3) := by decide +kernel
theorem dX9_init_75 : decode cX9_init 75 = .ok (.aload_n 0, 1) := by decide +kernel
theorem dX9_init_76 : decode cX9_init 76 = .ok (.bipush 32, 2) := by decide +kernel
theorem dX9_init_78 : decode cX9_init 78 = .ok (.newarray .int, 2) := by decide +kernel
theorem dX9_init_80 : decode cX9_init 80 = .ok (.putfield 39, 3) := by decide +kernel
theorem dX9_init_83 : decode cX9_init 83 = .ok (.aload_n 0, 1) := by decide +kernel
theorem dX9_init_84 : decode cX9_init 84 = .ok (.bipush 31, 2) := by decide +kernel
theorem dX9_init_86 : decode cX9_init 86 = .ok (.newarray .int, 2) := by decide +kernel
theorem dX9_init_88 : decode cX9_init 88 = .ok (.putfield 42, 3) := by decide +kernel
theorem dX9_init_91 : decode cX9_init 91 = .ok (.aload_n 0, 1) := by decide +kernel
theorem dX9_init_92 : decode cX9_init 92 = .ok (.sipush 186, 3) := by decide +kernel
theorem dX9_init_95 : decode cX9_init 95 = .ok (.newarray .long, 2) := by decide +kernel
theorem dX9_init_97 : decode cX9_init 97 = .ok (.putfield 45, 3) := by decide +kernel
theorem dX9_init_100 : decode cX9_init 100 = .ok (.aload_n 0, 1) := by decide +kernel
theorem dX9_init_101 : decode cX9_init 101 = .ok (.sipush 186, 3) := by decide +kernel
theorem dX9_init_104 : decode cX9_init 104 = .ok (.newarray .int, 2) := by decide +kernel
theorem dX9_init_106 : decode cX9_init 106 = .ok (.putfield 49, 3) := by decide +kernel
theorem dX9_init_109 : decode cX9_init 109 = .ok (.aload_n 0, 1) := by decide +kernel
theorem dX9_init_110 : decode cX9_init 110 = .ok (.bipush 31, 2) := by decide +kernel
theorem dX9_init_112 : decode cX9_init 112 = .ok (.newarray .int, 2) := by decide +kernel
theorem dX9_init_114 : decode cX9_init 114 = .ok (.putfield 52, 3) := by decide +kernel
theorem dX9_init_117 : decode cX9_init 117 = .ok (.aload_n 0, 1) := by decide +kernel
theorem dX9_init_118 : decode cX9_init 118 = .ok (.bipush 120, 2) := by decide +kernel
theorem dX9_init_120 : decode cX9_init 120 = .ok (.newarray .int, 2) := by decide +kernel
theorem dX9_init_122 : decode cX9_init 122 = .ok (.putfield 55, 3) := by decide +kernel
theorem dX9_init_125 : decode cX9_init 125 = .ok (.aload_n 0, 1) := by decide +kernel
theorem dX9_init_126 : decode cX9_init 126 = .ok (.bipush 120, 2) := by decide +kernel
theorem dX9_init_128 : decode cX9_init 128 = .ok (.newarray .int, 2) := by decide +kernel
theorem dX9_init_130 : decode cX9_init 130 = .ok (.putfield 58, 3) := by decide +kernel
theorem dX9_init_133 : decode cX9_init 133 = .ok (.aload_n 0, 1) := by decide +kernel
theorem dX9_init_134 : decode cX9_init 134 = .ok (.iconst 4, 1) := by decide +kernel
theorem dX9_init_135 : decode cX9_init 135 = .ok (.newarray .int, 2) := by decide +kernel
theorem dX9_init_137 : decode cX9_init 137 = .ok (.putfield 61, 3) := by decide +kernel
theorem dX9_init_140 : decode cX9_init 140 = .ok (.aload_n 0, 1) := by decide +kernel
theorem dX9_init_141 : decode cX9_init 141 = .ok (.sipush 240, 3) := by decide +kernel
theorem dX9_init_144 : decode cX9_init 144 = .ok (.newarray .int, 2) := by decide +kernel
theorem dX9_init_146 : decode cX9_init 146 = .ok (.putfield 64, 3) := by decide +kernel
theorem dX9_init_149 : decode cX9_init 149 = .ok (.aload_n 0, 1) := by decide +kernel
theorem dX9_init_150 : decode cX9_init 150 = .ok (.sipush 28800, 3) := by decide +kernel
theorem dX9_init_153 : decode cX9_init 153 = .ok (.newarray .int, 2) := by decide +kernel
theorem dX9_init_155 : decode cX9_init 155 = .ok (.putfield 67, 3) := by decide +kernel
theorem dX9_init_158 : decode cX9_init 158 = .ok (.aload_n 0, 1) := by decide +kernel
theorem dX9_init_159 : decode cX9_init 159 = .ok (.bipush 64, 2) := by decide +kernel
theorem dX9_init_161 : decode cX9_init 161 = .ok (.newarray .int, 2) := by decide +kernel
theorem dX9_init_163 : decode cX9_init 163 = .ok (.putfield 70, 3) := by decide +kernel
theorem dX9_init_166 : decode cX9_init 166 = .ok (.aload_n 0, 1) := by decide +kernel
theorem dX9_init_167 : decode cX9_init 167 = .ok (.bipush 64, 2) := by decide +kernel
theorem dX9_init_169 : decode cX9_init 169 = .ok (.newarray .int, 2) := by decide +kernel
theorem dX9_init_171 : decode cX9_init 171 = .ok (.putfield 73, 3) := by decide +kernel
theorem dX9_init_174 : decode cX9_init 174 = .ok (.aload_n 0, 1) := by decide +kernel
theorem dX9_init_175 : decode cX9_init 175 = .ok (.bipush 120, 2) := by decide +kernel
theorem dX9_init_177 : decode cX9_init 177 = .ok (.newarray .int, 2) := by decide +kernel
theorem dX9_init_179 : decode cX9_init 179 = .ok (.putfield 76, 3) := by decide +kernel
theorem dX9_init_182 : decode cX9_init 182 = .ok (.aload_n 0, 1) := by decide +kernel
theorem dX9_init_183 : decode cX9_init 183 = .ok (.sipush 3720, 3) := by decide +kernel
theorem dX9_init_186 : decode cX9_init 186 = .ok (.newarray .int, 2) := by decide +kernel
theorem dX9_init_188 : decode cX9_init 188 = .ok (.putfield 79, 3) := by decide +kernel
theorem dX9_init_191 : decode cX9_init 191 = .ok (.aload_n 0, 1) := by decide +kernel
theorem dX9_init_192 : decode cX9_init 192 = .ok (.bipush 31, 2) := by decide +kernel
theorem dX9_init_194 : decode cX9_init 194 = .ok (.newarray .int, 2) := by decide +kernel
theorem dX9_init_196 : decode cX9_init 196 = .ok (.putfield 82, 3) := by decide +kernel
theorem dX9_init_199 : decode cX9_init 199 = .ok (.aload_n 0, 1) := by decide +kernel
theorem dX9_init_200 : decode cX9_init 200 = .ok (.sipush 1920, 3) := by decide +kernel
theorem dX9_init_203 : decode cX9_init 203 = .ok (.newarray .long, 2) := by decide +kernel
theorem dX9_init_205 : decode cX9_init 205 = .ok (.putfield 85, 3) := by decide +kernel
theorem dX9_init_208 : decode cX9_init 208 = .ok (.return_, 1) := by decide +kernel
theorem dX9_in_0 : decode cX9_in 0 = .ok (.iload_n 0, 1) := by decide +kernel
theorem dX9_in_1 : decode cX9_in 1 = .ok (.iload_n 1, 1) := by decide +kernel
theorem dX9_in_2 : decode cX9_in 2 = .ok (.if_icmp .lt 12, 3) := by decide +kernel
theorem dX9_in_5 : decode cX9_in 5 = .ok (.iload_n 0, 1) := by decide +kernel
theorem dX9_in_6 : decode cX9_in 6 = .ok (.iload_n 2, 1) := by decide +kernel
theorem dX9_in_7 : decode cX9_in 7 = .ok (.if_icmp .gt 7, 3) := by decide +kernel
theorem dX9_in_10 : decode cX9_in 10 = .ok (.iconst 1, 1) := by decide +kernel
theorem dX9_in_11 : decode cX9_in 11 = .ok (.goto 4, 3) := by decide +kernel
theorem dX9_in_14 : decode cX9_in 14 = .ok (.iconst 0, 1) := by decide +kernel
theorem dX9_in_15 : decode cX9_in 15 = .ok (.ireturn, 1) := by decide +kernel
theorem dX9_armsOf_0 : decode cX9_armsOf 0 = .ok (.iload_n 0, 1) := by decide +kernel
theorem dX9_armsOf_1 : decode cX9_armsOf 1 = .ok (.iconst 4, 1) := by decide +kernel
theorem dX9_armsOf_2 : decode cX9_armsOf 2 = .ok (.if_icmp .ge 7, 3) := by decide +kernel
theorem dX9_armsOf_5 : decode cX9_armsOf 5 = .ok (.iconst 0, 1) := by decide +kernel
theorem dX9_armsOf_6 : decode cX9_armsOf 6 = .ok (.goto 14, 3) := by decide +kernel
theorem dX9_armsOf_9 : decode cX9_armsOf 9 = .ok (.iload_n 0, 1) := by decide +kernel
theorem dX9_armsOf_10 : decode cX9_armsOf 10 = .ok (.bipush 6, 2) := by decide +kernel
theorem dX9_armsOf_12 : decode cX9_armsOf 12 = .ok (.if_icmp .ge 7, 3) := by decide +kernel
theorem dX9_armsOf_15 : decode cX9_armsOf 15 = .ok (.iconst 1, 1) := by decide +kernel
theorem dX9_armsOf_16 : decode cX9_armsOf 16 = .ok (.goto 4, 3) := by decide +kernel
theorem dX9_armsOf_19 : decode cX9_armsOf 19 = .ok (.iconst 2, 1) := by decide +kernel
theorem dX9_armsOf_20 : decode cX9_armsOf 20 = .ok (.ireturn, 1) := by decide +kernel
theorem dX9_type_0 : decode cX9_type 0 = .ok (.iload_n 3, 1) := by decide +kernel
theorem dX9_type_1 : decode cX9_type 1 = .ok (.iconst 1, 1) := by decide +kernel
theorem dX9_type_2 : decode cX9_type 2 = .ok (.bipush 8, 2) := by decide +kernel
theorem dX9_type_4 : decode cX9_type 4 = .ok (.invokestatic 88, 3) := by decide +kernel
theorem dX9_type_7 : decode cX9_type 7 = .ok (.ifCond .ne 5, 3) := by decide +kernel
theorem dX9_type_10 : decode cX9_type 10 = .ok (.iconst (-1), 1) := by decide +kernel
theorem dX9_type_11 : decode cX9_type 11 = .ok (.ireturn, 1) := by decide +kernel
theorem dX9_type_12 : decode cX9_type 12 = .ok (.aload_n 0, 1) := by decide +kernel
theorem dX9_type_13 : decode cX9_type 13 = .ok (.getfield 92, 3) := by decide +kernel
theorem dX9_type_16 : decode cX9_type 16 = .ok (.iload_n 3, 1) := by decide +kernel
theorem dX9_type_17 : decode cX9_type 17 = .ok (.iadd, 1) := by decide +kernel
theorem dX9_type_18 : decode cX9_type 18 = .ok (.sipush 300, 3) := by decide +kernel
theorem dX9_type_21 : decode cX9_type 21 = .ok (.if_icmp .le 6, 3) := by decide +kernel
theorem dX9_type_24 : decode cX9_type 24 = .ok (.bipush (-3), 2) := by decide +kernel
theorem dX9_type_26 : decode cX9_type 26 = .ok (.ireturn, 1) := by decide +kernel
theorem dX9_type_27 : decode cX9_type 27 = .ok (.iload_n 3, 1) := by decide +kernel
theorem dX9_type_28 : decode cX9_type 28 = .ok (.iconst 1, 1) := by decide +kernel
theorem dX9_type_29 : decode cX9_type 29 = .ok (.isub, 1) := by decide +kernel
theorem dX9_type_30 : decode cX9_type 30 = .ok (.istore 4, 2) := by decide +kernel
theorem dX9_type_32 : decode cX9_type 32 = .ok (.iload 4, 2) := by decide +kernel
theorem dX9_type_34 : decode cX9_type 34 = .ok (.ifCond .lt 41, 3) := by decide +kernel
theorem dX9_type_37 : decode cX9_type 37 = .ok (.aload_n 0, 1) := by decide +kernel
theorem dX9_type_38 : decode cX9_type 38 = .ok (.getfield 7, 3) := by decide +kernel
theorem dX9_type_41 : decode cX9_type 41 = .ok (.aload_n 0, 1) := by decide +kernel
theorem dX9_type_42 : decode cX9_type 42 = .ok (.getfield 92, 3) := by decide +kernel
theorem dX9_type_45 : decode cX9_type 45 = .ok (.lload_n 1, 1) := by decide +kernel
theorem dX9_type_46 : decode cX9_type 46 = .ok (.bipush 8, 2) := by decide +kernel
theorem dX9_type_48 : decode cX9_type 48 = .ok (.iload 4, 2) := by decide +kernel
theorem dX9_type_50 : decode cX9_type 50 = .ok (.imul, 1) := by decide +kernel
theorem dX9_type_51 : decode cX9_type 51 = .ok (.lshr, 1) := by decide +kernel
theorem dX9_type_52 : decode cX9_type 52 = .ok (.ldc2_w 96, 3) := by decide +kernel
theorem dX9_type_55 : decode cX9_type 55 = .ok (.land, 1) := by decide +kernel
theorem dX9_type_56 : decode cX9_type 56 = .ok (.l2i, 1) := by decide +kernel
theorem dX9_type_57 : decode cX9_type 57 = .ok (.i2b, 1) := by decide +kernel
theorem dX9_type_58 : decode cX9_type 58 = .ok (.bastore, 1) := by decide +kernel
theorem dX9_type_59 : decode cX9_type 59 = .ok (.aload_n 0, 1) := by decide +kernel
theorem dX9_type_60 : decode cX9_type 60 = .ok (.dup, 1) := by decide +kernel
theorem dX9_type_61 : decode cX9_type 61 = .ok (.getfield 92, 3) := by decide +kernel
theorem dX9_type_64 : decode cX9_type 64 = .ok (.iconst 1, 1) := by decide +kernel
theorem dX9_type_65 : decode cX9_type 65 = .ok (.iadd, 1) := by decide +kernel
theorem dX9_type_66 : decode cX9_type 66 = .ok (.putfield 92, 3) := by decide +kernel
theorem dX9_type_69 : decode cX9_type 69 = .ok (.iinc 4 (-1), 3) := by decide +kernel
theorem dX9_type_72 : decode cX9_type 72 = .ok (.goto (-40), 3) := by decide +kernel
theorem dX9_type_75 : decode cX9_type 75 = .ok (.aload_n 0, 1) := by decide +kernel
theorem dX9_type_76 : decode cX9_type 76 = .ok (.getfield 92, 3) := by decide +kernel
theorem dX9_type_79 : decode cX9_type 79 = .ok (.ireturn, 1) := by decide +kernel
theorem dX9_clear_0 : decode cX9_clear 0 = .ok (.aload_n 0, 1) := by decide +kernel
theorem dX9_clear_1 : decode cX9_clear 1 = .ok (.getfield 92, 3) := by decide +kernel
theorem dX9_clear_4 : decode cX9_clear 4 = .ok (.istore_n 1, 1) := by decide +kernel
theorem dX9_clear_5 : decode cX9_clear 5 = .ok (.aload_n 0, 1) := by decide +kernel
theorem dX9_clear_6 : decode cX9_clear 6 = .ok (.iconst 0, 1) := by decide +kernel
theorem dX9_clear_7 : decode cX9_clear 7 = .ok (.putfield 92, 3) := by decide +kernel
theorem dX9_clear_10 : decode cX9_clear 10 = .ok (.iload_n 1, 1) := by decide +kernel
theorem dX9_clear_11 : decode cX9_clear 11 = .ok (.ireturn, 1) := by decide +kernel
theorem dX9_here_0 : decode cX9_here 0 = .ok (.aload_n 0, 1) := by decide +kernel
theorem dX9_here_1 : decode cX9_here 1 = .ok (.getfield 98, 3) := by decide +kernel
theorem dX9_here_4 : decode cX9_here 4 = .ok (.aload_n 0, 1) := by decide +kernel
theorem dX9_here_5 : decode cX9_here 5 = .ok (.getfield 92, 3) := by decide +kernel
theorem dX9_here_8 : decode cX9_here 8 = .ok (.if_icmp .ge 19, 3) := by decide +kernel
theorem dX9_here_11 : decode cX9_here 11 = .ok (.aload_n 0, 1) := by decide +kernel
theorem dX9_here_12 : decode cX9_here 12 = .ok (.getfield 7, 3) := by decide +kernel
theorem dX9_here_15 : decode cX9_here 15 = .ok (.aload_n 0, 1) := by decide +kernel
theorem dX9_here_16 : decode cX9_here 16 = .ok (.getfield 98, 3) := by decide +kernel
theorem dX9_here_19 : decode cX9_here 19 = .ok (.baload, 1) := by decide +kernel
theorem dX9_here_20 : decode cX9_here 20 = .ok (.sipush 255, 3) := by decide +kernel
theorem dX9_here_23 : decode cX9_here 23 = .ok (.iand, 1) := by decide +kernel
theorem dX9_here_24 : decode cX9_here 24 = .ok (.goto 4, 3) := by decide +kernel
theorem dX9_here_27 : decode cX9_here 27 = .ok (.iconst (-1), 1) := by decide +kernel
theorem dX9_here_28 : decode cX9_here 28 = .ok (.ireturn, 1) := by decide +kernel
theorem dX9_next_0 : decode cX9_next 0 = .ok (.aload_n 0, 1) := by decide +kernel
theorem dX9_next_1 : decode cX9_next 1 = .ok (.invokevirtual 101, 3) := by decide +kernel
theorem dX9_next_4 : decode cX9_next 4 = .ok (.bipush 32, 2) := by decide +kernel
theorem dX9_next_6 : decode cX9_next 6 = .ok (.if_icmp .ne 16, 3) := by decide +kernel
theorem dX9_next_9 : decode cX9_next 9 = .ok (.aload_n 0, 1) := by decide +kernel
theorem dX9_next_10 : decode cX9_next 10 = .ok (.dup, 1) := by decide +kernel
theorem dX9_next_11 : decode cX9_next 11 = .ok (.getfield 98, 3) := by decide +kernel
theorem dX9_next_14 : decode cX9_next 14 = .ok (.iconst 1, 1) := by decide +kernel
theorem dX9_next_15 : decode cX9_next 15 = .ok (.iadd, 1) := by decide +kernel
theorem dX9_next_16 : decode cX9_next 16 = .ok (.putfield 98, 3) := by decide +kernel
theorem dX9_next_19 : decode cX9_next 19 = .ok (.goto (-19), 3) := by decide +kernel
theorem dX9_next_22 : decode cX9_next 22 = .ok (.aload_n 0, 1) := by decide +kernel
theorem dX9_next_23 : decode cX9_next 23 = .ok (.aload_n 0, 1) := by decide +kernel
theorem dX9_next_24 : decode cX9_next 24 = .ok (.getfield 98, 3) := by decide +kernel
theorem dX9_next_27 : decode cX9_next 27 = .ok (.putfield 105, 3) := by decide +kernel
theorem dX9_next_30 : decode cX9_next 30 = .ok (.aload_n 0, 1) := by decide +kernel
theorem dX9_next_31 : decode cX9_next 31 = .ok (.iconst 0, 1) := by decide +kernel
theorem dX9_next_32 : decode cX9_next 32 = .ok (.putfield 108, 3) := by decide +kernel
theorem dX9_next_35 : decode cX9_next 35 = .ok (.aload_n 0, 1) := by decide +kernel
theorem dX9_next_36 : decode cX9_next 36 = .ok (.invokevirtual 101, 3) := by decide +kernel
theorem dX9_next_39 : decode cX9_next 39 = .ok (.istore_n 1, 1) := by decide +kernel
theorem dX9_next_40 : decode cX9_next 40 = .ok (.iload_n 1, 1) := by decide +kernel
theorem dX9_next_41 : decode cX9_next 41 = .ok (.ifCond .ge 11, 3) := by decide +kernel
theorem dX9_next_44 : decode cX9_next 44 = .ok (.aload_n 0, 1) := by decide +kernel
theorem dX9_next_45 : decode cX9_next 45 = .ok (.iconst 4, 1) := by decide +kernel
theorem dX9_next_46 : decode cX9_next 46 = .ok (.putfield 111, 3) := by decide +kernel
theorem dX9_next_49 : decode cX9_next 49 = .ok (.goto 269, 3) := by decide +kernel
theorem dX9_next_52 : decode cX9_next 52 = .ok (.iload_n 1, 1) := by decide +kernel
theorem dX9_next_53 : decode cX9_next 53 = .ok (.bipush 97, 2) := by decide +kernel
theorem dX9_next_55 : decode cX9_next 55 = .ok (.bipush 122, 2) := by decide +kernel
