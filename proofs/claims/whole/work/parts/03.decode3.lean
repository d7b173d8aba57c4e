theorem dX7_earned_43 : decode cX7_earned 43 = .ok (.invokevirtual 234, 3) := by decide +kernel
theorem dX7_earned_46 : decode cX7_earned 46 = .ok (.iload_n 2, 1) := by decide +kernel
theorem dX7_earned_47 : decode cX7_earned 47 = .ok (.ireturn, 1) := by decide +kernel
theorem dX7_knot_0 : decode cX7_knot 0 = .ok (.aload_n 0, 1) := by decide +kernel
theorem dX7_knot_1 : decode cX7_knot 1 = .ok (.getfield 154, 3) := by decide +kernel
theorem dX7_knot_4 : decode cX7_knot 4 = .ok (.ifCond .ne 6, 3) := by decide +kernel
theorem dX7_knot_7 : decode cX7_knot 7 = .ok (.ldc 193, 2) := by decide +kernel
theorem dX7_knot_9 : decode cX7_knot 9 = .ok (.ireturn, 1) := by decide +kernel
theorem dX7_knot_10 : decode cX7_knot 10 = .ok (.iload_n 1, 1) := by decide +kernel
theorem dX7_knot_11 : decode cX7_knot 11 = .ok (.i2l, 1) := by decide +kernel
theorem dX7_knot_12 : decode cX7_knot 12 = .ok (.lconst 1, 1) := by decide +kernel
theorem dX7_knot_13 : decode cX7_knot 13 = .ok (.ldc2_w 224, 3) := by decide +kernel
theorem dX7_knot_16 : decode cX7_knot 16 = .ok (.invokestatic 60, 3) := by decide +kernel
theorem dX7_knot_19 : decode cX7_knot 19 = .ok (.ifCond .eq 13, 3) := by decide +kernel
theorem dX7_knot_22 : decode cX7_knot 22 = .ok (.iload_n 2, 1) := by decide +kernel
theorem dX7_knot_23 : decode cX7_knot 23 = .ok (.i2l, 1) := by decide +kernel
theorem dX7_knot_24 : decode cX7_knot 24 = .ok (.lconst 0, 1) := by decide +kernel
theorem dX7_knot_25 : decode cX7_knot 25 = .ok (.lconst 1, 1) := by decide +kernel
theorem dX7_knot_26 : decode cX7_knot 26 = .ok (.invokestatic 60, 3) := by decide +kernel
theorem dX7_knot_29 : decode cX7_knot 29 = .ok (.ifCond .ne 6, 3) := by decide +kernel
theorem dX7_knot_32 : decode cX7_knot 32 = .ok (.ldc 70, 2) := by decide +kernel
theorem dX7_knot_34 : decode cX7_knot 34 = .ok (.ireturn, 1) := by decide +kernel
theorem dX7_knot_35 : decode cX7_knot 35 = .ok (.aload_n 0, 1) := by decide +kernel
theorem dX7_knot_36 : decode cX7_knot 36 = .ok (.invokevirtual 228, 3) := by decide +kernel
theorem dX7_knot_39 : decode cX7_knot 39 = .ok (.ldc 237, 2) := by decide +kernel
theorem dX7_knot_41 : decode cX7_knot 41 = .ok (.istore_n 3, 1) := by decide +kernel
theorem dX7_knot_42 : decode cX7_knot 42 = .ok (.ldc 237, 2) := by decide +kernel
theorem dX7_knot_44 : decode cX7_knot 44 = .ok (.istore 4, 2) := by decide +kernel
theorem dX7_knot_46 : decode cX7_knot 46 = .ok (.iconst 0, 1) := by decide +kernel
theorem dX7_knot_47 : decode cX7_knot 47 = .ok (.istore 5, 2) := by decide +kernel
theorem dX7_knot_49 : decode cX7_knot 49 = .ok (.iload 5, 2) := by decide +kernel
theorem dX7_knot_51 : decode cX7_knot 51 = .ok (.iload_n 1, 1) := by decide +kernel
theorem dX7_knot_52 : decode cX7_knot 52 = .ok (.if_icmp .ge 46, 3) := by decide +kernel
theorem dX7_knot_55 : decode cX7_knot 55 = .ok (.iload_n 3, 1) := by decide +kernel
theorem dX7_knot_56 : decode cX7_knot 56 = .ok (.ifCond .ge 42, 3) := by decide +kernel
theorem dX7_knot_59 : decode cX7_knot 59 = .ok (.aload_n 0, 1) := by decide +kernel
theorem dX7_knot_60 : decode cX7_knot 60 = .ok (.invokevirtual 199, 3) := by decide +kernel
theorem dX7_knot_63 : decode cX7_knot 63 = .ok (.istore 6, 2) := by decide +kernel
theorem dX7_knot_65 : decode cX7_knot 65 = .ok (.iload 6, 2) := by decide +kernel
theorem dX7_knot_67 : decode cX7_knot 67 = .ok (.ifCond .le 8, 3) := by decide +kernel
theorem dX7_knot_70 : decode cX7_knot 70 = .ok (.iload 5, 2) := by decide +kernel
theorem dX7_knot_72 : decode cX7_knot 72 = .ok (.goto 5, 3) := by decide +kernel
theorem dX7_knot_75 : decode cX7_knot 75 = .ok (.ldc 237, 2) := by decide +kernel
theorem dX7_knot_77 : decode cX7_knot 77 = .ok (.istore_n 3, 1) := by decide +kernel
theorem dX7_knot_78 : decode cX7_knot 78 = .ok (.iload 6, 2) := by decide +kernel
theorem dX7_knot_80 : decode cX7_knot 80 = .ok (.ifCond .le 8, 3) := by decide +kernel
theorem dX7_knot_83 : decode cX7_knot 83 = .ok (.iload 6, 2) := by decide +kernel
theorem dX7_knot_85 : decode cX7_knot 85 = .ok (.goto 5, 3) := by decide +kernel
theorem dX7_knot_88 : decode cX7_knot 88 = .ok (.ldc 237, 2) := by decide +kernel
theorem dX7_knot_90 : decode cX7_knot 90 = .ok (.istore 4, 2) := by decide +kernel
theorem dX7_knot_92 : decode cX7_knot 92 = .ok (.iinc 5 1, 3) := by decide +kernel
theorem dX7_knot_95 : decode cX7_knot 95 = .ok (.goto (-46), 3) := by decide +kernel
theorem dX7_knot_98 : decode cX7_knot 98 = .ok (.aload_n 0, 1) := by decide +kernel
theorem dX7_knot_99 : decode cX7_knot 99 = .ok (.invokevirtual 234, 3) := by decide +kernel
theorem dX7_knot_102 : decode cX7_knot 102 = .ok (.iload_n 2, 1) := by decide +kernel
theorem dX7_knot_103 : decode cX7_knot 103 = .ok (.ifCond .ne 7, 3) := by decide +kernel
theorem dX7_knot_106 : decode cX7_knot 106 = .ok (.iload_n 3, 1) := by decide +kernel
theorem dX7_knot_107 : decode cX7_knot 107 = .ok (.goto 5, 3) := by decide +kernel
theorem dX7_knot_110 : decode cX7_knot 110 = .ok (.iload 4, 2) := by decide +kernel
theorem dX7_knot_112 : decode cX7_knot 112 = .ok (.ireturn, 1) := by decide +kernel
theorem dX7_wetHay_0 : decode cX7_wetHay 0 = .ok (.aload_n 0, 1) := by decide +kernel
theorem dX7_wetHay_1 : decode cX7_wetHay 1 = .ok (.getfield 154, 3) := by decide +kernel
theorem dX7_wetHay_4 : decode cX7_wetHay 4 = .ok (.ifCond .ne 6, 3) := by decide +kernel
theorem dX7_wetHay_7 : decode cX7_wetHay 7 = .ok (.ldc 193, 2) := by decide +kernel
theorem dX7_wetHay_9 : decode cX7_wetHay 9 = .ok (.ireturn, 1) := by decide +kernel
theorem dX7_wetHay_10 : decode cX7_wetHay 10 = .ok (.iload_n 1, 1) := by decide +kernel
theorem dX7_wetHay_11 : decode cX7_wetHay 11 = .ok (.i2l, 1) := by decide +kernel
theorem dX7_wetHay_12 : decode cX7_wetHay 12 = .ok (.lconst 1, 1) := by decide +kernel
theorem dX7_wetHay_13 : decode cX7_wetHay 13 = .ok (.ldc2_w 224, 3) := by decide +kernel
theorem dX7_wetHay_16 : decode cX7_wetHay 16 = .ok (.invokestatic 60, 3) := by decide +kernel
theorem dX7_wetHay_19 : decode cX7_wetHay 19 = .ok (.ifCond .eq 13, 3) := by decide +kernel
theorem dX7_wetHay_22 : decode cX7_wetHay 22 = .ok (.iload_n 2, 1) := by decide +kernel
theorem dX7_wetHay_23 : decode cX7_wetHay 23 = .ok (.i2l, 1) := by decide +kernel
theorem dX7_wetHay_24 : decode cX7_wetHay 24 = .ok (.lconst 0, 1) := by decide +kernel
theorem dX7_wetHay_25 : decode cX7_wetHay 25 = .ok (.lconst 1, 1) := by decide +kernel
theorem dX7_wetHay_26 : decode cX7_wetHay 26 = .ok (.invokestatic 60, 3) := by decide +kernel
theorem dX7_wetHay_29 : decode cX7_wetHay 29 = .ok (.ifCond .ne 6, 3) := by decide +kernel
theorem dX7_wetHay_32 : decode cX7_wetHay 32 = .ok (.ldc 70, 2) := by decide +kernel
theorem dX7_wetHay_34 : decode cX7_wetHay 34 = .ok (.ireturn, 1) := by decide +kernel
theorem dX7_wetHay_35 : decode cX7_wetHay 35 = .ok (.aload_n 0, 1) := by decide +kernel
theorem dX7_wetHay_36 : decode cX7_wetHay 36 = .ok (.invokevirtual 228, 3) := by decide +kernel
theorem dX7_wetHay_39 : decode cX7_wetHay 39 = .ok (.ldc 237, 2) := by decide +kernel
theorem dX7_wetHay_41 : decode cX7_wetHay 41 = .ok (.istore_n 3, 1) := by decide +kernel
theorem dX7_wetHay_42 : decode cX7_wetHay 42 = .ok (.iconst 0, 1) := by decide +kernel
theorem dX7_wetHay_43 : decode cX7_wetHay 43 = .ok (.istore 4, 2) := by decide +kernel
theorem dX7_wetHay_45 : decode cX7_wetHay 45 = .ok (.iconst 0, 1) := by decide +kernel
theorem dX7_wetHay_46 : decode cX7_wetHay 46 = .ok (.istore 5, 2) := by decide +kernel
theorem dX7_wetHay_48 : decode cX7_wetHay 48 = .ok (.iload 5, 2) := by decide +kernel
theorem dX7_wetHay_50 : decode cX7_wetHay 50 = .ok (.iload_n 1, 1) := by decide +kernel
theorem dX7_wetHay_51 : decode cX7_wetHay 51 = .ok (.if_icmp .ge 49, 3) := by decide +kernel
theorem dX7_wetHay_54 : decode cX7_wetHay 54 = .ok (.aload_n 0, 1) := by decide +kernel
theorem dX7_wetHay_55 : decode cX7_wetHay 55 = .ok (.invokevirtual 199, 3) := by decide +kernel
theorem dX7_wetHay_58 : decode cX7_wetHay 58 = .ok (.pop, 1) := by decide +kernel
theorem dX7_wetHay_59 : decode cX7_wetHay 59 = .ok (.aload_n 0, 1) := by decide +kernel
theorem dX7_wetHay_60 : decode cX7_wetHay 60 = .ok (.getfield 174, 3) := by decide +kernel
theorem dX7_wetHay_63 : decode cX7_wetHay 63 = .ok (.ifCond .le 12, 3) := by decide +kernel
theorem dX7_wetHay_66 : decode cX7_wetHay 66 = .ok (.iload_n 3, 1) := by decide +kernel
theorem dX7_wetHay_67 : decode cX7_wetHay 67 = .ok (.ifCond .ge 8, 3) := by decide +kernel
theorem dX7_wetHay_70 : decode cX7_wetHay 70 = .ok (.iload 5, 2) := by decide +kernel
theorem dX7_wetHay_72 : decode cX7_wetHay 72 = .ok (.goto 4, 3) := by decide +kernel
theorem dX7_wetHay_75 : decode cX7_wetHay 75 = .ok (.iload_n 3, 1) := by decide +kernel
theorem dX7_wetHay_76 : decode cX7_wetHay 76 = .ok (.istore_n 3, 1) := by decide +kernel
theorem dX7_wetHay_77 : decode cX7_wetHay 77 = .ok (.iload 4, 2) := by decide +kernel
theorem dX7_wetHay_79 : decode cX7_wetHay 79 = .ok (.aload_n 0, 1) := by decide +kernel
theorem dX7_wetHay_80 : decode cX7_wetHay 80 = .ok (.getfield 174, 3) := by decide +kernel
theorem dX7_wetHay_83 : decode cX7_wetHay 83 = .ok (.aload_n 0, 1) := by decide +kernel
theorem dX7_wetHay_84 : decode cX7_wetHay 84 = .ok (.getfield 19, 3) := by decide +kernel
theorem dX7_wetHay_87 : decode cX7_wetHay 87 = .ok (.bipush 45, 2) := by decide +kernel
theorem dX7_wetHay_89 : decode cX7_wetHay 89 = .ok (.iaload, 1) := by decide +kernel
theorem dX7_wetHay_90 : decode cX7_wetHay 90 = .ok (.imul, 1) := by decide +kernel
theorem dX7_wetHay_91 : decode cX7_wetHay 91 = .ok (.iadd, 1) := by decide +kernel
theorem dX7_wetHay_92 : decode cX7_wetHay 92 = .ok (.istore 4, 2) := by decide +kernel
theorem dX7_wetHay_94 : decode cX7_wetHay 94 = .ok (.iinc 5 1, 3) := by decide +kernel
theorem dX7_wetHay_97 : decode cX7_wetHay 97 = .ok (.goto (-49), 3) := by decide +kernel
theorem dX7_wetHay_100 : decode cX7_wetHay 100 = .ok (.aload_n 0, 1) := by decide +kernel
theorem dX7_wetHay_101 : decode cX7_wetHay 101 = .ok (.invokevirtual 234, 3) := by decide +kernel
theorem dX7_wetHay_104 : decode cX7_wetHay 104 = .ok (.iload_n 2, 1) := by decide +kernel
theorem dX7_wetHay_105 : decode cX7_wetHay 105 = .ok (.ifCond .ne 7, 3) := by decide +kernel
theorem dX7_wetHay_108 : decode cX7_wetHay 108 = .ok (.iload_n 3, 1) := by decide +kernel
theorem dX7_wetHay_109 : decode cX7_wetHay 109 = .ok (.goto 5, 3) := by decide +kernel
theorem dX7_wetHay_112 : decode cX7_wetHay 112 = .ok (.iload 4, 2) := by decide +kernel
theorem dX7_wetHay_114 : decode cX7_wetHay 114 = .ok (.ireturn, 1) := by decide +kernel
theorem dX7_soon_0 : decode cX7_soon 0 = .ok (.aload_n 0, 1) := by decide +kernel
theorem dX7_soon_1 : decode cX7_soon 1 = .ok (.iload_n 1, 1) := by decide +kernel
theorem dX7_soon_2 : decode cX7_soon 2 = .ok (.invokevirtual 202, 3) := by decide +kernel
theorem dX7_soon_5 : decode cX7_soon 5 = .ok (.ifCond .eq 10, 3) := by decide +kernel
theorem dX7_soon_8 : decode cX7_soon 8 = .ok (.iload_n 2, 1) := by decide +kernel
theorem dX7_soon_9 : decode cX7_soon 9 = .ok (.invokestatic 216, 3) := by decide +kernel
theorem dX7_soon_12 : decode cX7_soon 12 = .ok (.ifCond .ne 6, 3) := by decide +kernel
theorem dX7_soon_15 : decode cX7_soon 15 = .ok (.ldc 70, 2) := by decide +kernel
theorem dX7_soon_17 : decode cX7_soon 17 = .ok (.ireturn, 1) := by decide +kernel
theorem dX7_soon_18 : decode cX7_soon 18 = .ok (.aload_n 0, 1) := by decide +kernel
theorem dX7_soon_19 : decode cX7_soon 19 = .ok (.iload_n 1, 1) := by decide +kernel
theorem dX7_soon_20 : decode cX7_soon 20 = .ok (.invokevirtual 177, 3) := by decide +kernel
theorem dX7_soon_23 : decode cX7_soon 23 = .ok (.ifCond .ne 6, 3) := by decide +kernel
theorem dX7_soon_26 : decode cX7_soon 26 = .ok (.ldc 193, 2) := by decide +kernel
theorem dX7_soon_28 : decode cX7_soon 28 = .ok (.ireturn, 1) := by decide +kernel
theorem dX7_soon_29 : decode cX7_soon 29 = .ok (.aload_n 0, 1) := by decide +kernel
theorem dX7_soon_30 : decode cX7_soon 30 = .ok (.getfield 19, 3) := by decide +kernel
theorem dX7_soon_33 : decode cX7_soon 33 = .ok (.bipush 51, 2) := by decide +kernel
theorem dX7_soon_35 : decode cX7_soon 35 = .ok (.iload_n 1, 1) := by decide +kernel
theorem dX7_soon_36 : decode cX7_soon 36 = .ok (.iadd, 1) := by decide +kernel
theorem dX7_soon_37 : decode cX7_soon 37 = .ok (.iaload, 1) := by decide +kernel
theorem dX7_soon_38 : decode cX7_soon 38 = .ok (.istore_n 3, 1) := by decide +kernel
theorem dX7_soon_39 : decode cX7_soon 39 = .ok (.iconst 0, 1) := by decide +kernel
theorem dX7_soon_40 : decode cX7_soon 40 = .ok (.istore 4, 2) := by decide +kernel
theorem dX7_soon_42 : decode cX7_soon 42 = .ok (.iload 4, 2) := by decide +kernel
theorem dX7_soon_44 : decode cX7_soon 44 = .ok (.bipush 32, 2) := by decide +kernel
theorem dX7_soon_46 : decode cX7_soon 46 = .ok (.if_icmp .ge 35, 3) := by decide +kernel
theorem dX7_soon_49 : decode cX7_soon 49 = .ok (.aload_n 0, 1) := by decide +kernel
theorem dX7_soon_50 : decode cX7_soon 50 = .ok (.getfield 37, 3) := by decide +kernel
theorem dX7_soon_53 : decode cX7_soon 53 = .ok (.iload 4, 2) := by decide +kernel
theorem dX7_soon_55 : decode cX7_soon 55 = .ok (.iload 4, 2) := by decide +kernel
theorem dX7_soon_57 : decode cX7_soon 57 = .ok (.aload_n 0, 1) := by decide +kernel
theorem dX7_soon_58 : decode cX7_soon 58 = .ok (.getfield 19, 3) := by decide +kernel
theorem dX7_soon_61 : decode cX7_soon 61 = .ok (.bipush 56, 2) := by decide +kernel
theorem dX7_soon_63 : decode cX7_soon 63 = .ok (.iload_n 1, 1) := by decide +kernel
theorem dX7_soon_64 : decode cX7_soon 64 = .ok (.iadd, 1) := by decide +kernel
theorem dX7_soon_65 : decode cX7_soon 65 = .ok (.iaload, 1) := by decide +kernel
theorem dX7_soon_66 : decode cX7_soon 66 = .ok (.if_icmp .ne 7, 3) := by decide +kernel
theorem dX7_soon_69 : decode cX7_soon 69 = .ok (.iconst 1, 1) := by decide +kernel
theorem dX7_soon_70 : decode cX7_soon 70 = .ok (.goto 4, 3) := by decide +kernel
theorem dX7_soon_73 : decode cX7_soon 73 = .ok (.iconst 0, 1) := by decide +kernel
theorem dX7_soon_74 : decode cX7_soon 74 = .ok (.bastore, 1) := by decide +kernel
theorem dX7_soon_75 : decode cX7_soon 75 = .ok (.iinc 4 1, 3) := by decide +kernel
theorem dX7_soon_78 : decode cX7_soon 78 = .ok (.goto (-36), 3) := by decide +kernel
theorem dX7_soon_81 : decode cX7_soon 81 = .ok (.iconst 0, 1) := by decide +kernel
theorem dX7_soon_82 : decode cX7_soon 82 = .ok (.istore 4, 2) := by decide +kernel
theorem dX7_soon_84 : decode cX7_soon 84 = .ok (.iload 4, 2) := by decide +kernel
theorem dX7_soon_86 : decode cX7_soon 86 = .ok (.bipush 24, 2) := by decide +kernel
theorem dX7_soon_88 : decode cX7_soon 88 = .ok (.if_icmp .ge 155, 3) := by decide +kernel
theorem dX7_soon_91 : decode cX7_soon 91 = .ok (.aload_n 0, 1) := by decide +kernel
theorem dX7_soon_92 : decode cX7_soon 92 = .ok (.getfield 37, 3) := by decide +kernel
theorem dX7_soon_95 : decode cX7_soon 95 = .ok (.iload_n 2, 1) := by decide +kernel
theorem dX7_soon_96 : decode cX7_soon 96 = .ok (.baload, 1) := by decide +kernel
theorem dX7_soon_97 : decode cX7_soon 97 = .ok (.ifCond .ne 146, 3) := by decide +kernel
theorem dX7_soon_100 : decode cX7_soon 100 = .ok (.iconst 0, 1) := by decide +kernel
theorem dX7_soon_101 : decode cX7_soon 101 = .ok (.istore 5, 2) := by decide +kernel
theorem dX7_soon_103 : decode cX7_soon 103 = .ok (.iload 5, 2) := by decide +kernel
theorem dX7_soon_105 : decode cX7_soon 105 = .ok (.bipush 32, 2) := by decide +kernel
theorem dX7_soon_107 : decode cX7_soon 107 = .ok (.if_icmp .ge 17, 3) := by decide +kernel
theorem dX7_soon_110 : decode cX7_soon 110 = .ok (.aload_n 0, 1) := by decide +kernel
theorem dX7_soon_111 : decode cX7_soon 111 = .ok (.getfield 41, 3) := by decide +kernel
theorem dX7_soon_114 : decode cX7_soon 114 = .ok (.iload 5, 2) := by decide +kernel
theorem dX7_soon_116 : decode cX7_soon 116 = .ok (.iconst 0, 1) := by decide +kernel
theorem dX7_soon_117 : decode cX7_soon 117 = .ok (.bastore, 1) := by decide +kernel
theorem dX7_soon_118 : decode cX7_soon 118 = .ok (.iinc 5 1, 3) := by decide +kernel
theorem dX7_soon_121 : decode cX7_soon 121 = .ok (.goto (-18), 3) := by decide +kernel
theorem dX7_soon_124 : decode cX7_soon 124 = .ok (.iconst 0, 1) := by decide +kernel
theorem dX7_soon_125 : decode cX7_soon 125 = .ok (.istore 5, 2) := by decide +kernel
theorem dX7_soon_127 : decode cX7_soon 127 = .ok (.iload 5, 2) := by decide +kernel
theorem dX7_soon_129 : decode cX7_soon 129 = .ok (.bipush 32, 2) := by decide +kernel
theorem dX7_soon_131 : decode cX7_soon 131 = .ok (.if_icmp .ge 76, 3) := by decide +kernel
theorem dX7_soon_134 : decode cX7_soon 134 = .ok (.aload_n 0, 1) := by decide +kernel
theorem dX7_soon_135 : decode cX7_soon 135 = .ok (.getfield 37, 3) := by decide +kernel
theorem dX7_soon_138 : decode cX7_soon 138 = .ok (.iload 5, 2) := by decide +kernel
theorem dX7_soon_140 : decode cX7_soon 140 = .ok (.baload, 1) := by decide +kernel
theorem dX7_soon_141 : decode cX7_soon 141 = .ok (.ifCond .eq 60, 3) := by decide +kernel
theorem dX7_soon_144 : decode cX7_soon 144 = .ok (.aload_n 0, 1) := by decide +kernel
theorem dX7_soon_145 : decode cX7_soon 145 = .ok (.getfield 41, 3) := by decide +kernel
theorem dX7_soon_148 : decode cX7_soon 148 = .ok (.aload_n 0, 1) := by decide +kernel
theorem dX7_soon_149 : decode cX7_soon 149 = .ok (.iload_n 3, 1) := by decide +kernel
theorem dX7_soon_150 : decode cX7_soon 150 = .ok (.iload 5, 2) := by decide +kernel
theorem dX7_soon_152 : decode cX7_soon 152 = .ok (.iconst 0, 1) := by decide +kernel
theorem dX7_soon_153 : decode cX7_soon 153 = .ok (.aload_n 0, 1) := by decide +kernel
theorem dX7_soon_154 : decode cX7_soon 154 = .ok (.getfield 19, 3) := by decide +kernel
theorem dX7_soon_157 : decode cX7_soon 157 = .ok (.bipush 46, 2) := by decide +kernel
theorem dX7_soon_159 : decode cX7_soon 159 = .ok (.iaload, 1) := by decide +kernel
theorem dX7_soon_160 : decode cX7_soon 160 = .ok (.iload 4, 2) := by decide +kernel
theorem dX7_soon_162 : decode cX7_soon 162 = .ok (.iadd, 1) := by decide +kernel
theorem dX7_soon_163 : decode cX7_soon 163 = .ok (.invokevirtual 167, 3) := by decide +kernel
theorem dX7_soon_166 : decode cX7_soon 166 = .ok (.iconst 1, 1) := by decide +kernel
theorem dX7_soon_167 : decode cX7_soon 167 = .ok (.bastore, 1) := by decide +kernel
theorem dX7_soon_168 : decode cX7_soon 168 = .ok (.aload_n 0, 1) := by decide +kernel
theorem dX7_soon_169 : decode cX7_soon 169 = .ok (.getfield 41, 3) := by decide +kernel
theorem dX7_soon_172 : decode cX7_soon 172 = .ok (.aload_n 0, 1) := by decide +kernel
theorem dX7_soon_173 : decode cX7_soon 173 = .ok (.iload_n 3, 1) := by decide +kernel
theorem dX7_soon_174 : decode cX7_soon 174 = .ok (.iload 5, 2) := by decide +kernel
theorem dX7_soon_176 : decode cX7_soon 176 = .ok (.iload_n 3, 1) := by decide +kernel
theorem dX7_soon_177 : decode cX7_soon 177 = .ok (.iconst 4, 1) := by decide +kernel
theorem dX7_soon_178 : decode cX7_soon 178 = .ok (.if_icmp .lt 7, 3) := by decide +kernel
theorem dX7_soon_181 : decode cX7_soon 181 = .ok (.iconst 0, 1) := by decide +kernel
theorem dX7_soon_182 : decode cX7_soon 182 = .ok (.goto 4, 3) := by decide +kernel
theorem dX7_soon_185 : decode cX7_soon 185 = .ok (.iconst 1, 1) := by decide +kernel
theorem dX7_soon_186 : decode cX7_soon 186 = .ok (.aload_n 0, 1) := by decide +kernel
theorem dX7_soon_187 : decode cX7_soon 187 = .ok (.getfield 19, 3) := by decide +kernel
theorem dX7_soon_190 : decode cX7_soon 190 = .ok (.bipush 46, 2) := by decide +kernel
theorem dX7_soon_192 : decode cX7_soon 192 = .ok (.iaload, 1) := by decide +kernel
theorem dX7_soon_193 : decode cX7_soon 193 = .ok (.iload 4, 2) := by decide +kernel
theorem dX7_soon_195 : decode cX7_soon 195 = .ok (.iadd, 1) := by decide +kernel
theorem dX7_soon_196 : decode cX7_soon 196 = .ok (.invokevirtual 167, 3) := by decide +kernel
theorem dX7_soon_199 : decode cX7_soon 199 = .ok (.iconst 1, 1) := by decide +kernel
theorem dX7_soon_200 : decode cX7_soon 200 = .ok (.bastore, 1) := by decide +kernel
theorem dX7_soon_201 : decode cX7_soon 201 = .ok (.iinc 5 1, 3) := by decide +kernel
theorem dX7_soon_204 : decode cX7_soon 204 = .ok (.goto (-77), 3) := by decide +kernel
theorem dX7_soon_207 : decode cX7_soon 207 = .ok (.iconst 0, 1) := by decide +kernel
theorem dX7_soon_208 : decode cX7_soon 208 = .ok (.istore 5, 2) := by decide +kernel
theorem dX7_soon_210 : decode cX7_soon 210 = .ok (.iload 5, 2) := by decide +kernel
theorem dX7_soon_212 : decode cX7_soon 212 = .ok (.bipush 32, 2) := by decide +kernel
theorem dX7_soon_214 : decode cX7_soon 214 = .ok (.if_icmp .ge 23, 3) := by decide +kernel
theorem dX7_soon_217 : decode cX7_soon 217 = .ok (.aload_n 0, 1) := by decide +kernel
theorem dX7_soon_218 : decode cX7_soon 218 = .ok (.getfield 37, 3) := by decide +kernel
theorem dX7_soon_221 : decode cX7_soon 221 = .ok (.iload 5, 2) := by decide +kernel
theorem dX7_soon_223 : decode cX7_soon 223 = .ok (.aload_n 0, 1) := by decide +kernel
theorem dX7_soon_224 : decode cX7_soon 224 = .ok (.getfield 41, 3) := by decide +kernel
theorem dX7_soon_227 : decode cX7_soon 227 = .ok (.iload 5, 2) := by decide +kernel
theorem dX7_soon_229 : decode cX7_soon 229 = .ok (.baload, 1) := by decide +kernel
theorem dX7_soon_230 : decode cX7_soon 230 = .ok (.bastore, 1) := by decide +kernel
theorem dX7_soon_231 : decode cX7_soon 231 = .ok (.iinc 5 1, 3) := by decide +kernel
theorem dX7_soon_234 : decode cX7_soon 234 = .ok (.goto (-24), 3) := by decide +kernel
theorem dX7_soon_237 : decode cX7_soon 237 = .ok (.iinc 4 1, 3) := by decide +kernel
theorem dX7_soon_240 : decode cX7_soon 240 = .ok (.goto (-156), 3) := by decide +kernel
theorem dX7_soon_243 : decode cX7_soon 243 = .ok (.aload_n 0, 1) := by decide +kernel
theorem dX7_soon_244 : decode cX7_soon 244 = .ok (.getfield 37, 3) := by decide +kernel
theorem dX7_soon_247 : decode cX7_soon 247 = .ok (.iload_n 2, 1) := by decide +kernel
theorem dX7_soon_248 : decode cX7_soon 248 = .ok (.baload, 1) := by decide +kernel
theorem dX7_soon_249 : decode cX7_soon 249 = .ok (.ifCond .eq 8, 3) := by decide +kernel
theorem dX7_soon_252 : decode cX7_soon 252 = .ok (.iload 4, 2) := by decide +kernel
theorem dX7_soon_254 : decode cX7_soon 254 = .ok (.goto 5, 3) := by decide +kernel
theorem dX7_soon_257 : decode cX7_soon 257 = .ok (.ldc 237, 2) := by decide +kernel
theorem dX7_soon_259 : decode cX7_soon 259 = .ok (.ireturn, 1) := by decide +kernel
theorem dX7_heights_0 : decode cX7_heights 0 = .ok (.aload_n 0, 1) := by decide +kernel
theorem dX7_heights_1 : decode cX7_heights 1 = .ok (.iload_n 1, 1) := by decide +kernel
theorem dX7_heights_2 : decode cX7_heights 2 = .ok (.invokevirtual 202, 3) := by decide +kernel
theorem dX7_heights_5 : decode cX7_heights 5 = .ok (.ifCond .eq 25, 3) := by decide +kernel
theorem dX7_heights_8 : decode cX7_heights 8 = .ok (.iload_n 2, 1) := by decide +kernel
theorem dX7_heights_9 : decode cX7_heights 9 = .ok (.i2l, 1) := by decide +kernel
theorem dX7_heights_10 : decode cX7_heights 10 = .ok (.lconst 1, 1) := by decide +kernel
theorem dX7_heights_11 : decode cX7_heights 11 = .ok (.ldc2_w 238, 3) := by decide +kernel
theorem dX7_heights_14 : decode cX7_heights 14 = .ok (.invokestatic 60, 3) := by decide +kernel
theorem dX7_heights_17 : decode cX7_heights 17 = .ok (.ifCond .eq 13, 3) := by decide +kernel
theorem dX7_heights_20 : decode cX7_heights 20 = .ok (.iload_n 3, 1) := by decide +kernel
theorem dX7_heights_21 : decode cX7_heights 21 = .ok (.i2l, 1) := by decide +kernel
theorem dX7_heights_22 : decode cX7_heights 22 = .ok (.lconst 0, 1) := by decide +kernel
theorem dX7_heights_23 : decode cX7_heights 23 = .ok (.lconst 1, 1) := by decide +kernel
theorem dX7_heights_24 : decode cX7_heights 24 = .ok (.invokestatic 60, 3) := by decide +kernel
theorem dX7_heights_27 : decode cX7_heights 27 = .ok (.ifCond .ne 6, 3) := by decide +kernel
theorem dX7_heights_30 : decode cX7_heights 30 = .ok (.ldc 70, 2) := by decide +kernel
theorem dX7_heights_32 : decode cX7_heights 32 = .ok (.ireturn, 1) := by decide +kernel
theorem dX7_heights_33 : decode cX7_heights 33 = .ok (.aload_n 0, 1) := by decide +kernel
theorem dX7_heights_34 : decode cX7_heights 34 = .ok (.iload_n 1, 1) := by decide +kernel
theorem dX7_heights_35 : decode cX7_heights 35 = .ok (.invokevirtual 177, 3) := by decide +kernel
theorem dX7_heights_38 : decode cX7_heights 38 = .ok (.ifCond .ne 6, 3) := by decide +kernel
theorem dX7_heights_41 : decode cX7_heights 41 = .ok (.ldc 193, 2) := by decide +kernel
theorem dX7_heights_43 : decode cX7_heights 43 = .ok (.ireturn, 1) := by decide +kernel
theorem dX7_heights_44 : decode cX7_heights 44 = .ok (.ldc 237, 2) := by decide +kernel
theorem dX7_heights_46 : decode cX7_heights 46 = .ok (.istore 4, 2) := by decide +kernel
theorem dX7_heights_48 : decode cX7_heights 48 = .ok (.iconst 0, 1) := by decide +kernel
theorem dX7_heights_49 : decode cX7_heights 49 = .ok (.istore 5, 2) := by decide +kernel
theorem dX7_heights_51 : decode cX7_heights 51 = .ok (.aload_n 0, 1) := by decide +kernel
theorem dX7_heights_52 : decode cX7_heights 52 = .ok (.getfield 19, 3) := by decide +kernel
theorem dX7_heights_55 : decode cX7_heights 55 = .ok (.bipush 51, 2) := by decide +kernel
theorem dX7_heights_57 : decode cX7_heights 57 = .ok (.iload_n 1, 1) := by decide +kernel
theorem dX7_heights_58 : decode cX7_heights 58 = .ok (.iadd, 1) := by decide +kernel
theorem dX7_heights_59 : decode cX7_heights 59 = .ok (.iaload, 1) := by decide +kernel
theorem dX7_heights_60 : decode cX7_heights 60 = .ok (.iconst 4, 1) := by decide +kernel
theorem dX7_heights_61 : decode cX7_heights 61 = .ok (.if_icmp .lt 7, 3) := by decide +kernel
theorem dX7_heights_64 : decode cX7_heights 64 = .ok (.iconst 1, 1) := by decide +kernel
theorem dX7_heights_65 : decode cX7_heights 65 = .ok (.goto 6, 3) := by decide +kernel
theorem dX7_heights_68 : decode cX7_heights 68 = .ok (.iconst 1, 1) := by decide +kernel
theorem dX7_heights_69 : decode cX7_heights 69 = .ok (.iload_n 2, 1) := by decide +kernel
theorem dX7_heights_70 : decode cX7_heights 70 = .ok (.ishl, 1) := by decide +kernel
theorem dX7_heights_71 : decode cX7_heights 71 = .ok (.istore 6, 2) := by decide +kernel
theorem dX7_heights_73 : decode cX7_heights 73 = .ok (.iconst 0, 1) := by decide +kernel
theorem dX7_heights_74 : decode cX7_heights 74 = .ok (.istore 7, 2) := by decide +kernel
theorem dX7_heights_76 : decode cX7_heights 76 = .ok (.iload 7, 2) := by decide +kernel
theorem dX7_heights_78 : decode cX7_heights 78 = .ok (.iload 6, 2) := by decide +kernel
theorem dX7_heights_80 : decode cX7_heights 80 = .ok (.if_icmp .ge 104, 3) := by decide +kernel
theorem dX7_heights_83 : decode cX7_heights 83 = .ok (.aload_n 0, 1) := by decide +kernel
theorem dX7_heights_84 : decode cX7_heights 84 = .ok (.invokevirtual 228, 3) := by decide +kernel
theorem dX7_heights_87 : decode cX7_heights 87 = .ok (.iconst 0, 1) := by decide +kernel
theorem dX7_heights_88 : decode cX7_heights 88 = .ok (.istore 8, 2) := by decide +kernel
theorem dX7_heights_90 : decode cX7_heights 90 = .ok (.iload 8, 2) := by decide +kernel
theorem dX7_heights_92 : decode cX7_heights 92 = .ok (.iload_n 2, 1) := by decide +kernel
theorem dX7_heights_93 : decode cX7_heights 93 = .ok (.if_icmp .ge 27, 3) := by decide +kernel
theorem dX7_heights_96 : decode cX7_heights 96 = .ok (.aload_n 0, 1) := by decide +kernel
theorem dX7_heights_97 : decode cX7_heights 97 = .ok (.iload_n 1, 1) := by decide +kernel
theorem dX7_heights_98 : decode cX7_heights 98 = .ok (.iload 7, 2) := by decide +kernel
theorem dX7_heights_100 : decode cX7_heights 100 = .ok (.iload 8, 2) := by decide +kernel
theorem dX7_heights_102 : decode cX7_heights 102 = .ok (.ishr, 1) := by decide +kernel
theorem dX7_heights_103 : decode cX7_heights 103 = .ok (.iconst 1, 1) := by decide +kernel
theorem dX7_heights_104 : decode cX7_heights 104 = .ok (.iand, 1) := by decide +kernel
theorem dX7_heights_105 : decode cX7_heights 105 = .ok (.invokevirtual 205, 3) := by decide +kernel
theorem dX7_heights_108 : decode cX7_heights 108 = .ok (.aload_n 0, 1) := by decide +kernel
theorem dX7_heights_109 : decode cX7_heights 109 = .ok (.iload_n 1, 1) := by decide +kernel
theorem dX7_heights_110 : decode cX7_heights 110 = .ok (.invokevirtual 240, 3) := by decide +kernel
theorem dX7_heights_113 : decode cX7_heights 113 = .ok (.pop, 1) := by decide +kernel
theorem dX7_heights_114 : decode cX7_heights 114 = .ok (.iinc 8 1, 3) := by decide +kernel
theorem dX7_heights_117 : decode cX7_heights 117 = .ok (.goto (-27), 3) := by decide +kernel
theorem dX7_heights_120 : decode cX7_heights 120 = .ok (.aload_n 0, 1) := by decide +kernel
theorem dX7_heights_121 : decode cX7_heights 121 = .ok (.getfield 19, 3) := by decide +kernel
theorem dX7_heights_124 : decode cX7_heights 124 = .ok (.bipush 47, 2) := by decide +kernel
theorem dX7_heights_126 : decode cX7_heights 126 = .ok (.iaload, 1) := by decide +kernel
theorem dX7_heights_127 : decode cX7_heights 127 = .ok (.aload_n 0, 1) := by decide +kernel
theorem dX7_heights_128 : decode cX7_heights 128 = .ok (.getfield 34, 3) := by decide +kernel
theorem dX7_heights_131 : decode cX7_heights 131 = .ok (.bipush 47, 2) := by decide +kernel
theorem dX7_heights_133 : decode cX7_heights 133 = .ok (.iaload, 1) := by decide +kernel
theorem dX7_heights_134 : decode cX7_heights 134 = .ok (.isub, 1) := by decide +kernel
theorem dX7_heights_135 : decode cX7_heights 135 = .ok (.istore 8, 2) := by decide +kernel
theorem dX7_heights_137 : decode cX7_heights 137 = .ok (.aload_n 0, 1) := by decide +kernel
theorem dX7_heights_138 : decode cX7_heights 138 = .ok (.invokevirtual 234, 3) := by decide +kernel
theorem dX7_heights_141 : decode cX7_heights 141 = .ok (.iload 4, 2) := by decide +kernel
theorem dX7_heights_143 : decode cX7_heights 143 = .ok (.ifCond .lt 10, 3) := by decide +kernel
theorem dX7_heights_146 : decode cX7_heights 146 = .ok (.iload 8, 2) := by decide +kernel
theorem dX7_heights_148 : decode cX7_heights 148 = .ok (.iload 5, 2) := by decide +kernel
theorem dX7_heights_150 : decode cX7_heights 150 = .ok (.if_icmp .le 8, 3) := by decide +kernel
theorem dX7_heights_153 : decode cX7_heights 153 = .ok (.iload 7, 2) := by decide +kernel
theorem dX7_heights_155 : decode cX7_heights 155 = .ok (.goto 5, 3) := by decide +kernel
theorem dX7_heights_158 : decode cX7_heights 158 = .ok (.iload 4, 2) := by decide +kernel
theorem dX7_heights_160 : decode cX7_heights 160 = .ok (.istore 4, 2) := by decide +kernel
theorem dX7_heights_162 : decode cX7_heights 162 = .ok (.iload 4, 2) := by decide +kernel
theorem dX7_heights_164 : decode cX7_heights 164 = .ok (.iload 7, 2) := by decide +kernel
theorem dX7_heights_166 : decode cX7_heights 166 = .ok (.if_icmp .ne 8, 3) := by decide +kernel
theorem dX7_heights_169 : decode cX7_heights 169 = .ok (.iload 8, 2) := by decide +kernel
theorem dX7_heights_171 : decode cX7_heights 171 = .ok (.goto 5, 3) := by decide +kernel
theorem dX7_heights_174 : decode cX7_heights 174 = .ok (.iload 5, 2) := by decide +kernel
theorem dX7_heights_176 : decode cX7_heights 176 = .ok (.istore 5, 2) := by decide +kernel
theorem dX7_heights_178 : decode cX7_heights 178 = .ok (.iinc 7 1, 3) := by decide +kernel
theorem dX7_heights_181 : decode cX7_heights 181 = .ok (.goto (-105), 3) := by decide +kernel
theorem dX7_heights_184 : decode cX7_heights 184 = .ok (.iload_n 3, 1) := by decide +kernel
theorem dX7_heights_185 : decode cX7_heights 185 = .ok (.ifCond .ne 8, 3) := by decide +kernel
theorem dX7_heights_188 : decode cX7_heights 188 = .ok (.iload 4, 2) := by decide +kernel
theorem dX7_heights_190 : decode cX7_heights 190 = .ok (.goto 5, 3) := by decide +kernel
theorem dX7_heights_193 : decode cX7_heights 193 = .ok (.iload 5, 2) := by decide +kernel
theorem dX7_heights_195 : decode cX7_heights 195 = .ok (.ireturn, 1) := by decide +kernel
theorem dX7_shade_0 : decode cX7_shade 0 = .ok (.aload_n 0, 1) := by decide +kernel
theorem dX7_shade_1 : decode cX7_shade 1 = .ok (.getfield 154, 3) := by decide +kernel
theorem dX7_shade_4 : decode cX7_shade 4 = .ok (.ifCond .ne 6, 3) := by decide +kernel
theorem dX7_shade_7 : decode cX7_shade 7 = .ok (.ldc 193, 2) := by decide +kernel
theorem dX7_shade_9 : decode cX7_shade 9 = .ok (.ireturn, 1) := by decide +kernel
theorem dX7_shade_10 : decode cX7_shade 10 = .ok (.iload_n 1, 1) := by decide +kernel
theorem dX7_shade_11 : decode cX7_shade 11 = .ok (.invokestatic 216, 3) := by decide +kernel
theorem dX7_shade_14 : decode cX7_shade 14 = .ok (.ifCond .eq 15, 3) := by decide +kernel
theorem dX7_shade_17 : decode cX7_shade 17 = .ok (.iload_n 2, 1) := by decide +kernel
theorem dX7_shade_18 : decode cX7_shade 18 = .ok (.i2l, 1) := by decide +kernel
theorem dX7_shade_19 : decode cX7_shade 19 = .ok (.lconst 1, 1) := by decide +kernel
theorem dX7_shade_20 : decode cX7_shade 20 = .ok (.ldc2_w 194, 3) := by decide +kernel
theorem dX7_shade_23 : decode cX7_shade 23 = .ok (.invokestatic 60, 3) := by decide +kernel
theorem dX7_shade_26 : decode cX7_shade 26 = .ok (.ifCond .ne 6, 3) := by decide +kernel
theorem dX7_shade_29 : decode cX7_shade 29 = .ok (.ldc 70, 2) := by decide +kernel
theorem dX7_shade_31 : decode cX7_shade 31 = .ok (.ireturn, 1) := by decide +kernel
theorem dX7_shade_32 : decode cX7_shade 32 = .ok (.aload_n 0, 1) := by decide +kernel
theorem dX7_shade_33 : decode cX7_shade 33 = .ok (.invokevirtual 228, 3) := by decide +kernel
theorem dX7_shade_36 : decode cX7_shade 36 = .ok (.iconst 0, 1) := by decide +kernel
theorem dX7_shade_37 : decode cX7_shade 37 = .ok (.istore_n 3, 1) := by decide +kernel
theorem dX7_shade_38 : decode cX7_shade 38 = .ok (.iconst 0, 1) := by decide +kernel
theorem dX7_shade_39 : decode cX7_shade 39 = .ok (.istore 4, 2) := by decide +kernel
theorem dX7_shade_41 : decode cX7_shade 41 = .ok (.iload 4, 2) := by decide +kernel
theorem dX7_shade_43 : decode cX7_shade 43 = .ok (.iload_n 2, 1) := by decide +kernel
theorem dX7_shade_44 : decode cX7_shade 44 = .ok (.if_icmp .ge 33, 3) := by decide +kernel
theorem dX7_shade_47 : decode cX7_shade 47 = .ok (.aload_n 0, 1) := by decide +kernel
theorem dX7_shade_48 : decode cX7_shade 48 = .ok (.invokevirtual 199, 3) := by decide +kernel
theorem dX7_shade_51 : decode cX7_shade 51 = .ok (.pop, 1) := by decide +kernel
theorem dX7_shade_52 : decode cX7_shade 52 = .ok (.iload_n 3, 1) := by decide +kernel
theorem dX7_shade_53 : decode cX7_shade 53 = .ok (.aload_n 0, 1) := by decide +kernel
theorem dX7_shade_54 : decode cX7_shade 54 = .ok (.iload_n 1, 1) := by decide +kernel
theorem dX7_shade_55 : decode cX7_shade 55 = .ok (.invokevirtual 219, 3) := by decide +kernel
theorem dX7_shade_58 : decode cX7_shade 58 = .ok (.ifCond .eq 10, 3) := by decide +kernel
theorem dX7_shade_61 : decode cX7_shade 61 = .ok (.iconst 1, 1) := by decide +kernel
theorem dX7_shade_62 : decode cX7_shade 62 = .ok (.iload 4, 2) := by decide +kernel
theorem dX7_shade_64 : decode cX7_shade 64 = .ok (.ishl, 1) := by decide +kernel
theorem dX7_shade_65 : decode cX7_shade 65 = .ok (.goto 4, 3) := by decide +kernel
theorem dX7_shade_68 : decode cX7_shade 68 = .ok (.iconst 0, 1) := by decide +kernel
theorem dX7_shade_69 : decode cX7_shade 69 = .ok (.ior, 1) := by decide +kernel
theorem dX7_shade_70 : decode cX7_shade 70 = .ok (.istore_n 3, 1) := by decide +kernel
theorem dX7_shade_71 : decode cX7_shade 71 = .ok (.iinc 4 1, 3) := by decide +kernel
theorem dX7_shade_74 : decode cX7_shade 74 = .ok (.goto (-33), 3) := by decide +kernel
theorem dX7_shade_77 : decode cX7_shade 77 = .ok (.aload_n 0, 1) := by decide +kernel
theorem dX7_shade_78 : decode cX7_shade 78 = .ok (.invokevirtual 234, 3) := by decide +kernel
theorem dX7_shade_81 : decode cX7_shade 81 = .ok (.iload_n 3, 1) := by decide +kernel
theorem dX7_shade_82 : decode cX7_shade 82 = .ok (.ireturn, 1) := by decide +kernel
theorem dX7_lacks_0 : decode cX7_lacks 0 = .ok (.aload_n 0, 1) := by decide +kernel
theorem dX7_lacks_1 : decode cX7_lacks 1 = .ok (.getfield 13, 3) := by decide +kernel
theorem dX7_lacks_4 : decode cX7_lacks 4 = .ok (.iload_n 1, 1) := by decide +kernel
theorem dX7_lacks_5 : decode cX7_lacks 5 = .ok (.iaload, 1) := by decide +kernel
theorem dX7_lacks_6 : decode cX7_lacks 6 = .ok (.ifCond .ge 9, 3) := by decide +kernel
theorem dX7_lacks_9 : decode cX7_lacks 9 = .ok (.aload_n 0, 1) := by decide +kernel
theorem dX7_lacks_10 : decode cX7_lacks 10 = .ok (.iconst 1, 1) := by decide +kernel
theorem dX7_lacks_11 : decode cX7_lacks 11 = .ok (.invokevirtual 71, 3) := by decide +kernel
theorem dX7_lacks_14 : decode cX7_lacks 14 = .ok (.ireturn, 1) := by decide +kernel
theorem dX7_lacks_15 : decode cX7_lacks 15 = .ok (.iload_n 2, 1) := by decide +kernel
theorem dX7_lacks_16 : decode cX7_lacks 16 = .ok (.i2l, 1) := by decide +kernel
theorem dX7_lacks_17 : decode cX7_lacks 17 = .ok (.lconst 0, 1) := by decide +kernel
theorem dX7_lacks_18 : decode cX7_lacks 18 = .ok (.aload_n 0, 1) := by decide +kernel
theorem dX7_lacks_19 : decode cX7_lacks 19 = .ok (.getfield 13, 3) := by decide +kernel
theorem dX7_lacks_22 : decode cX7_lacks 22 = .ok (.iload_n 1, 1) := by decide +kernel
theorem dX7_lacks_23 : decode cX7_lacks 23 = .ok (.iaload, 1) := by decide +kernel
theorem dX7_lacks_24 : decode cX7_lacks 24 = .ok (.iload_n 3, 1) := by decide +kernel
theorem dX7_lacks_25 : decode cX7_lacks 25 = .ok (.isub, 1) := by decide +kernel
theorem dX7_lacks_26 : decode cX7_lacks 26 = .ok (.i2l, 1) := by decide +kernel
theorem dX7_lacks_27 : decode cX7_lacks 27 = .ok (.invokestatic 60, 3) := by decide +kernel
theorem dX7_lacks_30 : decode cX7_lacks 30 = .ok (.ifCond .eq 7, 3) := by decide +kernel
theorem dX7_lacks_33 : decode cX7_lacks 33 = .ok (.iconst 0, 1) := by decide +kernel
theorem dX7_lacks_34 : decode cX7_lacks 34 = .ok (.goto 8, 3) := by decide +kernel
theorem dX7_lacks_37 : decode cX7_lacks 37 = .ok (.aload_n 0, 1) := by decide +kernel
theorem dX7_lacks_38 : decode cX7_lacks 38 = .ok (.iconst 2, 1) := by decide +kernel
theorem dX7_lacks_39 : decode cX7_lacks 39 = .ok (.invokevirtual 71, 3) := by decide +kernel
theorem dX7_lacks_42 : decode cX7_lacks 42 = .ok (.ireturn, 1) := by decide +kernel
theorem dX7_isDew_0 : decode cX7_isDew 0 = .ok (.aload_n 0, 1) := by decide +kernel
theorem dX7_isDew_1 : decode cX7_isDew 1 = .ok (.invokevirtual 228, 3) := by decide +kernel
theorem dX7_isDew_4 : decode cX7_isDew 4 = .ok (.iconst 1, 1) := by decide +kernel
theorem dX7_isDew_5 : decode cX7_isDew 5 = .ok (.istore 4, 2) := by decide +kernel
theorem dX7_isDew_7 : decode cX7_isDew 7 = .ok (.iconst 0, 1) := by decide +kernel
theorem dX7_isDew_8 : decode cX7_isDew 8 = .ok (.istore 5, 2) := by decide +kernel
theorem dX7_isDew_10 : decode cX7_isDew 10 = .ok (.iload 5, 2) := by decide +kernel
theorem dX7_isDew_12 : decode cX7_isDew 12 = .ok (.iload_n 3, 1) := by decide +kernel
theorem dX7_isDew_13 : decode cX7_isDew 13 = .ok (.if_icmp .ge 62, 3) := by decide +kernel
theorem dX7_isDew_16 : decode cX7_isDew 16 = .ok (.aload_n 0, 1) := by decide +kernel
theorem dX7_isDew_17 : decode cX7_isDew 17 = .ok (.iload_n 1, 1) := by decide +kernel
theorem dX7_isDew_18 : decode cX7_isDew 18 = .ok (.invokevirtual 240, 3) := by decide +kernel
theorem dX7_isDew_21 : decode cX7_isDew 21 = .ok (.istore 6, 2) := by decide +kernel
theorem dX7_isDew_23 : decode cX7_isDew 23 = .ok (.iload 6, 2) := by decide +kernel
theorem dX7_isDew_25 : decode cX7_isDew 25 = .ok (.ifCond .le 15, 3) := by decide +kernel
theorem dX7_isDew_28 : decode cX7_isDew 28 = .ok (.aload_n 0, 1) := by decide +kernel
theorem dX7_isDew_29 : decode cX7_isDew 29 = .ok (.getfield 19, 3) := by decide +kernel
theorem dX7_isDew_32 : decode cX7_isDew 32 = .ok (.bipush 56, 2) := by decide +kernel
theorem dX7_isDew_34 : decode cX7_isDew 34 = .ok (.iload_n 1, 1) := by decide +kernel
theorem dX7_isDew_35 : decode cX7_isDew 35 = .ok (.iadd, 1) := by decide +kernel
theorem dX7_isDew_36 : decode cX7_isDew 36 = .ok (.iaload, 1) := by decide +kernel
theorem dX7_isDew_37 : decode cX7_isDew 37 = .ok (.goto 4, 3) := by decide +kernel
theorem dX7_isDew_40 : decode cX7_isDew 40 = .ok (.iconst (-1), 1) := by decide +kernel
theorem dX7_isDew_41 : decode cX7_isDew 41 = .ok (.istore 7, 2) := by decide +kernel
theorem dX7_isDew_43 : decode cX7_isDew 43 = .ok (.iload 4, 2) := by decide +kernel
theorem dX7_isDew_45 : decode cX7_isDew 45 = .ok (.ifCond .eq 21, 3) := by decide +kernel
theorem dX7_isDew_48 : decode cX7_isDew 48 = .ok (.aload_n 0, 1) := by decide +kernel
theorem dX7_isDew_49 : decode cX7_isDew 49 = .ok (.getfield 16, 3) := by decide +kernel
theorem dX7_isDew_52 : decode cX7_isDew 52 = .ok (.iload_n 2, 1) := by decide +kernel
theorem dX7_isDew_53 : decode cX7_isDew 53 = .ok (.iload 5, 2) := by decide +kernel
theorem dX7_isDew_55 : decode cX7_isDew 55 = .ok (.iadd, 1) := by decide +kernel
theorem dX7_isDew_56 : decode cX7_isDew 56 = .ok (.iaload, 1) := by decide +kernel
theorem dX7_isDew_57 : decode cX7_isDew 57 = .ok (.iload 7, 2) := by decide +kernel
theorem dX7_isDew_59 : decode cX7_isDew 59 = .ok (.if_icmp .ne 7, 3) := by decide +kernel
theorem dX7_isDew_62 : decode cX7_isDew 62 = .ok (.iconst 1, 1) := by decide +kernel
theorem dX7_isDew_63 : decode cX7_isDew 63 = .ok (.goto 4, 3) := by decide +kernel
theorem dX7_isDew_66 : decode cX7_isDew 66 = .ok (.iconst 0, 1) := by decide +kernel
theorem dX7_isDew_67 : decode cX7_isDew 67 = .ok (.istore 4, 2) := by decide +kernel
theorem dX7_isDew_69 : decode cX7_isDew 69 = .ok (.iinc 5 1, 3) := by decide +kernel
theorem dX7_isDew_72 : decode cX7_isDew 72 = .ok (.goto (-62), 3) := by decide +kernel
theorem dX7_isDew_75 : decode cX7_isDew 75 = .ok (.aload_n 0, 1) := by decide +kernel
theorem dX7_isDew_76 : decode cX7_isDew 76 = .ok (.invokevirtual 234, 3) := by decide +kernel
theorem dX7_isDew_79 : decode cX7_isDew 79 = .ok (.iload 4, 2) := by decide +kernel
theorem dX7_isDew_81 : decode cX7_isDew 81 = .ok (.ireturn, 1) := by decide +kernel
theorem dX7_dew_0 : decode cX7_dew 0 = .ok (.aload_n 0, 1) := by decide +kernel
theorem dX7_dew_1 : decode cX7_dew 1 = .ok (.getfield 154, 3) := by decide +kernel
theorem dX7_dew_4 : decode cX7_dew 4 = .ok (.ifCond .ne 6, 3) := by decide +kernel
theorem dX7_dew_7 : decode cX7_dew 7 = .ok (.ldc 193, 2) := by decide +kernel
theorem dX7_dew_9 : decode cX7_dew 9 = .ok (.ireturn, 1) := by decide +kernel
theorem dX7_dew_10 : decode cX7_dew 10 = .ok (.iload_n 1, 1) := by decide +kernel
theorem dX7_dew_11 : decode cX7_dew 11 = .ok (.invokestatic 64, 3) := by decide +kernel
theorem dX7_dew_14 : decode cX7_dew 14 = .ok (.ifCond .eq 15, 3) := by decide +kernel
theorem dX7_dew_17 : decode cX7_dew 17 = .ok (.iload_n 3, 1) := by decide +kernel
theorem dX7_dew_18 : decode cX7_dew 18 = .ok (.i2l, 1) := by decide +kernel
theorem dX7_dew_19 : decode cX7_dew 19 = .ok (.lconst 1, 1) := by decide +kernel
theorem dX7_dew_20 : decode cX7_dew 20 = .ok (.ldc2_w 243, 3) := by decide +kernel
theorem dX7_dew_23 : decode cX7_dew 23 = .ok (.invokestatic 60, 3) := by decide +kernel
theorem dX7_dew_26 : decode cX7_dew 26 = .ok (.ifCond .ne 6, 3) := by decide +kernel
theorem dX7_dew_29 : decode cX7_dew 29 = .ok (.ldc 70, 2) := by decide +kernel
theorem dX7_dew_31 : decode cX7_dew 31 = .ok (.ireturn, 1) := by decide +kernel
theorem dX7_dew_32 : decode cX7_dew 32 = .ok (.aload_n 0, 1) := by decide +kernel
theorem dX7_dew_33 : decode cX7_dew 33 = .ok (.iload_n 1, 1) := by decide +kernel
theorem dX7_dew_34 : decode cX7_dew 34 = .ok (.iload_n 2, 1) := by decide +kernel
theorem dX7_dew_35 : decode cX7_dew 35 = .ok (.iload_n 3, 1) := by decide +kernel
theorem dX7_dew_36 : decode cX7_dew 36 = .ok (.invokevirtual 245, 3) := by decide +kernel
theorem dX7_dew_39 : decode cX7_dew 39 = .ok (.istore 4, 2) := by decide +kernel
theorem dX7_dew_41 : decode cX7_dew 41 = .ok (.iload 4, 2) := by decide +kernel
theorem dX7_dew_43 : decode cX7_dew 43 = .ok (.ifCond .ge 6, 3) := by decide +kernel
theorem dX7_dew_46 : decode cX7_dew 46 = .ok (.iload 4, 2) := by decide +kernel
theorem dX7_dew_48 : decode cX7_dew 48 = .ok (.ireturn, 1) := by decide +kernel
theorem dX7_dew_49 : decode cX7_dew 49 = .ok (.iconst 0, 1) := by decide +kernel
theorem dX7_dew_50 : decode cX7_dew 50 = .ok (.istore 5, 2) := by decide +kernel
theorem dX7_dew_52 : decode cX7_dew 52 = .ok (.iconst 0, 1) := by decide +kernel
theorem dX7_dew_53 : decode cX7_dew 53 = .ok (.istore 6, 2) := by decide +kernel
theorem dX7_dew_55 : decode cX7_dew 55 = .ok (.iload 6, 2) := by decide +kernel
theorem dX7_dew_57 : decode cX7_dew 57 = .ok (.aload_n 0, 1) := by decide +kernel
theorem dX7_dew_58 : decode cX7_dew 58 = .ok (.getfield 19, 3) := by decide +kernel
theorem dX7_dew_61 : decode cX7_dew 61 = .ok (.bipush 50, 2) := by decide +kernel
theorem dX7_dew_63 : decode cX7_dew 63 = .ok (.iaload, 1) := by decide +kernel
theorem dX7_dew_64 : decode cX7_dew 64 = .ok (.if_icmp .ge 47, 3) := by decide +kernel
theorem dX7_dew_67 : decode cX7_dew 67 = .ok (.iload 5, 2) := by decide +kernel
theorem dX7_dew_69 : decode cX7_dew 69 = .ok (.aload_n 0, 1) := by decide +kernel
theorem dX7_dew_70 : decode cX7_dew 70 = .ok (.iload 6, 2) := by decide +kernel
theorem dX7_dew_72 : decode cX7_dew 72 = .ok (.invokevirtual 177, 3) := by decide +kernel
theorem dX7_dew_75 : decode cX7_dew 75 = .ok (.ifCond .eq 26, 3) := by decide +kernel
theorem dX7_dew_78 : decode cX7_dew 78 = .ok (.aload_n 0, 1) := by decide +kernel
theorem dX7_dew_79 : decode cX7_dew 79 = .ok (.iload 6, 2) := by decide +kernel
theorem dX7_dew_81 : decode cX7_dew 81 = .ok (.bipush 40, 2) := by decide +kernel
theorem dX7_dew_83 : decode cX7_dew 83 = .ok (.iload_n 1, 1) := by decide +kernel
theorem dX7_dew_84 : decode cX7_dew 84 = .ok (.imul, 1) := by decide +kernel
theorem dX7_dew_85 : decode cX7_dew 85 = .ok (.iload_n 2, 1) := by decide +kernel
theorem dX7_dew_86 : decode cX7_dew 86 = .ok (.iadd, 1) := by decide +kernel
theorem dX7_dew_87 : decode cX7_dew 87 = .ok (.iload_n 3, 1) := by decide +kernel
theorem dX7_dew_88 : decode cX7_dew 88 = .ok (.invokevirtual 249, 3) := by decide +kernel
theorem dX7_dew_91 : decode cX7_dew 91 = .ok (.ifCond .eq 10, 3) := by decide +kernel
theorem dX7_dew_94 : decode cX7_dew 94 = .ok (.iconst 1, 1) := by decide +kernel
theorem dX7_dew_95 : decode cX7_dew 95 = .ok (.iload 6, 2) := by decide +kernel
theorem dX7_dew_97 : decode cX7_dew 97 = .ok (.ishl, 1) := by decide +kernel
theorem dX7_dew_98 : decode cX7_dew 98 = .ok (.goto 4, 3) := by decide +kernel
theorem dX7_dew_101 : decode cX7_dew 101 = .ok (.iconst 0, 1) := by decide +kernel
theorem dX7_dew_102 : decode cX7_dew 102 = .ok (.ior, 1) := by decide +kernel
theorem dX7_dew_103 : decode cX7_dew 103 = .ok (.istore 5, 2) := by decide +kernel
theorem dX7_dew_105 : decode cX7_dew 105 = .ok (.iinc 6 1, 3) := by decide +kernel
theorem dX7_dew_108 : decode cX7_dew 108 = .ok (.goto (-53), 3) := by decide +kernel
theorem dX7_dew_111 : decode cX7_dew 111 = .ok (.aload_n 0, 1) := by decide +kernel
theorem dX7_dew_112 : decode cX7_dew 112 = .ok (.iload 5, 2) := by decide +kernel
theorem dX7_dew_114 : decode cX7_dew 114 = .ok (.invokevirtual 75, 3) := by decide +kernel
theorem dX7_dew_117 : decode cX7_dew 117 = .ok (.ireturn, 1) := by decide +kernel
theorem dX7_lost_0 : decode cX7_lost 0 = .ok (.aload_n 0, 1) := by decide +kernel
theorem dX7_lost_1 : decode cX7_lost 1 = .ok (.iload_n 1, 1) := by decide +kernel
theorem dX7_lost_2 : decode cX7_lost 2 = .ok (.invokevirtual 202, 3) := by decide +kernel
theorem dX7_lost_5 : decode cX7_lost 5 = .ok (.ifCond .eq 44, 3) := by decide +kernel
theorem dX7_lost_8 : decode cX7_lost 8 = .ok (.iload_n 2, 1) := by decide +kernel
theorem dX7_lost_9 : decode cX7_lost 9 = .ok (.i2l, 1) := by decide +kernel
theorem dX7_lost_10 : decode cX7_lost 10 = .ok (.lconst 0, 1) := by decide +kernel
theorem dX7_lost_11 : decode cX7_lost 11 = .ok (.lconst 1, 1) := by decide +kernel
theorem dX7_lost_12 : decode cX7_lost 12 = .ok (.invokestatic 60, 3) := by decide +kernel
theorem dX7_lost_15 : decode cX7_lost 15 = .ok (.ifCond .eq 34, 3) := by decide +kernel
theorem dX7_lost_18 : decode cX7_lost 18 = .ok (.iload_n 3, 1) := by decide +kernel
theorem dX7_lost_19 : decode cX7_lost 19 = .ok (.invokestatic 64, 3) := by decide +kernel
theorem dX7_lost_22 : decode cX7_lost 22 = .ok (.ifCond .eq 27, 3) := by decide +kernel
theorem dX7_lost_25 : decode cX7_lost 25 = .ok (.iload 5, 2) := by decide +kernel
theorem dX7_lost_27 : decode cX7_lost 27 = .ok (.i2l, 1) := by decide +kernel
theorem dX7_lost_28 : decode cX7_lost 28 = .ok (.lconst 1, 1) := by decide +kernel
theorem dX7_lost_29 : decode cX7_lost 29 = .ok (.ldc2_w 243, 3) := by decide +kernel
theorem dX7_lost_32 : decode cX7_lost 32 = .ok (.invokestatic 60, 3) := by decide +kernel
theorem dX7_lost_35 : decode cX7_lost 35 = .ok (.ifCond .eq 14, 3) := by decide +kernel
theorem dX7_lost_38 : decode cX7_lost 38 = .ok (.iload 6, 2) := by decide +kernel
theorem dX7_lost_40 : decode cX7_lost 40 = .ok (.i2l, 1) := by decide +kernel
theorem dX7_lost_41 : decode cX7_lost 41 = .ok (.lconst 0, 1) := by decide +kernel
theorem dX7_lost_42 : decode cX7_lost 42 = .ok (.lconst 1, 1) := by decide +kernel
theorem dX7_lost_43 : decode cX7_lost 43 = .ok (.invokestatic 60, 3) := by decide +kernel
theorem dX7_lost_46 : decode cX7_lost 46 = .ok (.ifCond .ne 6, 3) := by decide +kernel
theorem dX7_lost_49 : decode cX7_lost 49 = .ok (.ldc 70, 2) := by decide +kernel
theorem dX7_lost_51 : decode cX7_lost 51 = .ok (.ireturn, 1) := by decide +kernel
theorem dX7_lost_52 : decode cX7_lost 52 = .ok (.aload_n 0, 1) := by decide +kernel
theorem dX7_lost_53 : decode cX7_lost 53 = .ok (.iload_n 3, 1) := by decide +kernel
theorem dX7_lost_54 : decode cX7_lost 54 = .ok (.iload 4, 2) := by decide +kernel
theorem dX7_lost_56 : decode cX7_lost 56 = .ok (.iload 5, 2) := by decide +kernel
theorem dX7_lost_58 : decode cX7_lost 58 = .ok (.invokevirtual 245, 3) := by decide +kernel
theorem dX7_lost_61 : decode cX7_lost 61 = .ok (.istore 7, 2) := by decide +kernel
theorem dX7_lost_63 : decode cX7_lost 63 = .ok (.iload 7, 2) := by decide +kernel
theorem dX7_lost_65 : decode cX7_lost 65 = .ok (.ifCond .ge 6, 3) := by decide +kernel
theorem dX7_lost_68 : decode cX7_lost 68 = .ok (.iload 7, 2) := by decide +kernel
theorem dX7_lost_70 : decode cX7_lost 70 = .ok (.ireturn, 1) := by decide +kernel
theorem dX7_lost_71 : decode cX7_lost 71 = .ok (.iconst 0, 1) := by decide +kernel
theorem dX7_lost_72 : decode cX7_lost 72 = .ok (.istore 8, 2) := by decide +kernel
theorem dX7_lost_74 : decode cX7_lost 74 = .ok (.ldc 237, 2) := by decide +kernel
theorem dX7_lost_76 : decode cX7_lost 76 = .ok (.istore 9, 2) := by decide +kernel
theorem dX7_lost_78 : decode cX7_lost 78 = .ok (.bipush 31, 2) := by decide +kernel
theorem dX7_lost_80 : decode cX7_lost 80 = .ok (.istore 10, 2) := by decide +kernel
theorem dX7_lost_82 : decode cX7_lost 82 = .ok (.iload 10, 2) := by decide +kernel
theorem dX7_lost_84 : decode cX7_lost 84 = .ok (.ifCond .lt 121, 3) := by decide +kernel
theorem dX7_lost_87 : decode cX7_lost 87 = .ok (.iload 10, 2) := by decide +kernel
theorem dX7_lost_89 : decode cX7_lost 89 = .ok (.istore 11, 2) := by decide +kernel
theorem dX7_lost_91 : decode cX7_lost 91 = .ok (.iconst 1, 1) := by decide +kernel
theorem dX7_lost_92 : decode cX7_lost 92 = .ok (.istore 12, 2) := by decide +kernel
theorem dX7_lost_94 : decode cX7_lost 94 = .ok (.iconst 0, 1) := by decide +kernel
theorem dX7_lost_95 : decode cX7_lost 95 = .ok (.istore 13, 2) := by decide +kernel
theorem dX7_lost_97 : decode cX7_lost 97 = .ok (.iload 13, 2) := by decide +kernel
theorem dX7_lost_99 : decode cX7_lost 99 = .ok (.iload 5, 2) := by decide +kernel
theorem dX7_lost_101 : decode cX7_lost 101 = .ok (.if_icmp .ge 69, 3) := by decide +kernel
theorem dX7_lost_104 : decode cX7_lost 104 = .ok (.aload_n 0, 1) := by decide +kernel
theorem dX7_lost_105 : decode cX7_lost 105 = .ok (.aload_n 0, 1) := by decide +kernel
theorem dX7_lost_106 : decode cX7_lost 106 = .ok (.getfield 19, 3) := by decide +kernel
theorem dX7_lost_109 : decode cX7_lost 109 = .ok (.bipush 51, 2) := by decide +kernel
theorem dX7_lost_111 : decode cX7_lost 111 = .ok (.iload_n 1, 1) := by decide +kernel
theorem dX7_lost_112 : decode cX7_lost 112 = .ok (.iadd, 1) := by decide +kernel
theorem dX7_lost_113 : decode cX7_lost 113 = .ok (.iaload, 1) := by decide +kernel
theorem dX7_lost_114 : decode cX7_lost 114 = .ok (.iload 11, 2) := by decide +kernel
theorem dX7_lost_116 : decode cX7_lost 116 = .ok (.iload_n 2, 1) := by decide +kernel
theorem dX7_lost_117 : decode cX7_lost 117 = .ok (.aload_n 0, 1) := by decide +kernel
theorem dX7_lost_118 : decode cX7_lost 118 = .ok (.getfield 19, 3) := by decide +kernel
theorem dX7_lost_121 : decode cX7_lost 121 = .ok (.bipush 46, 2) := by decide +kernel
theorem dX7_lost_123 : decode cX7_lost 123 = .ok (.iaload, 1) := by decide +kernel
theorem dX7_lost_124 : decode cX7_lost 124 = .ok (.iload 13, 2) := by decide +kernel
theorem dX7_lost_126 : decode cX7_lost 126 = .ok (.iadd, 1) := by decide +kernel
theorem dX7_lost_127 : decode cX7_lost 127 = .ok (.invokevirtual 167, 3) := by decide +kernel
theorem dX7_lost_130 : decode cX7_lost 130 = .ok (.istore 11, 2) := by decide +kernel
theorem dX7_lost_132 : decode cX7_lost 132 = .ok (.iload 12, 2) := by decide +kernel
theorem dX7_lost_134 : decode cX7_lost 134 = .ok (.ifCond .eq 27, 3) := by decide +kernel
theorem dX7_lost_137 : decode cX7_lost 137 = .ok (.aload_n 0, 1) := by decide +kernel
theorem dX7_lost_138 : decode cX7_lost 138 = .ok (.getfield 16, 3) := by decide +kernel
theorem dX7_lost_141 : decode cX7_lost 141 = .ok (.bipush 40, 2) := by decide +kernel
theorem dX7_lost_143 : decode cX7_lost 143 = .ok (.iload_n 3, 1) := by decide +kernel
theorem dX7_lost_144 : decode cX7_lost 144 = .ok (.imul, 1) := by decide +kernel
theorem dX7_lost_145 : decode cX7_lost 145 = .ok (.iload 4, 2) := by decide +kernel
theorem dX7_lost_147 : decode cX7_lost 147 = .ok (.iadd, 1) := by decide +kernel
theorem dX7_lost_148 : decode cX7_lost 148 = .ok (.iload 13, 2) := by decide +kernel
theorem dX7_lost_150 : decode cX7_lost 150 = .ok (.iadd, 1) := by decide +kernel
theorem dX7_lost_151 : decode cX7_lost 151 = .ok (.iaload, 1) := by decide +kernel
theorem dX7_lost_152 : decode cX7_lost 152 = .ok (.iload 11, 2) := by decide +kernel
theorem dX7_lost_154 : decode cX7_lost 154 = .ok (.if_icmp .ne 7, 3) := by decide +kernel
theorem dX7_lost_157 : decode cX7_lost 157 = .ok (.iconst 1, 1) := by decide +kernel
theorem dX7_lost_158 : decode cX7_lost 158 = .ok (.goto 4, 3) := by decide +kernel
theorem dX7_lost_161 : decode cX7_lost 161 = .ok (.iconst 0, 1) := by decide +kernel
theorem dX7_lost_162 : decode cX7_lost 162 = .ok (.istore 12, 2) := by decide +kernel
theorem dX7_lost_164 : decode cX7_lost 164 = .ok (.iinc 13 1, 3) := by decide +kernel
theorem dX7_lost_167 : decode cX7_lost 167 = .ok (.goto (-70), 3) := by decide +kernel
theorem dX7_lost_170 : decode cX7_lost 170 = .ok (.iload 8, 2) := by decide +kernel
theorem dX7_lost_172 : decode cX7_lost 172 = .ok (.iload 12, 2) := by decide +kernel
theorem dX7_lost_174 : decode cX7_lost 174 = .ok (.ifCond .eq 7, 3) := by decide +kernel
theorem dX7_lost_177 : decode cX7_lost 177 = .ok (.iconst 1, 1) := by decide +kernel
theorem dX7_lost_178 : decode cX7_lost 178 = .ok (.goto 4, 3) := by decide +kernel
theorem dX7_lost_181 : decode cX7_lost 181 = .ok (.iconst 0, 1) := by decide +kernel
theorem dX7_lost_182 : decode cX7_lost 182 = .ok (.iadd, 1) := by decide +kernel
theorem dX7_lost_183 : decode cX7_lost 183 = .ok (.istore 8, 2) := by decide +kernel
theorem dX7_lost_185 : decode cX7_lost 185 = .ok (.iload 12, 2) := by decide +kernel
theorem dX7_lost_187 : decode cX7_lost 187 = .ok (.ifCond .eq 8, 3) := by decide +kernel
theorem dX7_lost_190 : decode cX7_lost 190 = .ok (.iload 10, 2) := by decide +kernel
theorem dX7_lost_192 : decode cX7_lost 192 = .ok (.goto 5, 3) := by decide +kernel
theorem dX7_lost_195 : decode cX7_lost 195 = .ok (.iload 9, 2) := by decide +kernel
theorem dX7_lost_197 : decode cX7_lost 197 = .ok (.istore 9, 2) := by decide +kernel
theorem dX7_lost_199 : decode cX7_lost 199 = .ok (.iinc 10 (-1), 3) := by decide +kernel
theorem dX7_lost_202 : decode cX7_lost 202 = .ok (.goto (-120), 3) := by decide +kernel
theorem dX7_lost_205 : decode cX7_lost 205 = .ok (.aload_n 0, 1) := by decide +kernel
theorem dX7_lost_206 : decode cX7_lost 206 = .ok (.iload 6, 2) := by decide +kernel
theorem dX7_lost_208 : decode cX7_lost 208 = .ok (.ifCond .ne 8, 3) := by decide +kernel
theorem dX7_lost_211 : decode cX7_lost 211 = .ok (.iload 8, 2) := by decide +kernel
theorem dX7_lost_213 : decode cX7_lost 213 = .ok (.goto 5, 3) := by decide +kernel
theorem dX7_lost_216 : decode cX7_lost 216 = .ok (.iload 9, 2) := by decide +kernel
theorem dX7_lost_218 : decode cX7_lost 218 = .ok (.invokevirtual 75, 3) := by decide +kernel
theorem dX7_lost_221 : decode cX7_lost 221 = .ok (.ireturn, 1) := by decide +kernel
theorem dX7_kite_0 : decode cX7_kite 0 = .ok (.aload_n 0, 1) := by decide +kernel
theorem dX7_kite_1 : decode cX7_kite 1 = .ok (.getfield 154, 3) := by decide +kernel
theorem dX7_kite_4 : decode cX7_kite 4 = .ok (.ifCond .ne 6, 3) := by decide +kernel
theorem dX7_kite_7 : decode cX7_kite 7 = .ok (.ldc 193, 2) := by decide +kernel
theorem dX7_kite_9 : decode cX7_kite 9 = .ok (.ireturn, 1) := by decide +kernel
theorem dX7_kite_10 : decode cX7_kite 10 = .ok (.iload_n 1, 1) := by decide +kernel
theorem dX7_kite_11 : decode cX7_kite 11 = .ok (.invokestatic 64, 3) := by decide +kernel
theorem dX7_kite_14 : decode cX7_kite 14 = .ok (.ifCond .eq 26, 3) := by decide +kernel
theorem dX7_kite_17 : decode cX7_kite 17 = .ok (.iload_n 3, 1) := by decide +kernel
theorem dX7_kite_18 : decode cX7_kite 18 = .ok (.i2l, 1) := by decide +kernel
theorem dX7_kite_19 : decode cX7_kite 19 = .ok (.lconst 1, 1) := by decide +kernel
theorem dX7_kite_20 : decode cX7_kite 20 = .ok (.ldc2_w 243, 3) := by decide +kernel
theorem dX7_kite_23 : decode cX7_kite 23 = .ok (.invokestatic 60, 3) := by decide +kernel
theorem dX7_kite_26 : decode cX7_kite 26 = .ok (.ifCond .eq 14, 3) := by decide +kernel
theorem dX7_kite_29 : decode cX7_kite 29 = .ok (.iload 4, 2) := by decide +kernel
theorem dX7_kite_31 : decode cX7_kite 31 = .ok (.i2l, 1) := by decide +kernel
theorem dX7_kite_32 : decode cX7_kite 32 = .ok (.lconst 0, 1) := by decide +kernel
theorem dX7_kite_33 : decode cX7_kite 33 = .ok (.lconst 1, 1) := by decide +kernel
theorem dX7_kite_34 : decode cX7_kite 34 = .ok (.invokestatic 60, 3) := by decide +kernel
theorem dX7_kite_37 : decode cX7_kite 37 = .ok (.ifCond .ne 6, 3) := by decide +kernel
theorem dX7_kite_40 : decode cX7_kite 40 = .ok (.ldc 70, 2) := by decide +kernel
theorem dX7_kite_42 : decode cX7_kite 42 = .ok (.ireturn, 1) := by decide +kernel
theorem dX7_kite_43 : decode cX7_kite 43 = .ok (.aload_n 0, 1) := by decide +kernel
theorem dX7_kite_44 : decode cX7_kite 44 = .ok (.iload_n 1, 1) := by decide +kernel
theorem dX7_kite_45 : decode cX7_kite 45 = .ok (.iload_n 2, 1) := by decide +kernel
theorem dX7_kite_46 : decode cX7_kite 46 = .ok (.iload_n 3, 1) := by decide +kernel
theorem dX7_kite_47 : decode cX7_kite 47 = .ok (.invokevirtual 245, 3) := by decide +kernel
theorem dX7_kite_50 : decode cX7_kite 50 = .ok (.istore 5, 2) := by decide +kernel
theorem dX7_kite_52 : decode cX7_kite 52 = .ok (.iload 5, 2) := by decide +kernel
theorem dX7_kite_54 : decode cX7_kite 54 = .ok (.ifCond .ge 6, 3) := by decide +kernel
theorem dX7_kite_57 : decode cX7_kite 57 = .ok (.iload 5, 2) := by decide +kernel
theorem dX7_kite_59 : decode cX7_kite 59 = .ok (.ireturn, 1) := by decide +kernel
theorem dX7_kite_60 : decode cX7_kite 60 = .ok (.iconst 0, 1) := by decide +kernel
theorem dX7_kite_61 : decode cX7_kite 61 = .ok (.istore 6, 2) := by decide +kernel
theorem dX7_kite_63 : decode cX7_kite 63 = .ok (.ldc 237, 2) := by decide +kernel
theorem dX7_kite_65 : decode cX7_kite 65 = .ok (.istore 7, 2) := by decide +kernel
theorem dX7_kite_67 : decode cX7_kite 67 = .ok (.bipush 11, 2) := by decide +kernel
theorem dX7_kite_69 : decode cX7_kite 69 = .ok (.istore 8, 2) := by decide +kernel
theorem dX7_kite_71 : decode cX7_kite 71 = .ok (.iload 8, 2) := by decide +kernel
theorem dX7_kite_73 : decode cX7_kite 73 = .ok (.ifCond .lt 109, 3) := by decide +kernel
theorem dX7_kite_76 : decode cX7_kite 76 = .ok (.iconst 1, 1) := by decide +kernel
theorem dX7_kite_77 : decode cX7_kite 77 = .ok (.istore 9, 2) := by decide +kernel
theorem dX7_kite_79 : decode cX7_kite 79 = .ok (.iconst 0, 1) := by decide +kernel
theorem dX7_kite_80 : decode cX7_kite 80 = .ok (.istore 10, 2) := by decide +kernel
theorem dX7_kite_82 : decode cX7_kite 82 = .ok (.iload 10, 2) := by decide +kernel
theorem dX7_kite_84 : decode cX7_kite 84 = .ok (.iload_n 3, 1) := by decide +kernel
theorem dX7_kite_85 : decode cX7_kite 85 = .ok (.if_icmp .ge 62, 3) := by decide +kernel
theorem dX7_kite_88 : decode cX7_kite 88 = .ok (.iload 9, 2) := by decide +kernel
theorem dX7_kite_90 : decode cX7_kite 90 = .ok (.ifCond .eq 48, 3) := by decide +kernel
theorem dX7_kite_93 : decode cX7_kite 93 = .ok (.aload_n 0, 1) := by decide +kernel
theorem dX7_kite_94 : decode cX7_kite 94 = .ok (.getfield 16, 3) := by decide +kernel
theorem dX7_kite_97 : decode cX7_kite 97 = .ok (.bipush 40, 2) := by decide +kernel
theorem dX7_kite_99 : decode cX7_kite 99 = .ok (.iload_n 1, 1) := by decide +kernel
theorem dX7_kite_100 : decode cX7_kite 100 = .ok (.imul, 1) := by decide +kernel
theorem dX7_kite_101 : decode cX7_kite 101 = .ok (.iload_n 2, 1) := by decide +kernel
theorem dX7_kite_102 : decode cX7_kite 102 = .ok (.iadd, 1) := by decide +kernel
theorem dX7_kite_103 : decode cX7_kite 103 = .ok (.iload 10, 2) := by decide +kernel
theorem dX7_kite_105 : decode cX7_kite 105 = .ok (.iadd, 1) := by decide +kernel
theorem dX7_kite_106 : decode cX7_kite 106 = .ok (.iaload, 1) := by decide +kernel
theorem dX7_kite_107 : decode cX7_kite 107 = .ok (.aload_n 0, 1) := by decide +kernel
theorem dX7_kite_108 : decode cX7_kite 108 = .ok (.getfield 19, 3) := by decide +kernel
theorem dX7_kite_111 : decode cX7_kite 111 = .ok (.iconst 0, 1) := by decide +kernel
theorem dX7_kite_112 : decode cX7_kite 112 = .ok (.bipush 6, 2) := by decide +kernel
theorem dX7_kite_114 : decode cX7_kite 114 = .ok (.iload 8, 2) := by decide +kernel
theorem dX7_kite_116 : decode cX7_kite 116 = .ok (.bipush 6, 2) := by decide +kernel
theorem dX7_kite_118 : decode cX7_kite 118 = .ok (.idiv, 1) := by decide +kernel
theorem dX7_kite_119 : decode cX7_kite 119 = .ok (.imul, 1) := by decide +kernel
theorem dX7_kite_120 : decode cX7_kite 120 = .ok (.iadd, 1) := by decide +kernel
theorem dX7_kite_121 : decode cX7_kite 121 = .ok (.iload 8, 2) := by decide +kernel
theorem dX7_kite_123 : decode cX7_kite 123 = .ok (.iload 10, 2) := by decide +kernel
theorem dX7_kite_125 : decode cX7_kite 125 = .ok (.iadd, 1) := by decide +kernel
theorem dX7_kite_126 : decode cX7_kite 126 = .ok (.bipush 6, 2) := by decide +kernel
theorem dX7_kite_128 : decode cX7_kite 128 = .ok (.irem, 1) := by decide +kernel
theorem dX7_kite_129 : decode cX7_kite 129 = .ok (.iadd, 1) := by decide +kernel
theorem dX7_kite_130 : decode cX7_kite 130 = .ok (.iaload, 1) := by decide +kernel
theorem dX7_kite_131 : decode cX7_kite 131 = .ok (.if_icmp .ne 7, 3) := by decide +kernel
theorem dX7_kite_134 : decode cX7_kite 134 = .ok (.iconst 1, 1) := by decide +kernel
theorem dX7_kite_135 : decode cX7_kite 135 = .ok (.goto 4, 3) := by decide +kernel
theorem dX7_kite_138 : decode cX7_kite 138 = .ok (.iconst 0, 1) := by decide +kernel
theorem dX7_kite_139 : decode cX7_kite 139 = .ok (.istore 9, 2) := by decide +kernel
theorem dX7_kite_141 : decode cX7_kite 141 = .ok (.iinc 10 1, 3) := by decide +kernel
theorem dX7_kite_144 : decode cX7_kite 144 = .ok (.goto (-62), 3) := by decide +kernel
theorem dX7_kite_147 : decode cX7_kite 147 = .ok (.iload 6, 2) := by decide +kernel
theorem dX7_kite_149 : decode cX7_kite 149 = .ok (.iload 9, 2) := by decide +kernel
theorem dX7_kite_151 : decode cX7_kite 151 = .ok (.ifCond .eq 7, 3) := by decide +kernel
theorem dX7_kite_154 : decode cX7_kite 154 = .ok (.iconst 1, 1) := by decide +kernel
theorem dX7_kite_155 : decode cX7_kite 155 = .ok (.goto 4, 3) := by decide +kernel
theorem dX7_kite_158 : decode cX7_kite 158 = .ok (.iconst 0, 1) := by decide +kernel
theorem dX7_kite_159 : decode cX7_kite 159 = .ok (.iadd, 1) := by decide +kernel
theorem dX7_kite_160 : decode cX7_kite 160 = .ok (.istore 6, 2) := by decide +kernel
theorem dX7_kite_162 : decode cX7_kite 162 = .ok (.iload 9, 2) := by decide +kernel
theorem dX7_kite_164 : decode cX7_kite 164 = .ok (.ifCond .eq 8, 3) := by decide +kernel
theorem dX7_kite_167 : decode cX7_kite 167 = .ok (.iload 8, 2) := by decide +kernel
theorem dX7_kite_169 : decode cX7_kite 169 = .ok (.goto 5, 3) := by decide +kernel
theorem dX7_kite_172 : decode cX7_kite 172 = .ok (.iload 7, 2) := by decide +kernel
theorem dX7_kite_174 : decode cX7_kite 174 = .ok (.istore 7, 2) := by decide +kernel
theorem dX7_kite_176 : decode cX7_kite 176 = .ok (.iinc 8 (-1), 3) := by decide +kernel
theorem dX7_kite_179 : decode cX7_kite 179 = .ok (.goto (-108), 3) := by decide +kernel
theorem dX7_kite_182 : decode cX7_kite 182 = .ok (.aload_n 0, 1) := by decide +kernel
theorem dX7_kite_183 : decode cX7_kite 183 = .ok (.iload 4, 2) := by decide +kernel
theorem dX7_kite_185 : decode cX7_kite 185 = .ok (.ifCond .ne 8, 3) := by decide +kernel
theorem dX7_kite_188 : decode cX7_kite 188 = .ok (.iload 6, 2) := by decide +kernel
theorem dX7_kite_190 : decode cX7_kite 190 = .ok (.goto 5, 3) := by decide +kernel
theorem dX7_kite_193 : decode cX7_kite 193 = .ok (.iload 7, 2) := by decide +kernel
theorem dX7_kite_195 : decode cX7_kite 195 = .ok (.invokevirtual 75, 3) := by decide +kernel
theorem dX7_kite_198 : decode cX7_kite 198 = .ok (.ireturn, 1) := by decide +kernel
theorem dX7_common_0 : decode cX7_common 0 = .ok (.lload_n 0, 1) := by decide +kernel
theorem dX7_common_1 : decode cX7_common 1 = .ok (.lstore 4, 2) := by decide +kernel
theorem dX7_common_3 : decode cX7_common 3 = .ok (.lload_n 2, 1) := by decide +kernel
theorem dX7_common_4 : decode cX7_common 4 = .ok (.lstore 6, 2) := by decide +kernel
theorem dX7_common_6 : decode cX7_common 6 = .ok (.lload 6, 2) := by decide +kernel
theorem dX7_common_8 : decode cX7_common 8 = .ok (.lconst 0, 1) := by decide +kernel
theorem dX7_common_9 : decode cX7_common 9 = .ok (.lcmp, 1) := by decide +kernel
theorem dX7_common_10 : decode cX7_common 10 = .ok (.ifCond .eq 21, 3) := by decide +kernel
theorem dX7_common_13 : decode cX7_common 13 = .ok (.lload 4, 2) := by decide +kernel
theorem dX7_common_15 : decode cX7_common 15 = .ok (.lload 6, 2) := by decide +kernel
theorem dX7_common_17 : decode cX7_common 17 = .ok (.lrem, 1) := by decide +kernel
theorem dX7_common_18 : decode cX7_common 18 = .ok (.lstore 8, 2) := by decide +kernel
theorem dX7_common_20 : decode cX7_common 20 = .ok (.lload 6, 2) := by decide +kernel
theorem dX7_common_22 : decode cX7_common 22 = .ok (.lstore 4, 2) := by decide +kernel
theorem dX7_common_24 : decode cX7_common 24 = .ok (.lload 8, 2) := by decide +kernel
theorem dX7_common_26 : decode cX7_common 26 = .ok (.lstore 6, 2) := by decide +kernel
theorem dX7_common_28 : decode cX7_common 28 = .ok (.goto (-22), 3) := by decide +kernel
theorem dX7_common_31 : decode cX7_common 31 = .ok (.lload 4, 2) := by decide +kernel
theorem dX7_common_33 : decode cX7_common 33 = .ok (.lreturn, 1) := by decide +kernel
theorem dX7_tuesday_0 : decode cX7_tuesday 0 = .ok (.aload_n 0, 1) := by decide +kernel
theorem dX7_tuesday_1 : decode cX7_tuesday 1 = .ok (.iload_n 1, 1) := by decide +kernel
theorem dX7_tuesday_2 : decode cX7_tuesday 2 = .ok (.invokevirtual 202, 3) := by decide +kernel
theorem dX7_tuesday_5 : decode cX7_tuesday 5 = .ok (.ifCond .eq 33, 3) := by decide +kernel
theorem dX7_tuesday_8 : decode cX7_tuesday 8 = .ok (.iload_n 2, 1) := by decide +kernel
theorem dX7_tuesday_9 : decode cX7_tuesday 9 = .ok (.i2l, 1) := by decide +kernel
theorem dX7_tuesday_10 : decode cX7_tuesday 10 = .ok (.lconst 0, 1) := by decide +kernel
theorem dX7_tuesday_11 : decode cX7_tuesday 11 = .ok (.ldc2_w 224, 3) := by decide +kernel
theorem dX7_tuesday_14 : decode cX7_tuesday 14 = .ok (.invokestatic 60, 3) := by decide +kernel
theorem dX7_tuesday_17 : decode cX7_tuesday 17 = .ok (.ifCond .eq 21, 3) := by decide +kernel
theorem dX7_tuesday_20 : decode cX7_tuesday 20 = .ok (.iload_n 3, 1) := by decide +kernel
theorem dX7_tuesday_21 : decode cX7_tuesday 21 = .ok (.invokestatic 216, 3) := by decide +kernel
theorem dX7_tuesday_24 : decode cX7_tuesday 24 = .ok (.ifCond .eq 14, 3) := by decide +kernel
theorem dX7_tuesday_27 : decode cX7_tuesday 27 = .ok (.iload 4, 2) := by decide +kernel
theorem dX7_tuesday_29 : decode cX7_tuesday 29 = .ok (.i2l, 1) := by decide +kernel
theorem dX7_tuesday_30 : decode cX7_tuesday 30 = .ok (.lconst 0, 1) := by decide +kernel
theorem dX7_tuesday_31 : decode cX7_tuesday 31 = .ok (.lconst 1, 1) := by decide +kernel
theorem dX7_tuesday_32 : decode cX7_tuesday 32 = .ok (.invokestatic 60, 3) := by decide +kernel
theorem dX7_tuesday_35 : decode cX7_tuesday 35 = .ok (.ifCond .ne 6, 3) := by decide +kernel
theorem dX7_tuesday_38 : decode cX7_tuesday 38 = .ok (.ldc 70, 2) := by decide +kernel
theorem dX7_tuesday_40 : decode cX7_tuesday 40 = .ok (.ireturn, 1) := by decide +kernel
theorem dX7_tuesday_41 : decode cX7_tuesday 41 = .ok (.aload_n 0, 1) := by decide +kernel
theorem dX7_tuesday_42 : decode cX7_tuesday 42 = .ok (.iload_n 1, 1) := by decide +kernel
theorem dX7_tuesday_43 : decode cX7_tuesday 43 = .ok (.invokevirtual 177, 3) := by decide +kernel
theorem dX7_tuesday_46 : decode cX7_tuesday 46 = .ok (.ifCond .ne 6, 3) := by decide +kernel
theorem dX7_tuesday_49 : decode cX7_tuesday 49 = .ok (.ldc 193, 2) := by decide +kernel
theorem dX7_tuesday_51 : decode cX7_tuesday 51 = .ok (.ireturn, 1) := by decide +kernel
theorem dX7_tuesday_52 : decode cX7_tuesday 52 = .ok (.iconst 0, 1) := by decide +kernel
theorem dX7_tuesday_53 : decode cX7_tuesday 53 = .ok (.istore 5, 2) := by decide +kernel
theorem dX7_tuesday_55 : decode cX7_tuesday 55 = .ok (.iconst 0, 1) := by decide +kernel
theorem dX7_tuesday_56 : decode cX7_tuesday 56 = .ok (.istore 6, 2) := by decide +kernel
theorem dX7_tuesday_58 : decode cX7_tuesday 58 = .ok (.iload 6, 2) := by decide +kernel
theorem dX7_tuesday_60 : decode cX7_tuesday 60 = .ok (.bipush 6, 2) := by decide +kernel
theorem dX7_tuesday_62 : decode cX7_tuesday 62 = .ok (.if_icmp .ge 90, 3) := by decide +kernel
theorem dX7_tuesday_65 : decode cX7_tuesday 65 = .ok (.aload_n 0, 1) := by decide +kernel
theorem dX7_tuesday_66 : decode cX7_tuesday 66 = .ok (.getfield 19, 3) := by decide +kernel
theorem dX7_tuesday_69 : decode cX7_tuesday 69 = .ok (.bipush 56, 2) := by decide +kernel
theorem dX7_tuesday_71 : decode cX7_tuesday 71 = .ok (.iload_n 1, 1) := by decide +kernel
theorem dX7_tuesday_72 : decode cX7_tuesday 72 = .ok (.iadd, 1) := by decide +kernel
theorem dX7_tuesday_73 : decode cX7_tuesday 73 = .ok (.iaload, 1) := by decide +kernel
theorem dX7_tuesday_74 : decode cX7_tuesday 74 = .ok (.istore 7, 2) := by decide +kernel
theorem dX7_tuesday_76 : decode cX7_tuesday 76 = .ok (.iconst 0, 1) := by decide +kernel
theorem dX7_tuesday_77 : decode cX7_tuesday 77 = .ok (.istore 8, 2) := by decide +kernel
theorem dX7_tuesday_79 : decode cX7_tuesday 79 = .ok (.iload 8, 2) := by decide +kernel
theorem dX7_tuesday_81 : decode cX7_tuesday 81 = .ok (.iload_n 2, 1) := by decide +kernel
theorem dX7_tuesday_82 : decode cX7_tuesday 82 = .ok (.if_icmp .ge 48, 3) := by decide +kernel
theorem dX7_tuesday_85 : decode cX7_tuesday 85 = .ok (.aload_n 0, 1) := by decide +kernel
theorem dX7_tuesday_86 : decode cX7_tuesday 86 = .ok (.aload_n 0, 1) := by decide +kernel
theorem dX7_tuesday_87 : decode cX7_tuesday 87 = .ok (.getfield 19, 3) := by decide +kernel
theorem dX7_tuesday_90 : decode cX7_tuesday 90 = .ok (.bipush 51, 2) := by decide +kernel
theorem dX7_tuesday_92 : decode cX7_tuesday 92 = .ok (.iload_n 1, 1) := by decide +kernel
theorem dX7_tuesday_93 : decode cX7_tuesday 93 = .ok (.iadd, 1) := by decide +kernel
theorem dX7_tuesday_94 : decode cX7_tuesday 94 = .ok (.iaload, 1) := by decide +kernel
theorem dX7_tuesday_95 : decode cX7_tuesday 95 = .ok (.iload 7, 2) := by decide +kernel
theorem dX7_tuesday_97 : decode cX7_tuesday 97 = .ok (.aload_n 0, 1) := by decide +kernel
theorem dX7_tuesday_98 : decode cX7_tuesday 98 = .ok (.getfield 19, 3) := by decide +kernel
theorem dX7_tuesday_101 : decode cX7_tuesday 101 = .ok (.bipush 61, 2) := by decide +kernel
theorem dX7_tuesday_103 : decode cX7_tuesday 103 = .ok (.iload_n 1, 1) := by decide +kernel
theorem dX7_tuesday_104 : decode cX7_tuesday 104 = .ok (.iadd, 1) := by decide +kernel
theorem dX7_tuesday_105 : decode cX7_tuesday 105 = .ok (.iaload, 1) := by decide +kernel
theorem dX7_tuesday_106 : decode cX7_tuesday 106 = .ok (.aload_n 0, 1) := by decide +kernel
theorem dX7_tuesday_107 : decode cX7_tuesday 107 = .ok (.getfield 19, 3) := by decide +kernel
theorem dX7_tuesday_110 : decode cX7_tuesday 110 = .ok (.bipush 46, 2) := by decide +kernel
theorem dX7_tuesday_112 : decode cX7_tuesday 112 = .ok (.iaload, 1) := by decide +kernel
theorem dX7_tuesday_113 : decode cX7_tuesday 113 = .ok (.iload 6, 2) := by decide +kernel
theorem dX7_tuesday_115 : decode cX7_tuesday 115 = .ok (.iadd, 1) := by decide +kernel
theorem dX7_tuesday_116 : decode cX7_tuesday 116 = .ok (.iload 8, 2) := by decide +kernel
theorem dX7_tuesday_118 : decode cX7_tuesday 118 = .ok (.iadd, 1) := by decide +kernel
theorem dX7_tuesday_119 : decode cX7_tuesday 119 = .ok (.invokevirtual 167, 3) := by decide +kernel
theorem dX7_tuesday_122 : decode cX7_tuesday 122 = .ok (.istore 7, 2) := by decide +kernel
theorem dX7_tuesday_124 : decode cX7_tuesday 124 = .ok (.iinc 8 1, 3) := by decide +kernel
theorem dX7_tuesday_127 : decode cX7_tuesday 127 = .ok (.goto (-48), 3) := by decide +kernel
theorem dX7_tuesday_130 : decode cX7_tuesday 130 = .ok (.iload 5, 2) := by decide +kernel
theorem dX7_tuesday_132 : decode cX7_tuesday 132 = .ok (.iload 7, 2) := by decide +kernel
theorem dX7_tuesday_134 : decode cX7_tuesday 134 = .ok (.iload_n 3, 1) := by decide +kernel
theorem dX7_tuesday_135 : decode cX7_tuesday 135 = .ok (.if_icmp .ne 7, 3) := by decide +kernel
theorem dX7_tuesday_138 : decode cX7_tuesday 138 = .ok (.iconst 1, 1) := by decide +kernel
theorem dX7_tuesday_139 : decode cX7_tuesday 139 = .ok (.goto 4, 3) := by decide +kernel
theorem dX7_tuesday_142 : decode cX7_tuesday 142 = .ok (.iconst 0, 1) := by decide +kernel
theorem dX7_tuesday_143 : decode cX7_tuesday 143 = .ok (.iadd, 1) := by decide +kernel
theorem dX7_tuesday_144 : decode cX7_tuesday 144 = .ok (.istore 5, 2) := by decide +kernel
theorem dX7_tuesday_146 : decode cX7_tuesday 146 = .ok (.iinc 6 1, 3) := by decide +kernel
theorem dX7_tuesday_149 : decode cX7_tuesday 149 = .ok (.goto (-91), 3) := by decide +kernel
theorem dX7_tuesday_152 : decode cX7_tuesday 152 = .ok (.iload 5, 2) := by decide +kernel
theorem dX7_tuesday_154 : decode cX7_tuesday 154 = .ok (.i2l, 1) := by decide +kernel
theorem dX7_tuesday_155 : decode cX7_tuesday 155 = .ok (.ldc2_w 253, 3) := by decide +kernel
theorem dX7_tuesday_158 : decode cX7_tuesday 158 = .ok (.invokestatic 255, 3) := by decide +kernel
theorem dX7_tuesday_161 : decode cX7_tuesday 161 = .ok (.l2i, 1) := by decide +kernel
theorem dX7_tuesday_162 : decode cX7_tuesday 162 = .ok (.istore 6, 2) := by decide +kernel
theorem dX7_tuesday_164 : decode cX7_tuesday 164 = .ok (.iload 4, 2) := by decide +kernel
theorem dX7_tuesday_166 : decode cX7_tuesday 166 = .ok (.ifCond .ne 11, 3) := by decide +kernel
theorem dX7_tuesday_169 : decode cX7_tuesday 169 = .ok (.iload 5, 2) := by decide +kernel
theorem dX7_tuesday_171 : decode cX7_tuesday 171 = .ok (.iload 6, 2) := by decide +kernel
theorem dX7_tuesday_173 : decode cX7_tuesday 173 = .ok (.idiv, 1) := by decide +kernel
theorem dX7_tuesday_174 : decode cX7_tuesday 174 = .ok (.goto 8, 3) := by decide +kernel
theorem dX7_tuesday_177 : decode cX7_tuesday 177 = .ok (.bipush 6, 2) := by decide +kernel
theorem dX7_tuesday_179 : decode cX7_tuesday 179 = .ok (.iload 6, 2) := by decide +kernel
theorem dX7_tuesday_181 : decode cX7_tuesday 181 = .ok (.idiv, 1) := by decide +kernel
theorem dX7_tuesday_182 : decode cX7_tuesday 182 = .ok (.ireturn, 1) := by decide +kernel
theorem dX7_findGuards_0 : decode cX7_findGuards 0 = .ok (.aload_n 0, 1) := by decide +kernel
theorem dX7_findGuards_1 : decode cX7_findGuards 1 = .ok (.iload_n 1, 1) := by decide +kernel
theorem dX7_findGuards_2 : decode cX7_findGuards 2 = .ok (.iload_n 2, 1) := by decide +kernel
theorem dX7_findGuards_3 : decode cX7_findGuards 3 = .ok (.iconst 5, 1) := by decide +kernel
theorem dX7_findGuards_4 : decode cX7_findGuards 4 = .ok (.invokevirtual 245, 3) := by decide +kernel
theorem dX7_findGuards_7 : decode cX7_findGuards 7 = .ok (.istore_n 3, 1) := by decide +kernel
theorem dX7_findGuards_8 : decode cX7_findGuards 8 = .ok (.iload_n 3, 1) := by decide +kernel
theorem dX7_findGuards_9 : decode cX7_findGuards 9 = .ok (.ifCond .ge 5, 3) := by decide +kernel
theorem dX7_findGuards_12 : decode cX7_findGuards 12 = .ok (.iload_n 3, 1) := by decide +kernel
theorem dX7_findGuards_13 : decode cX7_findGuards 13 = .ok (.ireturn, 1) := by decide +kernel
theorem dX7_findGuards_14 : decode cX7_findGuards 14 = .ok (.bipush 40, 2) := by decide +kernel
theorem dX7_findGuards_16 : decode cX7_findGuards 16 = .ok (.iload_n 1, 1) := by decide +kernel
theorem dX7_findGuards_17 : decode cX7_findGuards 17 = .ok (.imul, 1) := by decide +kernel
theorem dX7_findGuards_18 : decode cX7_findGuards 18 = .ok (.iload_n 2, 1) := by decide +kernel
theorem dX7_findGuards_19 : decode cX7_findGuards 19 = .ok (.iadd, 1) := by decide +kernel
theorem dX7_findGuards_20 : decode cX7_findGuards 20 = .ok (.istore 4, 2) := by decide +kernel
theorem dX7_findGuards_22 : decode cX7_findGuards 22 = .ok (.iconst 0, 1) := by decide +kernel
theorem dX7_findGuards_23 : decode cX7_findGuards 23 = .ok (.istore 5, 2) := by decide +kernel
theorem dX7_findGuards_25 : decode cX7_findGuards 25 = .ok (.iload 5, 2) := by decide +kernel
theorem dX7_findGuards_27 : decode cX7_findGuards 27 = .ok (.iconst 5, 1) := by decide +kernel
theorem dX7_findGuards_28 : decode cX7_findGuards 28 = .ok (.if_icmp .ge 33, 3) := by decide +kernel
theorem dX7_findGuards_31 : decode cX7_findGuards 31 = .ok (.aload_n 0, 1) := by decide +kernel
theorem dX7_findGuards_32 : decode cX7_findGuards 32 = .ok (.getfield 16, 3) := by decide +kernel
theorem dX7_findGuards_35 : decode cX7_findGuards 35 = .ok (.iload 4, 2) := by decide +kernel
theorem dX7_findGuards_37 : decode cX7_findGuards 37 = .ok (.iload 5, 2) := by decide +kernel
theorem dX7_findGuards_39 : decode cX7_findGuards 39 = .ok (.iadd, 1) := by decide +kernel
theorem dX7_findGuards_40 : decode cX7_findGuards 40 = .ok (.iaload, 1) := by decide +kernel
theorem dX7_findGuards_41 : decode cX7_findGuards 41 = .ok (.i2l, 1) := by decide +kernel
theorem dX7_findGuards_42 : decode cX7_findGuards 42 = .ok (.lconst 1, 1) := by decide +kernel
theorem dX7_findGuards_43 : decode cX7_findGuards 43 = .ok (.ldc2_w 259, 3) := by decide +kernel
theorem dX7_findGuards_46 : decode cX7_findGuards 46 = .ok (.invokestatic 60, 3) := by decide +kernel
theorem dX7_findGuards_49 : decode cX7_findGuards 49 = .ok (.ifCond .ne 6, 3) := by decide +kernel
theorem dX7_findGuards_52 : decode cX7_findGuards 52 = .ok (.ldc 70, 2) := by decide +kernel
theorem dX7_findGuards_54 : decode cX7_findGuards 54 = .ok (.ireturn, 1) := by decide +kernel
theorem dX7_findGuards_55 : decode cX7_findGuards 55 = .ok (.iinc 5 1, 3) := by decide +kernel
theorem dX7_findGuards_58 : decode cX7_findGuards 58 = .ok (.goto (-33), 3) := by decide +kernel
theorem dX7_findGuards_61 : decode cX7_findGuards 61 = .ok (.aload_n 0, 1) := by decide +kernel
theorem dX7_findGuards_62 : decode cX7_findGuards 62 = .ok (.iconst 0, 1) := by decide +kernel
theorem dX7_findGuards_63 : decode cX7_findGuards 63 = .ok (.putfield 261, 3) := by decide +kernel
theorem dX7_findGuards_66 : decode cX7_findGuards 66 = .ok (.aload_n 0, 1) := by decide +kernel
theorem dX7_findGuards_67 : decode cX7_findGuards 67 = .ok (.ldc2_w 264, 3) := by decide +kernel
theorem dX7_findGuards_70 : decode cX7_findGuards 70 = .ok (.putfield 266, 3) := by decide +kernel
theorem dX7_findGuards_73 : decode cX7_findGuards 73 = .ok (.aload_n 0, 1) := by decide +kernel
theorem dX7_findGuards_74 : decode cX7_findGuards 74 = .ok (.lconst 1, 1) := by decide +kernel
theorem dX7_findGuards_75 : decode cX7_findGuards 75 = .ok (.putfield 270, 3) := by decide +kernel
theorem dX7_findGuards_78 : decode cX7_findGuards 78 = .ok (.iconst 1, 1) := by decide +kernel
theorem dX7_findGuards_79 : decode cX7_findGuards 79 = .ok (.istore 5, 2) := by decide +kernel
theorem dX7_findGuards_81 : decode cX7_findGuards 81 = .ok (.iload 5, 2) := by decide +kernel
theorem dX7_findGuards_83 : decode cX7_findGuards 83 = .ok (.bipush 32, 2) := by decide +kernel
theorem dX7_findGuards_85 : decode cX7_findGuards 85 = .ok (.if_icmp .ge 128, 3) := by decide +kernel
theorem dX7_findGuards_88 : decode cX7_findGuards 88 = .ok (.lconst 1, 1) := by decide +kernel
theorem dX7_findGuards_89 : decode cX7_findGuards 89 = .ok (.lstore 6, 2) := by decide +kernel
theorem dX7_findGuards_91 : decode cX7_findGuards 91 = .ok (.lconst 0, 1) := by decide +kernel
theorem dX7_findGuards_92 : decode cX7_findGuards 92 = .ok (.lstore 8, 2) := by decide +kernel
theorem dX7_findGuards_94 : decode cX7_findGuards 94 = .ok (.iconst 0, 1) := by decide +kernel
theorem dX7_findGuards_95 : decode cX7_findGuards 95 = .ok (.istore 10, 2) := by decide +kernel
theorem dX7_findGuards_97 : decode cX7_findGuards 97 = .ok (.iconst 0, 1) := by decide +kernel
theorem dX7_findGuards_98 : decode cX7_findGuards 98 = .ok (.istore 11, 2) := by decide +kernel
theorem dX7_findGuards_100 : decode cX7_findGuards 100 = .ok (.iload 11, 2) := by decide +kernel
theorem dX7_findGuards_102 : decode cX7_findGuards 102 = .ok (.iconst 5, 1) := by decide +kernel
theorem dX7_findGuards_103 : decode cX7_findGuards 103 = .ok (.if_icmp .ge 58, 3) := by decide +kernel
theorem dX7_findGuards_106 : decode cX7_findGuards 106 = .ok (.iload 5, 2) := by decide +kernel
theorem dX7_findGuards_108 : decode cX7_findGuards 108 = .ok (.iload 11, 2) := by decide +kernel
theorem dX7_findGuards_110 : decode cX7_findGuards 110 = .ok (.ishr, 1) := by decide +kernel
theorem dX7_findGuards_111 : decode cX7_findGuards 111 = .ok (.iconst 1, 1) := by decide +kernel
theorem dX7_findGuards_112 : decode cX7_findGuards 112 = .ok (.iand, 1) := by decide +kernel
theorem dX7_findGuards_113 : decode cX7_findGuards 113 = .ok (.iconst 1, 1) := by decide +kernel
theorem dX7_findGuards_114 : decode cX7_findGuards 114 = .ok (.if_icmp .ne 41, 3) := by decide +kernel
theorem dX7_findGuards_117 : decode cX7_findGuards 117 = .ok (.lload 8, 2) := by decide +kernel
theorem dX7_findGuards_119 : decode cX7_findGuards 119 = .ok (.aload_n 0, 1) := by decide +kernel
theorem dX7_findGuards_120 : decode cX7_findGuards 120 = .ok (.getfield 16, 3) := by decide +kernel
theorem dX7_findGuards_123 : decode cX7_findGuards 123 = .ok (.iload 4, 2) := by decide +kernel
theorem dX7_findGuards_125 : decode cX7_findGuards 125 = .ok (.iload 11, 2) := by decide +kernel
theorem dX7_findGuards_127 : decode cX7_findGuards 127 = .ok (.iadd, 1) := by decide +kernel
theorem dX7_findGuards_128 : decode cX7_findGuards 128 = .ok (.iaload, 1) := by decide +kernel
theorem dX7_findGuards_129 : decode cX7_findGuards 129 = .ok (.i2l, 1) := by decide +kernel
theorem dX7_findGuards_130 : decode cX7_findGuards 130 = .ok (.lmul, 1) := by decide +kernel
theorem dX7_findGuards_131 : decode cX7_findGuards 131 = .ok (.lload 6, 2) := by decide +kernel
theorem dX7_findGuards_133 : decode cX7_findGuards 133 = .ok (.ladd, 1) := by decide +kernel
theorem dX7_findGuards_134 : decode cX7_findGuards 134 = .ok (.lstore 8, 2) := by decide +kernel
theorem dX7_findGuards_136 : decode cX7_findGuards 136 = .ok (.lload 6, 2) := by decide +kernel
theorem dX7_findGuards_138 : decode cX7_findGuards 138 = .ok (.aload_n 0, 1) := by decide +kernel
theorem dX7_findGuards_139 : decode cX7_findGuards 139 = .ok (.getfield 16, 3) := by decide +kernel
theorem dX7_findGuards_142 : decode cX7_findGuards 142 = .ok (.iload 4, 2) := by decide +kernel
theorem dX7_findGuards_144 : decode cX7_findGuards 144 = .ok (.iload 11, 2) := by decide +kernel
theorem dX7_findGuards_146 : decode cX7_findGuards 146 = .ok (.iadd, 1) := by decide +kernel
theorem dX7_findGuards_147 : decode cX7_findGuards 147 = .ok (.iaload, 1) := by decide +kernel
theorem dX7_findGuards_148 : decode cX7_findGuards 148 = .ok (.i2l, 1) := by decide +kernel
theorem dX7_findGuards_149 : decode cX7_findGuards 149 = .ok (.lmul, 1) := by decide +kernel
theorem dX7_findGuards_150 : decode cX7_findGuards 150 = .ok (.lstore 6, 2) := by decide +kernel
theorem dX7_findGuards_152 : decode cX7_findGuards 152 = .ok (.iinc 10 1, 3) := by decide +kernel
theorem dX7_findGuards_155 : decode cX7_findGuards 155 = .ok (.iinc 11 1, 3) := by decide +kernel
theorem dX7_findGuards_158 : decode cX7_findGuards 158 = .ok (.goto (-58), 3) := by decide +kernel
theorem dX7_findGuards_161 : decode cX7_findGuards 161 = .ok (.iload 10, 2) := by decide +kernel
theorem dX7_findGuards_163 : decode cX7_findGuards 163 = .ok (.iconst 1, 1) := by decide +kernel
theorem dX7_findGuards_164 : decode cX7_findGuards 164 = .ok (.isub, 1) := by decide +kernel
theorem dX7_findGuards_165 : decode cX7_findGuards 165 = .ok (.i2l, 1) := by decide +kernel
theorem dX7_findGuards_166 : decode cX7_findGuards 166 = .ok (.lload 6, 2) := by decide +kernel
theorem dX7_findGuards_168 : decode cX7_findGuards 168 = .ok (.lmul, 1) := by decide +kernel
theorem dX7_findGuards_169 : decode cX7_findGuards 169 = .ok (.lstore 11, 2) := by decide +kernel
theorem dX7_findGuards_171 : decode cX7_findGuards 171 = .ok (.lload 11, 2) := by decide +kernel
theorem dX7_findGuards_173 : decode cX7_findGuards 173 = .ok (.aload_n 0, 1) := by decide +kernel
theorem dX7_findGuards_174 : decode cX7_findGuards 174 = .ok (.getfield 270, 3) := by decide +kernel
theorem dX7_findGuards_177 : decode cX7_findGuards 177 = .ok (.lmul, 1) := by decide +kernel
theorem dX7_findGuards_178 : decode cX7_findGuards 178 = .ok (.aload_n 0, 1) := by decide +kernel
theorem dX7_findGuards_179 : decode cX7_findGuards 179 = .ok (.getfield 266, 3) := by decide +kernel
theorem dX7_findGuards_182 : decode cX7_findGuards 182 = .ok (.lload 8, 2) := by decide +kernel
theorem dX7_findGuards_184 : decode cX7_findGuards 184 = .ok (.lmul, 1) := by decide +kernel
theorem dX7_findGuards_185 : decode cX7_findGuards 185 = .ok (.lcmp, 1) := by decide +kernel
theorem dX7_findGuards_186 : decode cX7_findGuards 186 = .ok (.ifCond .le 21, 3) := by decide +kernel
theorem dX7_findGuards_189 : decode cX7_findGuards 189 = .ok (.aload_n 0, 1) := by decide +kernel
theorem dX7_findGuards_190 : decode cX7_findGuards 190 = .ok (.iload 5, 2) := by decide +kernel
theorem dX7_findGuards_192 : decode cX7_findGuards 192 = .ok (.putfield 261, 3) := by decide +kernel
theorem dX7_findGuards_195 : decode cX7_findGuards 195 = .ok (.aload_n 0, 1) := by decide +kernel
theorem dX7_findGuards_196 : decode cX7_findGuards 196 = .ok (.lload 11, 2) := by decide +kernel
theorem dX7_findGuards_198 : decode cX7_findGuards 198 = .ok (.putfield 266, 3) := by decide +kernel
theorem dX7_findGuards_201 : decode cX7_findGuards 201 = .ok (.aload_n 0, 1) := by decide +kernel
theorem dX7_findGuards_202 : decode cX7_findGuards 202 = .ok (.lload 8, 2) := by decide +kernel
theorem dX7_findGuards_204 : decode cX7_findGuards 204 = .ok (.putfield 270, 3) := by decide +kernel
theorem dX7_findGuards_207 : decode cX7_findGuards 207 = .ok (.iinc 5 1, 3) := by decide +kernel
theorem dX7_findGuards_210 : decode cX7_findGuards 210 = .ok (.goto (-129), 3) := by decide +kernel
theorem dX7_findGuards_213 : decode cX7_findGuards 213 = .ok (.aload_n 0, 1) := by decide +kernel
theorem dX7_findGuards_214 : decode cX7_findGuards 214 = .ok (.getfield 266, 3) := by decide +kernel
theorem dX7_findGuards_217 : decode cX7_findGuards 217 = .ok (.aload_n 0, 1) := by decide +kernel
theorem dX7_findGuards_218 : decode cX7_findGuards 218 = .ok (.getfield 270, 3) := by decide +kernel
theorem dX7_findGuards_221 : decode cX7_findGuards 221 = .ok (.invokestatic 255, 3) := by decide +kernel
theorem dX7_findGuards_224 : decode cX7_findGuards 224 = .ok (.lstore 5, 2) := by decide +kernel
theorem dX7_findGuards_226 : decode cX7_findGuards 226 = .ok (.aload_n 0, 1) := by decide +kernel
theorem dX7_findGuards_227 : decode cX7_findGuards 227 = .ok (.dup, 1) := by decide +kernel
theorem dX7_findGuards_228 : decode cX7_findGuards 228 = .ok (.getfield 266, 3) := by decide +kernel
theorem dX7_findGuards_231 : decode cX7_findGuards 231 = .ok (.lload 5, 2) := by decide +kernel
theorem dX7_findGuards_233 : decode cX7_findGuards 233 = .ok (.ldiv, 1) := by decide +kernel
theorem dX7_findGuards_234 : decode cX7_findGuards 234 = .ok (.putfield 266, 3) := by decide +kernel
theorem dX7_findGuards_237 : decode cX7_findGuards 237 = .ok (.aload_n 0, 1) := by decide +kernel
theorem dX7_findGuards_238 : decode cX7_findGuards 238 = .ok (.dup, 1) := by decide +kernel
theorem dX7_findGuards_239 : decode cX7_findGuards 239 = .ok (.getfield 270, 3) := by decide +kernel
theorem dX7_findGuards_242 : decode cX7_findGuards 242 = .ok (.lload 5, 2) := by decide +kernel
theorem dX7_findGuards_244 : decode cX7_findGuards 244 = .ok (.ldiv, 1) := by decide +kernel
theorem dX7_findGuards_245 : decode cX7_findGuards 245 = .ok (.putfield 270, 3) := by decide +kernel
theorem dX7_findGuards_248 : decode cX7_findGuards 248 = .ok (.iconst 0, 1) := by decide +kernel
theorem dX7_findGuards_249 : decode cX7_findGuards 249 = .ok (.ireturn, 1) := by decide +kernel
theorem dX7_guards_0 : decode cX7_guards 0 = .ok (.iload_n 1, 1) := by decide +kernel
theorem dX7_guards_1 : decode cX7_guards 1 = .ok (.invokestatic 64, 3) := by decide +kernel
theorem dX7_guards_4 : decode cX7_guards 4 = .ok (.ifCond .ne 6, 3) := by decide +kernel
theorem dX7_guards_7 : decode cX7_guards 7 = .ok (.ldc 70, 2) := by decide +kernel
theorem dX7_guards_9 : decode cX7_guards 9 = .ok (.ireturn, 1) := by decide +kernel
theorem dX7_guards_10 : decode cX7_guards 10 = .ok (.aload_n 0, 1) := by decide +kernel
theorem dX7_guards_11 : decode cX7_guards 11 = .ok (.iload_n 1, 1) := by decide +kernel
theorem dX7_guards_12 : decode cX7_guards 12 = .ok (.iload_n 2, 1) := by decide +kernel
theorem dX7_guards_13 : decode cX7_guards 13 = .ok (.invokevirtual 273, 3) := by decide +kernel
theorem dX7_guards_16 : decode cX7_guards 16 = .ok (.istore_n 3, 1) := by decide +kernel
theorem dX7_guards_17 : decode cX7_guards 17 = .ok (.iload_n 3, 1) := by decide +kernel
theorem dX7_guards_18 : decode cX7_guards 18 = .ok (.ifCond .ge 7, 3) := by decide +kernel
theorem dX7_guards_21 : decode cX7_guards 21 = .ok (.iload_n 3, 1) := by decide +kernel
theorem dX7_guards_22 : decode cX7_guards 22 = .ok (.goto 11, 3) := by decide +kernel
theorem dX7_guards_25 : decode cX7_guards 25 = .ok (.aload_n 0, 1) := by decide +kernel
theorem dX7_guards_26 : decode cX7_guards 26 = .ok (.aload_n 0, 1) := by decide +kernel
theorem dX7_guards_27 : decode cX7_guards 27 = .ok (.getfield 261, 3) := by decide +kernel
theorem dX7_guards_30 : decode cX7_guards 30 = .ok (.invokevirtual 75, 3) := by decide +kernel
theorem dX7_guards_33 : decode cX7_guards 33 = .ok (.ireturn, 1) := by decide +kernel
theorem dX7_guardsValue_0 : decode cX7_guardsValue 0 = .ok (.iload_n 1, 1) := by decide +kernel
theorem dX7_guardsValue_1 : decode cX7_guardsValue 1 = .ok (.invokestatic 64, 3) := by decide +kernel
theorem dX7_guardsValue_4 : decode cX7_guardsValue 4 = .ok (.ifCond .eq 13, 3) := by decide +kernel
theorem dX7_guardsValue_7 : decode cX7_guardsValue 7 = .ok (.iload_n 3, 1) := by decide +kernel
theorem dX7_guardsValue_8 : decode cX7_guardsValue 8 = .ok (.i2l, 1) := by decide +kernel
theorem dX7_guardsValue_9 : decode cX7_guardsValue 9 = .ok (.lconst 0, 1) := by decide +kernel
theorem dX7_guardsValue_10 : decode cX7_guardsValue 10 = .ok (.lconst 1, 1) := by decide +kernel
theorem dX7_guardsValue_11 : decode cX7_guardsValue 11 = .ok (.invokestatic 60, 3) := by decide +kernel
theorem dX7_guardsValue_14 : decode cX7_guardsValue 14 = .ok (.ifCond .ne 7, 3) := by decide +kernel
theorem dX7_guardsValue_17 : decode cX7_guardsValue 17 = .ok (.ldc2_w 276, 3) := by decide +kernel
theorem dX7_guardsValue_20 : decode cX7_guardsValue 20 = .ok (.lreturn, 1) := by decide +kernel
theorem dX7_guardsValue_21 : decode cX7_guardsValue 21 = .ok (.aload_n 0, 1) := by decide +kernel
theorem dX7_guardsValue_22 : decode cX7_guardsValue 22 = .ok (.iload_n 1, 1) := by decide +kernel
theorem dX7_guardsValue_23 : decode cX7_guardsValue 23 = .ok (.iload_n 2, 1) := by decide +kernel
theorem dX7_guardsValue_24 : decode cX7_guardsValue 24 = .ok (.invokevirtual 273, 3) := by decide +kernel
theorem dX7_guardsValue_27 : decode cX7_guardsValue 27 = .ok (.istore 4, 2) := by decide +kernel
theorem dX7_guardsValue_29 : decode cX7_guardsValue 29 = .ok (.iload 4, 2) := by decide +kernel
theorem dX7_guardsValue_31 : decode cX7_guardsValue 31 = .ok (.ifCond .ge 7, 3) := by decide +kernel
theorem dX7_guardsValue_34 : decode cX7_guardsValue 34 = .ok (.iload 4, 2) := by decide +kernel
theorem dX7_guardsValue_36 : decode cX7_guardsValue 36 = .ok (.i2l, 1) := by decide +kernel
theorem dX7_guardsValue_37 : decode cX7_guardsValue 37 = .ok (.lreturn, 1) := by decide +kernel
theorem dX7_guardsValue_38 : decode cX7_guardsValue 38 = .ok (.aload_n 0, 1) := by decide +kernel
theorem dX7_guardsValue_39 : decode cX7_guardsValue 39 = .ok (.iconst 0, 1) := by decide +kernel
theorem dX7_guardsValue_40 : decode cX7_guardsValue 40 = .ok (.putfield 53, 3) := by decide +kernel
theorem dX7_guardsValue_43 : decode cX7_guardsValue 43 = .ok (.iload_n 3, 1) := by decide +kernel
theorem dX7_guardsValue_44 : decode cX7_guardsValue 44 = .ok (.ifCond .ne 10, 3) := by decide +kernel
theorem dX7_guardsValue_47 : decode cX7_guardsValue 47 = .ok (.aload_n 0, 1) := by decide +kernel
theorem dX7_guardsValue_48 : decode cX7_guardsValue 48 = .ok (.getfield 266, 3) := by decide +kernel
theorem dX7_guardsValue_51 : decode cX7_guardsValue 51 = .ok (.goto 7, 3) := by decide +kernel
theorem dX7_guardsValue_54 : decode cX7_guardsValue 54 = .ok (.aload_n 0, 1) := by decide +kernel
theorem dX7_guardsValue_55 : decode cX7_guardsValue 55 = .ok (.getfield 270, 3) := by decide +kernel
theorem dX7_guardsValue_58 : decode cX7_guardsValue 58 = .ok (.lreturn, 1) := by decide +kernel
theorem dX7_dues_0 : decode cX7_dues 0 = .ok (.aload_n 0, 1) := by decide +kernel
theorem dX7_dues_1 : decode cX7_dues 1 = .ok (.getfield 154, 3) := by decide +kernel
theorem dX7_dues_4 : decode cX7_dues 4 = .ok (.ifCond .ne 6, 3) := by decide +kernel
theorem dX7_dues_7 : decode cX7_dues 7 = .ok (.ldc 193, 2) := by decide +kernel
theorem dX7_dues_9 : decode cX7_dues 9 = .ok (.ireturn, 1) := by decide +kernel
theorem dX7_dues_10 : decode cX7_dues 10 = .ok (.iload_n 1, 1) := by decide +kernel
theorem dX7_dues_11 : decode cX7_dues 11 = .ok (.i2l, 1) := by decide +kernel
theorem dX7_dues_12 : decode cX7_dues 12 = .ok (.lconst 0, 1) := by decide +kernel
theorem dX7_dues_13 : decode cX7_dues 13 = .ok (.ldc2_w 224, 3) := by decide +kernel
theorem dX7_dues_16 : decode cX7_dues 16 = .ok (.invokestatic 60, 3) := by decide +kernel
theorem dX7_dues_19 : decode cX7_dues 19 = .ok (.ifCond .ne 6, 3) := by decide +kernel
theorem dX7_dues_22 : decode cX7_dues 22 = .ok (.ldc 70, 2) := by decide +kernel
theorem dX7_dues_24 : decode cX7_dues 24 = .ok (.ireturn, 1) := by decide +kernel
theorem dX7_dues_25 : decode cX7_dues 25 = .ok (.aload_n 0, 1) := by decide +kernel
theorem dX7_dues_26 : decode cX7_dues 26 = .ok (.invokevirtual 228, 3) := by decide +kernel
theorem dX7_dues_29 : decode cX7_dues 29 = .ok (.aload_n 0, 1) := by decide +kernel
theorem dX7_dues_30 : decode cX7_dues 30 = .ok (.iload_n 1, 1) := by decide +kernel
theorem dX7_dues_31 : decode cX7_dues 31 = .ok (.invokevirtual 231, 3) := by decide +kernel
theorem dX7_dues_34 : decode cX7_dues 34 = .ok (.aload_n 0, 1) := by decide +kernel
theorem dX7_dues_35 : decode cX7_dues 35 = .ok (.getfield 19, 3) := by decide +kernel
theorem dX7_dues_38 : decode cX7_dues 38 = .ok (.bipush 48, 2) := by decide +kernel
theorem dX7_dues_40 : decode cX7_dues 40 = .ok (.iaload, 1) := by decide +kernel
theorem dX7_dues_41 : decode cX7_dues 41 = .ok (.aload_n 0, 1) := by decide +kernel
theorem dX7_dues_42 : decode cX7_dues 42 = .ok (.getfield 34, 3) := by decide +kernel
theorem dX7_dues_45 : decode cX7_dues 45 = .ok (.bipush 48, 2) := by decide +kernel
theorem dX7_dues_47 : decode cX7_dues 47 = .ok (.iaload, 1) := by decide +kernel
theorem dX7_dues_48 : decode cX7_dues 48 = .ok (.isub, 1) := by decide +kernel
theorem dX7_dues_49 : decode cX7_dues 49 = .ok (.istore_n 2, 1) := by decide +kernel
theorem dX7_dues_50 : decode cX7_dues 50 = .ok (.aload_n 0, 1) := by decide +kernel
theorem dX7_dues_51 : decode cX7_dues 51 = .ok (.invokevirtual 234, 3) := by decide +kernel
theorem dX7_dues_54 : decode cX7_dues 54 = .ok (.iload_n 2, 1) := by decide +kernel
theorem dX7_dues_55 : decode cX7_dues 55 = .ok (.ireturn, 1) := by decide +kernel
theorem dX7_image_0 : decode cX7_image 0 = .ok (.iload_n 1, 1) := by decide +kernel
theorem dX7_image_1 : decode cX7_image 1 = .ok (.i2l, 1) := by decide +kernel
theorem dX7_image_2 : decode cX7_image 2 = .ok (.lconst 0, 1) := by decide +kernel
theorem dX7_image_3 : decode cX7_image 3 = .ok (.lconst 1, 1) := by decide +kernel
theorem dX7_image_4 : decode cX7_image 4 = .ok (.invokestatic 60, 3) := by decide +kernel
theorem dX7_image_7 : decode cX7_image 7 = .ok (.ifCond .ne 6, 3) := by decide +kernel
theorem dX7_image_10 : decode cX7_image 10 = .ok (.ldc 70, 2) := by decide +kernel
theorem dX7_image_12 : decode cX7_image 12 = .ok (.ireturn, 1) := by decide +kernel
theorem dX7_image_13 : decode cX7_image 13 = .ok (.aload_n 0, 1) := by decide +kernel
theorem dX7_image_14 : decode cX7_image 14 = .ok (.getfield 154, 3) := by decide +kernel
theorem dX7_image_17 : decode cX7_image 17 = .ok (.ifCond .ne 6, 3) := by decide +kernel
theorem dX7_image_20 : decode cX7_image 20 = .ok (.ldc 193, 2) := by decide +kernel
theorem dX7_image_22 : decode cX7_image 22 = .ok (.ireturn, 1) := by decide +kernel
theorem dX7_image_23 : decode cX7_image 23 = .ok (.iconst 0, 1) := by decide +kernel
theorem dX7_image_24 : decode cX7_image 24 = .ok (.istore_n 2, 1) := by decide +kernel
theorem dX7_image_25 : decode cX7_image 25 = .ok (.iload_n 2, 1) := by decide +kernel
theorem dX7_image_26 : decode cX7_image 26 = .ok (.bipush 82, 2) := by decide +kernel
theorem dX7_image_28 : decode cX7_image 28 = .ok (.if_icmp .ge 26, 3) := by decide +kernel
theorem dX7_image_31 : decode cX7_image 31 = .ok (.aload_n 0, 1) := by decide +kernel
theorem dX7_image_32 : decode cX7_image 32 = .ok (.getfield 47, 3) := by decide +kernel
theorem dX7_image_35 : decode cX7_image 35 = .ok (.bipush 82, 2) := by decide +kernel
theorem dX7_image_37 : decode cX7_image 37 = .ok (.iload_n 1, 1) := by decide +kernel
theorem dX7_image_38 : decode cX7_image 38 = .ok (.imul, 1) := by decide +kernel
theorem dX7_image_39 : decode cX7_image 39 = .ok (.iload_n 2, 1) := by decide +kernel
theorem dX7_image_40 : decode cX7_image 40 = .ok (.iadd, 1) := by decide +kernel
theorem dX7_image_41 : decode cX7_image 41 = .ok (.aload_n 0, 1) := by decide +kernel
theorem dX7_image_42 : decode cX7_image 42 = .ok (.getfield 19, 3) := by decide +kernel
theorem dX7_image_45 : decode cX7_image 45 = .ok (.iload_n 2, 1) := by decide +kernel
theorem dX7_image_46 : decode cX7_image 46 = .ok (.iaload, 1) := by decide +kernel
theorem dX7_image_47 : decode cX7_image 47 = .ok (.iastore, 1) := by decide +kernel
theorem dX7_image_48 : decode cX7_image 48 = .ok (.iinc 2 1, 3) := by decide +kernel
theorem dX7_image_51 : decode cX7_image 51 = .ok (.goto (-26), 3) := by decide +kernel
theorem dX7_image_54 : decode cX7_image 54 = .ok (.aload_n 0, 1) := by decide +kernel
theorem dX7_image_55 : decode cX7_image 55 = .ok (.getfield 44, 3) := by decide +kernel
theorem dX7_image_58 : decode cX7_image 58 = .ok (.iload_n 1, 1) := by decide +kernel
theorem dX7_image_59 : decode cX7_image 59 = .ok (.iconst 1, 1) := by decide +kernel
theorem dX7_image_60 : decode cX7_image 60 = .ok (.bastore, 1) := by decide +kernel
theorem dX7_image_61 : decode cX7_image 61 = .ok (.iconst 1, 1) := by decide +kernel
theorem dX7_image_62 : decode cX7_image 62 = .ok (.ireturn, 1) := by decide +kernel
theorem dX7_restore_0 : decode cX7_restore 0 = .ok (.iload_n 1, 1) := by decide +kernel
theorem dX7_restore_1 : decode cX7_restore 1 = .ok (.i2l, 1) := by decide +kernel
theorem dX7_restore_2 : decode cX7_restore 2 = .ok (.lconst 0, 1) := by decide +kernel
theorem dX7_restore_3 : decode cX7_restore 3 = .ok (.lconst 1, 1) := by decide +kernel
theorem dX7_restore_4 : decode cX7_restore 4 = .ok (.invokestatic 60, 3) := by decide +kernel
theorem dX7_restore_7 : decode cX7_restore 7 = .ok (.ifCond .ne 6, 3) := by decide +kernel
theorem dX7_restore_10 : decode cX7_restore 10 = .ok (.ldc 70, 2) := by decide +kernel
theorem dX7_restore_12 : decode cX7_restore 12 = .ok (.ireturn, 1) := by decide +kernel
theorem dX7_restore_13 : decode cX7_restore 13 = .ok (.aload_n 0, 1) := by decide +kernel
theorem dX7_restore_14 : decode cX7_restore 14 = .ok (.getfield 44, 3) := by decide +kernel
theorem dX7_restore_17 : decode cX7_restore 17 = .ok (.iload_n 1, 1) := by decide +kernel
theorem dX7_restore_18 : decode cX7_restore 18 = .ok (.baload, 1) := by decide +kernel
theorem dX7_restore_19 : decode cX7_restore 19 = .ok (.ifCond .ne 6, 3) := by decide +kernel
theorem dX7_restore_22 : decode cX7_restore 22 = .ok (.ldc 193, 2) := by decide +kernel
theorem dX7_restore_24 : decode cX7_restore 24 = .ok (.ireturn, 1) := by decide +kernel
theorem dX7_restore_25 : decode cX7_restore 25 = .ok (.iconst 0, 1) := by decide +kernel
theorem dX7_restore_26 : decode cX7_restore 26 = .ok (.istore_n 2, 1) := by decide +kernel
theorem dX7_restore_27 : decode cX7_restore 27 = .ok (.iload_n 2, 1) := by decide +kernel
theorem dX7_restore_28 : decode cX7_restore 28 = .ok (.bipush 82, 2) := by decide +kernel
theorem dX7_restore_30 : decode cX7_restore 30 = .ok (.if_icmp .ge 26, 3) := by decide +kernel
theorem dX7_restore_33 : decode cX7_restore 33 = .ok (.aload_n 0, 1) := by decide +kernel
theorem dX7_restore_34 : decode cX7_restore 34 = .ok (.getfield 19, 3) := by decide +kernel
theorem dX7_restore_37 : decode cX7_restore 37 = .ok (.iload_n 2, 1) := by decide +kernel
theorem dX7_restore_38 : decode cX7_restore 38 = .ok (.aload_n 0, 1) := by decide +kernel
theorem dX7_restore_39 : decode cX7_restore 39 = .ok (.getfield 47, 3) := by decide +kernel
theorem dX7_restore_42 : decode cX7_restore 42 = .ok (.bipush 82, 2) := by decide +kernel
theorem dX7_restore_44 : decode cX7_restore 44 = .ok (.iload_n 1, 1) := by decide +kernel
theorem dX7_restore_45 : decode cX7_restore 45 = .ok (.imul, 1) := by decide +kernel
theorem dX7_restore_46 : decode cX7_restore 46 = .ok (.iload_n 2, 1) := by decide +kernel
theorem dX7_restore_47 : decode cX7_restore 47 = .ok (.iadd, 1) := by decide +kernel
theorem dX7_restore_48 : decode cX7_restore 48 = .ok (.iaload, 1) := by decide +kernel
theorem dX7_restore_49 : decode cX7_restore 49 = .ok (.iastore, 1) := by decide +kernel
theorem dX7_restore_50 : decode cX7_restore 50 = .ok (.iinc 2 1, 3) := by decide +kernel
theorem dX7_restore_53 : decode cX7_restore 53 = .ok (.goto (-26), 3) := by decide +kernel
theorem dX7_restore_56 : decode cX7_restore 56 = .ok (.aload_n 0, 1) := by decide +kernel
theorem dX7_restore_57 : decode cX7_restore 57 = .ok (.iconst 0, 1) := by decide +kernel
theorem dX7_restore_58 : decode cX7_restore 58 = .ok (.putfield 158, 3) := by decide +kernel
theorem dX7_restore_61 : decode cX7_restore 61 = .ok (.iconst 1, 1) := by decide +kernel
theorem dX7_restore_62 : decode cX7_restore 62 = .ok (.ireturn, 1) := by decide +kernel
theorem dX7_kind_0 : decode cX7_kind 0 = .ok (.aload_n 0, 1) := by decide +kernel
theorem dX7_kind_1 : decode cX7_kind 1 = .ok (.iload_n 1, 1) := by decide +kernel
theorem dX7_kind_2 : decode cX7_kind 2 = .ok (.invokevirtual 202, 3) := by decide +kernel
theorem dX7_kind_5 : decode cX7_kind 5 = .ok (.ifCond .eq 15, 3) := by decide +kernel
theorem dX7_kind_8 : decode cX7_kind 8 = .ok (.aload_n 0, 1) := by decide +kernel
theorem dX7_kind_9 : decode cX7_kind 9 = .ok (.getfield 19, 3) := by decide +kernel
theorem dX7_kind_12 : decode cX7_kind 12 = .ok (.bipush 51, 2) := by decide +kernel
theorem dX7_kind_14 : decode cX7_kind 14 = .ok (.iload_n 1, 1) := by decide +kernel
theorem dX7_kind_15 : decode cX7_kind 15 = .ok (.iadd, 1) := by decide +kernel
theorem dX7_kind_16 : decode cX7_kind 16 = .ok (.iaload, 1) := by decide +kernel
theorem dX7_kind_17 : decode cX7_kind 17 = .ok (.goto 5, 3) := by decide +kernel
theorem dX7_kind_20 : decode cX7_kind 20 = .ok (.ldc 70, 2) := by decide +kernel
theorem dX7_kind_22 : decode cX7_kind 22 = .ok (.ireturn, 1) := by decide +kernel
theorem dX7_isKind_0 : decode cX7_isKind 0 = .ok (.iload_n 1, 1) := by decide +kernel
theorem dX7_isKind_1 : decode cX7_isKind 1 = .ok (.ifCond .eq 28, 3) := by decide +kernel
theorem dX7_isKind_4 : decode cX7_isKind 4 = .ok (.iload_n 0, 1) := by decide +kernel
theorem dX7_isKind_5 : decode cX7_isKind 5 = .ok (.iload_n 1, 1) := by decide +kernel
theorem dX7_isKind_6 : decode cX7_isKind 6 = .ok (.if_icmp .eq 23, 3) := by decide +kernel
theorem dX7_isKind_9 : decode cX7_isKind 9 = .ok (.iload_n 1, 1) := by decide +kernel
theorem dX7_isKind_10 : decode cX7_isKind 10 = .ok (.iconst 1, 1) := by decide +kernel
theorem dX7_isKind_11 : decode cX7_isKind 11 = .ok (.if_icmp .ne 8, 3) := by decide +kernel
theorem dX7_isKind_14 : decode cX7_isKind 14 = .ok (.iload_n 0, 1) := by decide +kernel
theorem dX7_isKind_15 : decode cX7_isKind 15 = .ok (.iconst 4, 1) := by decide +kernel
theorem dX7_isKind_16 : decode cX7_isKind 16 = .ok (.if_icmp .lt 13, 3) := by decide +kernel
theorem dX7_isKind_19 : decode cX7_isKind 19 = .ok (.iload_n 1, 1) := by decide +kernel
theorem dX7_isKind_20 : decode cX7_isKind 20 = .ok (.iconst 4, 1) := by decide +kernel
theorem dX7_isKind_21 : decode cX7_isKind 21 = .ok (.if_icmp .ne 12, 3) := by decide +kernel
theorem dX7_isKind_24 : decode cX7_isKind 24 = .ok (.iload_n 0, 1) := by decide +kernel
theorem dX7_isKind_25 : decode cX7_isKind 25 = .ok (.iconst 5, 1) := by decide +kernel
theorem dX7_isKind_26 : decode cX7_isKind 26 = .ok (.if_icmp .ne 7, 3) := by decide +kernel
theorem dX7_isKind_29 : decode cX7_isKind 29 = .ok (.iconst 1, 1) := by decide +kernel
theorem dX7_isKind_30 : decode cX7_isKind 30 = .ok (.goto 4, 3) := by decide +kernel
theorem dX7_isKind_33 : decode cX7_isKind 33 = .ok (.iconst 0, 1) := by decide +kernel
theorem dX7_isKind_34 : decode cX7_isKind 34 = .ok (.ireturn, 1) := by decide +kernel
theorem dX7_as_0 : decode cX7_as 0 = .ok (.aload_n 0, 1) := by decide +kernel
theorem dX7_as_1 : decode cX7_as 1 = .ok (.iload_n 1, 1) := by decide +kernel
theorem dX7_as_2 : decode cX7_as 2 = .ok (.invokevirtual 202, 3) := by decide +kernel
theorem dX7_as_5 : decode cX7_as 5 = .ok (.ifCond .eq 15, 3) := by decide +kernel
theorem dX7_as_8 : decode cX7_as 8 = .ok (.iload_n 2, 1) := by decide +kernel
theorem dX7_as_9 : decode cX7_as 9 = .ok (.i2l, 1) := by decide +kernel
theorem dX7_as_10 : decode cX7_as 10 = .ok (.lconst 0, 1) := by decide +kernel
theorem dX7_as_11 : decode cX7_as 11 = .ok (.ldc2_w 222, 3) := by decide +kernel
theorem dX7_as_14 : decode cX7_as 14 = .ok (.invokestatic 60, 3) := by decide +kernel
theorem dX7_as_17 : decode cX7_as 17 = .ok (.ifCond .ne 6, 3) := by decide +kernel
theorem dX7_as_20 : decode cX7_as 20 = .ok (.ldc 70, 2) := by decide +kernel
theorem dX7_as_22 : decode cX7_as 22 = .ok (.ireturn, 1) := by decide +kernel
theorem dX7_as_23 : decode cX7_as 23 = .ok (.aload_n 0, 1) := by decide +kernel
theorem dX7_as_24 : decode cX7_as 24 = .ok (.getfield 19, 3) := by decide +kernel
theorem dX7_as_27 : decode cX7_as 27 = .ok (.bipush 51, 2) := by decide +kernel
theorem dX7_as_29 : decode cX7_as 29 = .ok (.iload_n 1, 1) := by decide +kernel
theorem dX7_as_30 : decode cX7_as 30 = .ok (.iadd, 1) := by decide +kernel
theorem dX7_as_31 : decode cX7_as 31 = .ok (.iaload, 1) := by decide +kernel
theorem dX7_as_32 : decode cX7_as 32 = .ok (.iload_n 2, 1) := by decide +kernel
theorem dX7_as_33 : decode cX7_as 33 = .ok (.invokestatic 278, 3) := by decide +kernel
theorem dX7_as_36 : decode cX7_as 36 = .ok (.ifCond .eq 11, 3) := by decide +kernel
theorem dX7_as_39 : decode cX7_as 39 = .ok (.aload_n 0, 1) := by decide +kernel
theorem dX7_as_40 : decode cX7_as 40 = .ok (.iload_n 1, 1) := by decide +kernel
theorem dX7_as_41 : decode cX7_as 41 = .ok (.invokevirtual 75, 3) := by decide +kernel
theorem dX7_as_44 : decode cX7_as 44 = .ok (.goto 8, 3) := by decide +kernel
theorem dX7_as_47 : decode cX7_as 47 = .ok (.aload_n 0, 1) := by decide +kernel
theorem dX7_as_48 : decode cX7_as 48 = .ok (.iconst 3, 1) := by decide +kernel
theorem dX7_as_49 : decode cX7_as 49 = .ok (.invokevirtual 71, 3) := by decide +kernel
theorem dX7_as_52 : decode cX7_as 52 = .ok (.ireturn, 1) := by decide +kernel
theorem dX7_begin_0 : decode cX7_begin 0 = .ok (.aload_n 0, 1) := by decide +kernel
theorem dX7_begin_1 : decode cX7_begin 1 = .ok (.getfield 281, 3) := by decide +kernel
theorem dX7_begin_4 : decode cX7_begin 4 = .ok (.bipush 16, 2) := by decide +kernel
theorem dX7_begin_6 : decode cX7_begin 6 = .ok (.if_icmp .ge 23, 3) := by decide +kernel
theorem dX7_begin_9 : decode cX7_begin 9 = .ok (.aload_n 0, 1) := by decide +kernel
theorem dX7_begin_10 : decode cX7_begin 10 = .ok (.getfield 50, 3) := by decide +kernel
theorem dX7_begin_13 : decode cX7_begin 13 = .ok (.aload_n 0, 1) := by decide +kernel
theorem dX7_begin_14 : decode cX7_begin 14 = .ok (.getfield 281, 3) := by decide +kernel
theorem dX7_begin_17 : decode cX7_begin 17 = .ok (.iload_n 1, 1) := by decide +kernel
theorem dX7_begin_18 : decode cX7_begin 18 = .ok (.iastore, 1) := by decide +kernel
theorem dX7_begin_19 : decode cX7_begin 19 = .ok (.aload_n 0, 1) := by decide +kernel
theorem dX7_begin_20 : decode cX7_begin 20 = .ok (.dup, 1) := by decide +kernel
theorem dX7_begin_21 : decode cX7_begin 21 = .ok (.getfield 281, 3) := by decide +kernel
theorem dX7_begin_24 : decode cX7_begin 24 = .ok (.iconst 1, 1) := by decide +kernel
theorem dX7_begin_25 : decode cX7_begin 25 = .ok (.iadd, 1) := by decide +kernel
theorem dX7_begin_26 : decode cX7_begin 26 = .ok (.putfield 281, 3) := by decide +kernel
theorem dX7_begin_29 : decode cX7_begin 29 = .ok (.return_, 1) := by decide +kernel
theorem dX7_lent_0 : decode cX7_lent 0 = .ok (.aload_n 0, 1) := by decide +kernel
theorem dX7_lent_1 : decode cX7_lent 1 = .ok (.iload_n 2, 1) := by decide +kernel
theorem dX7_lent_2 : decode cX7_lent 2 = .ok (.invokevirtual 284, 3) := by decide +kernel
theorem dX7_lent_5 : decode cX7_lent 5 = .ok (.iload_n 2, 1) := by decide +kernel
theorem dX7_lent_6 : decode cX7_lent 6 = .ok (.bipush 10, 2) := by decide +kernel
theorem dX7_lent_8 : decode cX7_lent 8 = .ok (.if_icmp .ne 15, 3) := by decide +kernel
theorem dX7_lent_11 : decode cX7_lent 11 = .ok (.aload_n 0, 1) := by decide +kernel
theorem dX7_lent_12 : decode cX7_lent 12 = .ok (.getfield 19, 3) := by decide +kernel
theorem dX7_lent_15 : decode cX7_lent 15 = .ok (.bipush 66, 2) := by decide +kernel
theorem dX7_lent_17 : decode cX7_lent 17 = .ok (.iload_n 1, 1) := by decide +kernel
theorem dX7_lent_18 : decode cX7_lent 18 = .ok (.iadd, 1) := by decide +kernel
theorem dX7_lent_19 : decode cX7_lent 19 = .ok (.iaload, 1) := by decide +kernel
theorem dX7_lent_20 : decode cX7_lent 20 = .ok (.goto 4, 3) := by decide +kernel
theorem dX7_lent_23 : decode cX7_lent 23 = .ok (.iload_n 1, 1) := by decide +kernel
theorem dX7_lent_24 : decode cX7_lent 24 = .ok (.ireturn, 1) := by decide +kernel
theorem dX7_whiteMark_0 : decode cX7_whiteMark 0 = .ok (.aload_n 0, 1) := by decide +kernel
theorem dX7_whiteMark_1 : decode cX7_whiteMark 1 = .ok (.bipush 21, 2) := by decide +kernel
theorem dX7_whiteMark_3 : decode cX7_whiteMark 3 = .ok (.invokevirtual 284, 3) := by decide +kernel
theorem dX7_whiteMark_6 : decode cX7_whiteMark 6 = .ok (.aload_n 0, 1) := by decide +kernel
theorem dX7_whiteMark_7 : decode cX7_whiteMark 7 = .ok (.iload_n 1, 1) := by decide +kernel
theorem dX7_whiteMark_8 : decode cX7_whiteMark 8 = .ok (.bipush 20, 2) := by decide +kernel
theorem dX7_whiteMark_10 : decode cX7_whiteMark 10 = .ok (.invokevirtual 287, 3) := by decide +kernel
theorem dX7_whiteMark_13 : decode cX7_whiteMark 13 = .ok (.aload_n 0, 1) := by decide +kernel
theorem dX7_whiteMark_14 : decode cX7_whiteMark 14 = .ok (.getfield 19, 3) := by decide +kernel
theorem dX7_whiteMark_17 : decode cX7_whiteMark 17 = .ok (.bipush 56, 2) := by decide +kernel
theorem dX7_whiteMark_19 : decode cX7_whiteMark 19 = .ok (.iload_n 1, 1) := by decide +kernel
theorem dX7_whiteMark_20 : decode cX7_whiteMark 20 = .ok (.iadd, 1) := by decide +kernel
theorem dX7_whiteMark_21 : decode cX7_whiteMark 21 = .ok (.iaload, 1) := by decide +kernel
theorem dX7_whiteMark_22 : decode cX7_whiteMark 22 = .ok (.iadd, 1) := by decide +kernel
theorem dX7_whiteMark_23 : decode cX7_whiteMark 23 = .ok (.ireturn, 1) := by decide +kernel
theorem dX7_fogSize_0 : decode cX7_fogSize 0 = .ok (.aload_n 0, 1) := by decide +kernel
theorem dX7_fogSize_1 : decode cX7_fogSize 1 = .ok (.bipush 13, 2) := by decide +kernel
theorem dX7_fogSize_3 : decode cX7_fogSize 3 = .ok (.invokevirtual 284, 3) := by decide +kernel
theorem dX7_fogSize_6 : decode cX7_fogSize 6 = .ok (.aload_n 0, 1) := by decide +kernel
theorem dX7_fogSize_7 : decode cX7_fogSize 7 = .ok (.iload_n 1, 1) := by decide +kernel
theorem dX7_fogSize_8 : decode cX7_fogSize 8 = .ok (.bipush 10, 2) := by decide +kernel
theorem dX7_fogSize_10 : decode cX7_fogSize 10 = .ok (.invokevirtual 287, 3) := by decide +kernel
theorem dX7_fogSize_13 : decode cX7_fogSize 13 = .ok (.bipush 100, 2) := by decide +kernel
theorem dX7_fogSize_15 : decode cX7_fogSize 15 = .ok (.isub, 1) := by decide +kernel
theorem dX7_fogSize_16 : decode cX7_fogSize 16 = .ok (.ireturn, 1) := by decide +kernel
theorem dX7_sizeOfFog_0 : decode cX7_sizeOfFog 0 = .ok (.aload_n 0, 1) := by decide +kernel
theorem dX7_sizeOfFog_1 : decode cX7_sizeOfFog 1 = .ok (.getfield 19, 3) := by decide +kernel
theorem dX7_sizeOfFog_4 : decode cX7_sizeOfFog 4 = .ok (.bipush 51, 2) := by decide +kernel
theorem dX7_sizeOfFog_6 : decode cX7_sizeOfFog 6 = .ok (.iload_n 1, 1) := by decide +kernel
theorem dX7_sizeOfFog_7 : decode cX7_sizeOfFog 7 = .ok (.iadd, 1) := by decide +kernel
theorem dX7_sizeOfFog_8 : decode cX7_sizeOfFog 8 = .ok (.iaload, 1) := by decide +kernel
theorem dX7_sizeOfFog_9 : decode cX7_sizeOfFog 9 = .ok (.iconst 5, 1) := by decide +kernel
theorem dX7_sizeOfFog_10 : decode cX7_sizeOfFog 10 = .ok (.if_icmp .ne 17, 3) := by decide +kernel
theorem dX7_sizeOfFog_13 : decode cX7_sizeOfFog 13 = .ok (.aload_n 0, 1) := by decide +kernel
theorem dX7_sizeOfFog_14 : decode cX7_sizeOfFog 14 = .ok (.bipush 14, 2) := by decide +kernel
theorem dX7_sizeOfFog_16 : decode cX7_sizeOfFog 16 = .ok (.invokevirtual 284, 3) := by decide +kernel
theorem dX7_sizeOfFog_19 : decode cX7_sizeOfFog 19 = .ok (.iconst 2, 1) := by decide +kernel
theorem dX7_sizeOfFog_20 : decode cX7_sizeOfFog 20 = .ok (.aload_n 0, 1) := by decide +kernel
theorem dX7_sizeOfFog_21 : decode cX7_sizeOfFog 21 = .ok (.iload_n 1, 1) := by decide +kernel
theorem dX7_sizeOfFog_22 : decode cX7_sizeOfFog 22 = .ok (.invokevirtual 290, 3) := by decide +kernel
theorem dX7_sizeOfFog_25 : decode cX7_sizeOfFog 25 = .ok (.imul, 1) := by decide +kernel
theorem dX7_sizeOfFog_26 : decode cX7_sizeOfFog 26 = .ok (.ireturn, 1) := by decide +kernel
theorem dX7_sizeOfFog_27 : decode cX7_sizeOfFog 27 = .ok (.aload_n 0, 1) := by decide +kernel
theorem dX7_sizeOfFog_28 : decode cX7_sizeOfFog 28 = .ok (.iload_n 1, 1) := by decide +kernel
theorem dX7_sizeOfFog_29 : decode cX7_sizeOfFog 29 = .ok (.invokevirtual 290, 3) := by decide +kernel
theorem dX7_sizeOfFog_32 : decode cX7_sizeOfFog 32 = .ok (.ireturn, 1) := by decide +kernel
theorem dX7_markOf_0 : decode cX7_markOf 0 = .ok (.aload_n 0, 1) := by decide +kernel
theorem dX7_markOf_1 : decode cX7_markOf 1 = .ok (.getfield 19, 3) := by decide +kernel
theorem dX7_markOf_4 : decode cX7_markOf 4 = .ok (.bipush 51, 2) := by decide +kernel
theorem dX7_markOf_6 : decode cX7_markOf 6 = .ok (.iload_n 1, 1) := by decide +kernel
theorem dX7_markOf_7 : decode cX7_markOf 7 = .ok (.iadd, 1) := by decide +kernel
theorem dX7_markOf_8 : decode cX7_markOf 8 = .ok (.iaload, 1) := by decide +kernel
theorem dX7_markOf_9 : decode cX7_markOf 9 = .ok (.istore_n 2, 1) := by decide +kernel
theorem dX7_markOf_10 : decode cX7_markOf 10 = .ok (.iload_n 2, 1) := by decide +kernel
theorem dX7_markOf_11 : decode cX7_markOf 11 = .ok (.iconst 2, 1) := by decide +kernel
theorem dX7_markOf_12 : decode cX7_markOf 12 = .ok (.if_icmp .ne 17, 3) := by decide +kernel
theorem dX7_markOf_15 : decode cX7_markOf 15 = .ok (.aload_n 0, 1) := by decide +kernel
theorem dX7_markOf_16 : decode cX7_markOf 16 = .ok (.bipush 24, 2) := by decide +kernel
theorem dX7_markOf_18 : decode cX7_markOf 18 = .ok (.invokevirtual 284, 3) := by decide +kernel
theorem dX7_markOf_21 : decode cX7_markOf 21 = .ok (.iconst 2, 1) := by decide +kernel
theorem dX7_markOf_22 : decode cX7_markOf 22 = .ok (.aload_n 0, 1) := by decide +kernel
theorem dX7_markOf_23 : decode cX7_markOf 23 = .ok (.iload_n 1, 1) := by decide +kernel
theorem dX7_markOf_24 : decode cX7_markOf 24 = .ok (.invokevirtual 293, 3) := by decide +kernel
theorem dX7_markOf_27 : decode cX7_markOf 27 = .ok (.imul, 1) := by decide +kernel
theorem dX7_markOf_28 : decode cX7_markOf 28 = .ok (.ireturn, 1) := by decide +kernel
theorem dX7_markOf_29 : decode cX7_markOf 29 = .ok (.iload_n 2, 1) := by decide +kernel
theorem dX7_markOf_30 : decode cX7_markOf 30 = .ok (.iconst 3, 1) := by decide +kernel
theorem dX7_markOf_31 : decode cX7_markOf 31 = .ok (.if_icmp .ne 19, 3) := by decide +kernel
theorem dX7_markOf_34 : decode cX7_markOf 34 = .ok (.aload_n 0, 1) := by decide +kernel
theorem dX7_markOf_35 : decode cX7_markOf 35 = .ok (.bipush 22, 2) := by decide +kernel
theorem dX7_markOf_37 : decode cX7_markOf 37 = .ok (.invokevirtual 284, 3) := by decide +kernel
theorem dX7_markOf_40 : decode cX7_markOf 40 = .ok (.aload_n 0, 1) := by decide +kernel
theorem dX7_markOf_41 : decode cX7_markOf 41 = .ok (.iload_n 1, 1) := by decide +kernel
theorem dX7_markOf_42 : decode cX7_markOf 42 = .ok (.invokevirtual 293, 3) := by decide +kernel
theorem dX7_markOf_45 : decode cX7_markOf 45 = .ok (.sipush 1000, 3) := by decide +kernel
theorem dX7_markOf_48 : decode cX7_markOf 48 = .ok (.isub, 1) := by decide +kernel
theorem dX7_markOf_49 : decode cX7_markOf 49 = .ok (.ireturn, 1) := by decide +kernel
theorem dX7_markOf_50 : decode cX7_markOf 50 = .ok (.iload_n 2, 1) := by decide +kernel
theorem dX7_markOf_51 : decode cX7_markOf 51 = .ok (.iconst 1, 1) := by decide +kernel
theorem dX7_markOf_52 : decode cX7_markOf 52 = .ok (.if_icmp .ne 9, 3) := by decide +kernel
theorem dX7_markOf_55 : decode cX7_markOf 55 = .ok (.aload_n 0, 1) := by decide +kernel
theorem dX7_markOf_56 : decode cX7_markOf 56 = .ok (.iload_n 1, 1) := by decide +kernel
theorem dX7_markOf_57 : decode cX7_markOf 57 = .ok (.invokevirtual 293, 3) := by decide +kernel
theorem dX7_markOf_60 : decode cX7_markOf 60 = .ok (.ireturn, 1) := by decide +kernel
theorem dX7_markOf_61 : decode cX7_markOf 61 = .ok (.aload_n 0, 1) := by decide +kernel
theorem dX7_markOf_62 : decode cX7_markOf 62 = .ok (.bipush 23, 2) := by decide +kernel
theorem dX7_markOf_64 : decode cX7_markOf 64 = .ok (.invokevirtual 284, 3) := by decide +kernel
theorem dX7_markOf_67 : decode cX7_markOf 67 = .ok (.aload_n 0, 1) := by decide +kernel
theorem dX7_markOf_68 : decode cX7_markOf 68 = .ok (.iload_n 1, 1) := by decide +kernel
theorem dX7_markOf_69 : decode cX7_markOf 69 = .ok (.bipush 20, 2) := by decide +kernel
theorem dX7_markOf_71 : decode cX7_markOf 71 = .ok (.invokevirtual 287, 3) := by decide +kernel
theorem dX7_markOf_74 : decode cX7_markOf 74 = .ok (.istore_n 3, 1) := by decide +kernel
theorem dX7_markOf_75 : decode cX7_markOf 75 = .ok (.iload_n 3, 1) := by decide +kernel
theorem dX7_markOf_76 : decode cX7_markOf 76 = .ok (.aload_n 0, 1) := by decide +kernel
theorem dX7_markOf_77 : decode cX7_markOf 77 = .ok (.iload_n 1, 1) := by decide +kernel
theorem dX7_markOf_78 : decode cX7_markOf 78 = .ok (.invokevirtual 296, 3) := by decide +kernel
theorem dX7_markOf_81 : decode cX7_markOf 81 = .ok (.isub, 1) := by decide +kernel
theorem dX7_markOf_82 : decode cX7_markOf 82 = .ok (.ireturn, 1) := by decide +kernel
theorem dX7_whiteSize_0 : decode cX7_whiteSize 0 = .ok (.aload_n 0, 1) := by decide +kernel
theorem dX7_whiteSize_1 : decode cX7_whiteSize 1 = .ok (.bipush 11, 2) := by decide +kernel
theorem dX7_whiteSize_3 : decode cX7_whiteSize 3 = .ok (.invokevirtual 284, 3) := by decide +kernel
theorem dX7_whiteSize_6 : decode cX7_whiteSize 6 = .ok (.aload_n 0, 1) := by decide +kernel
theorem dX7_whiteSize_7 : decode cX7_whiteSize 7 = .ok (.iload_n 1, 1) := by decide +kernel
theorem dX7_whiteSize_8 : decode cX7_whiteSize 8 = .ok (.bipush 10, 2) := by decide +kernel
theorem dX7_whiteSize_10 : decode cX7_whiteSize 10 = .ok (.invokevirtual 287, 3) := by decide +kernel
theorem dX7_whiteSize_13 : decode cX7_whiteSize 13 = .ok (.istore_n 2, 1) := by decide +kernel
theorem dX7_whiteSize_14 : decode cX7_whiteSize 14 = .ok (.iload_n 2, 1) := by decide +kernel
theorem dX7_whiteSize_15 : decode cX7_whiteSize 15 = .ok (.aload_n 0, 1) := by decide +kernel
theorem dX7_whiteSize_16 : decode cX7_whiteSize 16 = .ok (.iload_n 1, 1) := by decide +kernel
theorem dX7_whiteSize_17 : decode cX7_whiteSize 17 = .ok (.invokevirtual 299, 3) := by decide +kernel
theorem dX7_whiteSize_20 : decode cX7_whiteSize 20 = .ok (.iadd, 1) := by decide +kernel
theorem dX7_whiteSize_21 : decode cX7_whiteSize 21 = .ok (.ireturn, 1) := by decide +kernel
theorem dX7_sizeOf_0 : decode cX7_sizeOf 0 = .ok (.aload_n 0, 1) := by decide +kernel
theorem dX7_sizeOf_1 : decode cX7_sizeOf 1 = .ok (.getfield 19, 3) := by decide +kernel
theorem dX7_sizeOf_4 : decode cX7_sizeOf 4 = .ok (.bipush 51, 2) := by decide +kernel
theorem dX7_sizeOf_6 : decode cX7_sizeOf 6 = .ok (.iload_n 1, 1) := by decide +kernel
theorem dX7_sizeOf_7 : decode cX7_sizeOf 7 = .ok (.iadd, 1) := by decide +kernel
theorem dX7_sizeOf_8 : decode cX7_sizeOf 8 = .ok (.iaload, 1) := by decide +kernel
theorem dX7_sizeOf_9 : decode cX7_sizeOf 9 = .ok (.istore_n 2, 1) := by decide +kernel
theorem dX7_sizeOf_10 : decode cX7_sizeOf 10 = .ok (.iload_n 2, 1) := by decide +kernel
theorem dX7_sizeOf_11 : decode cX7_sizeOf 11 = .ok (.iconst 2, 1) := by decide +kernel
theorem dX7_sizeOf_12 : decode cX7_sizeOf 12 = .ok (.if_icmp .ne 16, 3) := by decide +kernel
theorem dX7_sizeOf_15 : decode cX7_sizeOf 15 = .ok (.aload_n 0, 1) := by decide +kernel
theorem dX7_sizeOf_16 : decode cX7_sizeOf 16 = .ok (.bipush 12, 2) := by decide +kernel
theorem dX7_sizeOf_18 : decode cX7_sizeOf 18 = .ok (.invokevirtual 284, 3) := by decide +kernel
theorem dX7_sizeOf_21 : decode cX7_sizeOf 21 = .ok (.aload_n 0, 1) := by decide +kernel
theorem dX7_sizeOf_22 : decode cX7_sizeOf 22 = .ok (.iload_n 1, 1) := by decide +kernel
theorem dX7_sizeOf_23 : decode cX7_sizeOf 23 = .ok (.invokevirtual 302, 3) := by decide +kernel
theorem dX7_sizeOf_26 : decode cX7_sizeOf 26 = .ok (.ineg, 1) := by decide +kernel
theorem dX7_sizeOf_27 : decode cX7_sizeOf 27 = .ok (.ireturn, 1) := by decide +kernel
theorem dX7_sizeOf_28 : decode cX7_sizeOf 28 = .ok (.iload_n 2, 1) := by decide +kernel
theorem dX7_sizeOf_29 : decode cX7_sizeOf 29 = .ok (.iconst 4, 1) := by decide +kernel
theorem dX7_sizeOf_30 : decode cX7_sizeOf 30 = .ok (.if_icmp .lt 11, 3) := by decide +kernel
theorem dX7_sizeOf_33 : decode cX7_sizeOf 33 = .ok (.aload_n 0, 1) := by decide +kernel
theorem dX7_sizeOf_34 : decode cX7_sizeOf 34 = .ok (.iload_n 1, 1) := by decide +kernel
theorem dX7_sizeOf_35 : decode cX7_sizeOf 35 = .ok (.invokevirtual 296, 3) := by decide +kernel
theorem dX7_sizeOf_38 : decode cX7_sizeOf 38 = .ok (.goto 8, 3) := by decide +kernel
theorem dX7_sizeOf_41 : decode cX7_sizeOf 41 = .ok (.aload_n 0, 1) := by decide +kernel
theorem dX7_sizeOf_42 : decode cX7_sizeOf 42 = .ok (.iload_n 1, 1) := by decide +kernel
theorem dX7_sizeOf_43 : decode cX7_sizeOf 43 = .ok (.invokevirtual 302, 3) := by decide +kernel
theorem dX7_sizeOf_46 : decode cX7_sizeOf 46 = .ok (.ireturn, 1) := by decide +kernel
theorem dX7_ask_0 : decode cX7_ask 0 = .ok (.aload_n 0, 1) := by decide +kernel
theorem dX7_ask_1 : decode cX7_ask 1 = .ok (.iload_n 1, 1) := by decide +kernel
theorem dX7_ask_2 : decode cX7_ask 2 = .ok (.invokevirtual 202, 3) := by decide +kernel
theorem dX7_ask_5 : decode cX7_ask 5 = .ok (.ifCond .eq 13, 3) := by decide +kernel
theorem dX7_ask_8 : decode cX7_ask 8 = .ok (.iload_n 2, 1) := by decide +kernel
theorem dX7_ask_9 : decode cX7_ask 9 = .ok (.i2l, 1) := by decide +kernel
theorem dX7_ask_10 : decode cX7_ask 10 = .ok (.lconst 0, 1) := by decide +kernel
theorem dX7_ask_11 : decode cX7_ask 11 = .ok (.lconst 1, 1) := by decide +kernel
theorem dX7_ask_12 : decode cX7_ask 12 = .ok (.invokestatic 60, 3) := by decide +kernel
theorem dX7_ask_15 : decode cX7_ask 15 = .ok (.ifCond .ne 6, 3) := by decide +kernel
theorem dX7_ask_18 : decode cX7_ask 18 = .ok (.ldc 70, 2) := by decide +kernel
theorem dX7_ask_20 : decode cX7_ask 20 = .ok (.ireturn, 1) := by decide +kernel
theorem dX7_ask_21 : decode cX7_ask 21 = .ok (.aload_n 0, 1) := by decide +kernel
theorem dX7_ask_22 : decode cX7_ask 22 = .ok (.iconst 0, 1) := by decide +kernel
theorem dX7_ask_23 : decode cX7_ask 23 = .ok (.putfield 281, 3) := by decide +kernel
theorem dX7_ask_26 : decode cX7_ask 26 = .ok (.iload_n 2, 1) := by decide +kernel
theorem dX7_ask_27 : decode cX7_ask 27 = .ok (.ifCond .ne 11, 3) := by decide +kernel
theorem dX7_ask_30 : decode cX7_ask 30 = .ok (.aload_n 0, 1) := by decide +kernel
theorem dX7_ask_31 : decode cX7_ask 31 = .ok (.iload_n 1, 1) := by decide +kernel
theorem dX7_ask_32 : decode cX7_ask 32 = .ok (.invokevirtual 305, 3) := by decide +kernel
theorem dX7_ask_35 : decode cX7_ask 35 = .ok (.goto 8, 3) := by decide +kernel
theorem dX7_ask_38 : decode cX7_ask 38 = .ok (.aload_n 0, 1) := by decide +kernel
theorem dX7_ask_39 : decode cX7_ask 39 = .ok (.iload_n 1, 1) := by decide +kernel
theorem dX7_ask_40 : decode cX7_ask 40 = .ok (.invokevirtual 299, 3) := by decide +kernel
theorem dX7_ask_43 : decode cX7_ask 43 = .ok (.ireturn, 1) := by decide +kernel
theorem dX7_trace_0 : decode cX7_trace 0 = .ok (.iload_n 1, 1) := by decide +kernel
theorem dX7_trace_1 : decode cX7_trace 1 = .ok (.i2l, 1) := by decide +kernel
theorem dX7_trace_2 : decode cX7_trace 2 = .ok (.lconst 0, 1) := by decide +kernel
theorem dX7_trace_3 : decode cX7_trace 3 = .ok (.aload_n 0, 1) := by decide +kernel
theorem dX7_trace_4 : decode cX7_trace 4 = .ok (.getfield 281, 3) := by decide +kernel
theorem dX7_trace_7 : decode cX7_trace 7 = .ok (.iconst 1, 1) := by decide +kernel
theorem dX7_trace_8 : decode cX7_trace 8 = .ok (.isub, 1) := by decide +kernel
theorem dX7_trace_9 : decode cX7_trace 9 = .ok (.i2l, 1) := by decide +kernel
theorem dX7_trace_10 : decode cX7_trace 10 = .ok (.invokestatic 60, 3) := by decide +kernel
theorem dX7_trace_13 : decode cX7_trace 13 = .ok (.ifCond .eq 12, 3) := by decide +kernel
theorem dX7_trace_16 : decode cX7_trace 16 = .ok (.aload_n 0, 1) := by decide +kernel
theorem dX7_trace_17 : decode cX7_trace 17 = .ok (.getfield 50, 3) := by decide +kernel
theorem dX7_trace_20 : decode cX7_trace 20 = .ok (.iload_n 1, 1) := by decide +kernel
theorem dX7_trace_21 : decode cX7_trace 21 = .ok (.iaload, 1) := by decide +kernel
theorem dX7_trace_22 : decode cX7_trace 22 = .ok (.goto 5, 3) := by decide +kernel
theorem dX7_trace_25 : decode cX7_trace 25 = .ok (.ldc 237, 2) := by decide +kernel
theorem dX7_trace_27 : decode cX7_trace 27 = .ok (.ireturn, 1) := by decide +kernel
theorem dX7_count_0 : decode cX7_count 0 = .ok (.iconst 0, 1) := by decide +kernel
theorem dX7_count_1 : decode cX7_count 1 = .ok (.istore_n 2, 1) := by decide +kernel
theorem dX7_count_2 : decode cX7_count 2 = .ok (.iconst 0, 1) := by decide +kernel
theorem dX7_count_3 : decode cX7_count 3 = .ok (.istore_n 3, 1) := by decide +kernel
theorem dX7_count_4 : decode cX7_count 4 = .ok (.iload_n 3, 1) := by decide +kernel
theorem dX7_count_5 : decode cX7_count 5 = .ok (.bipush 8, 2) := by decide +kernel
theorem dX7_count_7 : decode cX7_count 7 = .ok (.if_icmp .ge 26, 3) := by decide +kernel
theorem dX7_count_10 : decode cX7_count 10 = .ok (.iload_n 2, 1) := by decide +kernel
theorem dX7_count_11 : decode cX7_count 11 = .ok (.aload_n 0, 1) := by decide +kernel
theorem dX7_count_12 : decode cX7_count 12 = .ok (.getfield 13, 3) := by decide +kernel
theorem dX7_count_15 : decode cX7_count 15 = .ok (.iload_n 3, 1) := by decide +kernel
theorem dX7_count_16 : decode cX7_count 16 = .ok (.iaload, 1) := by decide +kernel
theorem dX7_count_17 : decode cX7_count 17 = .ok (.ifCond .lt 7, 3) := by decide +kernel
theorem dX7_count_20 : decode cX7_count 20 = .ok (.iconst 1, 1) := by decide +kernel
theorem dX7_count_21 : decode cX7_count 21 = .ok (.goto 4, 3) := by decide +kernel
theorem dX7_count_24 : decode cX7_count 24 = .ok (.iconst 0, 1) := by decide +kernel
theorem dX7_count_25 : decode cX7_count 25 = .ok (.iadd, 1) := by decide +kernel
theorem dX7_count_26 : decode cX7_count 26 = .ok (.istore_n 2, 1) := by decide +kernel
theorem dX7_count_27 : decode cX7_count 27 = .ok (.iinc 3 1, 3) := by decide +kernel
theorem dX7_count_30 : decode cX7_count 30 = .ok (.goto (-26), 3) := by decide +kernel
theorem dX7_count_33 : decode cX7_count 33 = .ok (.iconst 0, 1) := by decide +kernel
theorem dX7_count_34 : decode cX7_count 34 = .ok (.istore_n 3, 1) := by decide +kernel
theorem dX7_count_35 : decode cX7_count 35 = .ok (.iconst 0, 1) := by decide +kernel
theorem dX7_count_36 : decode cX7_count 36 = .ok (.istore 4, 2) := by decide +kernel
theorem dX7_count_38 : decode cX7_count 38 = .ok (.iload 4, 2) := by decide +kernel
theorem dX7_count_40 : decode cX7_count 40 = .ok (.aload_n 0, 1) := by decide +kernel
theorem dX7_count_41 : decode cX7_count 41 = .ok (.getfield 19, 3) := by decide +kernel
theorem dX7_count_44 : decode cX7_count 44 = .ok (.bipush 50, 2) := by decide +kernel
theorem dX7_count_46 : decode cX7_count 46 = .ok (.iaload, 1) := by decide +kernel
theorem dX7_count_47 : decode cX7_count 47 = .ok (.if_icmp .ge 26, 3) := by decide +kernel
theorem dX7_count_50 : decode cX7_count 50 = .ok (.iload_n 3, 1) := by decide +kernel
theorem dX7_count_51 : decode cX7_count 51 = .ok (.aload_n 0, 1) := by decide +kernel
theorem dX7_count_52 : decode cX7_count 52 = .ok (.iload 4, 2) := by decide +kernel
theorem dX7_count_54 : decode cX7_count 54 = .ok (.invokevirtual 177, 3) := by decide +kernel
theorem dX7_count_57 : decode cX7_count 57 = .ok (.ifCond .eq 7, 3) := by decide +kernel
theorem dX7_count_60 : decode cX7_count 60 = .ok (.iconst 1, 1) := by decide +kernel
theorem dX7_count_61 : decode cX7_count 61 = .ok (.goto 4, 3) := by decide +kernel
theorem dX7_count_64 : decode cX7_count 64 = .ok (.iconst 0, 1) := by decide +kernel
theorem dX7_count_65 : decode cX7_count 65 = .ok (.iadd, 1) := by decide +kernel
theorem dX7_count_66 : decode cX7_count 66 = .ok (.istore_n 3, 1) := by decide +kernel
theorem dX7_count_67 : decode cX7_count 67 = .ok (.iinc 4 1, 3) := by decide +kernel
theorem dX7_count_70 : decode cX7_count 70 = .ok (.goto (-32), 3) := by decide +kernel
theorem dX7_count_73 : decode cX7_count 73 = .ok (.iload_n 1, 1) := by decide +kernel
theorem dX7_count_74 : decode cX7_count 74 = .ok (.tableswitch 104 0 8 #[50, 52, 60, 68, 76, 84, 92, 94, 99], 50) := by decide +kernel
theorem dX7_count_124 : decode cX7_count 124 = .ok (.iload_n 2, 1) := by decide +kernel
theorem dX7_count_125 : decode cX7_count 125 = .ok (.ireturn, 1) := by decide +kernel
theorem dX7_count_126 : decode cX7_count 126 = .ok (.aload_n 0, 1) := by decide +kernel
theorem dX7_count_127 : decode cX7_count 127 = .ok (.getfield 19, 3) := by decide +kernel
theorem dX7_count_130 : decode cX7_count 130 = .ok (.bipush 50, 2) := by decide +kernel
theorem dX7_count_132 : decode cX7_count 132 = .ok (.iaload, 1) := by decide +kernel
theorem dX7_count_133 : decode cX7_count 133 = .ok (.ireturn, 1) := by decide +kernel
theorem dX7_count_134 : decode cX7_count 134 = .ok (.aload_n 0, 1) := by decide +kernel
theorem dX7_count_135 : decode cX7_count 135 = .ok (.getfield 19, 3) := by decide +kernel
theorem dX7_count_138 : decode cX7_count 138 = .ok (.bipush 49, 2) := by decide +kernel
theorem dX7_count_140 : decode cX7_count 140 = .ok (.iaload, 1) := by decide +kernel
theorem dX7_count_141 : decode cX7_count 141 = .ok (.ireturn, 1) := by decide +kernel
theorem dX7_count_142 : decode cX7_count 142 = .ok (.aload_n 0, 1) := by decide +kernel
theorem dX7_count_143 : decode cX7_count 143 = .ok (.getfield 19, 3) := by decide +kernel
theorem dX7_count_146 : decode cX7_count 146 = .ok (.bipush 46, 2) := by decide +kernel
theorem dX7_count_148 : decode cX7_count 148 = .ok (.iaload, 1) := by decide +kernel
theorem dX7_count_149 : decode cX7_count 149 = .ok (.ireturn, 1) := by decide +kernel
theorem dX7_count_150 : decode cX7_count 150 = .ok (.aload_n 0, 1) := by decide +kernel
theorem dX7_count_151 : decode cX7_count 151 = .ok (.getfield 19, 3) := by decide +kernel
theorem dX7_count_154 : decode cX7_count 154 = .ok (.bipush 47, 2) := by decide +kernel
theorem dX7_count_156 : decode cX7_count 156 = .ok (.iaload, 1) := by decide +kernel
theorem dX7_count_157 : decode cX7_count 157 = .ok (.ireturn, 1) := by decide +kernel
theorem dX7_count_158 : decode cX7_count 158 = .ok (.aload_n 0, 1) := by decide +kernel
theorem dX7_count_159 : decode cX7_count 159 = .ok (.getfield 19, 3) := by decide +kernel
theorem dX7_count_162 : decode cX7_count 162 = .ok (.bipush 48, 2) := by decide +kernel
theorem dX7_count_164 : decode cX7_count 164 = .ok (.iaload, 1) := by decide +kernel
theorem dX7_count_165 : decode cX7_count 165 = .ok (.ireturn, 1) := by decide +kernel
theorem dX7_count_166 : decode cX7_count 166 = .ok (.iload_n 3, 1) := by decide +kernel
theorem dX7_count_167 : decode cX7_count 167 = .ok (.ireturn, 1) := by decide +kernel
theorem dX7_count_168 : decode cX7_count 168 = .ok (.aload_n 0, 1) := by decide +kernel
theorem dX7_count_169 : decode cX7_count 169 = .ok (.getfield 158, 3) := by decide +kernel
theorem dX7_count_172 : decode cX7_count 172 = .ok (.ireturn, 1) := by decide +kernel
theorem dX7_count_173 : decode cX7_count 173 = .ok (.aload_n 0, 1) := by decide +kernel
theorem dX7_count_174 : decode cX7_count 174 = .ok (.getfield 84, 3) := by decide +kernel
theorem dX7_count_177 : decode cX7_count 177 = .ok (.ireturn, 1) := by decide +kernel
theorem dX7_count_178 : decode cX7_count 178 = .ok (.ldc 70, 2) := by decide +kernel
theorem dX7_count_180 : decode cX7_count 180 = .ok (.ireturn, 1) := by decide +kernel
theorem dX7_status_0 : decode cX7_status 0 = .ok (.aload_n 0, 1) := by decide +kernel
theorem dX7_status_1 : decode cX7_status 1 = .ok (.getfield 53, 3) := by decide +kernel
theorem dX7_status_4 : decode cX7_status 4 = .ok (.ireturn, 1) := by decide +kernel
theorem dJ6_bitCount_0f7a4_0 : decode cJ6_bitCount_0f7a4 0 = .ok (.iload_n 0, 1) := by decide +kernel
theorem dJ6_bitCount_0f7a4_1 : decode cJ6_bitCount_0f7a4 1 = .ok (.iload_n 0, 1) := by decide +kernel
theorem dJ6_bitCount_0f7a4_2 : decode cJ6_bitCount_0f7a4 2 = .ok (.iconst 1, 1) := by decide +kernel
theorem dJ6_bitCount_0f7a4_3 : decode cJ6_bitCount_0f7a4 3 = .ok (.iushr, 1) := by decide +kernel
theorem dJ6_bitCount_0f7a4_4 : decode cJ6_bitCount_0f7a4 4 = .ok (.ldc_w 265, 3) := by decide +kernel
theorem dJ6_bitCount_0f7a4_7 : decode cJ6_bitCount_0f7a4 7 = .ok (.iand, 1) := by decide +kernel
theorem dJ6_bitCount_0f7a4_8 : decode cJ6_bitCount_0f7a4 8 = .ok (.isub, 1) := by decide +kernel
theorem dJ6_bitCount_0f7a4_9 : decode cJ6_bitCount_0f7a4 9 = .ok (.istore_n 0, 1) := by decide +kernel
theorem dJ6_bitCount_0f7a4_10 : decode cJ6_bitCount_0f7a4 10 = .ok (.iload_n 0, 1) := by decide +kernel
theorem dJ6_bitCount_0f7a4_11 : decode cJ6_bitCount_0f7a4 11 = .ok (.ldc_w 266, 3) := by decide +kernel
theorem dJ6_bitCount_0f7a4_14 : decode cJ6_bitCount_0f7a4 14 = .ok (.iand, 1) := by decide +kernel
theorem dJ6_bitCount_0f7a4_15 : decode cJ6_bitCount_0f7a4 15 = .ok (.iload_n 0, 1) := by decide +kernel
theorem dJ6_bitCount_0f7a4_16 : decode cJ6_bitCount_0f7a4 16 = .ok (.iconst 2, 1) := by decide +kernel
theorem dJ6_bitCount_0f7a4_17 : decode cJ6_bitCount_0f7a4 17 = .ok (.iushr, 1) := by decide +kernel
theorem dJ6_bitCount_0f7a4_18 : decode cJ6_bitCount_0f7a4 18 = .ok (.ldc_w 266, 3) := by decide +kernel
theorem dJ6_bitCount_0f7a4_21 : decode cJ6_bitCount_0f7a4 21 = .ok (.iand, 1) := by decide +kernel
theorem dJ6_bitCount_0f7a4_22 : decode cJ6_bitCount_0f7a4 22 = .ok (.iadd, 1) := by decide +kernel
theorem dJ6_bitCount_0f7a4_23 : decode cJ6_bitCount_0f7a4 23 = .ok (.istore_n 0, 1) := by decide +kernel
theorem dJ6_bitCount_0f7a4_24 : decode cJ6_bitCount_0f7a4 24 = .ok (.iload_n 0, 1) := by decide +kernel
theorem dJ6_bitCount_0f7a4_25 : decode cJ6_bitCount_0f7a4 25 = .ok (.iload_n 0, 1) := by decide +kernel
theorem dJ6_bitCount_0f7a4_26 : decode cJ6_bitCount_0f7a4 26 = .ok (.iconst 4, 1) := by decide +kernel
theorem dJ6_bitCount_0f7a4_27 : decode cJ6_bitCount_0f7a4 27 = .ok (.iushr, 1) := by decide +kernel
theorem dJ6_bitCount_0f7a4_28 : decode cJ6_bitCount_0f7a4 28 = .ok (.iadd, 1) := by decide +kernel
theorem dJ6_bitCount_0f7a4_29 : decode cJ6_bitCount_0f7a4 29 = .ok (.ldc_w 267, 3) := by decide +kernel
theorem dJ6_bitCount_0f7a4_32 : decode cJ6_bitCount_0f7a4 32 = .ok (.iand, 1) := by decide +kernel
theorem dJ6_bitCount_0f7a4_33 : decode cJ6_bitCount_0f7a4 33 = .ok (.istore_n 0, 1) := by decide +kernel
theorem dJ6_bitCount_0f7a4_34 : decode cJ6_bitCount_0f7a4 34 = .ok (.iload_n 0, 1) := by decide +kernel
theorem dJ6_bitCount_0f7a4_35 : decode cJ6_bitCount_0f7a4 35 = .ok (.iload_n 0, 1) := by decide +kernel
theorem dJ6_bitCount_0f7a4_36 : decode cJ6_bitCount_0f7a4 36 = .ok (.bipush 8, 2) := by decide +kernel
theorem dJ6_bitCount_0f7a4_38 : decode cJ6_bitCount_0f7a4 38 = .ok (.iushr, 1) := by decide +kernel
theorem dJ6_bitCount_0f7a4_39 : decode cJ6_bitCount_0f7a4 39 = .ok (.iadd, 1) := by decide +kernel
theorem dJ6_bitCount_0f7a4_40 : decode cJ6_bitCount_0f7a4 40 = .ok (.istore_n 0, 1) := by decide +kernel
theorem dJ6_bitCount_0f7a4_41 : decode cJ6_bitCount_0f7a4 41 = .ok (.iload_n 0, 1) := by decide +kernel
theorem dJ6_bitCount_0f7a4_42 : decode cJ6_bitCount_0f7a4 42 = .ok (.iload_n 0, 1) := by decide +kernel
theorem dJ6_bitCount_0f7a4_43 : decode cJ6_bitCount_0f7a4 43 = .ok (.bipush 16, 2) := by decide +kernel
theorem dJ6_bitCount_0f7a4_45 : decode cJ6_bitCount_0f7a4 45 = .ok (.iushr, 1) := by decide +kernel
theorem dJ6_bitCount_0f7a4_46 : decode cJ6_bitCount_0f7a4 46 = .ok (.iadd, 1) := by decide +kernel
theorem dJ6_bitCount_0f7a4_47 : decode cJ6_bitCount_0f7a4 47 = .ok (.istore_n 0, 1) := by decide +kernel
theorem dJ6_bitCount_0f7a4_48 : decode cJ6_bitCount_0f7a4 48 = .ok (.iload_n 0, 1) := by decide +kernel
theorem dJ6_bitCount_0f7a4_49 : decode cJ6_bitCount_0f7a4 49 = .ok (.bipush 63, 2) := by decide +kernel
theorem dJ6_bitCount_0f7a4_51 : decode cJ6_bitCount_0f7a4 51 = .ok (.iand, 1) := by decide +kernel
theorem dJ6_bitCount_0f7a4_52 : decode cJ6_bitCount_0f7a4 52 = .ok (.ireturn, 1) := by decide +kernel
theorem dJ9_max_7cf53_0 : decode cJ9_max_7cf53 0 = .ok (.iload_n 0, 1) := by decide +kernel
theorem dJ9_max_7cf53_1 : decode cJ9_max_7cf53 1 = .ok (.iload_n 1, 1) := by decide +kernel
theorem dJ9_max_7cf53_2 : decode cJ9_max_7cf53 2 = .ok (.if_icmp .lt 7, 3) := by decide +kernel
theorem dJ9_max_7cf53_5 : decode cJ9_max_7cf53 5 = .ok (.iload_n 0, 1) := by decide +kernel
theorem dJ9_max_7cf53_6 : decode cJ9_max_7cf53 6 = .ok (.goto 4, 3) := by decide +kernel
theorem dJ9_max_7cf53_9 : decode cJ9_max_7cf53 9 = .ok (.iload_n 1, 1) := by decide +kernel
theorem dJ9_max_7cf53_10 : decode cJ9_max_7cf53 10 = .ok (.ireturn, 1) := by decide +kernel
theorem dJ9_min_7cf53_0 : decode cJ9_min_7cf53 0 = .ok (.iload_n 0, 1) := by decide +kernel
theorem dJ9_min_7cf53_1 : decode cJ9_min_7cf53 1 = .ok (.iload_n 1, 1) := by decide +kernel
theorem dJ9_min_7cf53_2 : decode cJ9_min_7cf53 2 = .ok (.if_icmp .gt 7, 3) := by decide +kernel
theorem dJ9_min_7cf53_5 : decode cJ9_min_7cf53 5 = .ok (.iload_n 0, 1) := by decide +kernel
theorem dJ9_min_7cf53_6 : decode cJ9_min_7cf53 6 = .ok (.goto 4, 3) := by decide +kernel
theorem dJ9_min_7cf53_9 : decode cJ9_min_7cf53 9 = .ok (.iload_n 1, 1) := by decide +kernel
theorem dJ9_min_7cf53_10 : decode cJ9_min_7cf53 10 = .ok (.ireturn, 1) := by decide +kernel
theorem dL_law_0 : decode cL_law 0 = .ok (.new 7, 3) := by decide +kernel
theorem dL_law_3 : decode cL_law 3 = .ok (.dup, 1) := by decide +kernel
theorem dL_law_4 : decode cL_law 4 = .ok (.invokespecial 9, 3) := by decide +kernel
theorem dL_law_7 : decode cL_law 7 = .ok (.astore_n 1, 1) := by decide +kernel
theorem dL_law_8 : decode cL_law 8 = .ok (.new 10, 3) := by decide +kernel
theorem dL_law_11 : decode cL_law 11 = .ok (.dup, 1) := by decide +kernel
theorem dL_law_12 : decode cL_law 12 = .ok (.invokespecial 12, 3) := by decide +kernel
theorem dL_law_15 : decode cL_law 15 = .ok (.astore_n 2, 1) := by decide +kernel
theorem dL_law_16 : decode cL_law 16 = .ok (.iconst 0, 1) := by decide +kernel
theorem dL_law_17 : decode cL_law 17 = .ok (.istore_n 3, 1) := by decide +kernel
theorem dL_law_18 : decode cL_law 18 = .ok (.iload_n 3, 1) := by decide +kernel
theorem dL_law_19 : decode cL_law 19 = .ok (.aload_n 0, 1) := by decide +kernel
theorem dL_law_20 : decode cL_law 20 = .ok (.arraylength, 1) := by decide +kernel
theorem dL_law_21 : decode cL_law 21 = .ok (.bipush 7, 2) := by decide +kernel
theorem dL_law_23 : decode cL_law 23 = .ok (.isub, 1) := by decide +kernel
theorem dL_law_24 : decode cL_law 24 = .ok (.if_icmp .gt 1355, 3) := by decide +kernel
theorem dL_law_27 : decode cL_law 27 = .ok (.aload_n 0, 1) := by decide +kernel
theorem dL_law_28 : decode cL_law 28 = .ok (.iload_n 3, 1) := by decide +kernel
theorem dL_law_29 : decode cL_law 29 = .ok (.iaload, 1) := by decide +kernel
theorem dL_law_30 : decode cL_law 30 = .ok (.bipush 63, 2) := by decide +kernel
theorem dL_law_32 : decode cL_law 32 = .ok (.iand, 1) := by decide +kernel
theorem dL_law_33 : decode cL_law 33 = .ok (.tableswitch 1340 0 35 #[159, 202, 245, 308, 331, 354, 367, 380, 393, 416, 449, 482, 515, 548, 581, 624, 647, 680, 713, 746, 789, 822, 865, 940, 993, 1046, 1079, 1123, 1146, 1169, 1192, 1215, 1248, 1281, 1304, 1327], 159) := by decide +kernel
theorem dL_law_192 : decode cL_law 192 = .ok (.aload_n 1, 1) := by decide +kernel
theorem dL_law_193 : decode cL_law 193 = .ok (.aload_n 0, 1) := by decide +kernel
theorem dL_law_194 : decode cL_law 194 = .ok (.iload_n 3, 1) := by decide +kernel
theorem dL_law_195 : decode cL_law 195 = .ok (.iconst 1, 1) := by decide +kernel
theorem dL_law_196 : decode cL_law 196 = .ok (.iadd, 1) := by decide +kernel
theorem dL_law_197 : decode cL_law 197 = .ok (.iaload, 1) := by decide +kernel
theorem dL_law_198 : decode cL_law 198 = .ok (.aload_n 0, 1) := by decide +kernel
theorem dL_law_199 : decode cL_law 199 = .ok (.iload_n 3, 1) := by decide +kernel
theorem dL_law_200 : decode cL_law 200 = .ok (.iconst 2, 1) := by decide +kernel
theorem dL_law_201 : decode cL_law 201 = .ok (.iadd, 1) := by decide +kernel
theorem dL_law_202 : decode cL_law 202 = .ok (.iaload, 1) := by decide +kernel
theorem dL_law_203 : decode cL_law 203 = .ok (.aload_n 0, 1) := by decide +kernel
theorem dL_law_204 : decode cL_law 204 = .ok (.iload_n 3, 1) := by decide +kernel
theorem dL_law_205 : decode cL_law 205 = .ok (.iconst 3, 1) := by decide +kernel
theorem dL_law_206 : decode cL_law 206 = .ok (.iadd, 1) := by decide +kernel
theorem dL_law_207 : decode cL_law 207 = .ok (.iaload, 1) := by decide +kernel
theorem dL_law_208 : decode cL_law 208 = .ok (.invokevirtual 13, 3) := by decide +kernel
theorem dL_law_211 : decode cL_law 211 = .ok (.aload_n 2, 1) := by decide +kernel
theorem dL_law_212 : decode cL_law 212 = .ok (.aload_n 0, 1) := by decide +kernel
theorem dL_law_213 : decode cL_law 213 = .ok (.iload_n 3, 1) := by decide +kernel
theorem dL_law_214 : decode cL_law 214 = .ok (.iconst 1, 1) := by decide +kernel
theorem dL_law_215 : decode cL_law 215 = .ok (.iadd, 1) := by decide +kernel
theorem dL_law_216 : decode cL_law 216 = .ok (.iaload, 1) := by decide +kernel
theorem dL_law_217 : decode cL_law 217 = .ok (.aload_n 0, 1) := by decide +kernel
theorem dL_law_218 : decode cL_law 218 = .ok (.iload_n 3, 1) := by decide +kernel
theorem dL_law_219 : decode cL_law 219 = .ok (.iconst 2, 1) := by decide +kernel
theorem dL_law_220 : decode cL_law 220 = .ok (.iadd, 1) := by decide +kernel
theorem dL_law_221 : decode cL_law 221 = .ok (.iaload, 1) := by decide +kernel
theorem dL_law_222 : decode cL_law 222 = .ok (.aload_n 0, 1) := by decide +kernel
theorem dL_law_223 : decode cL_law 223 = .ok (.iload_n 3, 1) := by decide +kernel
theorem dL_law_224 : decode cL_law 224 = .ok (.iconst 3, 1) := by decide +kernel
theorem dL_law_225 : decode cL_law 225 = .ok (.iadd, 1) := by decide +kernel
theorem dL_law_226 : decode cL_law 226 = .ok (.iaload, 1) := by decide +kernel
theorem dL_law_227 : decode cL_law 227 = .ok (.invokevirtual 17, 3) := by decide +kernel
theorem dL_law_230 : decode cL_law 230 = .ok (.if_icmp .eq 1143, 3) := by decide +kernel
theorem dL_law_233 : decode cL_law 233 = .ok (.iconst 0, 1) := by decide +kernel
theorem dL_law_234 : decode cL_law 234 = .ok (.ireturn, 1) := by decide +kernel
theorem dL_law_235 : decode cL_law 235 = .ok (.aload_n 1, 1) := by decide +kernel
theorem dL_law_236 : decode cL_law 236 = .ok (.aload_n 0, 1) := by decide +kernel
theorem dL_law_237 : decode cL_law 237 = .ok (.iload_n 3, 1) := by decide +kernel
theorem dL_law_238 : decode cL_law 238 = .ok (.iconst 1, 1) := by decide +kernel
theorem dL_law_239 : decode cL_law 239 = .ok (.iadd, 1) := by decide +kernel
theorem dL_law_240 : decode cL_law 240 = .ok (.iaload, 1) := by decide +kernel
theorem dL_law_241 : decode cL_law 241 = .ok (.aload_n 0, 1) := by decide +kernel
theorem dL_law_242 : decode cL_law 242 = .ok (.iload_n 3, 1) := by decide +kernel
theorem dL_law_243 : decode cL_law 243 = .ok (.iconst 2, 1) := by decide +kernel
theorem dL_law_244 : decode cL_law 244 = .ok (.iadd, 1) := by decide +kernel
theorem dL_law_245 : decode cL_law 245 = .ok (.iaload, 1) := by decide +kernel
theorem dL_law_246 : decode cL_law 246 = .ok (.aload_n 0, 1) := by decide +kernel
theorem dL_law_247 : decode cL_law 247 = .ok (.iload_n 3, 1) := by decide +kernel
theorem dL_law_248 : decode cL_law 248 = .ok (.iconst 3, 1) := by decide +kernel
theorem dL_law_249 : decode cL_law 249 = .ok (.iadd, 1) := by decide +kernel
theorem dL_law_250 : decode cL_law 250 = .ok (.iaload, 1) := by decide +kernel
theorem dL_law_251 : decode cL_law 251 = .ok (.invokevirtual 18, 3) := by decide +kernel
theorem dL_law_254 : decode cL_law 254 = .ok (.aload_n 2, 1) := by decide +kernel
theorem dL_law_255 : decode cL_law 255 = .ok (.aload_n 0, 1) := by decide +kernel
theorem dL_law_256 : decode cL_law 256 = .ok (.iload_n 3, 1) := by decide +kernel
theorem dL_law_257 : decode cL_law 257 = .ok (.iconst 1, 1) := by decide +kernel
theorem dL_law_258 : decode cL_law 258 = .ok (.iadd, 1) := by decide +kernel
theorem dL_law_259 : decode cL_law 259 = .ok (.iaload, 1) := by decide +kernel
theorem dL_law_260 : decode cL_law 260 = .ok (.aload_n 0, 1) := by decide +kernel
theorem dL_law_261 : decode cL_law 261 = .ok (.iload_n 3, 1) := by decide +kernel
theorem dL_law_262 : decode cL_law 262 = .ok (.iconst 2, 1) := by decide +kernel
theorem dL_law_263 : decode cL_law 263 = .ok (.iadd, 1) := by decide +kernel
theorem dL_law_264 : decode cL_law 264 = .ok (.iaload, 1) := by decide +kernel
theorem dL_law_265 : decode cL_law 265 = .ok (.aload_n 0, 1) := by decide +kernel
theorem dL_law_266 : decode cL_law 266 = .ok (.iload_n 3, 1) := by decide +kernel
theorem dL_law_267 : decode cL_law 267 = .ok (.iconst 3, 1) := by decide +kernel
theorem dL_law_268 : decode cL_law 268 = .ok (.iadd, 1) := by decide +kernel
theorem dL_law_269 : decode cL_law 269 = .ok (.iaload, 1) := by decide +kernel
theorem dL_law_270 : decode cL_law 270 = .ok (.invokevirtual 21, 3) := by decide +kernel
theorem dL_law_273 : decode cL_law 273 = .ok (.if_icmp .eq 1100, 3) := by decide +kernel
theorem dL_law_276 : decode cL_law 276 = .ok (.iconst 0, 1) := by decide +kernel
theorem dL_law_277 : decode cL_law 277 = .ok (.ireturn, 1) := by decide +kernel
theorem dL_law_278 : decode cL_law 278 = .ok (.aload_n 1, 1) := by decide +kernel
theorem dL_law_279 : decode cL_law 279 = .ok (.aload_n 0, 1) := by decide +kernel
theorem dL_law_280 : decode cL_law 280 = .ok (.iload_n 3, 1) := by decide +kernel
theorem dL_law_281 : decode cL_law 281 = .ok (.iconst 1, 1) := by decide +kernel
theorem dL_law_282 : decode cL_law 282 = .ok (.iadd, 1) := by decide +kernel
theorem dL_law_283 : decode cL_law 283 = .ok (.iaload, 1) := by decide +kernel
theorem dL_law_284 : decode cL_law 284 = .ok (.aload_n 0, 1) := by decide +kernel
theorem dL_law_285 : decode cL_law 285 = .ok (.iload_n 3, 1) := by decide +kernel
theorem dL_law_286 : decode cL_law 286 = .ok (.iconst 2, 1) := by decide +kernel
theorem dL_law_287 : decode cL_law 287 = .ok (.iadd, 1) := by decide +kernel
theorem dL_law_288 : decode cL_law 288 = .ok (.iaload, 1) := by decide +kernel
theorem dL_law_289 : decode cL_law 289 = .ok (.aload_n 0, 1) := by decide +kernel
theorem dL_law_290 : decode cL_law 290 = .ok (.iload_n 3, 1) := by decide +kernel
theorem dL_law_291 : decode cL_law 291 = .ok (.iconst 3, 1) := by decide +kernel
theorem dL_law_292 : decode cL_law 292 = .ok (.iadd, 1) := by decide +kernel
theorem dL_law_293 : decode cL_law 293 = .ok (.iaload, 1) := by decide +kernel
theorem dL_law_294 : decode cL_law 294 = .ok (.aload_n 0, 1) := by decide +kernel
theorem dL_law_295 : decode cL_law 295 = .ok (.iload_n 3, 1) := by decide +kernel
theorem dL_law_296 : decode cL_law 296 = .ok (.iconst 4, 1) := by decide +kernel
theorem dL_law_297 : decode cL_law 297 = .ok (.iadd, 1) := by decide +kernel
theorem dL_law_298 : decode cL_law 298 = .ok (.iaload, 1) := by decide +kernel
theorem dL_law_299 : decode cL_law 299 = .ok (.aload_n 0, 1) := by decide +kernel
theorem dL_law_300 : decode cL_law 300 = .ok (.iload_n 3, 1) := by decide +kernel
theorem dL_law_301 : decode cL_law 301 = .ok (.iconst 5, 1) := by decide +kernel
theorem dL_law_302 : decode cL_law 302 = .ok (.iadd, 1) := by decide +kernel
theorem dL_law_303 : decode cL_law 303 = .ok (.iaload, 1) := by decide +kernel
theorem dL_law_304 : decode cL_law 304 = .ok (.invokevirtual 22, 3) := by decide +kernel
theorem dL_law_307 : decode cL_law 307 = .ok (.aload_n 2, 1) := by decide +kernel
theorem dL_law_308 : decode cL_law 308 = .ok (.aload_n 0, 1) := by decide +kernel
theorem dL_law_309 : decode cL_law 309 = .ok (.iload_n 3, 1) := by decide +kernel
theorem dL_law_310 : decode cL_law 310 = .ok (.iconst 1, 1) := by decide +kernel
theorem dL_law_311 : decode cL_law 311 = .ok (.iadd, 1) := by decide +kernel
theorem dL_law_312 : decode cL_law 312 = .ok (.iaload, 1) := by decide +kernel
theorem dL_law_313 : decode cL_law 313 = .ok (.aload_n 0, 1) := by decide +kernel
theorem dL_law_314 : decode cL_law 314 = .ok (.iload_n 3, 1) := by decide +kernel
theorem dL_law_315 : decode cL_law 315 = .ok (.iconst 2, 1) := by decide +kernel
theorem dL_law_316 : decode cL_law 316 = .ok (.iadd, 1) := by decide +kernel
theorem dL_law_317 : decode cL_law 317 = .ok (.iaload, 1) := by decide +kernel
theorem dL_law_318 : decode cL_law 318 = .ok (.aload_n 0, 1) := by decide +kernel
theorem dL_law_319 : decode cL_law 319 = .ok (.iload_n 3, 1) := by decide +kernel
theorem dL_law_320 : decode cL_law 320 = .ok (.iconst 3, 1) := by decide +kernel
theorem dL_law_321 : decode cL_law 321 = .ok (.iadd, 1) := by decide +kernel
theorem dL_law_322 : decode cL_law 322 = .ok (.iaload, 1) := by decide +kernel
theorem dL_law_323 : decode cL_law 323 = .ok (.aload_n 0, 1) := by decide +kernel
theorem dL_law_324 : decode cL_law 324 = .ok (.iload_n 3, 1) := by decide +kernel
theorem dL_law_325 : decode cL_law 325 = .ok (.iconst 4, 1) := by decide +kernel
theorem dL_law_326 : decode cL_law 326 = .ok (.iadd, 1) := by decide +kernel
theorem dL_law_327 : decode cL_law 327 = .ok (.iaload, 1) := by decide +kernel
theorem dL_law_328 : decode cL_law 328 = .ok (.aload_n 0, 1) := by decide +kernel
theorem dL_law_329 : decode cL_law 329 = .ok (.iload_n 3, 1) := by decide +kernel
theorem dL_law_330 : decode cL_law 330 = .ok (.iconst 5, 1) := by decide +kernel
theorem dL_law_331 : decode cL_law 331 = .ok (.iadd, 1) := by decide +kernel
theorem dL_law_332 : decode cL_law 332 = .ok (.iaload, 1) := by decide +kernel
theorem dL_law_333 : decode cL_law 333 = .ok (.invokevirtual 26, 3) := by decide +kernel
theorem dL_law_336 : decode cL_law 336 = .ok (.if_icmp .eq 1037, 3) := by decide +kernel
theorem dL_law_339 : decode cL_law 339 = .ok (.iconst 0, 1) := by decide +kernel
theorem dL_law_340 : decode cL_law 340 = .ok (.ireturn, 1) := by decide +kernel
theorem dL_law_341 : decode cL_law 341 = .ok (.aload_n 1, 1) := by decide +kernel
theorem dL_law_342 : decode cL_law 342 = .ok (.aload_n 0, 1) := by decide +kernel
theorem dL_law_343 : decode cL_law 343 = .ok (.iload_n 3, 1) := by decide +kernel
theorem dL_law_344 : decode cL_law 344 = .ok (.iconst 1, 1) := by decide +kernel
theorem dL_law_345 : decode cL_law 345 = .ok (.iadd, 1) := by decide +kernel
theorem dL_law_346 : decode cL_law 346 = .ok (.iaload, 1) := by decide +kernel
theorem dL_law_347 : decode cL_law 347 = .ok (.invokevirtual 27, 3) := by decide +kernel
theorem dL_law_350 : decode cL_law 350 = .ok (.aload_n 2, 1) := by decide +kernel
theorem dL_law_351 : decode cL_law 351 = .ok (.aload_n 0, 1) := by decide +kernel
theorem dL_law_352 : decode cL_law 352 = .ok (.iload_n 3, 1) := by decide +kernel
theorem dL_law_353 : decode cL_law 353 = .ok (.iconst 1, 1) := by decide +kernel
theorem dL_law_354 : decode cL_law 354 = .ok (.iadd, 1) := by decide +kernel
theorem dL_law_355 : decode cL_law 355 = .ok (.iaload, 1) := by decide +kernel
theorem dL_law_356 : decode cL_law 356 = .ok (.invokevirtual 31, 3) := by decide +kernel
theorem dL_law_359 : decode cL_law 359 = .ok (.if_icmp .eq 1014, 3) := by decide +kernel
theorem dL_law_362 : decode cL_law 362 = .ok (.iconst 0, 1) := by decide +kernel
theorem dL_law_363 : decode cL_law 363 = .ok (.ireturn, 1) := by decide +kernel
theorem dL_law_364 : decode cL_law 364 = .ok (.aload_n 1, 1) := by decide +kernel
theorem dL_law_365 : decode cL_law 365 = .ok (.aload_n 0, 1) := by decide +kernel
theorem dL_law_366 : decode cL_law 366 = .ok (.iload_n 3, 1) := by decide +kernel
theorem dL_law_367 : decode cL_law 367 = .ok (.iconst 1, 1) := by decide +kernel
theorem dL_law_368 : decode cL_law 368 = .ok (.iadd, 1) := by decide +kernel
theorem dL_law_369 : decode cL_law 369 = .ok (.iaload, 1) := by decide +kernel
theorem dL_law_370 : decode cL_law 370 = .ok (.invokevirtual 32, 3) := by decide +kernel
theorem dL_law_373 : decode cL_law 373 = .ok (.aload_n 2, 1) := by decide +kernel
theorem dL_law_374 : decode cL_law 374 = .ok (.aload_n 0, 1) := by decide +kernel
theorem dL_law_375 : decode cL_law 375 = .ok (.iload_n 3, 1) := by decide +kernel
theorem dL_law_376 : decode cL_law 376 = .ok (.iconst 1, 1) := by decide +kernel
theorem dL_law_377 : decode cL_law 377 = .ok (.iadd, 1) := by decide +kernel
theorem dL_law_378 : decode cL_law 378 = .ok (.iaload, 1) := by decide +kernel
theorem dL_law_379 : decode cL_law 379 = .ok (.invokevirtual 35, 3) := by decide +kernel
theorem dL_law_382 : decode cL_law 382 = .ok (.if_icmp .eq 991, 3) := by decide +kernel
theorem dL_law_385 : decode cL_law 385 = .ok (.iconst 0, 1) := by decide +kernel
theorem dL_law_386 : decode cL_law 386 = .ok (.ireturn, 1) := by decide +kernel
theorem dL_law_387 : decode cL_law 387 = .ok (.aload_n 1, 1) := by decide +kernel
theorem dL_law_388 : decode cL_law 388 = .ok (.invokevirtual 36, 3) := by decide +kernel
theorem dL_law_391 : decode cL_law 391 = .ok (.aload_n 2, 1) := by decide +kernel
theorem dL_law_392 : decode cL_law 392 = .ok (.invokevirtual 40, 3) := by decide +kernel
theorem dL_law_395 : decode cL_law 395 = .ok (.if_icmp .eq 978, 3) := by decide +kernel
theorem dL_law_398 : decode cL_law 398 = .ok (.iconst 0, 1) := by decide +kernel
theorem dL_law_399 : decode cL_law 399 = .ok (.ireturn, 1) := by decide +kernel
theorem dL_law_400 : decode cL_law 400 = .ok (.aload_n 1, 1) := by decide +kernel
theorem dL_law_401 : decode cL_law 401 = .ok (.invokevirtual 41, 3) := by decide +kernel
theorem dL_law_404 : decode cL_law 404 = .ok (.aload_n 2, 1) := by decide +kernel
theorem dL_law_405 : decode cL_law 405 = .ok (.invokevirtual 44, 3) := by decide +kernel
theorem dL_law_408 : decode cL_law 408 = .ok (.if_icmp .eq 965, 3) := by decide +kernel
theorem dL_law_411 : decode cL_law 411 = .ok (.iconst 0, 1) := by decide +kernel
theorem dL_law_412 : decode cL_law 412 = .ok (.ireturn, 1) := by decide +kernel
theorem dL_law_413 : decode cL_law 413 = .ok (.aload_n 1, 1) := by decide +kernel
theorem dL_law_414 : decode cL_law 414 = .ok (.invokevirtual 45, 3) := by decide +kernel
theorem dL_law_417 : decode cL_law 417 = .ok (.aload_n 2, 1) := by decide +kernel
theorem dL_law_418 : decode cL_law 418 = .ok (.invokevirtual 48, 3) := by decide +kernel
theorem dL_law_421 : decode cL_law 421 = .ok (.if_icmp .eq 952, 3) := by decide +kernel
theorem dL_law_424 : decode cL_law 424 = .ok (.iconst 0, 1) := by decide +kernel
theorem dL_law_425 : decode cL_law 425 = .ok (.ireturn, 1) := by decide +kernel
theorem dL_law_426 : decode cL_law 426 = .ok (.aload_n 1, 1) := by decide +kernel
theorem dL_law_427 : decode cL_law 427 = .ok (.aload_n 0, 1) := by decide +kernel
theorem dL_law_428 : decode cL_law 428 = .ok (.iload_n 3, 1) := by decide +kernel
theorem dL_law_429 : decode cL_law 429 = .ok (.iconst 1, 1) := by decide +kernel
theorem dL_law_430 : decode cL_law 430 = .ok (.iadd, 1) := by decide +kernel
theorem dL_law_431 : decode cL_law 431 = .ok (.iaload, 1) := by decide +kernel
theorem dL_law_432 : decode cL_law 432 = .ok (.invokevirtual 49, 3) := by decide +kernel
theorem dL_law_435 : decode cL_law 435 = .ok (.aload_n 2, 1) := by decide +kernel
theorem dL_law_436 : decode cL_law 436 = .ok (.aload_n 0, 1) := by decide +kernel
theorem dL_law_437 : decode cL_law 437 = .ok (.iload_n 3, 1) := by decide +kernel
theorem dL_law_438 : decode cL_law 438 = .ok (.iconst 1, 1) := by decide +kernel
theorem dL_law_439 : decode cL_law 439 = .ok (.iadd, 1) := by decide +kernel
theorem dL_law_440 : decode cL_law 440 = .ok (.iaload, 1) := by decide +kernel
theorem dL_law_441 : decode cL_law 441 = .ok (.invokevirtual 52, 3) := by decide +kernel
theorem dL_law_444 : decode cL_law 444 = .ok (.if_icmp .eq 929, 3) := by decide +kernel
theorem dL_law_447 : decode cL_law 447 = .ok (.iconst 0, 1) := by decide +kernel
theorem dL_law_448 : decode cL_law 448 = .ok (.ireturn, 1) := by decide +kernel
theorem dL_law_449 : decode cL_law 449 = .ok (.aload_n 1, 1) := by decide +kernel
theorem dL_law_450 : decode cL_law 450 = .ok (.aload_n 0, 1) := by decide +kernel
theorem dL_law_451 : decode cL_law 451 = .ok (.iload_n 3, 1) := by decide +kernel
theorem dL_law_452 : decode cL_law 452 = .ok (.iconst 1, 1) := by decide +kernel
theorem dL_law_453 : decode cL_law 453 = .ok (.iadd, 1) := by decide +kernel
theorem dL_law_454 : decode cL_law 454 = .ok (.iaload, 1) := by decide +kernel
theorem dL_law_455 : decode cL_law 455 = .ok (.aload_n 0, 1) := by decide +kernel
theorem dL_law_456 : decode cL_law 456 = .ok (.iload_n 3, 1) := by decide +kernel
theorem dL_law_457 : decode cL_law 457 = .ok (.iconst 2, 1) := by decide +kernel
theorem dL_law_458 : decode cL_law 458 = .ok (.iadd, 1) := by decide +kernel
theorem dL_law_459 : decode cL_law 459 = .ok (.iaload, 1) := by decide +kernel
theorem dL_law_460 : decode cL_law 460 = .ok (.invokevirtual 53, 3) := by decide +kernel
theorem dL_law_463 : decode cL_law 463 = .ok (.aload_n 2, 1) := by decide +kernel
theorem dL_law_464 : decode cL_law 464 = .ok (.aload_n 0, 1) := by decide +kernel
theorem dL_law_465 : decode cL_law 465 = .ok (.iload_n 3, 1) := by decide +kernel
theorem dL_law_466 : decode cL_law 466 = .ok (.iconst 1, 1) := by decide +kernel
theorem dL_law_467 : decode cL_law 467 = .ok (.iadd, 1) := by decide +kernel
theorem dL_law_468 : decode cL_law 468 = .ok (.iaload, 1) := by decide +kernel
theorem dL_law_469 : decode cL_law 469 = .ok (.aload_n 0, 1) := by decide +kernel
theorem dL_law_470 : decode cL_law 470 = .ok (.iload_n 3, 1) := by decide +kernel
theorem dL_law_471 : decode cL_law 471 = .ok (.iconst 2, 1) := by decide +kernel
theorem dL_law_472 : decode cL_law 472 = .ok (.iadd, 1) := by decide +kernel
theorem dL_law_473 : decode cL_law 473 = .ok (.iaload, 1) := by decide +kernel
theorem dL_law_474 : decode cL_law 474 = .ok (.invokevirtual 57, 3) := by decide +kernel
theorem dL_law_477 : decode cL_law 477 = .ok (.if_icmp .eq 896, 3) := by decide +kernel
theorem dL_law_480 : decode cL_law 480 = .ok (.iconst 0, 1) := by decide +kernel
theorem dL_law_481 : decode cL_law 481 = .ok (.ireturn, 1) := by decide +kernel
theorem dL_law_482 : decode cL_law 482 = .ok (.aload_n 1, 1) := by decide +kernel
theorem dL_law_483 : decode cL_law 483 = .ok (.aload_n 0, 1) := by decide +kernel
theorem dL_law_484 : decode cL_law 484 = .ok (.iload_n 3, 1) := by decide +kernel
theorem dL_law_485 : decode cL_law 485 = .ok (.iconst 1, 1) := by decide +kernel
theorem dL_law_486 : decode cL_law 486 = .ok (.iadd, 1) := by decide +kernel
theorem dL_law_487 : decode cL_law 487 = .ok (.iaload, 1) := by decide +kernel
theorem dL_law_488 : decode cL_law 488 = .ok (.aload_n 0, 1) := by decide +kernel
theorem dL_law_489 : decode cL_law 489 = .ok (.iload_n 3, 1) := by decide +kernel
theorem dL_law_490 : decode cL_law 490 = .ok (.iconst 2, 1) := by decide +kernel
theorem dL_law_491 : decode cL_law 491 = .ok (.iadd, 1) := by decide +kernel
theorem dL_law_492 : decode cL_law 492 = .ok (.iaload, 1) := by decide +kernel
theorem dL_law_493 : decode cL_law 493 = .ok (.invokevirtual 58, 3) := by decide +kernel
theorem dL_law_496 : decode cL_law 496 = .ok (.aload_n 2, 1) := by decide +kernel
theorem dL_law_497 : decode cL_law 497 = .ok (.aload_n 0, 1) := by decide +kernel
theorem dL_law_498 : decode cL_law 498 = .ok (.iload_n 3, 1) := by decide +kernel
theorem dL_law_499 : decode cL_law 499 = .ok (.iconst 1, 1) := by decide +kernel
theorem dL_law_500 : decode cL_law 500 = .ok (.iadd, 1) := by decide +kernel
theorem dL_law_501 : decode cL_law 501 = .ok (.iaload, 1) := by decide +kernel
theorem dL_law_502 : decode cL_law 502 = .ok (.aload_n 0, 1) := by decide +kernel
theorem dL_law_503 : decode cL_law 503 = .ok (.iload_n 3, 1) := by decide +kernel
theorem dL_law_504 : decode cL_law 504 = .ok (.iconst 2, 1) := by decide +kernel
theorem dL_law_505 : decode cL_law 505 = .ok (.iadd, 1) := by decide +kernel
theorem dL_law_506 : decode cL_law 506 = .ok (.iaload, 1) := by decide +kernel
theorem dL_law_507 : decode cL_law 507 = .ok (.invokevirtual 61, 3) := by decide +kernel
theorem dL_law_510 : decode cL_law 510 = .ok (.if_icmp .eq 863, 3) := by decide +kernel
theorem dL_law_513 : decode cL_law 513 = .ok (.iconst 0, 1) := by decide +kernel
theorem dL_law_514 : decode cL_law 514 = .ok (.ireturn, 1) := by decide +kernel
theorem dL_law_515 : decode cL_law 515 = .ok (.aload_n 1, 1) := by decide +kernel
theorem dL_law_516 : decode cL_law 516 = .ok (.aload_n 0, 1) := by decide +kernel
theorem dL_law_517 : decode cL_law 517 = .ok (.iload_n 3, 1) := by decide +kernel
theorem dL_law_518 : decode cL_law 518 = .ok (.iconst 1, 1) := by decide +kernel
theorem dL_law_519 : decode cL_law 519 = .ok (.iadd, 1) := by decide +kernel
theorem dL_law_520 : decode cL_law 520 = .ok (.iaload, 1) := by decide +kernel
theorem dL_law_521 : decode cL_law 521 = .ok (.aload_n 0, 1) := by decide +kernel
theorem dL_law_522 : decode cL_law 522 = .ok (.iload_n 3, 1) := by decide +kernel
theorem dL_law_523 : decode cL_law 523 = .ok (.iconst 2, 1) := by decide +kernel
theorem dL_law_524 : decode cL_law 524 = .ok (.iadd, 1) := by decide +kernel
theorem dL_law_525 : decode cL_law 525 = .ok (.iaload, 1) := by decide +kernel
theorem dL_law_526 : decode cL_law 526 = .ok (.invokevirtual 62, 3) := by decide +kernel
theorem dL_law_529 : decode cL_law 529 = .ok (.aload_n 2, 1) := by decide +kernel
theorem dL_law_530 : decode cL_law 530 = .ok (.aload_n 0, 1) := by decide +kernel
theorem dL_law_531 : decode cL_law 531 = .ok (.iload_n 3, 1) := by decide +kernel
theorem dL_law_532 : decode cL_law 532 = .ok (.iconst 1, 1) := by decide +kernel
theorem dL_law_533 : decode cL_law 533 = .ok (.iadd, 1) := by decide +kernel
theorem dL_law_534 : decode cL_law 534 = .ok (.iaload, 1) := by decide +kernel
theorem dL_law_535 : decode cL_law 535 = .ok (.aload_n 0, 1) := by decide +kernel
theorem dL_law_536 : decode cL_law 536 = .ok (.iload_n 3, 1) := by decide +kernel
theorem dL_law_537 : decode cL_law 537 = .ok (.iconst 2, 1) := by decide +kernel
theorem dL_law_538 : decode cL_law 538 = .ok (.iadd, 1) := by decide +kernel
theorem dL_law_539 : decode cL_law 539 = .ok (.iaload, 1) := by decide +kernel
theorem dL_law_540 : decode cL_law 540 = .ok (.invokevirtual 65, 3) := by decide +kernel
theorem dL_law_543 : decode cL_law 543 = .ok (.if_icmp .eq 830, 3) := by decide +kernel
theorem dL_law_546 : decode cL_law 546 = .ok (.iconst 0, 1) := by decide +kernel
theorem dL_law_547 : decode cL_law 547 = .ok (.ireturn, 1) := by decide +kernel
theorem dL_law_548 : decode cL_law 548 = .ok (.aload_n 1, 1) := by decide +kernel
theorem dL_law_549 : decode cL_law 549 = .ok (.aload_n 0, 1) := by decide +kernel
theorem dL_law_550 : decode cL_law 550 = .ok (.iload_n 3, 1) := by decide +kernel
theorem dL_law_551 : decode cL_law 551 = .ok (.iconst 1, 1) := by decide +kernel
theorem dL_law_552 : decode cL_law 552 = .ok (.iadd, 1) := by decide +kernel
theorem dL_law_553 : decode cL_law 553 = .ok (.iaload, 1) := by decide +kernel
theorem dL_law_554 : decode cL_law 554 = .ok (.aload_n 0, 1) := by decide +kernel
theorem dL_law_555 : decode cL_law 555 = .ok (.iload_n 3, 1) := by decide +kernel
theorem dL_law_556 : decode cL_law 556 = .ok (.iconst 2, 1) := by decide +kernel
theorem dL_law_557 : decode cL_law 557 = .ok (.iadd, 1) := by decide +kernel
theorem dL_law_558 : decode cL_law 558 = .ok (.iaload, 1) := by decide +kernel
theorem dL_law_559 : decode cL_law 559 = .ok (.invokevirtual 66, 3) := by decide +kernel
theorem dL_law_562 : decode cL_law 562 = .ok (.aload_n 2, 1) := by decide +kernel
theorem dL_law_563 : decode cL_law 563 = .ok (.aload_n 0, 1) := by decide +kernel
theorem dL_law_564 : decode cL_law 564 = .ok (.iload_n 3, 1) := by decide +kernel
theorem dL_law_565 : decode cL_law 565 = .ok (.iconst 1, 1) := by decide +kernel
theorem dL_law_566 : decode cL_law 566 = .ok (.iadd, 1) := by decide +kernel
theorem dL_law_567 : decode cL_law 567 = .ok (.iaload, 1) := by decide +kernel
theorem dL_law_568 : decode cL_law 568 = .ok (.aload_n 0, 1) := by decide +kernel
theorem dL_law_569 : decode cL_law 569 = .ok (.iload_n 3, 1) := by decide +kernel
theorem dL_law_570 : decode cL_law 570 = .ok (.iconst 2, 1) := by decide +kernel
theorem dL_law_571 : decode cL_law 571 = .ok (.iadd, 1) := by decide +kernel
theorem dL_law_572 : decode cL_law 572 = .ok (.iaload, 1) := by decide +kernel
theorem dL_law_573 : decode cL_law 573 = .ok (.invokevirtual 69, 3) := by decide +kernel
theorem dL_law_576 : decode cL_law 576 = .ok (.if_icmp .eq 797, 3) := by decide +kernel
theorem dL_law_579 : decode cL_law 579 = .ok (.iconst 0, 1) := by decide +kernel
theorem dL_law_580 : decode cL_law 580 = .ok (.ireturn, 1) := by decide +kernel
theorem dL_law_581 : decode cL_law 581 = .ok (.aload_n 1, 1) := by decide +kernel
theorem dL_law_582 : decode cL_law 582 = .ok (.aload_n 0, 1) := by decide +kernel
theorem dL_law_583 : decode cL_law 583 = .ok (.iload_n 3, 1) := by decide +kernel
theorem dL_law_584 : decode cL_law 584 = .ok (.iconst 1, 1) := by decide +kernel
theorem dL_law_585 : decode cL_law 585 = .ok (.iadd, 1) := by decide +kernel
theorem dL_law_586 : decode cL_law 586 = .ok (.iaload, 1) := by decide +kernel
theorem dL_law_587 : decode cL_law 587 = .ok (.aload_n 0, 1) := by decide +kernel
theorem dL_law_588 : decode cL_law 588 = .ok (.iload_n 3, 1) := by decide +kernel
theorem dL_law_589 : decode cL_law 589 = .ok (.iconst 2, 1) := by decide +kernel
theorem dL_law_590 : decode cL_law 590 = .ok (.iadd, 1) := by decide +kernel
theorem dL_law_591 : decode cL_law 591 = .ok (.iaload, 1) := by decide +kernel
theorem dL_law_592 : decode cL_law 592 = .ok (.invokevirtual 70, 3) := by decide +kernel
theorem dL_law_595 : decode cL_law 595 = .ok (.aload_n 2, 1) := by decide +kernel
theorem dL_law_596 : decode cL_law 596 = .ok (.aload_n 0, 1) := by decide +kernel
theorem dL_law_597 : decode cL_law 597 = .ok (.iload_n 3, 1) := by decide +kernel
theorem dL_law_598 : decode cL_law 598 = .ok (.iconst 1, 1) := by decide +kernel
theorem dL_law_599 : decode cL_law 599 = .ok (.iadd, 1) := by decide +kernel
theorem dL_law_600 : decode cL_law 600 = .ok (.iaload, 1) := by decide +kernel
theorem dL_law_601 : decode cL_law 601 = .ok (.aload_n 0, 1) := by decide +kernel
theorem dL_law_602 : decode cL_law 602 = .ok (.iload_n 3, 1) := by decide +kernel
theorem dL_law_603 : decode cL_law 603 = .ok (.iconst 2, 1) := by decide +kernel
theorem dL_law_604 : decode cL_law 604 = .ok (.iadd, 1) := by decide +kernel
theorem dL_law_605 : decode cL_law 605 = .ok (.iaload, 1) := by decide +kernel
theorem dL_law_606 : decode cL_law 606 = .ok (.invokevirtual 73, 3) := by decide +kernel
theorem dL_law_609 : decode cL_law 609 = .ok (.if_icmp .eq 764, 3) := by decide +kernel
theorem dL_law_612 : decode cL_law 612 = .ok (.iconst 0, 1) := by decide +kernel
theorem dL_law_613 : decode cL_law 613 = .ok (.ireturn, 1) := by decide +kernel
theorem dL_law_614 : decode cL_law 614 = .ok (.aload_n 1, 1) := by decide +kernel
theorem dL_law_615 : decode cL_law 615 = .ok (.aload_n 0, 1) := by decide +kernel
theorem dL_law_616 : decode cL_law 616 = .ok (.iload_n 3, 1) := by decide +kernel
theorem dL_law_617 : decode cL_law 617 = .ok (.iconst 1, 1) := by decide +kernel
theorem dL_law_618 : decode cL_law 618 = .ok (.iadd, 1) := by decide +kernel
theorem dL_law_619 : decode cL_law 619 = .ok (.iaload, 1) := by decide +kernel
theorem dL_law_620 : decode cL_law 620 = .ok (.aload_n 0, 1) := by decide +kernel
theorem dL_law_621 : decode cL_law 621 = .ok (.iload_n 3, 1) := by decide +kernel
theorem dL_law_622 : decode cL_law 622 = .ok (.iconst 2, 1) := by decide +kernel
theorem dL_law_623 : decode cL_law 623 = .ok (.iadd, 1) := by decide +kernel
theorem dL_law_624 : decode cL_law 624 = .ok (.iaload, 1) := by decide +kernel
theorem dL_law_625 : decode cL_law 625 = .ok (.aload_n 0, 1) := by decide +kernel
theorem dL_law_626 : decode cL_law 626 = .ok (.iload_n 3, 1) := by decide +kernel
theorem dL_law_627 : decode cL_law 627 = .ok (.iconst 3, 1) := by decide +kernel
theorem dL_law_628 : decode cL_law 628 = .ok (.iadd, 1) := by decide +kernel
theorem dL_law_629 : decode cL_law 629 = .ok (.iaload, 1) := by decide +kernel
theorem dL_law_630 : decode cL_law 630 = .ok (.invokevirtual 74, 3) := by decide +kernel
theorem dL_law_633 : decode cL_law 633 = .ok (.aload_n 2, 1) := by decide +kernel
theorem dL_law_634 : decode cL_law 634 = .ok (.aload_n 0, 1) := by decide +kernel
theorem dL_law_635 : decode cL_law 635 = .ok (.iload_n 3, 1) := by decide +kernel
theorem dL_law_636 : decode cL_law 636 = .ok (.iconst 1, 1) := by decide +kernel
theorem dL_law_637 : decode cL_law 637 = .ok (.iadd, 1) := by decide +kernel
theorem dL_law_638 : decode cL_law 638 = .ok (.iaload, 1) := by decide +kernel
theorem dL_law_639 : decode cL_law 639 = .ok (.aload_n 0, 1) := by decide +kernel
theorem dL_law_640 : decode cL_law 640 = .ok (.iload_n 3, 1) := by decide +kernel
theorem dL_law_641 : decode cL_law 641 = .ok (.iconst 2, 1) := by decide +kernel
theorem dL_law_642 : decode cL_law 642 = .ok (.iadd, 1) := by decide +kernel
theorem dL_law_643 : decode cL_law 643 = .ok (.iaload, 1) := by decide +kernel
theorem dL_law_644 : decode cL_law 644 = .ok (.aload_n 0, 1) := by decide +kernel
theorem dL_law_645 : decode cL_law 645 = .ok (.iload_n 3, 1) := by decide +kernel
theorem dL_law_646 : decode cL_law 646 = .ok (.iconst 3, 1) := by decide +kernel
theorem dL_law_647 : decode cL_law 647 = .ok (.iadd, 1) := by decide +kernel
theorem dL_law_648 : decode cL_law 648 = .ok (.iaload, 1) := by decide +kernel
theorem dL_law_649 : decode cL_law 649 = .ok (.invokevirtual 77, 3) := by decide +kernel
theorem dL_law_652 : decode cL_law 652 = .ok (.if_icmp .eq 721, 3) := by decide +kernel
theorem dL_law_655 : decode cL_law 655 = .ok (.iconst 0, 1) := by decide +kernel
theorem dL_law_656 : decode cL_law 656 = .ok (.ireturn, 1) := by decide +kernel
theorem dL_law_657 : decode cL_law 657 = .ok (.aload_n 1, 1) := by decide +kernel
theorem dL_law_658 : decode cL_law 658 = .ok (.aload_n 0, 1) := by decide +kernel
theorem dL_law_659 : decode cL_law 659 = .ok (.iload_n 3, 1) := by decide +kernel
theorem dL_law_660 : decode cL_law 660 = .ok (.iconst 1, 1) := by decide +kernel
theorem dL_law_661 : decode cL_law 661 = .ok (.iadd, 1) := by decide +kernel
theorem dL_law_662 : decode cL_law 662 = .ok (.iaload, 1) := by decide +kernel
theorem dL_law_663 : decode cL_law 663 = .ok (.invokevirtual 78, 3) := by decide +kernel
theorem dL_law_666 : decode cL_law 666 = .ok (.aload_n 2, 1) := by decide +kernel
theorem dL_law_667 : decode cL_law 667 = .ok (.aload_n 0, 1) := by decide +kernel
theorem dL_law_668 : decode cL_law 668 = .ok (.iload_n 3, 1) := by decide +kernel
theorem dL_law_669 : decode cL_law 669 = .ok (.iconst 1, 1) := by decide +kernel
theorem dL_law_670 : decode cL_law 670 = .ok (.iadd, 1) := by decide +kernel
theorem dL_law_671 : decode cL_law 671 = .ok (.iaload, 1) := by decide +kernel
theorem dL_law_672 : decode cL_law 672 = .ok (.invokevirtual 81, 3) := by decide +kernel
theorem dL_law_675 : decode cL_law 675 = .ok (.if_icmp .eq 698, 3) := by decide +kernel
theorem dL_law_678 : decode cL_law 678 = .ok (.iconst 0, 1) := by decide +kernel
theorem dL_law_679 : decode cL_law 679 = .ok (.ireturn, 1) := by decide +kernel
theorem dL_law_680 : decode cL_law 680 = .ok (.aload_n 1, 1) := by decide +kernel
theorem dL_law_681 : decode cL_law 681 = .ok (.aload_n 0, 1) := by decide +kernel
theorem dL_law_682 : decode cL_law 682 = .ok (.iload_n 3, 1) := by decide +kernel
theorem dL_law_683 : decode cL_law 683 = .ok (.iconst 1, 1) := by decide +kernel
theorem dL_law_684 : decode cL_law 684 = .ok (.iadd, 1) := by decide +kernel
theorem dL_law_685 : decode cL_law 685 = .ok (.iaload, 1) := by decide +kernel
theorem dL_law_686 : decode cL_law 686 = .ok (.aload_n 0, 1) := by decide +kernel
theorem dL_law_687 : decode cL_law 687 = .ok (.iload_n 3, 1) := by decide +kernel
theorem dL_law_688 : decode cL_law 688 = .ok (.iconst 2, 1) := by decide +kernel
theorem dL_law_689 : decode cL_law 689 = .ok (.iadd, 1) := by decide +kernel
theorem dL_law_690 : decode cL_law 690 = .ok (.iaload, 1) := by decide +kernel
theorem dL_law_691 : decode cL_law 691 = .ok (.invokevirtual 82, 3) := by decide +kernel
theorem dL_law_694 : decode cL_law 694 = .ok (.aload_n 2, 1) := by decide +kernel
theorem dL_law_695 : decode cL_law 695 = .ok (.aload_n 0, 1) := by decide +kernel
theorem dL_law_696 : decode cL_law 696 = .ok (.iload_n 3, 1) := by decide +kernel
theorem dL_law_697 : decode cL_law 697 = .ok (.iconst 1, 1) := by decide +kernel
theorem dL_law_698 : decode cL_law 698 = .ok (.iadd, 1) := by decide +kernel
theorem dL_law_699 : decode cL_law 699 = .ok (.iaload, 1) := by decide +kernel
theorem dL_law_700 : decode cL_law 700 = .ok (.aload_n 0, 1) := by decide +kernel
theorem dL_law_701 : decode cL_law 701 = .ok (.iload_n 3, 1) := by decide +kernel
theorem dL_law_702 : decode cL_law 702 = .ok (.iconst 2, 1) := by decide +kernel
theorem dL_law_703 : decode cL_law 703 = .ok (.iadd, 1) := by decide +kernel
theorem dL_law_704 : decode cL_law 704 = .ok (.iaload, 1) := by decide +kernel
theorem dL_law_705 : decode cL_law 705 = .ok (.invokevirtual 85, 3) := by decide +kernel
theorem dL_law_708 : decode cL_law 708 = .ok (.if_icmp .eq 665, 3) := by decide +kernel
theorem dL_law_711 : decode cL_law 711 = .ok (.iconst 0, 1) := by decide +kernel
theorem dL_law_712 : decode cL_law 712 = .ok (.ireturn, 1) := by decide +kernel
theorem dL_law_713 : decode cL_law 713 = .ok (.aload_n 1, 1) := by decide +kernel
theorem dL_law_714 : decode cL_law 714 = .ok (.aload_n 0, 1) := by decide +kernel
theorem dL_law_715 : decode cL_law 715 = .ok (.iload_n 3, 1) := by decide +kernel
theorem dL_law_716 : decode cL_law 716 = .ok (.iconst 1, 1) := by decide +kernel
theorem dL_law_717 : decode cL_law 717 = .ok (.iadd, 1) := by decide +kernel
theorem dL_law_718 : decode cL_law 718 = .ok (.iaload, 1) := by decide +kernel
theorem dL_law_719 : decode cL_law 719 = .ok (.aload_n 0, 1) := by decide +kernel
theorem dL_law_720 : decode cL_law 720 = .ok (.iload_n 3, 1) := by decide +kernel
theorem dL_law_721 : decode cL_law 721 = .ok (.iconst 2, 1) := by decide +kernel
theorem dL_law_722 : decode cL_law 722 = .ok (.iadd, 1) := by decide +kernel
theorem dL_law_723 : decode cL_law 723 = .ok (.iaload, 1) := by decide +kernel
theorem dL_law_724 : decode cL_law 724 = .ok (.invokevirtual 86, 3) := by decide +kernel
theorem dL_law_727 : decode cL_law 727 = .ok (.aload_n 2, 1) := by decide +kernel
theorem dL_law_728 : decode cL_law 728 = .ok (.aload_n 0, 1) := by decide +kernel
theorem dL_law_729 : decode cL_law 729 = .ok (.iload_n 3, 1) := by decide +kernel
theorem dL_law_730 : decode cL_law 730 = .ok (.iconst 1, 1) := by decide +kernel
theorem dL_law_731 : decode cL_law 731 = .ok (.iadd, 1) := by decide +kernel
theorem dL_law_732 : decode cL_law 732 = .ok (.iaload, 1) := by decide +kernel
theorem dL_law_733 : decode cL_law 733 = .ok (.aload_n 0, 1) := by decide +kernel
theorem dL_law_734 : decode cL_law 734 = .ok (.iload_n 3, 1) := by decide +kernel
theorem dL_law_735 : decode cL_law 735 = .ok (.iconst 2, 1) := by decide +kernel
theorem dL_law_736 : decode cL_law 736 = .ok (.iadd, 1) := by decide +kernel
theorem dL_law_737 : decode cL_law 737 = .ok (.iaload, 1) := by decide +kernel
theorem dL_law_738 : decode cL_law 738 = .ok (.invokevirtual 89, 3) := by decide +kernel
theorem dL_law_741 : decode cL_law 741 = .ok (.if_icmp .eq 632, 3) := by decide +kernel
theorem dL_law_744 : decode cL_law 744 = .ok (.iconst 0, 1) := by decide +kernel
theorem dL_law_745 : decode cL_law 745 = .ok (.ireturn, 1) := by decide +kernel
theorem dL_law_746 : decode cL_law 746 = .ok (.aload_n 1, 1) := by decide +kernel
theorem dL_law_747 : decode cL_law 747 = .ok (.aload_n 0, 1) := by decide +kernel
theorem dL_law_748 : decode cL_law 748 = .ok (.iload_n 3, 1) := by decide +kernel
theorem dL_law_749 : decode cL_law 749 = .ok (.iconst 1, 1) := by decide +kernel
theorem dL_law_750 : decode cL_law 750 = .ok (.iadd, 1) := by decide +kernel
theorem dL_law_751 : decode cL_law 751 = .ok (.iaload, 1) := by decide +kernel
theorem dL_law_752 : decode cL_law 752 = .ok (.aload_n 0, 1) := by decide +kernel
theorem dL_law_753 : decode cL_law 753 = .ok (.iload_n 3, 1) := by decide +kernel
theorem dL_law_754 : decode cL_law 754 = .ok (.iconst 2, 1) := by decide +kernel
theorem dL_law_755 : decode cL_law 755 = .ok (.iadd, 1) := by decide +kernel
theorem dL_law_756 : decode cL_law 756 = .ok (.iaload, 1) := by decide +kernel
theorem dL_law_757 : decode cL_law 757 = .ok (.invokevirtual 90, 3) := by decide +kernel
theorem dL_law_760 : decode cL_law 760 = .ok (.aload_n 2, 1) := by decide +kernel
theorem dL_law_761 : decode cL_law 761 = .ok (.aload_n 0, 1) := by decide +kernel
theorem dL_law_762 : decode cL_law 762 = .ok (.iload_n 3, 1) := by decide +kernel
theorem dL_law_763 : decode cL_law 763 = .ok (.iconst 1, 1) := by decide +kernel
theorem dL_law_764 : decode cL_law 764 = .ok (.iadd, 1) := by decide +kernel
theorem dL_law_765 : decode cL_law 765 = .ok (.iaload, 1) := by decide +kernel
theorem dL_law_766 : decode cL_law 766 = .ok (.aload_n 0, 1) := by decide +kernel
theorem dL_law_767 : decode cL_law 767 = .ok (.iload_n 3, 1) := by decide +kernel
theorem dL_law_768 : decode cL_law 768 = .ok (.iconst 2, 1) := by decide +kernel
theorem dL_law_769 : decode cL_law 769 = .ok (.iadd, 1) := by decide +kernel
theorem dL_law_770 : decode cL_law 770 = .ok (.iaload, 1) := by decide +kernel
theorem dL_law_771 : decode cL_law 771 = .ok (.invokevirtual 93, 3) := by decide +kernel
theorem dL_law_774 : decode cL_law 774 = .ok (.if_icmp .eq 599, 3) := by decide +kernel
theorem dL_law_777 : decode cL_law 777 = .ok (.iconst 0, 1) := by decide +kernel
theorem dL_law_778 : decode cL_law 778 = .ok (.ireturn, 1) := by decide +kernel
theorem dL_law_779 : decode cL_law 779 = .ok (.aload_n 1, 1) := by decide +kernel
theorem dL_law_780 : decode cL_law 780 = .ok (.aload_n 0, 1) := by decide +kernel
theorem dL_law_781 : decode cL_law 781 = .ok (.iload_n 3, 1) := by decide +kernel
theorem dL_law_782 : decode cL_law 782 = .ok (.iconst 1, 1) := by decide +kernel
theorem dL_law_783 : decode cL_law 783 = .ok (.iadd, 1) := by decide +kernel
theorem dL_law_784 : decode cL_law 784 = .ok (.iaload, 1) := by decide +kernel
theorem dL_law_785 : decode cL_law 785 = .ok (.aload_n 0, 1) := by decide +kernel
theorem dL_law_786 : decode cL_law 786 = .ok (.iload_n 3, 1) := by decide +kernel
theorem dL_law_787 : decode cL_law 787 = .ok (.iconst 2, 1) := by decide +kernel
theorem dL_law_788 : decode cL_law 788 = .ok (.iadd, 1) := by decide +kernel
theorem dL_law_789 : decode cL_law 789 = .ok (.iaload, 1) := by decide +kernel
theorem dL_law_790 : decode cL_law 790 = .ok (.aload_n 0, 1) := by decide +kernel
theorem dL_law_791 : decode cL_law 791 = .ok (.iload_n 3, 1) := by decide +kernel
theorem dL_law_792 : decode cL_law 792 = .ok (.iconst 3, 1) := by decide +kernel
theorem dL_law_793 : decode cL_law 793 = .ok (.iadd, 1) := by decide +kernel
theorem dL_law_794 : decode cL_law 794 = .ok (.iaload, 1) := by decide +kernel
theorem dL_law_795 : decode cL_law 795 = .ok (.invokevirtual 94, 3) := by decide +kernel
theorem dL_law_798 : decode cL_law 798 = .ok (.aload_n 2, 1) := by decide +kernel
theorem dL_law_799 : decode cL_law 799 = .ok (.aload_n 0, 1) := by decide +kernel
theorem dL_law_800 : decode cL_law 800 = .ok (.iload_n 3, 1) := by decide +kernel
theorem dL_law_801 : decode cL_law 801 = .ok (.iconst 1, 1) := by decide +kernel
theorem dL_law_802 : decode cL_law 802 = .ok (.iadd, 1) := by decide +kernel
theorem dL_law_803 : decode cL_law 803 = .ok (.iaload, 1) := by decide +kernel
theorem dL_law_804 : decode cL_law 804 = .ok (.aload_n 0, 1) := by decide +kernel
theorem dL_law_805 : decode cL_law 805 = .ok (.iload_n 3, 1) := by decide +kernel
theorem dL_law_806 : decode cL_law 806 = .ok (.iconst 2, 1) := by decide +kernel
theorem dL_law_807 : decode cL_law 807 = .ok (.iadd, 1) := by decide +kernel
theorem dL_law_808 : decode cL_law 808 = .ok (.iaload, 1) := by decide +kernel
theorem dL_law_809 : decode cL_law 809 = .ok (.aload_n 0, 1) := by decide +kernel
theorem dL_law_810 : decode cL_law 810 = .ok (.iload_n 3, 1) := by decide +kernel
theorem dL_law_811 : decode cL_law 811 = .ok (.iconst 3, 1) := by decide +kernel
theorem dL_law_812 : decode cL_law 812 = .ok (.iadd, 1) := by decide +kernel
theorem dL_law_813 : decode cL_law 813 = .ok (.iaload, 1) := by decide +kernel
theorem dL_law_814 : decode cL_law 814 = .ok (.invokevirtual 97, 3) := by decide +kernel
theorem dL_law_817 : decode cL_law 817 = .ok (.if_icmp .eq 556, 3) := by decide +kernel
theorem dL_law_820 : decode cL_law 820 = .ok (.iconst 0, 1) := by decide +kernel
theorem dL_law_821 : decode cL_law 821 = .ok (.ireturn, 1) := by decide +kernel
theorem dL_law_822 : decode cL_law 822 = .ok (.aload_n 1, 1) := by decide +kernel
theorem dL_law_823 : decode cL_law 823 = .ok (.aload_n 0, 1) := by decide +kernel
theorem dL_law_824 : decode cL_law 824 = .ok (.iload_n 3, 1) := by decide +kernel
theorem dL_law_825 : decode cL_law 825 = .ok (.iconst 1, 1) := by decide +kernel
theorem dL_law_826 : decode cL_law 826 = .ok (.iadd, 1) := by decide +kernel
theorem dL_law_827 : decode cL_law 827 = .ok (.iaload, 1) := by decide +kernel
theorem dL_law_828 : decode cL_law 828 = .ok (.aload_n 0, 1) := by decide +kernel
theorem dL_law_829 : decode cL_law 829 = .ok (.iload_n 3, 1) := by decide +kernel
theorem dL_law_830 : decode cL_law 830 = .ok (.iconst 2, 1) := by decide +kernel
theorem dL_law_831 : decode cL_law 831 = .ok (.iadd, 1) := by decide +kernel
theorem dL_law_832 : decode cL_law 832 = .ok (.iaload, 1) := by decide +kernel
theorem dL_law_833 : decode cL_law 833 = .ok (.invokevirtual 98, 3) := by decide +kernel
theorem dL_law_836 : decode cL_law 836 = .ok (.aload_n 2, 1) := by decide +kernel
theorem dL_law_837 : decode cL_law 837 = .ok (.aload_n 0, 1) := by decide +kernel
theorem dL_law_838 : decode cL_law 838 = .ok (.iload_n 3, 1) := by decide +kernel
theorem dL_law_839 : decode cL_law 839 = .ok (.iconst 1, 1) := by decide +kernel
theorem dL_law_840 : decode cL_law 840 = .ok (.iadd, 1) := by decide +kernel
theorem dL_law_841 : decode cL_law 841 = .ok (.iaload, 1) := by decide +kernel
theorem dL_law_842 : decode cL_law 842 = .ok (.aload_n 0, 1) := by decide +kernel
theorem dL_law_843 : decode cL_law 843 = .ok (.iload_n 3, 1) := by decide +kernel
theorem dL_law_844 : decode cL_law 844 = .ok (.iconst 2, 1) := by decide +kernel
theorem dL_law_845 : decode cL_law 845 = .ok (.iadd, 1) := by decide +kernel
theorem dL_law_846 : decode cL_law 846 = .ok (.iaload, 1) := by decide +kernel
theorem dL_law_847 : decode cL_law 847 = .ok (.invokevirtual 101, 3) := by decide +kernel
theorem dL_law_850 : decode cL_law 850 = .ok (.if_icmp .eq 523, 3) := by decide +kernel
theorem dL_law_853 : decode cL_law 853 = .ok (.iconst 0, 1) := by decide +kernel
theorem dL_law_854 : decode cL_law 854 = .ok (.ireturn, 1) := by decide +kernel
theorem dL_law_855 : decode cL_law 855 = .ok (.aload_n 1, 1) := by decide +kernel
theorem dL_law_856 : decode cL_law 856 = .ok (.aload_n 0, 1) := by decide +kernel
theorem dL_law_857 : decode cL_law 857 = .ok (.iload_n 3, 1) := by decide +kernel
theorem dL_law_858 : decode cL_law 858 = .ok (.iconst 1, 1) := by decide +kernel
theorem dL_law_859 : decode cL_law 859 = .ok (.iadd, 1) := by decide +kernel
theorem dL_law_860 : decode cL_law 860 = .ok (.iaload, 1) := by decide +kernel
theorem dL_law_861 : decode cL_law 861 = .ok (.aload_n 0, 1) := by decide +kernel
theorem dL_law_862 : decode cL_law 862 = .ok (.iload_n 3, 1) := by decide +kernel
theorem dL_law_863 : decode cL_law 863 = .ok (.iconst 2, 1) := by decide +kernel
theorem dL_law_864 : decode cL_law 864 = .ok (.iadd, 1) := by decide +kernel
theorem dL_law_865 : decode cL_law 865 = .ok (.iaload, 1) := by decide +kernel
theorem dL_law_866 : decode cL_law 866 = .ok (.aload_n 0, 1) := by decide +kernel
theorem dL_law_867 : decode cL_law 867 = .ok (.iload_n 3, 1) := by decide +kernel
theorem dL_law_868 : decode cL_law 868 = .ok (.iconst 3, 1) := by decide +kernel
theorem dL_law_869 : decode cL_law 869 = .ok (.iadd, 1) := by decide +kernel
theorem dL_law_870 : decode cL_law 870 = .ok (.iaload, 1) := by decide +kernel
theorem dL_law_871 : decode cL_law 871 = .ok (.invokevirtual 102, 3) := by decide +kernel
theorem dL_law_874 : decode cL_law 874 = .ok (.aload_n 2, 1) := by decide +kernel
theorem dL_law_875 : decode cL_law 875 = .ok (.aload_n 0, 1) := by decide +kernel
theorem dL_law_876 : decode cL_law 876 = .ok (.iload_n 3, 1) := by decide +kernel
theorem dL_law_877 : decode cL_law 877 = .ok (.iconst 1, 1) := by decide +kernel
theorem dL_law_878 : decode cL_law 878 = .ok (.iadd, 1) := by decide +kernel
theorem dL_law_879 : decode cL_law 879 = .ok (.iaload, 1) := by decide +kernel
theorem dL_law_880 : decode cL_law 880 = .ok (.aload_n 0, 1) := by decide +kernel
theorem dL_law_881 : decode cL_law 881 = .ok (.iload_n 3, 1) := by decide +kernel
theorem dL_law_882 : decode cL_law 882 = .ok (.iconst 2, 1) := by decide +kernel
theorem dL_law_883 : decode cL_law 883 = .ok (.iadd, 1) := by decide +kernel
theorem dL_law_884 : decode cL_law 884 = .ok (.iaload, 1) := by decide +kernel
theorem dL_law_885 : decode cL_law 885 = .ok (.aload_n 0, 1) := by decide +kernel
theorem dL_law_886 : decode cL_law 886 = .ok (.iload_n 3, 1) := by decide +kernel
theorem dL_law_887 : decode cL_law 887 = .ok (.iconst 3, 1) := by decide +kernel
theorem dL_law_888 : decode cL_law 888 = .ok (.iadd, 1) := by decide +kernel
theorem dL_law_889 : decode cL_law 889 = .ok (.iaload, 1) := by decide +kernel
theorem dL_law_890 : decode cL_law 890 = .ok (.invokevirtual 105, 3) := by decide +kernel
theorem dL_law_893 : decode cL_law 893 = .ok (.if_icmp .eq 480, 3) := by decide +kernel
theorem dL_law_896 : decode cL_law 896 = .ok (.iconst 0, 1) := by decide +kernel
theorem dL_law_897 : decode cL_law 897 = .ok (.ireturn, 1) := by decide +kernel
theorem dL_law_898 : decode cL_law 898 = .ok (.aload_n 1, 1) := by decide +kernel
theorem dL_law_899 : decode cL_law 899 = .ok (.aload_n 0, 1) := by decide +kernel
theorem dL_law_900 : decode cL_law 900 = .ok (.iload_n 3, 1) := by decide +kernel
theorem dL_law_901 : decode cL_law 901 = .ok (.iconst 1, 1) := by decide +kernel
theorem dL_law_902 : decode cL_law 902 = .ok (.iadd, 1) := by decide +kernel
theorem dL_law_903 : decode cL_law 903 = .ok (.iaload, 1) := by decide +kernel
theorem dL_law_904 : decode cL_law 904 = .ok (.aload_n 0, 1) := by decide +kernel
theorem dL_law_905 : decode cL_law 905 = .ok (.iload_n 3, 1) := by decide +kernel
theorem dL_law_906 : decode cL_law 906 = .ok (.iconst 2, 1) := by decide +kernel
theorem dL_law_907 : decode cL_law 907 = .ok (.iadd, 1) := by decide +kernel
theorem dL_law_908 : decode cL_law 908 = .ok (.iaload, 1) := by decide +kernel
theorem dL_law_909 : decode cL_law 909 = .ok (.aload_n 0, 1) := by decide +kernel
theorem dL_law_910 : decode cL_law 910 = .ok (.iload_n 3, 1) := by decide +kernel
theorem dL_law_911 : decode cL_law 911 = .ok (.iconst 3, 1) := by decide +kernel
theorem dL_law_912 : decode cL_law 912 = .ok (.iadd, 1) := by decide +kernel
theorem dL_law_913 : decode cL_law 913 = .ok (.iaload, 1) := by decide +kernel
theorem dL_law_914 : decode cL_law 914 = .ok (.aload_n 0, 1) := by decide +kernel
theorem dL_law_915 : decode cL_law 915 = .ok (.iload_n 3, 1) := by decide +kernel
theorem dL_law_916 : decode cL_law 916 = .ok (.iconst 4, 1) := by decide +kernel
theorem dL_law_917 : decode cL_law 917 = .ok (.iadd, 1) := by decide +kernel
theorem dL_law_918 : decode cL_law 918 = .ok (.iaload, 1) := by decide +kernel
theorem dL_law_919 : decode cL_law 919 = .ok (.aload_n 0, 1) := by decide +kernel
theorem dL_law_920 : decode cL_law 920 = .ok (.iload_n 3, 1) := by decide +kernel
theorem dL_law_921 : decode cL_law 921 = .ok (.iconst 5, 1) := by decide +kernel
theorem dL_law_922 : decode cL_law 922 = .ok (.iadd, 1) := by decide +kernel
theorem dL_law_923 : decode cL_law 923 = .ok (.iaload, 1) := by decide +kernel
theorem dL_law_924 : decode cL_law 924 = .ok (.aload_n 0, 1) := by decide +kernel
theorem dL_law_925 : decode cL_law 925 = .ok (.iload_n 3, 1) := by decide +kernel
theorem dL_law_926 : decode cL_law 926 = .ok (.bipush 6, 2) := by decide +kernel
theorem dL_law_928 : decode cL_law 928 = .ok (.iadd, 1) := by decide +kernel
theorem dL_law_929 : decode cL_law 929 = .ok (.iaload, 1) := by decide +kernel
theorem dL_law_930 : decode cL_law 930 = .ok (.invokevirtual 106, 3) := by decide +kernel
theorem dL_law_933 : decode cL_law 933 = .ok (.aload_n 2, 1) := by decide +kernel
theorem dL_law_934 : decode cL_law 934 = .ok (.aload_n 0, 1) := by decide +kernel
theorem dL_law_935 : decode cL_law 935 = .ok (.iload_n 3, 1) := by decide +kernel
theorem dL_law_936 : decode cL_law 936 = .ok (.iconst 1, 1) := by decide +kernel
theorem dL_law_937 : decode cL_law 937 = .ok (.iadd, 1) := by decide +kernel
theorem dL_law_938 : decode cL_law 938 = .ok (.iaload, 1) := by decide +kernel
theorem dL_law_939 : decode cL_law 939 = .ok (.aload_n 0, 1) := by decide +kernel
theorem dL_law_940 : decode cL_law 940 = .ok (.iload_n 3, 1) := by decide +kernel
theorem dL_law_941 : decode cL_law 941 = .ok (.iconst 2, 1) := by decide +kernel
theorem dL_law_942 : decode cL_law 942 = .ok (.iadd, 1) := by decide +kernel
theorem dL_law_943 : decode cL_law 943 = .ok (.iaload, 1) := by decide +kernel
theorem dL_law_944 : decode cL_law 944 = .ok (.aload_n 0, 1) := by decide +kernel
theorem dL_law_945 : decode cL_law 945 = .ok (.iload_n 3, 1) := by decide +kernel
theorem dL_law_946 : decode cL_law 946 = .ok (.iconst 3, 1) := by decide +kernel
theorem dL_law_947 : decode cL_law 947 = .ok (.iadd, 1) := by decide +kernel
theorem dL_law_948 : decode cL_law 948 = .ok (.iaload, 1) := by decide +kernel
theorem dL_law_949 : decode cL_law 949 = .ok (.aload_n 0, 1) := by decide +kernel
theorem dL_law_950 : decode cL_law 950 = .ok (.iload_n 3, 1) := by decide +kernel
theorem dL_law_951 : decode cL_law 951 = .ok (.iconst 4, 1) := by decide +kernel
theorem dL_law_952 : decode cL_law 952 = .ok (.iadd, 1) := by decide +kernel
theorem dL_law_953 : decode cL_law 953 = .ok (.iaload, 1) := by decide +kernel
theorem dL_law_954 : decode cL_law 954 = .ok (.aload_n 0, 1) := by decide +kernel
theorem dL_law_955 : decode cL_law 955 = .ok (.iload_n 3, 1) := by decide +kernel
theorem dL_law_956 : decode cL_law 956 = .ok (.iconst 5, 1) := by decide +kernel
theorem dL_law_957 : decode cL_law 957 = .ok (.iadd, 1) := by decide +kernel
theorem dL_law_958 : decode cL_law 958 = .ok (.iaload, 1) := by decide +kernel
theorem dL_law_959 : decode cL_law 959 = .ok (.aload_n 0, 1) := by decide +kernel
theorem dL_law_960 : decode cL_law 960 = .ok (.iload_n 3, 1) := by decide +kernel
theorem dL_law_961 : decode cL_law 961 = .ok (.bipush 6, 2) := by decide +kernel
theorem dL_law_963 : decode cL_law 963 = .ok (.iadd, 1) := by decide +kernel
theorem dL_law_964 : decode cL_law 964 = .ok (.iaload, 1) := by decide +kernel
theorem dL_law_965 : decode cL_law 965 = .ok (.invokevirtual 110, 3) := by decide +kernel
theorem dL_law_968 : decode cL_law 968 = .ok (.if_icmp .eq 405, 3) := by decide +kernel
theorem dL_law_971 : decode cL_law 971 = .ok (.iconst 0, 1) := by decide +kernel
theorem dL_law_972 : decode cL_law 972 = .ok (.ireturn, 1) := by decide +kernel
theorem dL_law_973 : decode cL_law 973 = .ok (.aload_n 1, 1) := by decide +kernel
theorem dL_law_974 : decode cL_law 974 = .ok (.aload_n 0, 1) := by decide +kernel
theorem dL_law_975 : decode cL_law 975 = .ok (.iload_n 3, 1) := by decide +kernel
theorem dL_law_976 : decode cL_law 976 = .ok (.iconst 1, 1) := by decide +kernel
theorem dL_law_977 : decode cL_law 977 = .ok (.iadd, 1) := by decide +kernel
theorem dL_law_978 : decode cL_law 978 = .ok (.iaload, 1) := by decide +kernel
theorem dL_law_979 : decode cL_law 979 = .ok (.aload_n 0, 1) := by decide +kernel
theorem dL_law_980 : decode cL_law 980 = .ok (.iload_n 3, 1) := by decide +kernel
theorem dL_law_981 : decode cL_law 981 = .ok (.iconst 2, 1) := by decide +kernel
theorem dL_law_982 : decode cL_law 982 = .ok (.iadd, 1) := by decide +kernel
theorem dL_law_983 : decode cL_law 983 = .ok (.iaload, 1) := by decide +kernel
theorem dL_law_984 : decode cL_law 984 = .ok (.aload_n 0, 1) := by decide +kernel
theorem dL_law_985 : decode cL_law 985 = .ok (.iload_n 3, 1) := by decide +kernel
theorem dL_law_986 : decode cL_law 986 = .ok (.iconst 3, 1) := by decide +kernel
theorem dL_law_987 : decode cL_law 987 = .ok (.iadd, 1) := by decide +kernel
theorem dL_law_988 : decode cL_law 988 = .ok (.iaload, 1) := by decide +kernel
theorem dL_law_989 : decode cL_law 989 = .ok (.aload_n 0, 1) := by decide +kernel
theorem dL_law_990 : decode cL_law 990 = .ok (.iload_n 3, 1) := by decide +kernel
theorem dL_law_991 : decode cL_law 991 = .ok (.iconst 4, 1) := by decide +kernel
theorem dL_law_992 : decode cL_law 992 = .ok (.iadd, 1) := by decide +kernel
theorem dL_law_993 : decode cL_law 993 = .ok (.iaload, 1) := by decide +kernel
theorem dL_law_994 : decode cL_law 994 = .ok (.invokevirtual 111, 3) := by decide +kernel
theorem dL_law_997 : decode cL_law 997 = .ok (.aload_n 2, 1) := by decide +kernel
theorem dL_law_998 : decode cL_law 998 = .ok (.aload_n 0, 1) := by decide +kernel
theorem dL_law_999 : decode cL_law 999 = .ok (.iload_n 3, 1) := by decide +kernel
theorem dL_law_1000 : decode cL_law 1000 = .ok (.iconst 1, 1) := by decide +kernel
theorem dL_law_1001 : decode cL_law 1001 = .ok (.iadd, 1) := by decide +kernel
theorem dL_law_1002 : decode cL_law 1002 = .ok (.iaload, 1) := by decide +kernel
theorem dL_law_1003 : decode cL_law 1003 = .ok (.aload_n 0, 1) := by decide +kernel
theorem dL_law_1004 : decode cL_law 1004 = .ok (.iload_n 3, 1) := by decide +kernel
theorem dL_law_1005 : decode cL_law 1005 = .ok (.iconst 2, 1) := by decide +kernel
theorem dL_law_1006 : decode cL_law 1006 = .ok (.iadd, 1) := by decide +kernel
theorem dL_law_1007 : decode cL_law 1007 = .ok (.iaload, 1) := by decide +kernel
theorem dL_law_1008 : decode cL_law 1008 = .ok (.aload_n 0, 1) := by decide +kernel
theorem dL_law_1009 : decode cL_law 1009 = .ok (.iload_n 3, 1) := by decide +kernel
theorem dL_law_1010 : decode cL_law 1010 = .ok (.iconst 3, 1) := by decide +kernel
theorem dL_law_1011 : decode cL_law 1011 = .ok (.iadd, 1) := by decide +kernel
theorem dL_law_1012 : decode cL_law 1012 = .ok (.iaload, 1) := by decide +kernel
theorem dL_law_1013 : decode cL_law 1013 = .ok (.aload_n 0, 1) := by decide +kernel
theorem dL_law_1014 : decode cL_law 1014 = .ok (.iload_n 3, 1) := by decide +kernel
theorem dL_law_1015 : decode cL_law 1015 = .ok (.iconst 4, 1) := by decide +kernel
theorem dL_law_1016 : decode cL_law 1016 = .ok (.iadd, 1) := by decide +kernel
theorem dL_law_1017 : decode cL_law 1017 = .ok (.iaload, 1) := by decide +kernel
theorem dL_law_1018 : decode cL_law 1018 = .ok (.invokevirtual 115, 3) := by decide +kernel
theorem dL_law_1021 : decode cL_law 1021 = .ok (.if_icmp .eq 352, 3) := by decide +kernel
theorem dL_law_1024 : decode cL_law 1024 = .ok (.iconst 0, 1) := by decide +kernel
theorem dL_law_1025 : decode cL_law 1025 = .ok (.ireturn, 1) := by decide +kernel
theorem dL_law_1026 : decode cL_law 1026 = .ok (.aload_n 1, 1) := by decide +kernel
theorem dL_law_1027 : decode cL_law 1027 = .ok (.aload_n 0, 1) := by decide +kernel
theorem dL_law_1028 : decode cL_law 1028 = .ok (.iload_n 3, 1) := by decide +kernel
theorem dL_law_1029 : decode cL_law 1029 = .ok (.iconst 1, 1) := by decide +kernel
theorem dL_law_1030 : decode cL_law 1030 = .ok (.iadd, 1) := by decide +kernel
theorem dL_law_1031 : decode cL_law 1031 = .ok (.iaload, 1) := by decide +kernel
theorem dL_law_1032 : decode cL_law 1032 = .ok (.aload_n 0, 1) := by decide +kernel
theorem dL_law_1033 : decode cL_law 1033 = .ok (.iload_n 3, 1) := by decide +kernel
theorem dL_law_1034 : decode cL_law 1034 = .ok (.iconst 2, 1) := by decide +kernel
theorem dL_law_1035 : decode cL_law 1035 = .ok (.iadd, 1) := by decide +kernel
theorem dL_law_1036 : decode cL_law 1036 = .ok (.iaload, 1) := by decide +kernel
theorem dL_law_1037 : decode cL_law 1037 = .ok (.aload_n 0, 1) := by decide +kernel
theorem dL_law_1038 : decode cL_law 1038 = .ok (.iload_n 3, 1) := by decide +kernel
theorem dL_law_1039 : decode cL_law 1039 = .ok (.iconst 3, 1) := by decide +kernel
theorem dL_law_1040 : decode cL_law 1040 = .ok (.iadd, 1) := by decide +kernel
theorem dL_law_1041 : decode cL_law 1041 = .ok (.iaload, 1) := by decide +kernel
theorem dL_law_1042 : decode cL_law 1042 = .ok (.aload_n 0, 1) := by decide +kernel
theorem dL_law_1043 : decode cL_law 1043 = .ok (.iload_n 3, 1) := by decide +kernel
theorem dL_law_1044 : decode cL_law 1044 = .ok (.iconst 4, 1) := by decide +kernel
theorem dL_law_1045 : decode cL_law 1045 = .ok (.iadd, 1) := by decide +kernel
theorem dL_law_1046 : decode cL_law 1046 = .ok (.iaload, 1) := by decide +kernel
theorem dL_law_1047 : decode cL_law 1047 = .ok (.invokevirtual 116, 3) := by decide +kernel
theorem dL_law_1050 : decode cL_law 1050 = .ok (.aload_n 2, 1) := by decide +kernel
theorem dL_law_1051 : decode cL_law 1051 = .ok (.aload_n 0, 1) := by decide +kernel
theorem dL_law_1052 : decode cL_law 1052 = .ok (.iload_n 3, 1) := by decide +kernel
theorem dL_law_1053 : decode cL_law 1053 = .ok (.iconst 1, 1) := by decide +kernel
theorem dL_law_1054 : decode cL_law 1054 = .ok (.iadd, 1) := by decide +kernel
theorem dL_law_1055 : decode cL_law 1055 = .ok (.iaload, 1) := by decide +kernel
theorem dL_law_1056 : decode cL_law 1056 = .ok (.aload_n 0, 1) := by decide +kernel
theorem dL_law_1057 : decode cL_law 1057 = .ok (.iload_n 3, 1) := by decide +kernel
theorem dL_law_1058 : decode cL_law 1058 = .ok (.iconst 2, 1) := by decide +kernel
theorem dL_law_1059 : decode cL_law 1059 = .ok (.iadd, 1) := by decide +kernel
theorem dL_law_1060 : decode cL_law 1060 = .ok (.iaload, 1) := by decide +kernel
theorem dL_law_1061 : decode cL_law 1061 = .ok (.aload_n 0, 1) := by decide +kernel
theorem dL_law_1062 : decode cL_law 1062 = .ok (.iload_n 3, 1) := by decide +kernel
theorem dL_law_1063 : decode cL_law 1063 = .ok (.iconst 3, 1) := by decide +kernel
theorem dL_law_1064 : decode cL_law 1064 = .ok (.iadd, 1) := by decide +kernel
theorem dL_law_1065 : decode cL_law 1065 = .ok (.iaload, 1) := by decide +kernel
theorem dL_law_1066 : decode cL_law 1066 = .ok (.aload_n 0, 1) := by decide +kernel
theorem dL_law_1067 : decode cL_law 1067 = .ok (.iload_n 3, 1) := by decide +kernel
theorem dL_law_1068 : decode cL_law 1068 = .ok (.iconst 4, 1) := by decide +kernel
theorem dL_law_1069 : decode cL_law 1069 = .ok (.iadd, 1) := by decide +kernel
theorem dL_law_1070 : decode cL_law 1070 = .ok (.iaload, 1) := by decide +kernel
theorem dL_law_1071 : decode cL_law 1071 = .ok (.invokevirtual 119, 3) := by decide +kernel
theorem dL_law_1074 : decode cL_law 1074 = .ok (.if_icmp .eq 299, 3) := by decide +kernel
theorem dL_law_1077 : decode cL_law 1077 = .ok (.iconst 0, 1) := by decide +kernel
theorem dL_law_1078 : decode cL_law 1078 = .ok (.ireturn, 1) := by decide +kernel
theorem dL_law_1079 : decode cL_law 1079 = .ok (.aload_n 1, 1) := by decide +kernel
theorem dL_law_1080 : decode cL_law 1080 = .ok (.aload_n 0, 1) := by decide +kernel
theorem dL_law_1081 : decode cL_law 1081 = .ok (.iload_n 3, 1) := by decide +kernel
theorem dL_law_1082 : decode cL_law 1082 = .ok (.iconst 1, 1) := by decide +kernel
theorem dL_law_1083 : decode cL_law 1083 = .ok (.iadd, 1) := by decide +kernel
theorem dL_law_1084 : decode cL_law 1084 = .ok (.iaload, 1) := by decide +kernel
theorem dL_law_1085 : decode cL_law 1085 = .ok (.aload_n 0, 1) := by decide +kernel
theorem dL_law_1086 : decode cL_law 1086 = .ok (.iload_n 3, 1) := by decide +kernel
theorem dL_law_1087 : decode cL_law 1087 = .ok (.iconst 2, 1) := by decide +kernel
theorem dL_law_1088 : decode cL_law 1088 = .ok (.iadd, 1) := by decide +kernel
theorem dL_law_1089 : decode cL_law 1089 = .ok (.iaload, 1) := by decide +kernel
theorem dL_law_1090 : decode cL_law 1090 = .ok (.invokevirtual 120, 3) := by decide +kernel
theorem dL_law_1093 : decode cL_law 1093 = .ok (.aload_n 2, 1) := by decide +kernel
theorem dL_law_1094 : decode cL_law 1094 = .ok (.aload_n 0, 1) := by decide +kernel
theorem dL_law_1095 : decode cL_law 1095 = .ok (.iload_n 3, 1) := by decide +kernel
theorem dL_law_1096 : decode cL_law 1096 = .ok (.iconst 1, 1) := by decide +kernel
theorem dL_law_1097 : decode cL_law 1097 = .ok (.iadd, 1) := by decide +kernel
theorem dL_law_1098 : decode cL_law 1098 = .ok (.iaload, 1) := by decide +kernel
theorem dL_law_1099 : decode cL_law 1099 = .ok (.aload_n 0, 1) := by decide +kernel
theorem dL_law_1100 : decode cL_law 1100 = .ok (.iload_n 3, 1) := by decide +kernel
theorem dL_law_1101 : decode cL_law 1101 = .ok (.iconst 2, 1) := by decide +kernel
theorem dL_law_1102 : decode cL_law 1102 = .ok (.iadd, 1) := by decide +kernel
theorem dL_law_1103 : decode cL_law 1103 = .ok (.iaload, 1) := by decide +kernel
theorem dL_law_1104 : decode cL_law 1104 = .ok (.invokevirtual 123, 3) := by decide +kernel
theorem dL_law_1107 : decode cL_law 1107 = .ok (.if_icmp .eq 266, 3) := by decide +kernel
theorem dL_law_1110 : decode cL_law 1110 = .ok (.iconst 0, 1) := by decide +kernel
theorem dL_law_1111 : decode cL_law 1111 = .ok (.ireturn, 1) := by decide +kernel
theorem dL_law_1112 : decode cL_law 1112 = .ok (.aload_n 1, 1) := by decide +kernel
theorem dL_law_1113 : decode cL_law 1113 = .ok (.aload_n 0, 1) := by decide +kernel
theorem dL_law_1114 : decode cL_law 1114 = .ok (.iload_n 3, 1) := by decide +kernel
theorem dL_law_1115 : decode cL_law 1115 = .ok (.iconst 1, 1) := by decide +kernel
theorem dL_law_1116 : decode cL_law 1116 = .ok (.iadd, 1) := by decide +kernel
theorem dL_law_1117 : decode cL_law 1117 = .ok (.iaload, 1) := by decide +kernel
theorem dL_law_1118 : decode cL_law 1118 = .ok (.aload_n 0, 1) := by decide +kernel
theorem dL_law_1119 : decode cL_law 1119 = .ok (.iload_n 3, 1) := by decide +kernel
theorem dL_law_1120 : decode cL_law 1120 = .ok (.iconst 2, 1) := by decide +kernel
theorem dL_law_1121 : decode cL_law 1121 = .ok (.iadd, 1) := by decide +kernel
theorem dL_law_1122 : decode cL_law 1122 = .ok (.iaload, 1) := by decide +kernel
theorem dL_law_1123 : decode cL_law 1123 = .ok (.aload_n 0, 1) := by decide +kernel
theorem dL_law_1124 : decode cL_law 1124 = .ok (.iload_n 3, 1) := by decide +kernel
theorem dL_law_1125 : decode cL_law 1125 = .ok (.iconst 3, 1) := by decide +kernel
theorem dL_law_1126 : decode cL_law 1126 = .ok (.iadd, 1) := by decide +kernel
theorem dL_law_1127 : decode cL_law 1127 = .ok (.iaload, 1) := by decide +kernel
theorem dL_law_1128 : decode cL_law 1128 = .ok (.invokevirtual 124, 3) := by decide +kernel
theorem dL_law_1131 : decode cL_law 1131 = .ok (.aload_n 2, 1) := by decide +kernel
theorem dL_law_1132 : decode cL_law 1132 = .ok (.aload_n 0, 1) := by decide +kernel
theorem dL_law_1133 : decode cL_law 1133 = .ok (.iload_n 3, 1) := by decide +kernel
theorem dL_law_1134 : decode cL_law 1134 = .ok (.iconst 1, 1) := by decide +kernel
theorem dL_law_1135 : decode cL_law 1135 = .ok (.iadd, 1) := by decide +kernel
theorem dL_law_1136 : decode cL_law 1136 = .ok (.iaload, 1) := by decide +kernel
theorem dL_law_1137 : decode cL_law 1137 = .ok (.aload_n 0, 1) := by decide +kernel
theorem dL_law_1138 : decode cL_law 1138 = .ok (.iload_n 3, 1) := by decide +kernel
theorem dL_law_1139 : decode cL_law 1139 = .ok (.iconst 2, 1) := by decide +kernel
theorem dL_law_1140 : decode cL_law 1140 = .ok (.iadd, 1) := by decide +kernel
theorem dL_law_1141 : decode cL_law 1141 = .ok (.iaload, 1) := by decide +kernel
theorem dL_law_1142 : decode cL_law 1142 = .ok (.aload_n 0, 1) := by decide +kernel
theorem dL_law_1143 : decode cL_law 1143 = .ok (.iload_n 3, 1) := by decide +kernel
theorem dL_law_1144 : decode cL_law 1144 = .ok (.iconst 3, 1) := by decide +kernel
theorem dL_law_1145 : decode cL_law 1145 = .ok (.iadd, 1) := by decide +kernel
theorem dL_law_1146 : decode cL_law 1146 = .ok (.iaload, 1) := by decide +kernel
theorem dL_law_1147 : decode cL_law 1147 = .ok (.invokevirtual 128, 3) := by decide +kernel
theorem dL_law_1150 : decode cL_law 1150 = .ok (.lcmp, 1) := by decide +kernel
theorem dL_law_1151 : decode cL_law 1151 = .ok (.ifCond .eq 222, 3) := by decide +kernel
theorem dL_law_1154 : decode cL_law 1154 = .ok (.iconst 0, 1) := by decide +kernel
theorem dL_law_1155 : decode cL_law 1155 = .ok (.ireturn, 1) := by decide +kernel
theorem dL_law_1156 : decode cL_law 1156 = .ok (.aload_n 1, 1) := by decide +kernel
theorem dL_law_1157 : decode cL_law 1157 = .ok (.aload_n 0, 1) := by decide +kernel
theorem dL_law_1158 : decode cL_law 1158 = .ok (.iload_n 3, 1) := by decide +kernel
theorem dL_law_1159 : decode cL_law 1159 = .ok (.iconst 1, 1) := by decide +kernel
theorem dL_law_1160 : decode cL_law 1160 = .ok (.iadd, 1) := by decide +kernel
theorem dL_law_1161 : decode cL_law 1161 = .ok (.iaload, 1) := by decide +kernel
theorem dL_law_1162 : decode cL_law 1162 = .ok (.invokevirtual 129, 3) := by decide +kernel
theorem dL_law_1165 : decode cL_law 1165 = .ok (.aload_n 2, 1) := by decide +kernel
theorem dL_law_1166 : decode cL_law 1166 = .ok (.aload_n 0, 1) := by decide +kernel
theorem dL_law_1167 : decode cL_law 1167 = .ok (.iload_n 3, 1) := by decide +kernel
theorem dL_law_1168 : decode cL_law 1168 = .ok (.iconst 1, 1) := by decide +kernel
theorem dL_law_1169 : decode cL_law 1169 = .ok (.iadd, 1) := by decide +kernel
theorem dL_law_1170 : decode cL_law 1170 = .ok (.iaload, 1) := by decide +kernel
theorem dL_law_1171 : decode cL_law 1171 = .ok (.invokevirtual 132, 3) := by decide +kernel
theorem dL_law_1174 : decode cL_law 1174 = .ok (.if_icmp .eq 199, 3) := by decide +kernel
theorem dL_law_1177 : decode cL_law 1177 = .ok (.iconst 0, 1) := by decide +kernel
theorem dL_law_1178 : decode cL_law 1178 = .ok (.ireturn, 1) := by decide +kernel
theorem dL_law_1179 : decode cL_law 1179 = .ok (.aload_n 1, 1) := by decide +kernel
theorem dL_law_1180 : decode cL_law 1180 = .ok (.aload_n 0, 1) := by decide +kernel
theorem dL_law_1181 : decode cL_law 1181 = .ok (.iload_n 3, 1) := by decide +kernel
theorem dL_law_1182 : decode cL_law 1182 = .ok (.iconst 1, 1) := by decide +kernel
theorem dL_law_1183 : decode cL_law 1183 = .ok (.iadd, 1) := by decide +kernel
theorem dL_law_1184 : decode cL_law 1184 = .ok (.iaload, 1) := by decide +kernel
theorem dL_law_1185 : decode cL_law 1185 = .ok (.invokevirtual 133, 3) := by decide +kernel
theorem dL_law_1188 : decode cL_law 1188 = .ok (.aload_n 2, 1) := by decide +kernel
theorem dL_law_1189 : decode cL_law 1189 = .ok (.aload_n 0, 1) := by decide +kernel
theorem dL_law_1190 : decode cL_law 1190 = .ok (.iload_n 3, 1) := by decide +kernel
theorem dL_law_1191 : decode cL_law 1191 = .ok (.iconst 1, 1) := by decide +kernel
theorem dL_law_1192 : decode cL_law 1192 = .ok (.iadd, 1) := by decide +kernel
theorem dL_law_1193 : decode cL_law 1193 = .ok (.iaload, 1) := by decide +kernel
theorem dL_law_1194 : decode cL_law 1194 = .ok (.invokevirtual 136, 3) := by decide +kernel
theorem dL_law_1197 : decode cL_law 1197 = .ok (.if_icmp .eq 176, 3) := by decide +kernel
theorem dL_law_1200 : decode cL_law 1200 = .ok (.iconst 0, 1) := by decide +kernel
theorem dL_law_1201 : decode cL_law 1201 = .ok (.ireturn, 1) := by decide +kernel
theorem dL_law_1202 : decode cL_law 1202 = .ok (.aload_n 1, 1) := by decide +kernel
theorem dL_law_1203 : decode cL_law 1203 = .ok (.aload_n 0, 1) := by decide +kernel
theorem dL_law_1204 : decode cL_law 1204 = .ok (.iload_n 3, 1) := by decide +kernel
theorem dL_law_1205 : decode cL_law 1205 = .ok (.iconst 1, 1) := by decide +kernel
theorem dL_law_1206 : decode cL_law 1206 = .ok (.iadd, 1) := by decide +kernel
theorem dL_law_1207 : decode cL_law 1207 = .ok (.iaload, 1) := by decide +kernel
theorem dL_law_1208 : decode cL_law 1208 = .ok (.invokevirtual 137, 3) := by decide +kernel
theorem dL_law_1211 : decode cL_law 1211 = .ok (.aload_n 2, 1) := by decide +kernel
theorem dL_law_1212 : decode cL_law 1212 = .ok (.aload_n 0, 1) := by decide +kernel
theorem dL_law_1213 : decode cL_law 1213 = .ok (.iload_n 3, 1) := by decide +kernel
theorem dL_law_1214 : decode cL_law 1214 = .ok (.iconst 1, 1) := by decide +kernel
theorem dL_law_1215 : decode cL_law 1215 = .ok (.iadd, 1) := by decide +kernel
theorem dL_law_1216 : decode cL_law 1216 = .ok (.iaload, 1) := by decide +kernel
theorem dL_law_1217 : decode cL_law 1217 = .ok (.invokevirtual 140, 3) := by decide +kernel
theorem dL_law_1220 : decode cL_law 1220 = .ok (.if_icmp .eq 153, 3) := by decide +kernel
theorem dL_law_1223 : decode cL_law 1223 = .ok (.iconst 0, 1) := by decide +kernel
theorem dL_law_1224 : decode cL_law 1224 = .ok (.ireturn, 1) := by decide +kernel
theorem dL_law_1225 : decode cL_law 1225 = .ok (.aload_n 1, 1) := by decide +kernel
theorem dL_law_1226 : decode cL_law 1226 = .ok (.aload_n 0, 1) := by decide +kernel
theorem dL_law_1227 : decode cL_law 1227 = .ok (.iload_n 3, 1) := by decide +kernel
theorem dL_law_1228 : decode cL_law 1228 = .ok (.iconst 1, 1) := by decide +kernel
theorem dL_law_1229 : decode cL_law 1229 = .ok (.iadd, 1) := by decide +kernel
theorem dL_law_1230 : decode cL_law 1230 = .ok (.iaload, 1) := by decide +kernel
theorem dL_law_1231 : decode cL_law 1231 = .ok (.invokevirtual 141, 3) := by decide +kernel
theorem dL_law_1234 : decode cL_law 1234 = .ok (.aload_n 2, 1) := by decide +kernel
theorem dL_law_1235 : decode cL_law 1235 = .ok (.aload_n 0, 1) := by decide +kernel
theorem dL_law_1236 : decode cL_law 1236 = .ok (.iload_n 3, 1) := by decide +kernel
theorem dL_law_1237 : decode cL_law 1237 = .ok (.iconst 1, 1) := by decide +kernel
theorem dL_law_1238 : decode cL_law 1238 = .ok (.iadd, 1) := by decide +kernel
theorem dL_law_1239 : decode cL_law 1239 = .ok (.iaload, 1) := by decide +kernel
theorem dL_law_1240 : decode cL_law 1240 = .ok (.invokevirtual 144, 3) := by decide +kernel
theorem dL_law_1243 : decode cL_law 1243 = .ok (.if_icmp .eq 130, 3) := by decide +kernel
theorem dL_law_1246 : decode cL_law 1246 = .ok (.iconst 0, 1) := by decide +kernel
theorem dL_law_1247 : decode cL_law 1247 = .ok (.ireturn, 1) := by decide +kernel
theorem dL_law_1248 : decode cL_law 1248 = .ok (.aload_n 1, 1) := by decide +kernel
theorem dL_law_1249 : decode cL_law 1249 = .ok (.aload_n 0, 1) := by decide +kernel
theorem dL_law_1250 : decode cL_law 1250 = .ok (.iload_n 3, 1) := by decide +kernel
theorem dL_law_1251 : decode cL_law 1251 = .ok (.iconst 1, 1) := by decide +kernel
theorem dL_law_1252 : decode cL_law 1252 = .ok (.iadd, 1) := by decide +kernel
theorem dL_law_1253 : decode cL_law 1253 = .ok (.iaload, 1) := by decide +kernel
theorem dL_law_1254 : decode cL_law 1254 = .ok (.aload_n 0, 1) := by decide +kernel
theorem dL_law_1255 : decode cL_law 1255 = .ok (.iload_n 3, 1) := by decide +kernel
theorem dL_law_1256 : decode cL_law 1256 = .ok (.iconst 2, 1) := by decide +kernel
theorem dL_law_1257 : decode cL_law 1257 = .ok (.iadd, 1) := by decide +kernel
theorem dL_law_1258 : decode cL_law 1258 = .ok (.iaload, 1) := by decide +kernel
theorem dL_law_1259 : decode cL_law 1259 = .ok (.invokevirtual 145, 3) := by decide +kernel
theorem dL_law_1262 : decode cL_law 1262 = .ok (.aload_n 2, 1) := by decide +kernel
theorem dL_law_1263 : decode cL_law 1263 = .ok (.aload_n 0, 1) := by decide +kernel
theorem dL_law_1264 : decode cL_law 1264 = .ok (.iload_n 3, 1) := by decide +kernel
theorem dL_law_1265 : decode cL_law 1265 = .ok (.iconst 1, 1) := by decide +kernel
theorem dL_law_1266 : decode cL_law 1266 = .ok (.iadd, 1) := by decide +kernel
theorem dL_law_1267 : decode cL_law 1267 = .ok (.iaload, 1) := by decide +kernel
theorem dL_law_1268 : decode cL_law 1268 = .ok (.aload_n 0, 1) := by decide +kernel
theorem dL_law_1269 : decode cL_law 1269 = .ok (.iload_n 3, 1) := by decide +kernel
theorem dL_law_1270 : decode cL_law 1270 = .ok (.iconst 2, 1) := by decide +kernel
theorem dL_law_1271 : decode cL_law 1271 = .ok (.iadd, 1) := by decide +kernel
theorem dL_law_1272 : decode cL_law 1272 = .ok (.iaload, 1) := by decide +kernel
theorem dL_law_1273 : decode cL_law 1273 = .ok (.invokevirtual 148, 3) := by decide +kernel
theorem dL_law_1276 : decode cL_law 1276 = .ok (.if_icmp .eq 97, 3) := by decide +kernel
theorem dL_law_1279 : decode cL_law 1279 = .ok (.iconst 0, 1) := by decide +kernel
theorem dL_law_1280 : decode cL_law 1280 = .ok (.ireturn, 1) := by decide +kernel
theorem dL_law_1281 : decode cL_law 1281 = .ok (.aload_n 1, 1) := by decide +kernel
theorem dL_law_1282 : decode cL_law 1282 = .ok (.aload_n 0, 1) := by decide +kernel
theorem dL_law_1283 : decode cL_law 1283 = .ok (.iload_n 3, 1) := by decide +kernel
theorem dL_law_1284 : decode cL_law 1284 = .ok (.iconst 1, 1) := by decide +kernel
theorem dL_law_1285 : decode cL_law 1285 = .ok (.iadd, 1) := by decide +kernel
theorem dL_law_1286 : decode cL_law 1286 = .ok (.iaload, 1) := by decide +kernel
theorem dL_law_1287 : decode cL_law 1287 = .ok (.aload_n 0, 1) := by decide +kernel
theorem dL_law_1288 : decode cL_law 1288 = .ok (.iload_n 3, 1) := by decide +kernel
theorem dL_law_1289 : decode cL_law 1289 = .ok (.iconst 2, 1) := by decide +kernel
theorem dL_law_1290 : decode cL_law 1290 = .ok (.iadd, 1) := by decide +kernel
theorem dL_law_1291 : decode cL_law 1291 = .ok (.iaload, 1) := by decide +kernel
theorem dL_law_1292 : decode cL_law 1292 = .ok (.invokevirtual 149, 3) := by decide +kernel
theorem dL_law_1295 : decode cL_law 1295 = .ok (.aload_n 2, 1) := by decide +kernel
theorem dL_law_1296 : decode cL_law 1296 = .ok (.aload_n 0, 1) := by decide +kernel
theorem dL_law_1297 : decode cL_law 1297 = .ok (.iload_n 3, 1) := by decide +kernel
theorem dL_law_1298 : decode cL_law 1298 = .ok (.iconst 1, 1) := by decide +kernel
theorem dL_law_1299 : decode cL_law 1299 = .ok (.iadd, 1) := by decide +kernel
theorem dL_law_1300 : decode cL_law 1300 = .ok (.iaload, 1) := by decide +kernel
theorem dL_law_1301 : decode cL_law 1301 = .ok (.aload_n 0, 1) := by decide +kernel
theorem dL_law_1302 : decode cL_law 1302 = .ok (.iload_n 3, 1) := by decide +kernel
theorem dL_law_1303 : decode cL_law 1303 = .ok (.iconst 2, 1) := by decide +kernel
theorem dL_law_1304 : decode cL_law 1304 = .ok (.iadd, 1) := by decide +kernel
theorem dL_law_1305 : decode cL_law 1305 = .ok (.iaload, 1) := by decide +kernel
theorem dL_law_1306 : decode cL_law 1306 = .ok (.invokevirtual 152, 3) := by decide +kernel
theorem dL_law_1309 : decode cL_law 1309 = .ok (.if_icmp .eq 64, 3) := by decide +kernel
theorem dL_law_1312 : decode cL_law 1312 = .ok (.iconst 0, 1) := by decide +kernel
theorem dL_law_1313 : decode cL_law 1313 = .ok (.ireturn, 1) := by decide +kernel
theorem dL_law_1314 : decode cL_law 1314 = .ok (.aload_n 1, 1) := by decide +kernel
theorem dL_law_1315 : decode cL_law 1315 = .ok (.aload_n 0, 1) := by decide +kernel
theorem dL_law_1316 : decode cL_law 1316 = .ok (.iload_n 3, 1) := by decide +kernel
theorem dL_law_1317 : decode cL_law 1317 = .ok (.iconst 1, 1) := by decide +kernel
theorem dL_law_1318 : decode cL_law 1318 = .ok (.iadd, 1) := by decide +kernel
theorem dL_law_1319 : decode cL_law 1319 = .ok (.iaload, 1) := by decide +kernel
theorem dL_law_1320 : decode cL_law 1320 = .ok (.invokevirtual 153, 3) := by decide +kernel
theorem dL_law_1323 : decode cL_law 1323 = .ok (.aload_n 2, 1) := by decide +kernel
theorem dL_law_1324 : decode cL_law 1324 = .ok (.aload_n 0, 1) := by decide +kernel
theorem dL_law_1325 : decode cL_law 1325 = .ok (.iload_n 3, 1) := by decide +kernel
theorem dL_law_1326 : decode cL_law 1326 = .ok (.iconst 1, 1) := by decide +kernel
theorem dL_law_1327 : decode cL_law 1327 = .ok (.iadd, 1) := by decide +kernel
theorem dL_law_1328 : decode cL_law 1328 = .ok (.iaload, 1) := by decide +kernel
theorem dL_law_1329 : decode cL_law 1329 = .ok (.invokevirtual 156, 3) := by decide +kernel
theorem dL_law_1332 : decode cL_law 1332 = .ok (.if_icmp .eq 41, 3) := by decide +kernel
theorem dL_law_1335 : decode cL_law 1335 = .ok (.iconst 0, 1) := by decide +kernel
theorem dL_law_1336 : decode cL_law 1336 = .ok (.ireturn, 1) := by decide +kernel
theorem dL_law_1337 : decode cL_law 1337 = .ok (.aload_n 1, 1) := by decide +kernel
theorem dL_law_1338 : decode cL_law 1338 = .ok (.aload_n 0, 1) := by decide +kernel
theorem dL_law_1339 : decode cL_law 1339 = .ok (.iload_n 3, 1) := by decide +kernel
theorem dL_law_1340 : decode cL_law 1340 = .ok (.iconst 1, 1) := by decide +kernel
theorem dL_law_1341 : decode cL_law 1341 = .ok (.iadd, 1) := by decide +kernel
theorem dL_law_1342 : decode cL_law 1342 = .ok (.iaload, 1) := by decide +kernel
theorem dL_law_1343 : decode cL_law 1343 = .ok (.invokevirtual 157, 3) := by decide +kernel
theorem dL_law_1346 : decode cL_law 1346 = .ok (.aload_n 2, 1) := by decide +kernel
theorem dL_law_1347 : decode cL_law 1347 = .ok (.aload_n 0, 1) := by decide +kernel
theorem dL_law_1348 : decode cL_law 1348 = .ok (.iload_n 3, 1) := by decide +kernel
theorem dL_law_1349 : decode cL_law 1349 = .ok (.iconst 1, 1) := by decide +kernel
theorem dL_law_1350 : decode cL_law 1350 = .ok (.iadd, 1) := by decide +kernel
theorem dL_law_1351 : decode cL_law 1351 = .ok (.iaload, 1) := by decide +kernel
theorem dL_law_1352 : decode cL_law 1352 = .ok (.invokevirtual 160, 3) := by decide +kernel
theorem dL_law_1355 : decode cL_law 1355 = .ok (.if_icmp .eq 18, 3) := by decide +kernel
theorem dL_law_1358 : decode cL_law 1358 = .ok (.iconst 0, 1) := by decide +kernel
theorem dL_law_1359 : decode cL_law 1359 = .ok (.ireturn, 1) := by decide +kernel
theorem dL_law_1360 : decode cL_law 1360 = .ok (.aload_n 1, 1) := by decide +kernel
theorem dL_law_1361 : decode cL_law 1361 = .ok (.invokevirtual 161, 3) := by decide +kernel
theorem dL_law_1364 : decode cL_law 1364 = .ok (.aload_n 2, 1) := by decide +kernel
theorem dL_law_1365 : decode cL_law 1365 = .ok (.invokevirtual 164, 3) := by decide +kernel
theorem dL_law_1368 : decode cL_law 1368 = .ok (.if_icmp .eq 5, 3) := by decide +kernel
theorem dL_law_1371 : decode cL_law 1371 = .ok (.iconst 0, 1) := by decide +kernel
theorem dL_law_1372 : decode cL_law 1372 = .ok (.ireturn, 1) := by decide +kernel
theorem dL_law_1373 : decode cL_law 1373 = .ok (.iinc 3 7, 3) := by decide +kernel
theorem dL_law_1376 : decode cL_law 1376 = .ok (.goto (-1358), 3) := by decide +kernel
theorem dL_law_1379 : decode cL_law 1379 = .ok (.iconst 1, 1) := by decide +kernel
theorem dL_law_1380 : decode cL_law 1380 = .ok (.ireturn, 1) := by decide +kernel
