theorem dX8_wetness_10 : decode cX8_wetness 10 = .ok (.astore 4, 2) := by decide +kernel
theorem dX8_wetness_12 : decode cX8_wetness 12 = .ok (.aload_n 0, 1) := by decide +kernel
theorem dX8_wetness_13 : decode cX8_wetness 13 = .ok (.getfield 78, 3) := by decide +kernel
theorem dX8_wetness_16 : decode cX8_wetness 16 = .ok (.invokevirtual 109, 3) := by decide +kernel
theorem dX8_wetness_19 : decode cX8_wetness 19 = .ok (.istore 5, 2) := by decide +kernel
theorem dX8_wetness_21 : decode cX8_wetness 21 = .ok (.lconst 0, 1) := by decide +kernel
theorem dX8_wetness_22 : decode cX8_wetness 22 = .ok (.lstore 6, 2) := by decide +kernel
theorem dX8_wetness_24 : decode cX8_wetness 24 = .ok (.iconst 0, 1) := by decide +kernel
theorem dX8_wetness_25 : decode cX8_wetness 25 = .ok (.istore 8, 2) := by decide +kernel
theorem dX8_wetness_27 : decode cX8_wetness 27 = .ok (.iload 8, 2) := by decide +kernel
theorem dX8_wetness_29 : decode cX8_wetness 29 = .ok (.iload 5, 2) := by decide +kernel
theorem dX8_wetness_31 : decode cX8_wetness 31 = .ok (.if_icmp .gt 97, 3) := by decide +kernel
theorem dX8_wetness_34 : decode cX8_wetness 34 = .ok (.lconst 0, 1) := by decide +kernel
theorem dX8_wetness_35 : decode cX8_wetness 35 = .ok (.lstore 9, 2) := by decide +kernel
theorem dX8_wetness_37 : decode cX8_wetness 37 = .ok (.iconst 0, 1) := by decide +kernel
theorem dX8_wetness_38 : decode cX8_wetness 38 = .ok (.istore 11, 2) := by decide +kernel
theorem dX8_wetness_40 : decode cX8_wetness 40 = .ok (.iload 11, 2) := by decide +kernel
theorem dX8_wetness_42 : decode cX8_wetness 42 = .ok (.aload_n 0, 1) := by decide +kernel
theorem dX8_wetness_43 : decode cX8_wetness 43 = .ok (.getfield 19, 3) := by decide +kernel
theorem dX8_wetness_46 : decode cX8_wetness 46 = .ok (.getfield 219, 3) := by decide +kernel
theorem dX8_wetness_49 : decode cX8_wetness 49 = .ok (.if_icmp .ge 47, 3) := by decide +kernel
theorem dX8_wetness_52 : decode cX8_wetness 52 = .ok (.lload 9, 2) := by decide +kernel
theorem dX8_wetness_54 : decode cX8_wetness 54 = .ok (.aload_n 0, 1) := by decide +kernel
theorem dX8_wetness_55 : decode cX8_wetness 55 = .ok (.getfield 19, 3) := by decide +kernel
theorem dX8_wetness_58 : decode cX8_wetness 58 = .ok (.getfield 222, 3) := by decide +kernel
theorem dX8_wetness_61 : decode cX8_wetness 61 = .ok (.iload 11, 2) := by decide +kernel
theorem dX8_wetness_63 : decode cX8_wetness 63 = .ok (.iaload, 1) := by decide +kernel
theorem dX8_wetness_64 : decode cX8_wetness 64 = .ok (.invokestatic 286, 3) := by decide +kernel
theorem dX8_wetness_67 : decode cX8_wetness 67 = .ok (.i2l, 1) := by decide +kernel
theorem dX8_wetness_68 : decode cX8_wetness 68 = .ok (.aload 4, 2) := by decide +kernel
theorem dX8_wetness_70 : decode cX8_wetness 70 = .ok (.aload_n 0, 1) := by decide +kernel
theorem dX8_wetness_71 : decode cX8_wetness 71 = .ok (.getfield 78, 3) := by decide +kernel
theorem dX8_wetness_74 : decode cX8_wetness 74 = .ok (.getfield 225, 3) := by decide +kernel
theorem dX8_wetness_77 : decode cX8_wetness 77 = .ok (.iconst 1, 1) := by decide +kernel
theorem dX8_wetness_78 : decode cX8_wetness 78 = .ok (.isub, 1) := by decide +kernel
theorem dX8_wetness_79 : decode cX8_wetness 79 = .ok (.iload 11, 2) := by decide +kernel
theorem dX8_wetness_81 : decode cX8_wetness 81 = .ok (.iload 8, 2) := by decide +kernel
theorem dX8_wetness_83 : decode cX8_wetness 83 = .ok (.invokevirtual 211, 3) := by decide +kernel
theorem dX8_wetness_86 : decode cX8_wetness 86 = .ok (.lmul, 1) := by decide +kernel
theorem dX8_wetness_87 : decode cX8_wetness 87 = .ok (.ladd, 1) := by decide +kernel
theorem dX8_wetness_88 : decode cX8_wetness 88 = .ok (.lstore 9, 2) := by decide +kernel
theorem dX8_wetness_90 : decode cX8_wetness 90 = .ok (.iinc 11 1, 3) := by decide +kernel
theorem dX8_wetness_93 : decode cX8_wetness 93 = .ok (.goto (-53), 3) := by decide +kernel
theorem dX8_wetness_96 : decode cX8_wetness 96 = .ok (.lload 6, 2) := by decide +kernel
theorem dX8_wetness_98 : decode cX8_wetness 98 = .ok (.lload 9, 2) := by decide +kernel
theorem dX8_wetness_100 : decode cX8_wetness 100 = .ok (.iload_n 1, 1) := by decide +kernel
theorem dX8_wetness_101 : decode cX8_wetness 101 = .ok (.iload 8, 2) := by decide +kernel
theorem dX8_wetness_103 : decode cX8_wetness 103 = .ok (.invokestatic 268, 3) := by decide +kernel
theorem dX8_wetness_106 : decode cX8_wetness 106 = .ok (.iload_n 2, 1) := by decide +kernel
theorem dX8_wetness_107 : decode cX8_wetness 107 = .ok (.iload_n 1, 1) := by decide +kernel
theorem dX8_wetness_108 : decode cX8_wetness 108 = .ok (.isub, 1) := by decide +kernel
theorem dX8_wetness_109 : decode cX8_wetness 109 = .ok (.iload 5, 2) := by decide +kernel
theorem dX8_wetness_111 : decode cX8_wetness 111 = .ok (.iload 8, 2) := by decide +kernel
theorem dX8_wetness_113 : decode cX8_wetness 113 = .ok (.isub, 1) := by decide +kernel
theorem dX8_wetness_114 : decode cX8_wetness 114 = .ok (.invokestatic 268, 3) := by decide +kernel
theorem dX8_wetness_117 : decode cX8_wetness 117 = .ok (.lmul, 1) := by decide +kernel
theorem dX8_wetness_118 : decode cX8_wetness 118 = .ok (.lmul, 1) := by decide +kernel
theorem dX8_wetness_119 : decode cX8_wetness 119 = .ok (.ladd, 1) := by decide +kernel
theorem dX8_wetness_120 : decode cX8_wetness 120 = .ok (.lstore 6, 2) := by decide +kernel
theorem dX8_wetness_122 : decode cX8_wetness 122 = .ok (.iinc 8 1, 3) := by decide +kernel
theorem dX8_wetness_125 : decode cX8_wetness 125 = .ok (.goto (-98), 3) := by decide +kernel
theorem dX8_wetness_128 : decode cX8_wetness 128 = .ok (.lload 6, 2) := by decide +kernel
theorem dX8_wetness_130 : decode cX8_wetness 130 = .ok (.iload_n 2, 1) := by decide +kernel
theorem dX8_wetness_131 : decode cX8_wetness 131 = .ok (.iload 5, 2) := by decide +kernel
theorem dX8_wetness_133 : decode cX8_wetness 133 = .ok (.invokestatic 268, 3) := by decide +kernel
theorem dX8_wetness_136 : decode cX8_wetness 136 = .ok (.iload_n 3, 1) := by decide +kernel
theorem dX8_wetness_137 : decode cX8_wetness 137 = .ok (.invokestatic 271, 3) := by decide +kernel
theorem dX8_wetness_140 : decode cX8_wetness 140 = .ok (.lreturn, 1) := by decide +kernel
theorem dX8_depth_0 : decode cX8_depth 0 = .ok (.iload_n 1, 1) := by decide +kernel
theorem dX8_depth_1 : decode cX8_depth 1 = .ok (.iload_n 2, 1) := by decide +kernel
theorem dX8_depth_2 : decode cX8_depth 2 = .ok (.iconst 5, 1) := by decide +kernel
theorem dX8_depth_3 : decode cX8_depth 3 = .ok (.invokestatic 160, 3) := by decide +kernel
theorem dX8_depth_6 : decode cX8_depth 6 = .ok (.aload_n 0, 1) := by decide +kernel
theorem dX8_depth_7 : decode cX8_depth 7 = .ok (.invokevirtual 183, 3) := by decide +kernel
theorem dX8_depth_10 : decode cX8_depth 10 = .ok (.astore 4, 2) := by decide +kernel
theorem dX8_depth_12 : decode cX8_depth 12 = .ok (.aload_n 0, 1) := by decide +kernel
theorem dX8_depth_13 : decode cX8_depth 13 = .ok (.getfield 78, 3) := by decide +kernel
theorem dX8_depth_16 : decode cX8_depth 16 = .ok (.invokevirtual 109, 3) := by decide +kernel
theorem dX8_depth_19 : decode cX8_depth 19 = .ok (.istore 5, 2) := by decide +kernel
theorem dX8_depth_21 : decode cX8_depth 21 = .ok (.lconst 0, 1) := by decide +kernel
theorem dX8_depth_22 : decode cX8_depth 22 = .ok (.lstore 6, 2) := by decide +kernel
theorem dX8_depth_24 : decode cX8_depth 24 = .ok (.iconst 0, 1) := by decide +kernel
theorem dX8_depth_25 : decode cX8_depth 25 = .ok (.istore 8, 2) := by decide +kernel
theorem dX8_depth_27 : decode cX8_depth 27 = .ok (.iload 8, 2) := by decide +kernel
theorem dX8_depth_29 : decode cX8_depth 29 = .ok (.aload_n 0, 1) := by decide +kernel
theorem dX8_depth_30 : decode cX8_depth 30 = .ok (.getfield 78, 3) := by decide +kernel
theorem dX8_depth_33 : decode cX8_depth 33 = .ok (.getfield 225, 3) := by decide +kernel
theorem dX8_depth_36 : decode cX8_depth 36 = .ok (.if_icmp .ge 81, 3) := by decide +kernel
theorem dX8_depth_39 : decode cX8_depth 39 = .ok (.aload 4, 2) := by decide +kernel
theorem dX8_depth_41 : decode cX8_depth 41 = .ok (.iload 8, 2) := by decide +kernel
theorem dX8_depth_43 : decode cX8_depth 43 = .ok (.invokevirtual 291, 3) := by decide +kernel
theorem dX8_depth_46 : decode cX8_depth 46 = .ok (.istore 9, 2) := by decide +kernel
theorem dX8_depth_48 : decode cX8_depth 48 = .ok (.iconst 0, 1) := by decide +kernel
theorem dX8_depth_49 : decode cX8_depth 49 = .ok (.istore 10, 2) := by decide +kernel
theorem dX8_depth_51 : decode cX8_depth 51 = .ok (.iload 10, 2) := by decide +kernel
theorem dX8_depth_53 : decode cX8_depth 53 = .ok (.iload 9, 2) := by decide +kernel
theorem dX8_depth_55 : decode cX8_depth 55 = .ok (.if_icmp .gt 56, 3) := by decide +kernel
theorem dX8_depth_58 : decode cX8_depth 58 = .ok (.iload_n 1, 1) := by decide +kernel
theorem dX8_depth_59 : decode cX8_depth 59 = .ok (.iload 10, 2) := by decide +kernel
theorem dX8_depth_61 : decode cX8_depth 61 = .ok (.invokestatic 268, 3) := by decide +kernel
theorem dX8_depth_64 : decode cX8_depth 64 = .ok (.iload_n 2, 1) := by decide +kernel
theorem dX8_depth_65 : decode cX8_depth 65 = .ok (.iload_n 1, 1) := by decide +kernel
theorem dX8_depth_66 : decode cX8_depth 66 = .ok (.isub, 1) := by decide +kernel
theorem dX8_depth_67 : decode cX8_depth 67 = .ok (.iload 9, 2) := by decide +kernel
theorem dX8_depth_69 : decode cX8_depth 69 = .ok (.iload 10, 2) := by decide +kernel
theorem dX8_depth_71 : decode cX8_depth 71 = .ok (.isub, 1) := by decide +kernel
theorem dX8_depth_72 : decode cX8_depth 72 = .ok (.invokestatic 268, 3) := by decide +kernel
theorem dX8_depth_75 : decode cX8_depth 75 = .ok (.lmul, 1) := by decide +kernel
theorem dX8_depth_76 : decode cX8_depth 76 = .ok (.iload_n 2, 1) := by decide +kernel
theorem dX8_depth_77 : decode cX8_depth 77 = .ok (.iload 5, 2) := by decide +kernel
theorem dX8_depth_79 : decode cX8_depth 79 = .ok (.iload 9, 2) := by decide +kernel
theorem dX8_depth_81 : decode cX8_depth 81 = .ok (.isub, 1) := by decide +kernel
theorem dX8_depth_82 : decode cX8_depth 82 = .ok (.invokestatic 268, 3) := by decide +kernel
theorem dX8_depth_85 : decode cX8_depth 85 = .ok (.lmul, 1) := by decide +kernel
theorem dX8_depth_86 : decode cX8_depth 86 = .ok (.lstore 11, 2) := by decide +kernel
theorem dX8_depth_88 : decode cX8_depth 88 = .ok (.lload 6, 2) := by decide +kernel
theorem dX8_depth_90 : decode cX8_depth 90 = .ok (.aload 4, 2) := by decide +kernel
theorem dX8_depth_92 : decode cX8_depth 92 = .ok (.iload 8, 2) := by decide +kernel
theorem dX8_depth_94 : decode cX8_depth 94 = .ok (.iload 10, 2) := by decide +kernel
theorem dX8_depth_96 : decode cX8_depth 96 = .ok (.invokevirtual 228, 3) := by decide +kernel
theorem dX8_depth_99 : decode cX8_depth 99 = .ok (.lload 11, 2) := by decide +kernel
theorem dX8_depth_101 : decode cX8_depth 101 = .ok (.lmul, 1) := by decide +kernel
theorem dX8_depth_102 : decode cX8_depth 102 = .ok (.ladd, 1) := by decide +kernel
theorem dX8_depth_103 : decode cX8_depth 103 = .ok (.lstore 6, 2) := by decide +kernel
theorem dX8_depth_105 : decode cX8_depth 105 = .ok (.iinc 10 1, 3) := by decide +kernel
theorem dX8_depth_108 : decode cX8_depth 108 = .ok (.goto (-57), 3) := by decide +kernel
theorem dX8_depth_111 : decode cX8_depth 111 = .ok (.iinc 8 1, 3) := by decide +kernel
theorem dX8_depth_114 : decode cX8_depth 114 = .ok (.goto (-87), 3) := by decide +kernel
theorem dX8_depth_117 : decode cX8_depth 117 = .ok (.lload 6, 2) := by decide +kernel
theorem dX8_depth_119 : decode cX8_depth 119 = .ok (.iload_n 2, 1) := by decide +kernel
theorem dX8_depth_120 : decode cX8_depth 120 = .ok (.iload 5, 2) := by decide +kernel
theorem dX8_depth_122 : decode cX8_depth 122 = .ok (.invokestatic 268, 3) := by decide +kernel
theorem dX8_depth_125 : decode cX8_depth 125 = .ok (.iload_n 3, 1) := by decide +kernel
theorem dX8_depth_126 : decode cX8_depth 126 = .ok (.invokestatic 271, 3) := by decide +kernel
theorem dX8_depth_129 : decode cX8_depth 129 = .ok (.lreturn, 1) := by decide +kernel
theorem dX8_least_0 : decode cX8_least 0 = .ok (.iload_n 2, 1) := by decide +kernel
theorem dX8_least_1 : decode cX8_least 1 = .ok (.iconst 1, 1) := by decide +kernel
theorem dX8_least_2 : decode cX8_least 2 = .ok (.if_icmp .lt 18, 3) := by decide +kernel
theorem dX8_least_5 : decode cX8_least 5 = .ok (.iload_n 2, 1) := by decide +kernel
theorem dX8_least_6 : decode cX8_least 6 = .ok (.bipush 100, 2) := by decide +kernel
theorem dX8_least_8 : decode cX8_least 8 = .ok (.if_icmp .gt 12, 3) := by decide +kernel
theorem dX8_least_11 : decode cX8_least 11 = .ok (.iload_n 1, 1) := by decide +kernel
theorem dX8_least_12 : decode cX8_least 12 = .ok (.ifCond .lt 8, 3) := by decide +kernel
theorem dX8_least_15 : decode cX8_least 15 = .ok (.iload_n 1, 1) := by decide +kernel
theorem dX8_least_16 : decode cX8_least 16 = .ok (.iload_n 2, 1) := by decide +kernel
theorem dX8_least_17 : decode cX8_least 17 = .ok (.if_icmp .le 14, 3) := by decide +kernel
theorem dX8_least_20 : decode cX8_least 20 = .ok (.new 99, 3) := by decide +kernel
theorem dX8_least_23 : decode cX8_least 23 = .ok (.dup, 1) := by decide +kernel
theorem dX8_least_24 : decode cX8_least 24 = .ok (.ldc_w 294, 3) := by decide +kernel
theorem dX8_least_27 : decode cX8_least 27 = .ok (.invokespecial 103, 3) := by decide +kernel
theorem dX8_least_30 : decode cX8_least 30 = .ok (.athrow, 1) := by decide +kernel
theorem dX8_least_31 : decode cX8_least 31 = .ok (.aload_n 0, 1) := by decide +kernel
theorem dX8_least_32 : decode cX8_least 32 = .ok (.iload_n 1, 1) := by decide +kernel
theorem dX8_least_33 : decode cX8_least 33 = .ok (.iload_n 2, 1) := by decide +kernel
theorem dX8_least_34 : decode cX8_least 34 = .ok (.invokevirtual 296, 3) := by decide +kernel
theorem dX8_least_37 : decode cX8_least 37 = .ok (.ireturn, 1) := by decide +kernel
theorem dX8_mean_0 : decode cX8_mean 0 = .ok (.aload_n 0, 1) := by decide +kernel
theorem dX8_mean_1 : decode cX8_mean 1 = .ok (.getfield 78, 3) := by decide +kernel
theorem dX8_mean_4 : decode cX8_mean 4 = .ok (.invokevirtual 109, 3) := by decide +kernel
theorem dX8_mean_7 : decode cX8_mean 7 = .ok (.istore_n 2, 1) := by decide +kernel
theorem dX8_mean_8 : decode cX8_mean 8 = .ok (.aload_n 0, 1) := by decide +kernel
theorem dX8_mean_9 : decode cX8_mean 9 = .ok (.invokevirtual 183, 3) := by decide +kernel
theorem dX8_mean_12 : decode cX8_mean 12 = .ok (.getfield 187, 3) := by decide +kernel
theorem dX8_mean_15 : decode cX8_mean 15 = .ok (.astore_n 3, 1) := by decide +kernel
theorem dX8_mean_16 : decode cX8_mean 16 = .ok (.iload_n 2, 1) := by decide +kernel
theorem dX8_mean_17 : decode cX8_mean 17 = .ok (.bipush 25, 2) := by decide +kernel
theorem dX8_mean_19 : decode cX8_mean 19 = .ok (.if_icmp .ge 11, 3) := by decide +kernel
theorem dX8_mean_22 : decode cX8_mean 22 = .ok (.aload_n 3, 1) := by decide +kernel
theorem dX8_mean_23 : decode cX8_mean 23 = .ok (.iload_n 2, 1) := by decide +kernel
theorem dX8_mean_24 : decode cX8_mean 24 = .ok (.laload, 1) := by decide +kernel
theorem dX8_mean_25 : decode cX8_mean 25 = .ok (.lconst 0, 1) := by decide +kernel
theorem dX8_mean_26 : decode cX8_mean 26 = .ok (.lcmp, 1) := by decide +kernel
theorem dX8_mean_27 : decode cX8_mean 27 = .ok (.ifCond .ne 7, 3) := by decide +kernel
theorem dX8_mean_30 : decode cX8_mean 30 = .ok (.ldc2_w 299, 3) := by decide +kernel
theorem dX8_mean_33 : decode cX8_mean 33 = .ok (.lreturn, 1) := by decide +kernel
theorem dX8_mean_34 : decode cX8_mean 34 = .ok (.lconst 0, 1) := by decide +kernel
theorem dX8_mean_35 : decode cX8_mean 35 = .ok (.lstore 4, 2) := by decide +kernel
theorem dX8_mean_37 : decode cX8_mean 37 = .ok (.lconst 1, 1) := by decide +kernel
theorem dX8_mean_38 : decode cX8_mean 38 = .ok (.lstore 6, 2) := by decide +kernel
theorem dX8_mean_40 : decode cX8_mean 40 = .ok (.iconst 0, 1) := by decide +kernel
theorem dX8_mean_41 : decode cX8_mean 41 = .ok (.istore 8, 2) := by decide +kernel
theorem dX8_mean_43 : decode cX8_mean 43 = .ok (.iload 8, 2) := by decide +kernel
theorem dX8_mean_45 : decode cX8_mean 45 = .ok (.iload_n 2, 1) := by decide +kernel
theorem dX8_mean_46 : decode cX8_mean 46 = .ok (.if_icmp .ge 76, 3) := by decide +kernel
theorem dX8_mean_49 : decode cX8_mean 49 = .ok (.iload_n 2, 1) := by decide +kernel
theorem dX8_mean_50 : decode cX8_mean 50 = .ok (.iload 8, 2) := by decide +kernel
theorem dX8_mean_52 : decode cX8_mean 52 = .ok (.invokestatic 194, 3) := by decide +kernel
theorem dX8_mean_55 : decode cX8_mean 55 = .ok (.lstore 9, 2) := by decide +kernel
theorem dX8_mean_57 : decode cX8_mean 57 = .ok (.lload 9, 2) := by decide +kernel
theorem dX8_mean_59 : decode cX8_mean 59 = .ok (.aload_n 3, 1) := by decide +kernel
theorem dX8_mean_60 : decode cX8_mean 60 = .ok (.iload 8, 2) := by decide +kernel
theorem dX8_mean_62 : decode cX8_mean 62 = .ok (.laload, 1) := by decide +kernel
theorem dX8_mean_63 : decode cX8_mean 63 = .ok (.lsub, 1) := by decide +kernel
theorem dX8_mean_64 : decode cX8_mean 64 = .ok (.lstore 11, 2) := by decide +kernel
theorem dX8_mean_66 : decode cX8_mean 66 = .ok (.lload 6, 2) := by decide +kernel
theorem dX8_mean_68 : decode cX8_mean 68 = .ok (.lload 9, 2) := by decide +kernel
theorem dX8_mean_70 : decode cX8_mean 70 = .ok (.iconst 1, 1) := by decide +kernel
theorem dX8_mean_71 : decode cX8_mean 71 = .ok (.invokestatic 271, 3) := by decide +kernel
theorem dX8_mean_74 : decode cX8_mean 74 = .ok (.lload 6, 2) := by decide +kernel
theorem dX8_mean_76 : decode cX8_mean 76 = .ok (.lmul, 1) := by decide +kernel
theorem dX8_mean_77 : decode cX8_mean 77 = .ok (.lstore 13, 2) := by decide +kernel
theorem dX8_mean_79 : decode cX8_mean 79 = .ok (.lload 6, 2) := by decide +kernel
theorem dX8_mean_81 : decode cX8_mean 81 = .ok (.lconst 0, 1) := by decide +kernel
theorem dX8_mean_82 : decode cX8_mean 82 = .ok (.lcmp, 1) := by decide +kernel
theorem dX8_mean_83 : decode cX8_mean 83 = .ok (.ifCond .le 29, 3) := by decide +kernel
theorem dX8_mean_86 : decode cX8_mean 86 = .ok (.lload 9, 2) := by decide +kernel
theorem dX8_mean_88 : decode cX8_mean 88 = .ok (.lconst 0, 1) := by decide +kernel
theorem dX8_mean_89 : decode cX8_mean 89 = .ok (.lcmp, 1) := by decide +kernel
theorem dX8_mean_90 : decode cX8_mean 90 = .ok (.ifCond .le 22, 3) := by decide +kernel
theorem dX8_mean_93 : decode cX8_mean 93 = .ok (.lload 4, 2) := by decide +kernel
theorem dX8_mean_95 : decode cX8_mean 95 = .ok (.lload 13, 2) := by decide +kernel
theorem dX8_mean_97 : decode cX8_mean 97 = .ok (.lload 6, 2) := by decide +kernel
theorem dX8_mean_99 : decode cX8_mean 99 = .ok (.ldiv, 1) := by decide +kernel
theorem dX8_mean_100 : decode cX8_mean 100 = .ok (.lmul, 1) := by decide +kernel
theorem dX8_mean_101 : decode cX8_mean 101 = .ok (.lload 11, 2) := by decide +kernel
theorem dX8_mean_103 : decode cX8_mean 103 = .ok (.lload 13, 2) := by decide +kernel
theorem dX8_mean_105 : decode cX8_mean 105 = .ok (.lload 9, 2) := by decide +kernel
theorem dX8_mean_107 : decode cX8_mean 107 = .ok (.ldiv, 1) := by decide +kernel
theorem dX8_mean_108 : decode cX8_mean 108 = .ok (.lmul, 1) := by decide +kernel
theorem dX8_mean_109 : decode cX8_mean 109 = .ok (.ladd, 1) := by decide +kernel
theorem dX8_mean_110 : decode cX8_mean 110 = .ok (.lstore 4, 2) := by decide +kernel
theorem dX8_mean_112 : decode cX8_mean 112 = .ok (.lload 13, 2) := by decide +kernel
theorem dX8_mean_114 : decode cX8_mean 114 = .ok (.lstore 6, 2) := by decide +kernel
theorem dX8_mean_116 : decode cX8_mean 116 = .ok (.iinc 8 1, 3) := by decide +kernel
theorem dX8_mean_119 : decode cX8_mean 119 = .ok (.goto (-76), 3) := by decide +kernel
theorem dX8_mean_122 : decode cX8_mean 122 = .ok (.lload 4, 2) := by decide +kernel
theorem dX8_mean_124 : decode cX8_mean 124 = .ok (.lload 6, 2) := by decide +kernel
theorem dX8_mean_126 : decode cX8_mean 126 = .ok (.iload_n 1, 1) := by decide +kernel
theorem dX8_mean_127 : decode cX8_mean 127 = .ok (.invokestatic 271, 3) := by decide +kernel
theorem dX8_mean_130 : decode cX8_mean 130 = .ok (.lreturn, 1) := by decide +kernel
theorem dX8_half_0 : decode cX8_half 0 = .ok (.aload_n 0, 1) := by decide +kernel
theorem dX8_half_1 : decode cX8_half 1 = .ok (.iconst 1, 1) := by decide +kernel
theorem dX8_half_2 : decode cX8_half 2 = .ok (.iconst 2, 1) := by decide +kernel
theorem dX8_half_3 : decode cX8_half 3 = .ok (.invokevirtual 296, 3) := by decide +kernel
theorem dX8_half_6 : decode cX8_half 6 = .ok (.ireturn, 1) := by decide +kernel
theorem dX8_decides_0 : decode cX8_decides 0 = .ok (.aload_n 0, 1) := by decide +kernel
theorem dX8_decides_1 : decode cX8_decides 1 = .ok (.iload_n 1, 1) := by decide +kernel
theorem dX8_decides_2 : decode cX8_decides 2 = .ok (.iload_n 2, 1) := by decide +kernel
theorem dX8_decides_3 : decode cX8_decides 3 = .ok (.iload_n 3, 1) := by decide +kernel
theorem dX8_decides_4 : decode cX8_decides 4 = .ok (.invokevirtual 116, 3) := by decide +kernel
theorem dX8_decides_7 : decode cX8_decides 7 = .ok (.istore 5, 2) := by decide +kernel
theorem dX8_decides_9 : decode cX8_decides 9 = .ok (.aload_n 0, 1) := by decide +kernel
theorem dX8_decides_10 : decode cX8_decides 10 = .ok (.iload 5, 2) := by decide +kernel
theorem dX8_decides_12 : decode cX8_decides 12 = .ok (.invokevirtual 275, 3) := by decide +kernel
theorem dX8_decides_15 : decode cX8_decides 15 = .ok (.iload 4, 2) := by decide +kernel
theorem dX8_decides_17 : decode cX8_decides 17 = .ok (.invokestatic 180, 3) := by decide +kernel
theorem dX8_decides_20 : decode cX8_decides 20 = .ok (.ifCond .ne 5, 3) := by decide +kernel
theorem dX8_decides_23 : decode cX8_decides 23 = .ok (.lconst 0, 1) := by decide +kernel
theorem dX8_decides_24 : decode cX8_decides 24 = .ok (.lreturn, 1) := by decide +kernel
theorem dX8_decides_25 : decode cX8_decides 25 = .ok (.aload_n 0, 1) := by decide +kernel
theorem dX8_decides_26 : decode cX8_decides 26 = .ok (.iload 5, 2) := by decide +kernel
theorem dX8_decides_28 : decode cX8_decides 28 = .ok (.iconst 2, 1) := by decide +kernel
theorem dX8_decides_29 : decode cX8_decides 29 = .ok (.invokevirtual 282, 3) := by decide +kernel
theorem dX8_decides_32 : decode cX8_decides 32 = .ok (.iload 4, 2) := by decide +kernel
theorem dX8_decides_34 : decode cX8_decides 34 = .ok (.laload, 1) := by decide +kernel
theorem dX8_decides_35 : decode cX8_decides 35 = .ok (.lstore 6, 2) := by decide +kernel
theorem dX8_decides_37 : decode cX8_decides 37 = .ok (.aload_n 0, 1) := by decide +kernel
theorem dX8_decides_38 : decode cX8_decides 38 = .ok (.iload 5, 2) := by decide +kernel
theorem dX8_decides_40 : decode cX8_decides 40 = .ok (.iconst 1, 1) := by decide +kernel
theorem dX8_decides_41 : decode cX8_decides 41 = .ok (.invokevirtual 282, 3) := by decide +kernel
theorem dX8_decides_44 : decode cX8_decides 44 = .ok (.iload 4, 2) := by decide +kernel
theorem dX8_decides_46 : decode cX8_decides 46 = .ok (.laload, 1) := by decide +kernel
theorem dX8_decides_47 : decode cX8_decides 47 = .ok (.lload 6, 2) := by decide +kernel
theorem dX8_decides_49 : decode cX8_decides 49 = .ok (.lsub, 1) := by decide +kernel
theorem dX8_decides_50 : decode cX8_decides 50 = .ok (.lreturn, 1) := by decide +kernel
theorem dX8_leader_0 : decode cX8_leader 0 = .ok (.iload_n 1, 1) := by decide +kernel
theorem dX8_leader_1 : decode cX8_leader 1 = .ok (.iload_n 2, 1) := by decide +kernel
theorem dX8_leader_2 : decode cX8_leader 2 = .ok (.bipush 6, 2) := by decide +kernel
theorem dX8_leader_4 : decode cX8_leader 4 = .ok (.invokestatic 160, 3) := by decide +kernel
theorem dX8_leader_7 : decode cX8_leader 7 = .ok (.aload_n 0, 1) := by decide +kernel
theorem dX8_leader_8 : decode cX8_leader 8 = .ok (.iload_n 1, 1) := by decide +kernel
theorem dX8_leader_9 : decode cX8_leader 9 = .ok (.iload_n 2, 1) := by decide +kernel
theorem dX8_leader_10 : decode cX8_leader 10 = .ok (.invokevirtual 301, 3) := by decide +kernel
theorem dX8_leader_13 : decode cX8_leader 13 = .ok (.astore_n 3, 1) := by decide +kernel
theorem dX8_leader_14 : decode cX8_leader 14 = .ok (.iconst (-1), 1) := by decide +kernel
theorem dX8_leader_15 : decode cX8_leader 15 = .ok (.istore 4, 2) := by decide +kernel
theorem dX8_leader_17 : decode cX8_leader 17 = .ok (.iconst 0, 1) := by decide +kernel
theorem dX8_leader_18 : decode cX8_leader 18 = .ok (.istore 5, 2) := by decide +kernel
theorem dX8_leader_20 : decode cX8_leader 20 = .ok (.iload 5, 2) := by decide +kernel
theorem dX8_leader_22 : decode cX8_leader 22 = .ok (.bipush 50, 2) := by decide +kernel
theorem dX8_leader_24 : decode cX8_leader 24 = .ok (.if_icmp .ge 42, 3) := by decide +kernel
theorem dX8_leader_27 : decode cX8_leader 27 = .ok (.aload_n 0, 1) := by decide +kernel
theorem dX8_leader_28 : decode cX8_leader 28 = .ok (.getfield 78, 3) := by decide +kernel
theorem dX8_leader_31 : decode cX8_leader 31 = .ok (.iload 5, 2) := by decide +kernel
theorem dX8_leader_33 : decode cX8_leader 33 = .ok (.invokevirtual 304, 3) := by decide +kernel
theorem dX8_leader_36 : decode cX8_leader 36 = .ok (.ifCond .eq 24, 3) := by decide +kernel
theorem dX8_leader_39 : decode cX8_leader 39 = .ok (.iload 4, 2) := by decide +kernel
theorem dX8_leader_41 : decode cX8_leader 41 = .ok (.ifCond .lt 15, 3) := by decide +kernel
theorem dX8_leader_44 : decode cX8_leader 44 = .ok (.aload_n 3, 1) := by decide +kernel
theorem dX8_leader_45 : decode cX8_leader 45 = .ok (.iload 5, 2) := by decide +kernel
theorem dX8_leader_47 : decode cX8_leader 47 = .ok (.laload, 1) := by decide +kernel
theorem dX8_leader_48 : decode cX8_leader 48 = .ok (.aload_n 3, 1) := by decide +kernel
theorem dX8_leader_49 : decode cX8_leader 49 = .ok (.iload 4, 2) := by decide +kernel
theorem dX8_leader_51 : decode cX8_leader 51 = .ok (.laload, 1) := by decide +kernel
theorem dX8_leader_52 : decode cX8_leader 52 = .ok (.lcmp, 1) := by decide +kernel
theorem dX8_leader_53 : decode cX8_leader 53 = .ok (.ifCond .le 7, 3) := by decide +kernel
theorem dX8_leader_56 : decode cX8_leader 56 = .ok (.iload 5, 2) := by decide +kernel
theorem dX8_leader_58 : decode cX8_leader 58 = .ok (.istore 4, 2) := by decide +kernel
theorem dX8_leader_60 : decode cX8_leader 60 = .ok (.iinc 5 1, 3) := by decide +kernel
theorem dX8_leader_63 : decode cX8_leader 63 = .ok (.goto (-43), 3) := by decide +kernel
theorem dX8_leader_66 : decode cX8_leader 66 = .ok (.iload 4, 2) := by decide +kernel
theorem dX8_leader_68 : decode cX8_leader 68 = .ok (.ireturn, 1) := by decide +kernel
theorem dX8_rank_0 : decode cX8_rank 0 = .ok (.aload_n 0, 1) := by decide +kernel
theorem dX8_rank_1 : decode cX8_rank 1 = .ok (.iload_n 1, 1) := by decide +kernel
theorem dX8_rank_2 : decode cX8_rank 2 = .ok (.iload_n 2, 1) := by decide +kernel
theorem dX8_rank_3 : decode cX8_rank 3 = .ok (.iload_n 3, 1) := by decide +kernel
theorem dX8_rank_4 : decode cX8_rank 4 = .ok (.invokevirtual 116, 3) := by decide +kernel
theorem dX8_rank_7 : decode cX8_rank 7 = .ok (.istore 6, 2) := by decide +kernel
theorem dX8_rank_9 : decode cX8_rank 9 = .ok (.iload 4, 2) := by decide +kernel
theorem dX8_rank_11 : decode cX8_rank 11 = .ok (.iload 5, 2) := by decide +kernel
theorem dX8_rank_13 : decode cX8_rank 13 = .ok (.bipush 6, 2) := by decide +kernel
theorem dX8_rank_15 : decode cX8_rank 15 = .ok (.invokestatic 160, 3) := by decide +kernel
theorem dX8_rank_18 : decode cX8_rank 18 = .ok (.aload_n 0, 1) := by decide +kernel
theorem dX8_rank_19 : decode cX8_rank 19 = .ok (.iload 6, 2) := by decide +kernel
theorem dX8_rank_21 : decode cX8_rank 21 = .ok (.invokevirtual 275, 3) := by decide +kernel
theorem dX8_rank_24 : decode cX8_rank 24 = .ok (.aload_n 0, 1) := by decide +kernel
theorem dX8_rank_25 : decode cX8_rank 25 = .ok (.iload 4, 2) := by decide +kernel
theorem dX8_rank_27 : decode cX8_rank 27 = .ok (.iload 5, 2) := by decide +kernel
theorem dX8_rank_29 : decode cX8_rank 29 = .ok (.invokevirtual 301, 3) := by decide +kernel
theorem dX8_rank_32 : decode cX8_rank 32 = .ok (.astore 7, 2) := by decide +kernel
theorem dX8_rank_34 : decode cX8_rank 34 = .ok (.iconst 0, 1) := by decide +kernel
theorem dX8_rank_35 : decode cX8_rank 35 = .ok (.istore 8, 2) := by decide +kernel
theorem dX8_rank_37 : decode cX8_rank 37 = .ok (.iconst 0, 1) := by decide +kernel
theorem dX8_rank_38 : decode cX8_rank 38 = .ok (.istore 9, 2) := by decide +kernel
theorem dX8_rank_40 : decode cX8_rank 40 = .ok (.iload 9, 2) := by decide +kernel
theorem dX8_rank_42 : decode cX8_rank 42 = .ok (.bipush 50, 2) := by decide +kernel
theorem dX8_rank_44 : decode cX8_rank 44 = .ok (.if_icmp .ge 38, 3) := by decide +kernel
theorem dX8_rank_47 : decode cX8_rank 47 = .ok (.aload_n 0, 1) := by decide +kernel
theorem dX8_rank_48 : decode cX8_rank 48 = .ok (.getfield 78, 3) := by decide +kernel
theorem dX8_rank_51 : decode cX8_rank 51 = .ok (.iload 9, 2) := by decide +kernel
theorem dX8_rank_53 : decode cX8_rank 53 = .ok (.invokevirtual 304, 3) := by decide +kernel
theorem dX8_rank_56 : decode cX8_rank 56 = .ok (.ifCond .eq 20, 3) := by decide +kernel
theorem dX8_rank_59 : decode cX8_rank 59 = .ok (.aload 7, 2) := by decide +kernel
theorem dX8_rank_61 : decode cX8_rank 61 = .ok (.iload 9, 2) := by decide +kernel
theorem dX8_rank_63 : decode cX8_rank 63 = .ok (.laload, 1) := by decide +kernel
theorem dX8_rank_64 : decode cX8_rank 64 = .ok (.aload 7, 2) := by decide +kernel
theorem dX8_rank_66 : decode cX8_rank 66 = .ok (.iload 6, 2) := by decide +kernel
theorem dX8_rank_68 : decode cX8_rank 68 = .ok (.laload, 1) := by decide +kernel
theorem dX8_rank_69 : decode cX8_rank 69 = .ok (.lcmp, 1) := by decide +kernel
theorem dX8_rank_70 : decode cX8_rank 70 = .ok (.ifCond .le 6, 3) := by decide +kernel
theorem dX8_rank_73 : decode cX8_rank 73 = .ok (.iinc 8 1, 3) := by decide +kernel
theorem dX8_rank_76 : decode cX8_rank 76 = .ok (.iinc 9 1, 3) := by decide +kernel
theorem dX8_rank_79 : decode cX8_rank 79 = .ok (.goto (-39), 3) := by decide +kernel
theorem dX8_rank_82 : decode cX8_rank 82 = .ok (.iload 8, 2) := by decide +kernel
theorem dX8_rank_84 : decode cX8_rank 84 = .ok (.ireturn, 1) := by decide +kernel
theorem dX8_toOpen_0 : decode cX8_toOpen 0 = .ok (.aload_n 0, 1) := by decide +kernel
theorem dX8_toOpen_1 : decode cX8_toOpen 1 = .ok (.invokevirtual 183, 3) := by decide +kernel
theorem dX8_toOpen_4 : decode cX8_toOpen 4 = .ok (.getfield 187, 3) := by decide +kernel
theorem dX8_toOpen_7 : decode cX8_toOpen 7 = .ok (.astore_n 1, 1) := by decide +kernel
theorem dX8_toOpen_8 : decode cX8_toOpen 8 = .ok (.iconst 0, 1) := by decide +kernel
theorem dX8_toOpen_9 : decode cX8_toOpen 9 = .ok (.istore_n 2, 1) := by decide +kernel
theorem dX8_toOpen_10 : decode cX8_toOpen 10 = .ok (.iload_n 2, 1) := by decide +kernel
theorem dX8_toOpen_11 : decode cX8_toOpen 11 = .ok (.bipush 25, 2) := by decide +kernel
theorem dX8_toOpen_13 : decode cX8_toOpen 13 = .ok (.if_icmp .ge 19, 3) := by decide +kernel
theorem dX8_toOpen_16 : decode cX8_toOpen 16 = .ok (.aload_n 1, 1) := by decide +kernel
theorem dX8_toOpen_17 : decode cX8_toOpen 17 = .ok (.iload_n 2, 1) := by decide +kernel
theorem dX8_toOpen_18 : decode cX8_toOpen 18 = .ok (.laload, 1) := by decide +kernel
theorem dX8_toOpen_19 : decode cX8_toOpen 19 = .ok (.lconst 0, 1) := by decide +kernel
theorem dX8_toOpen_20 : decode cX8_toOpen 20 = .ok (.lcmp, 1) := by decide +kernel
theorem dX8_toOpen_21 : decode cX8_toOpen 21 = .ok (.ifCond .le 5, 3) := by decide +kernel
theorem dX8_toOpen_24 : decode cX8_toOpen 24 = .ok (.iload_n 2, 1) := by decide +kernel
theorem dX8_toOpen_25 : decode cX8_toOpen 25 = .ok (.ireturn, 1) := by decide +kernel
theorem dX8_toOpen_26 : decode cX8_toOpen 26 = .ok (.iinc 2 1, 3) := by decide +kernel
theorem dX8_toOpen_29 : decode cX8_toOpen 29 = .ok (.goto (-19), 3) := by decide +kernel
theorem dX8_toOpen_32 : decode cX8_toOpen 32 = .ok (.iconst (-1), 1) := by decide +kernel
theorem dX8_toOpen_33 : decode cX8_toOpen 33 = .ok (.ireturn, 1) := by decide +kernel
theorem dX8_toShut_0 : decode cX8_toShut 0 = .ok (.aload_n 0, 1) := by decide +kernel
theorem dX8_toShut_1 : decode cX8_toShut 1 = .ok (.getfield 78, 3) := by decide +kernel
theorem dX8_toShut_4 : decode cX8_toShut 4 = .ok (.invokevirtual 109, 3) := by decide +kernel
theorem dX8_toShut_7 : decode cX8_toShut 7 = .ok (.istore_n 1, 1) := by decide +kernel
theorem dX8_toShut_8 : decode cX8_toShut 8 = .ok (.aload_n 0, 1) := by decide +kernel
theorem dX8_toShut_9 : decode cX8_toShut 9 = .ok (.invokevirtual 183, 3) := by decide +kernel
theorem dX8_toShut_12 : decode cX8_toShut 12 = .ok (.getfield 187, 3) := by decide +kernel
theorem dX8_toShut_15 : decode cX8_toShut 15 = .ok (.astore_n 2, 1) := by decide +kernel
theorem dX8_toShut_16 : decode cX8_toShut 16 = .ok (.iconst 0, 1) := by decide +kernel
theorem dX8_toShut_17 : decode cX8_toShut 17 = .ok (.istore_n 3, 1) := by decide +kernel
theorem dX8_toShut_18 : decode cX8_toShut 18 = .ok (.iload_n 3, 1) := by decide +kernel
theorem dX8_toShut_19 : decode cX8_toShut 19 = .ok (.iload_n 1, 1) := by decide +kernel
theorem dX8_toShut_20 : decode cX8_toShut 20 = .ok (.if_icmp .gt 31, 3) := by decide +kernel
theorem dX8_toShut_23 : decode cX8_toShut 23 = .ok (.iload_n 1, 1) := by decide +kernel
theorem dX8_toShut_24 : decode cX8_toShut 24 = .ok (.bipush 25, 2) := by decide +kernel
theorem dX8_toShut_26 : decode cX8_toShut 26 = .ok (.if_icmp .ge 25, 3) := by decide +kernel
theorem dX8_toShut_29 : decode cX8_toShut 29 = .ok (.aload_n 2, 1) := by decide +kernel
theorem dX8_toShut_30 : decode cX8_toShut 30 = .ok (.iload_n 1, 1) := by decide +kernel
theorem dX8_toShut_31 : decode cX8_toShut 31 = .ok (.iload_n 3, 1) := by decide +kernel
theorem dX8_toShut_32 : decode cX8_toShut 32 = .ok (.isub, 1) := by decide +kernel
theorem dX8_toShut_33 : decode cX8_toShut 33 = .ok (.laload, 1) := by decide +kernel
theorem dX8_toShut_34 : decode cX8_toShut 34 = .ok (.iload_n 1, 1) := by decide +kernel
theorem dX8_toShut_35 : decode cX8_toShut 35 = .ok (.iload_n 3, 1) := by decide +kernel
theorem dX8_toShut_36 : decode cX8_toShut 36 = .ok (.invokestatic 194, 3) := by decide +kernel
theorem dX8_toShut_39 : decode cX8_toShut 39 = .ok (.lcmp, 1) := by decide +kernel
theorem dX8_toShut_40 : decode cX8_toShut 40 = .ok (.ifCond .ge 5, 3) := by decide +kernel
theorem dX8_toShut_43 : decode cX8_toShut 43 = .ok (.iload_n 3, 1) := by decide +kernel
theorem dX8_toShut_44 : decode cX8_toShut 44 = .ok (.ireturn, 1) := by decide +kernel
theorem dX8_toShut_45 : decode cX8_toShut 45 = .ok (.iinc 3 1, 3) := by decide +kernel
theorem dX8_toShut_48 : decode cX8_toShut 48 = .ok (.goto (-30), 3) := by decide +kernel
theorem dX8_toShut_51 : decode cX8_toShut 51 = .ok (.iconst (-1), 1) := by decide +kernel
theorem dX8_toShut_52 : decode cX8_toShut 52 = .ok (.ireturn, 1) := by decide +kernel
theorem dX8_drawn_0 : decode cX8_drawn 0 = .ok (.iload_n 2, 1) := by decide +kernel
theorem dX8_drawn_1 : decode cX8_drawn 1 = .ok (.iload_n 3, 1) := by decide +kernel
theorem dX8_drawn_2 : decode cX8_drawn 2 = .ok (.bipush 6, 2) := by decide +kernel
theorem dX8_drawn_4 : decode cX8_drawn 4 = .ok (.invokestatic 160, 3) := by decide +kernel
theorem dX8_drawn_7 : decode cX8_drawn 7 = .ok (.iload 4, 2) := by decide +kernel
theorem dX8_drawn_9 : decode cX8_drawn 9 = .ok (.ifCond .lt 9, 3) := by decide +kernel
theorem dX8_drawn_12 : decode cX8_drawn 12 = .ok (.iload 4, 2) := by decide +kernel
theorem dX8_drawn_14 : decode cX8_drawn 14 = .ok (.iconst 3, 1) := by decide +kernel
theorem dX8_drawn_15 : decode cX8_drawn 15 = .ok (.if_icmp .le 14, 3) := by decide +kernel
theorem dX8_drawn_18 : decode cX8_drawn 18 = .ok (.new 307, 3) := by decide +kernel
theorem dX8_drawn_21 : decode cX8_drawn 21 = .ok (.dup, 1) := by decide +kernel
theorem dX8_drawn_22 : decode cX8_drawn 22 = .ok (.ldc_w 309, 3) := by decide +kernel
theorem dX8_drawn_25 : decode cX8_drawn 25 = .ok (.invokespecial 311, 3) := by decide +kernel
theorem dX8_drawn_28 : decode cX8_drawn 28 = .ok (.athrow, 1) := by decide +kernel
theorem dX8_drawn_29 : decode cX8_drawn 29 = .ok (.aload_n 0, 1) := by decide +kernel
theorem dX8_drawn_30 : decode cX8_drawn 30 = .ok (.iload_n 1, 1) := by decide +kernel
theorem dX8_drawn_31 : decode cX8_drawn 31 = .ok (.iload_n 2, 1) := by decide +kernel
theorem dX8_drawn_32 : decode cX8_drawn 32 = .ok (.iload_n 3, 1) := by decide +kernel
theorem dX8_drawn_33 : decode cX8_drawn 33 = .ok (.invokevirtual 164, 3) := by decide +kernel
theorem dX8_drawn_36 : decode cX8_drawn 36 = .ok (.lstore 5, 2) := by decide +kernel
theorem dX8_drawn_38 : decode cX8_drawn 38 = .ok (.iload 4, 2) := by decide +kernel
theorem dX8_drawn_40 : decode cX8_drawn 40 = .ok (.iconst 2, 1) := by decide +kernel
theorem dX8_drawn_41 : decode cX8_drawn 41 = .ok (.if_icmp .ne 9, 3) := by decide +kernel
theorem dX8_drawn_44 : decode cX8_drawn 44 = .ok (.lload 5, 2) := by decide +kernel
theorem dX8_drawn_46 : decode cX8_drawn 46 = .ok (.invokestatic 312, 3) := by decide +kernel
theorem dX8_drawn_49 : decode cX8_drawn 49 = .ok (.ireturn, 1) := by decide +kernel
theorem dX8_drawn_50 : decode cX8_drawn 50 = .ok (.aload_n 0, 1) := by decide +kernel
theorem dX8_drawn_51 : decode cX8_drawn 51 = .ok (.getfield 78, 3) := by decide +kernel
theorem dX8_drawn_54 : decode cX8_drawn 54 = .ok (.lload 5, 2) := by decide +kernel
theorem dX8_drawn_56 : decode cX8_drawn 56 = .ok (.aload_n 0, 1) := by decide +kernel
theorem dX8_drawn_57 : decode cX8_drawn 57 = .ok (.getfield 78, 3) := by decide +kernel
theorem dX8_drawn_60 : decode cX8_drawn 60 = .ok (.getfield 172, 3) := by decide +kernel
theorem dX8_drawn_63 : decode cX8_drawn 63 = .ok (.lor, 1) := by decide +kernel
theorem dX8_drawn_64 : decode cX8_drawn 64 = .ok (.invokevirtual 317, 3) := by decide +kernel
theorem dX8_drawn_67 : decode cX8_drawn 67 = .ok (.lstore 7, 2) := by decide +kernel
theorem dX8_drawn_69 : decode cX8_drawn 69 = .ok (.iload 4, 2) := by decide +kernel
theorem dX8_drawn_71 : decode cX8_drawn 71 = .ok (.iconst 1, 1) := by decide +kernel
theorem dX8_drawn_72 : decode cX8_drawn 72 = .ok (.if_icmp .ne 9, 3) := by decide +kernel
theorem dX8_drawn_75 : decode cX8_drawn 75 = .ok (.lload 7, 2) := by decide +kernel
theorem dX8_drawn_77 : decode cX8_drawn 77 = .ok (.invokestatic 312, 3) := by decide +kernel
theorem dX8_drawn_80 : decode cX8_drawn 80 = .ok (.ireturn, 1) := by decide +kernel
theorem dX8_drawn_81 : decode cX8_drawn 81 = .ok (.lload 7, 2) := by decide +kernel
theorem dX8_drawn_83 : decode cX8_drawn 83 = .ok (.invokestatic 321, 3) := by decide +kernel
theorem dX8_drawn_86 : decode cX8_drawn 86 = .ok (.istore 9, 2) := by decide +kernel
theorem dX8_drawn_88 : decode cX8_drawn 88 = .ok (.iload 4, 2) := by decide +kernel
theorem dX8_drawn_90 : decode cX8_drawn 90 = .ok (.iconst 3, 1) := by decide +kernel
theorem dX8_drawn_91 : decode cX8_drawn 91 = .ok (.if_icmp .ne 6, 3) := by decide +kernel
theorem dX8_drawn_94 : decode cX8_drawn 94 = .ok (.iload 9, 2) := by decide +kernel
theorem dX8_drawn_96 : decode cX8_drawn 96 = .ok (.ireturn, 1) := by decide +kernel
theorem dX8_drawn_97 : decode cX8_drawn 97 = .ok (.iload 9, 2) := by decide +kernel
theorem dX8_drawn_99 : decode cX8_drawn 99 = .ok (.aload_n 0, 1) := by decide +kernel
theorem dX8_drawn_100 : decode cX8_drawn 100 = .ok (.getfield 78, 3) := by decide +kernel
theorem dX8_drawn_103 : decode cX8_drawn 103 = .ok (.getfield 225, 3) := by decide +kernel
theorem dX8_drawn_106 : decode cX8_drawn 106 = .ok (.iconst 1, 1) := by decide +kernel
theorem dX8_drawn_107 : decode cX8_drawn 107 = .ok (.isub, 1) := by decide +kernel
theorem dX8_drawn_108 : decode cX8_drawn 108 = .ok (.if_icmp .ne 7, 3) := by decide +kernel
theorem dX8_drawn_111 : decode cX8_drawn 111 = .ok (.iconst 1, 1) := by decide +kernel
theorem dX8_drawn_112 : decode cX8_drawn 112 = .ok (.goto 4, 3) := by decide +kernel
theorem dX8_drawn_115 : decode cX8_drawn 115 = .ok (.iconst 0, 1) := by decide +kernel
theorem dX8_drawn_116 : decode cX8_drawn 116 = .ok (.ireturn, 1) := by decide +kernel
theorem dX8_oneByOne_0 : decode cX8_oneByOne 0 = .ok (.aload_n 0, 1) := by decide +kernel
theorem dX8_oneByOne_1 : decode cX8_oneByOne 1 = .ok (.getfield 78, 3) := by decide +kernel
theorem dX8_oneByOne_4 : decode cX8_oneByOne 4 = .ok (.getfield 172, 3) := by decide +kernel
theorem dX8_oneByOne_7 : decode cX8_oneByOne 7 = .ok (.lstore_n 3, 1) := by decide +kernel
theorem dX8_oneByOne_8 : decode cX8_oneByOne 8 = .ok (.aload_n 0, 1) := by decide +kernel
theorem dX8_oneByOne_9 : decode cX8_oneByOne 9 = .ok (.getfield 78, 3) := by decide +kernel
theorem dX8_oneByOne_12 : decode cX8_oneByOne 12 = .ok (.lload_n 3, 1) := by decide +kernel
theorem dX8_oneByOne_13 : decode cX8_oneByOne 13 = .ok (.invokevirtual 176, 3) := by decide +kernel
theorem dX8_oneByOne_16 : decode cX8_oneByOne 16 = .ok (.ifCond .eq 13, 3) := by decide +kernel
theorem dX8_oneByOne_19 : decode cX8_oneByOne 19 = .ok (.iload_n 2, 1) := by decide +kernel
theorem dX8_oneByOne_20 : decode cX8_oneByOne 20 = .ok (.ifCond .eq 7, 3) := by decide +kernel
theorem dX8_oneByOne_23 : decode cX8_oneByOne 23 = .ok (.iconst (-1), 1) := by decide +kernel
theorem dX8_oneByOne_24 : decode cX8_oneByOne 24 = .ok (.goto 4, 3) := by decide +kernel
theorem dX8_oneByOne_27 : decode cX8_oneByOne 27 = .ok (.iconst 0, 1) := by decide +kernel
theorem dX8_oneByOne_28 : decode cX8_oneByOne 28 = .ok (.ireturn, 1) := by decide +kernel
theorem dX8_oneByOne_29 : decode cX8_oneByOne 29 = .ok (.aload_n 0, 1) := by decide +kernel
theorem dX8_oneByOne_30 : decode cX8_oneByOne 30 = .ok (.iload_n 1, 1) := by decide +kernel
theorem dX8_oneByOne_31 : decode cX8_oneByOne 31 = .ok (.invokevirtual 324, 3) := by decide +kernel
theorem dX8_oneByOne_34 : decode cX8_oneByOne 34 = .ok (.istore 5, 2) := by decide +kernel
theorem dX8_oneByOne_36 : decode cX8_oneByOne 36 = .ok (.iconst 0, 1) := by decide +kernel
theorem dX8_oneByOne_37 : decode cX8_oneByOne 37 = .ok (.istore 6, 2) := by decide +kernel
theorem dX8_oneByOne_39 : decode cX8_oneByOne 39 = .ok (.iload 6, 2) := by decide +kernel
theorem dX8_oneByOne_41 : decode cX8_oneByOne 41 = .ok (.iload 5, 2) := by decide +kernel
theorem dX8_oneByOne_43 : decode cX8_oneByOne 43 = .ok (.if_icmp .ge 51, 3) := by decide +kernel
theorem dX8_oneByOne_46 : decode cX8_oneByOne 46 = .ok (.lload_n 3, 1) := by decide +kernel
theorem dX8_oneByOne_47 : decode cX8_oneByOne 47 = .ok (.lconst 1, 1) := by decide +kernel
theorem dX8_oneByOne_48 : decode cX8_oneByOne 48 = .ok (.aload_n 0, 1) := by decide +kernel
theorem dX8_oneByOne_49 : decode cX8_oneByOne 49 = .ok (.getfield 64, 3) := by decide +kernel
theorem dX8_oneByOne_52 : decode cX8_oneByOne 52 = .ok (.iload 6, 2) := by decide +kernel
theorem dX8_oneByOne_54 : decode cX8_oneByOne 54 = .ok (.iaload, 1) := by decide +kernel
theorem dX8_oneByOne_55 : decode cX8_oneByOne 55 = .ok (.lshl, 1) := by decide +kernel
theorem dX8_oneByOne_56 : decode cX8_oneByOne 56 = .ok (.lor, 1) := by decide +kernel
theorem dX8_oneByOne_57 : decode cX8_oneByOne 57 = .ok (.lstore_n 3, 1) := by decide +kernel
theorem dX8_oneByOne_58 : decode cX8_oneByOne 58 = .ok (.aload_n 0, 1) := by decide +kernel
theorem dX8_oneByOne_59 : decode cX8_oneByOne 59 = .ok (.getfield 78, 3) := by decide +kernel
theorem dX8_oneByOne_62 : decode cX8_oneByOne 62 = .ok (.lload_n 3, 1) := by decide +kernel
theorem dX8_oneByOne_63 : decode cX8_oneByOne 63 = .ok (.invokevirtual 176, 3) := by decide +kernel
theorem dX8_oneByOne_66 : decode cX8_oneByOne 66 = .ok (.ifCond .eq 22, 3) := by decide +kernel
theorem dX8_oneByOne_69 : decode cX8_oneByOne 69 = .ok (.iload_n 2, 1) := by decide +kernel
theorem dX8_oneByOne_70 : decode cX8_oneByOne 70 = .ok (.ifCond .eq 13, 3) := by decide +kernel
theorem dX8_oneByOne_73 : decode cX8_oneByOne 73 = .ok (.aload_n 0, 1) := by decide +kernel
theorem dX8_oneByOne_74 : decode cX8_oneByOne 74 = .ok (.getfield 64, 3) := by decide +kernel
theorem dX8_oneByOne_77 : decode cX8_oneByOne 77 = .ok (.iload 6, 2) := by decide +kernel
theorem dX8_oneByOne_79 : decode cX8_oneByOne 79 = .ok (.iaload, 1) := by decide +kernel
theorem dX8_oneByOne_80 : decode cX8_oneByOne 80 = .ok (.goto 7, 3) := by decide +kernel
theorem dX8_oneByOne_83 : decode cX8_oneByOne 83 = .ok (.iload 6, 2) := by decide +kernel
theorem dX8_oneByOne_85 : decode cX8_oneByOne 85 = .ok (.iconst 1, 1) := by decide +kernel
theorem dX8_oneByOne_86 : decode cX8_oneByOne 86 = .ok (.iadd, 1) := by decide +kernel
theorem dX8_oneByOne_87 : decode cX8_oneByOne 87 = .ok (.ireturn, 1) := by decide +kernel
theorem dX8_oneByOne_88 : decode cX8_oneByOne 88 = .ok (.iinc 6 1, 3) := by decide +kernel
theorem dX8_oneByOne_91 : decode cX8_oneByOne 91 = .ok (.goto (-52), 3) := by decide +kernel
theorem dX8_oneByOne_94 : decode cX8_oneByOne 94 = .ok (.iconst (-1), 1) := by decide +kernel
theorem dX8_oneByOne_95 : decode cX8_oneByOne 95 = .ok (.ireturn, 1) := by decide +kernel
theorem dX8_keep_0 : decode cX8_keep 0 = .ok (.aload_n 0, 1) := by decide +kernel
theorem dX8_keep_1 : decode cX8_keep 1 = .ok (.getfield 54, 3) := by decide +kernel
theorem dX8_keep_4 : decode cX8_keep 4 = .ok (.aload_n 0, 1) := by decide +kernel
theorem dX8_keep_5 : decode cX8_keep 5 = .ok (.getfield 78, 3) := by decide +kernel
theorem dX8_keep_8 : decode cX8_keep 8 = .ok (.invokevirtual 109, 3) := by decide +kernel
theorem dX8_keep_11 : decode cX8_keep 11 = .ok (.aload_n 0, 1) := by decide +kernel
theorem dX8_keep_12 : decode cX8_keep 12 = .ok (.iconst 1, 1) := by decide +kernel
theorem dX8_keep_13 : decode cX8_keep 13 = .ok (.iconst 2, 1) := by decide +kernel
theorem dX8_keep_14 : decode cX8_keep 14 = .ok (.invokevirtual 296, 3) := by decide +kernel
theorem dX8_keep_17 : decode cX8_keep 17 = .ok (.aload_n 0, 1) := by decide +kernel
theorem dX8_keep_18 : decode cX8_keep 18 = .ok (.invokevirtual 183, 3) := by decide +kernel
theorem dX8_keep_21 : decode cX8_keep 21 = .ok (.getfield 187, 3) := by decide +kernel
theorem dX8_keep_24 : decode cX8_keep 24 = .ok (.invokevirtual 327, 3) := by decide +kernel
theorem dX8_keep_27 : decode cX8_keep 27 = .ok (.aload_n 0, 1) := by decide +kernel
theorem dX8_keep_28 : decode cX8_keep 28 = .ok (.getfield 54, 3) := by decide +kernel
theorem dX8_keep_31 : decode cX8_keep 31 = .ok (.getfield 331, 3) := by decide +kernel
theorem dX8_keep_34 : decode cX8_keep 34 = .ok (.ireturn, 1) := by decide +kernel
theorem dX8_compare_0 : decode cX8_compare 0 = .ok (.aload_n 0, 1) := by decide +kernel
theorem dX8_compare_1 : decode cX8_compare 1 = .ok (.invokevirtual 334, 3) := by decide +kernel
theorem dX8_compare_4 : decode cX8_compare 4 = .ok (.astore_n 1, 1) := by decide +kernel
theorem dX8_compare_5 : decode cX8_compare 5 = .ok (.aload_n 0, 1) := by decide +kernel
theorem dX8_compare_6 : decode cX8_compare 6 = .ok (.getfield 78, 3) := by decide +kernel
theorem dX8_compare_9 : decode cX8_compare 9 = .ok (.invokevirtual 109, 3) := by decide +kernel
theorem dX8_compare_12 : decode cX8_compare 12 = .ok (.istore_n 2, 1) := by decide +kernel
theorem dX8_compare_13 : decode cX8_compare 13 = .ok (.aload_n 0, 1) := by decide +kernel
theorem dX8_compare_14 : decode cX8_compare 14 = .ok (.iconst 1, 1) := by decide +kernel
theorem dX8_compare_15 : decode cX8_compare 15 = .ok (.iconst 2, 1) := by decide +kernel
theorem dX8_compare_16 : decode cX8_compare 16 = .ok (.invokevirtual 296, 3) := by decide +kernel
theorem dX8_compare_19 : decode cX8_compare 19 = .ok (.istore_n 3, 1) := by decide +kernel
theorem dX8_compare_20 : decode cX8_compare 20 = .ok (.iload_n 2, 1) := by decide +kernel
theorem dX8_compare_21 : decode cX8_compare 21 = .ok (.iload_n 3, 1) := by decide +kernel
theorem dX8_compare_22 : decode cX8_compare 22 = .ok (.invokestatic 338, 3) := by decide +kernel
theorem dX8_compare_25 : decode cX8_compare 25 = .ok (.aload_n 1, 1) := by decide +kernel
theorem dX8_compare_26 : decode cX8_compare 26 = .ok (.getfield 341, 3) := by decide +kernel
theorem dX8_compare_29 : decode cX8_compare 29 = .ok (.aload_n 1, 1) := by decide +kernel
theorem dX8_compare_30 : decode cX8_compare 30 = .ok (.getfield 331, 3) := by decide +kernel
theorem dX8_compare_33 : decode cX8_compare 33 = .ok (.invokestatic 344, 3) := by decide +kernel
theorem dX8_compare_36 : decode cX8_compare 36 = .ok (.imul, 1) := by decide +kernel
theorem dX8_compare_37 : decode cX8_compare 37 = .ok (.istore 4, 2) := by decide +kernel
theorem dX8_compare_39 : decode cX8_compare 39 = .ok (.aload_n 1, 1) := by decide +kernel
theorem dX8_compare_40 : decode cX8_compare 40 = .ok (.getfield 341, 3) := by decide +kernel
theorem dX8_compare_43 : decode cX8_compare 43 = .ok (.aload_n 1, 1) := by decide +kernel
theorem dX8_compare_44 : decode cX8_compare 44 = .ok (.getfield 331, 3) := by decide +kernel
theorem dX8_compare_47 : decode cX8_compare 47 = .ok (.invokestatic 338, 3) := by decide +kernel
theorem dX8_compare_50 : decode cX8_compare 50 = .ok (.iload_n 2, 1) := by decide +kernel
theorem dX8_compare_51 : decode cX8_compare 51 = .ok (.iload_n 3, 1) := by decide +kernel
theorem dX8_compare_52 : decode cX8_compare 52 = .ok (.invokestatic 344, 3) := by decide +kernel
theorem dX8_compare_55 : decode cX8_compare 55 = .ok (.imul, 1) := by decide +kernel
theorem dX8_compare_56 : decode cX8_compare 56 = .ok (.istore 5, 2) := by decide +kernel
theorem dX8_compare_58 : decode cX8_compare 58 = .ok (.iload 4, 2) := by decide +kernel
theorem dX8_compare_60 : decode cX8_compare 60 = .ok (.iload 5, 2) := by decide +kernel
theorem dX8_compare_62 : decode cX8_compare 62 = .ok (.if_icmp .ne 5, 3) := by decide +kernel
theorem dX8_compare_65 : decode cX8_compare 65 = .ok (.iconst 0, 1) := by decide +kernel
theorem dX8_compare_66 : decode cX8_compare 66 = .ok (.ireturn, 1) := by decide +kernel
theorem dX8_compare_67 : decode cX8_compare 67 = .ok (.iload 4, 2) := by decide +kernel
theorem dX8_compare_69 : decode cX8_compare 69 = .ok (.iload 5, 2) := by decide +kernel
theorem dX8_compare_71 : decode cX8_compare 71 = .ok (.if_icmp .ge 7, 3) := by decide +kernel
theorem dX8_compare_74 : decode cX8_compare 74 = .ok (.iconst (-1), 1) := by decide +kernel
theorem dX8_compare_75 : decode cX8_compare 75 = .ok (.goto 4, 3) := by decide +kernel
theorem dX8_compare_78 : decode cX8_compare 78 = .ok (.iconst 1, 1) := by decide +kernel
theorem dX8_compare_79 : decode cX8_compare 79 = .ok (.ireturn, 1) := by decide +kernel
theorem dX8_beats_0 : decode cX8_beats 0 = .ok (.aload_n 0, 1) := by decide +kernel
theorem dX8_beats_1 : decode cX8_beats 1 = .ok (.invokevirtual 334, 3) := by decide +kernel
theorem dX8_beats_4 : decode cX8_beats 4 = .ok (.astore_n 1, 1) := by decide +kernel
theorem dX8_beats_5 : decode cX8_beats 5 = .ok (.aload_n 1, 1) := by decide +kernel
theorem dX8_beats_6 : decode cX8_beats 6 = .ok (.getfield 341, 3) := by decide +kernel
theorem dX8_beats_9 : decode cX8_beats 9 = .ok (.aload_n 0, 1) := by decide +kernel
theorem dX8_beats_10 : decode cX8_beats 10 = .ok (.getfield 78, 3) := by decide +kernel
theorem dX8_beats_13 : decode cX8_beats 13 = .ok (.invokevirtual 109, 3) := by decide +kernel
theorem dX8_beats_16 : decode cX8_beats 16 = .ok (.if_icmp .eq 14, 3) := by decide +kernel
theorem dX8_beats_19 : decode cX8_beats 19 = .ok (.new 347, 3) := by decide +kernel
theorem dX8_beats_22 : decode cX8_beats 22 = .ok (.dup, 1) := by decide +kernel
theorem dX8_beats_23 : decode cX8_beats 23 = .ok (.ldc_w 349, 3) := by decide +kernel
theorem dX8_beats_26 : decode cX8_beats 26 = .ok (.invokespecial 351, 3) := by decide +kernel
theorem dX8_beats_29 : decode cX8_beats 29 = .ok (.athrow, 1) := by decide +kernel
theorem dX8_beats_30 : decode cX8_beats 30 = .ok (.aload_n 0, 1) := by decide +kernel
theorem dX8_beats_31 : decode cX8_beats 31 = .ok (.invokevirtual 183, 3) := by decide +kernel
theorem dX8_beats_34 : decode cX8_beats 34 = .ok (.getfield 187, 3) := by decide +kernel
theorem dX8_beats_37 : decode cX8_beats 37 = .ok (.astore_n 2, 1) := by decide +kernel
theorem dX8_beats_38 : decode cX8_beats 38 = .ok (.iconst 0, 1) := by decide +kernel
theorem dX8_beats_39 : decode cX8_beats 39 = .ok (.istore_n 3, 1) := by decide +kernel
theorem dX8_beats_40 : decode cX8_beats 40 = .ok (.iconst 0, 1) := by decide +kernel
theorem dX8_beats_41 : decode cX8_beats 41 = .ok (.istore 4, 2) := by decide +kernel
theorem dX8_beats_43 : decode cX8_beats 43 = .ok (.iconst 0, 1) := by decide +kernel
theorem dX8_beats_44 : decode cX8_beats 44 = .ok (.istore 5, 2) := by decide +kernel
theorem dX8_beats_46 : decode cX8_beats 46 = .ok (.iload 5, 2) := by decide +kernel
theorem dX8_beats_48 : decode cX8_beats 48 = .ok (.bipush 25, 2) := by decide +kernel
theorem dX8_beats_50 : decode cX8_beats 50 = .ok (.if_icmp .ge 44, 3) := by decide +kernel
theorem dX8_beats_53 : decode cX8_beats 53 = .ok (.aload_n 2, 1) := by decide +kernel
theorem dX8_beats_54 : decode cX8_beats 54 = .ok (.iload 5, 2) := by decide +kernel
theorem dX8_beats_56 : decode cX8_beats 56 = .ok (.laload, 1) := by decide +kernel
theorem dX8_beats_57 : decode cX8_beats 57 = .ok (.aload_n 1, 1) := by decide +kernel
theorem dX8_beats_58 : decode cX8_beats 58 = .ok (.getfield 352, 3) := by decide +kernel
theorem dX8_beats_61 : decode cX8_beats 61 = .ok (.iload 5, 2) := by decide +kernel
theorem dX8_beats_63 : decode cX8_beats 63 = .ok (.laload, 1) := by decide +kernel
theorem dX8_beats_64 : decode cX8_beats 64 = .ok (.lcmp, 1) := by decide +kernel
theorem dX8_beats_65 : decode cX8_beats 65 = .ok (.ifCond .le 5, 3) := by decide +kernel
theorem dX8_beats_68 : decode cX8_beats 68 = .ok (.iconst 1, 1) := by decide +kernel
theorem dX8_beats_69 : decode cX8_beats 69 = .ok (.istore_n 3, 1) := by decide +kernel
theorem dX8_beats_70 : decode cX8_beats 70 = .ok (.aload_n 2, 1) := by decide +kernel
theorem dX8_beats_71 : decode cX8_beats 71 = .ok (.iload 5, 2) := by decide +kernel
theorem dX8_beats_73 : decode cX8_beats 73 = .ok (.laload, 1) := by decide +kernel
theorem dX8_beats_74 : decode cX8_beats 74 = .ok (.aload_n 1, 1) := by decide +kernel
theorem dX8_beats_75 : decode cX8_beats 75 = .ok (.getfield 352, 3) := by decide +kernel
theorem dX8_beats_78 : decode cX8_beats 78 = .ok (.iload 5, 2) := by decide +kernel
theorem dX8_beats_80 : decode cX8_beats 80 = .ok (.laload, 1) := by decide +kernel
theorem dX8_beats_81 : decode cX8_beats 81 = .ok (.lcmp, 1) := by decide +kernel
theorem dX8_beats_82 : decode cX8_beats 82 = .ok (.ifCond .ge 6, 3) := by decide +kernel
theorem dX8_beats_85 : decode cX8_beats 85 = .ok (.iconst 2, 1) := by decide +kernel
theorem dX8_beats_86 : decode cX8_beats 86 = .ok (.istore 4, 2) := by decide +kernel
theorem dX8_beats_88 : decode cX8_beats 88 = .ok (.iinc 5 1, 3) := by decide +kernel
theorem dX8_beats_91 : decode cX8_beats 91 = .ok (.goto (-45), 3) := by decide +kernel
theorem dX8_beats_94 : decode cX8_beats 94 = .ok (.iload_n 3, 1) := by decide +kernel
theorem dX8_beats_95 : decode cX8_beats 95 = .ok (.iload 4, 2) := by decide +kernel
theorem dX8_beats_97 : decode cX8_beats 97 = .ok (.iadd, 1) := by decide +kernel
theorem dX8_beats_98 : decode cX8_beats 98 = .ok (.ireturn, 1) := by decide +kernel
theorem dX8_write_0 : decode cX8_write 0 = .ok (.aload_n 0, 1) := by decide +kernel
theorem dX8_write_1 : decode cX8_write 1 = .ok (.iconst 0, 1) := by decide +kernel
theorem dX8_write_2 : decode cX8_write 2 = .ok (.putfield 353, 3) := by decide +kernel
theorem dX8_write_5 : decode cX8_write 5 = .ok (.iconst 0, 1) := by decide +kernel
theorem dX8_write_6 : decode cX8_write 6 = .ok (.istore_n 1, 1) := by decide +kernel
theorem dX8_write_7 : decode cX8_write 7 = .ok (.iload_n 1, 1) := by decide +kernel
theorem dX8_write_8 : decode cX8_write 8 = .ok (.aload_n 0, 1) := by decide +kernel
theorem dX8_write_9 : decode cX8_write 9 = .ok (.getfield 78, 3) := by decide +kernel
theorem dX8_write_12 : decode cX8_write 12 = .ok (.getfield 225, 3) := by decide +kernel
theorem dX8_write_15 : decode cX8_write 15 = .ok (.if_icmp .ge 32, 3) := by decide +kernel
theorem dX8_write_18 : decode cX8_write 18 = .ok (.aload_n 0, 1) := by decide +kernel
theorem dX8_write_19 : decode cX8_write 19 = .ok (.iload_n 1, 1) := by decide +kernel
theorem dX8_write_20 : decode cX8_write 20 = .ok (.invokevirtual 356, 3) := by decide +kernel
theorem dX8_write_23 : decode cX8_write 23 = .ok (.iload_n 1, 1) := by decide +kernel
theorem dX8_write_24 : decode cX8_write 24 = .ok (.aload_n 0, 1) := by decide +kernel
theorem dX8_write_25 : decode cX8_write 25 = .ok (.getfield 78, 3) := by decide +kernel
theorem dX8_write_28 : decode cX8_write 28 = .ok (.getfield 225, 3) := by decide +kernel
theorem dX8_write_31 : decode cX8_write 31 = .ok (.iconst 1, 1) := by decide +kernel
theorem dX8_write_32 : decode cX8_write 32 = .ok (.isub, 1) := by decide +kernel
theorem dX8_write_33 : decode cX8_write 33 = .ok (.if_icmp .ge 8, 3) := by decide +kernel
theorem dX8_write_36 : decode cX8_write 36 = .ok (.aload_n 0, 1) := by decide +kernel
theorem dX8_write_37 : decode cX8_write 37 = .ok (.iload_n 1, 1) := by decide +kernel
theorem dX8_write_38 : decode cX8_write 38 = .ok (.invokevirtual 359, 3) := by decide +kernel
theorem dX8_write_41 : decode cX8_write 41 = .ok (.iinc 1 1, 3) := by decide +kernel
theorem dX8_write_44 : decode cX8_write 44 = .ok (.goto (-37), 3) := by decide +kernel
theorem dX8_write_47 : decode cX8_write 47 = .ok (.aload_n 0, 1) := by decide +kernel
theorem dX8_write_48 : decode cX8_write 48 = .ok (.getfield 353, 3) := by decide +kernel
theorem dX8_write_51 : decode cX8_write 51 = .ok (.ireturn, 1) := by decide +kernel
theorem dX8_octet_0 : decode cX8_octet 0 = .ok (.iload_n 1, 1) := by decide +kernel
theorem dX8_octet_1 : decode cX8_octet 1 = .ok (.ifCond .lt 29, 3) := by decide +kernel
theorem dX8_octet_4 : decode cX8_octet 4 = .ok (.iload_n 1, 1) := by decide +kernel
theorem dX8_octet_5 : decode cX8_octet 5 = .ok (.aload_n 0, 1) := by decide +kernel
theorem dX8_octet_6 : decode cX8_octet 6 = .ok (.getfield 353, 3) := by decide +kernel
theorem dX8_octet_9 : decode cX8_octet 9 = .ok (.if_icmp .ge 21, 3) := by decide +kernel
theorem dX8_octet_12 : decode cX8_octet 12 = .ok (.iload_n 1, 1) := by decide +kernel
theorem dX8_octet_13 : decode cX8_octet 13 = .ok (.aload_n 0, 1) := by decide +kernel
theorem dX8_octet_14 : decode cX8_octet 14 = .ok (.getfield 68, 3) := by decide +kernel
theorem dX8_octet_17 : decode cX8_octet 17 = .ok (.arraylength, 1) := by decide +kernel
theorem dX8_octet_18 : decode cX8_octet 18 = .ok (.if_icmp .ge 12, 3) := by decide +kernel
theorem dX8_octet_21 : decode cX8_octet 21 = .ok (.aload_n 0, 1) := by decide +kernel
theorem dX8_octet_22 : decode cX8_octet 22 = .ok (.getfield 68, 3) := by decide +kernel
theorem dX8_octet_25 : decode cX8_octet 25 = .ok (.iload_n 1, 1) := by decide +kernel
theorem dX8_octet_26 : decode cX8_octet 26 = .ok (.iaload, 1) := by decide +kernel
theorem dX8_octet_27 : decode cX8_octet 27 = .ok (.goto 4, 3) := by decide +kernel
theorem dX8_octet_30 : decode cX8_octet 30 = .ok (.iconst (-1), 1) := by decide +kernel
theorem dX8_octet_31 : decode cX8_octet 31 = .ok (.ireturn, 1) := by decide +kernel
theorem dX8_count_0 : decode cX8_count 0 = .ok (.iload_n 1, 1) := by decide +kernel
theorem dX8_count_1 : decode cX8_count 1 = .ok (.tableswitch 114 0 7 #[47, 55, 63, 71, 82, 93, 104, 109], 47) := by decide +kernel
theorem dX8_count_48 : decode cX8_count 48 = .ok (.aload_n 0, 1) := by decide +kernel
theorem dX8_count_49 : decode cX8_count 49 = .ok (.getfield 78, 3) := by decide +kernel
theorem dX8_count_52 : decode cX8_count 52 = .ok (.getfield 214, 3) := by decide +kernel
theorem dX8_count_55 : decode cX8_count 55 = .ok (.ireturn, 1) := by decide +kernel
theorem dX8_count_56 : decode cX8_count 56 = .ok (.aload_n 0, 1) := by decide +kernel
theorem dX8_count_57 : decode cX8_count 57 = .ok (.getfield 78, 3) := by decide +kernel
theorem dX8_count_60 : decode cX8_count 60 = .ok (.getfield 225, 3) := by decide +kernel
theorem dX8_count_63 : decode cX8_count 63 = .ok (.ireturn, 1) := by decide +kernel
theorem dX8_count_64 : decode cX8_count 64 = .ok (.aload_n 0, 1) := by decide +kernel
theorem dX8_count_65 : decode cX8_count 65 = .ok (.getfield 78, 3) := by decide +kernel
theorem dX8_count_68 : decode cX8_count 68 = .ok (.invokevirtual 109, 3) := by decide +kernel
theorem dX8_count_71 : decode cX8_count 71 = .ok (.ireturn, 1) := by decide +kernel
theorem dX8_count_72 : decode cX8_count 72 = .ok (.aload_n 0, 1) := by decide +kernel
theorem dX8_count_73 : decode cX8_count 73 = .ok (.getfield 78, 3) := by decide +kernel
theorem dX8_count_76 : decode cX8_count 76 = .ok (.getfield 172, 3) := by decide +kernel
theorem dX8_count_79 : decode cX8_count 79 = .ok (.invokestatic 312, 3) := by decide +kernel
theorem dX8_count_82 : decode cX8_count 82 = .ok (.ireturn, 1) := by decide +kernel
theorem dX8_count_83 : decode cX8_count 83 = .ok (.aload_n 0, 1) := by decide +kernel
theorem dX8_count_84 : decode cX8_count 84 = .ok (.getfield 78, 3) := by decide +kernel
theorem dX8_count_87 : decode cX8_count 87 = .ok (.getfield 362, 3) := by decide +kernel
theorem dX8_count_90 : decode cX8_count 90 = .ok (.invokestatic 312, 3) := by decide +kernel
theorem dX8_count_93 : decode cX8_count 93 = .ok (.ireturn, 1) := by decide +kernel
theorem dX8_count_94 : decode cX8_count 94 = .ok (.aload_n 0, 1) := by decide +kernel
theorem dX8_count_95 : decode cX8_count 95 = .ok (.getfield 78, 3) := by decide +kernel
theorem dX8_count_98 : decode cX8_count 98 = .ok (.getfield 365, 3) := by decide +kernel
theorem dX8_count_101 : decode cX8_count 101 = .ok (.invokestatic 312, 3) := by decide +kernel
theorem dX8_count_104 : decode cX8_count 104 = .ok (.ireturn, 1) := by decide +kernel
theorem dX8_count_105 : decode cX8_count 105 = .ok (.aload_n 0, 1) := by decide +kernel
theorem dX8_count_106 : decode cX8_count 106 = .ok (.getfield 106, 3) := by decide +kernel
theorem dX8_count_109 : decode cX8_count 109 = .ok (.ireturn, 1) := by decide +kernel
theorem dX8_count_110 : decode cX8_count 110 = .ok (.aload_n 0, 1) := by decide +kernel
theorem dX8_count_111 : decode cX8_count 111 = .ok (.getfield 353, 3) := by decide +kernel
theorem dX8_count_114 : decode cX8_count 114 = .ok (.ireturn, 1) := by decide +kernel
theorem dX8_count_115 : decode cX8_count 115 = .ok (.iconst (-1), 1) := by decide +kernel
theorem dX8_count_116 : decode cX8_count 116 = .ok (.ireturn, 1) := by decide +kernel
theorem dX8_demandCell_0 : decode cX8_demandCell 0 = .ok (.aload_n 0, 1) := by decide +kernel
theorem dX8_demandCell_1 : decode cX8_demandCell 1 = .ok (.getfield 78, 3) := by decide +kernel
theorem dX8_demandCell_4 : decode cX8_demandCell 4 = .ok (.iload_n 1, 1) := by decide +kernel
theorem dX8_demandCell_5 : decode cX8_demandCell 5 = .ok (.iload_n 2, 1) := by decide +kernel
theorem dX8_demandCell_6 : decode cX8_demandCell 6 = .ok (.invokevirtual 368, 3) := by decide +kernel
theorem dX8_demandCell_9 : decode cX8_demandCell 9 = .ok (.ifCond .ne 14, 3) := by decide +kernel
theorem dX8_demandCell_12 : decode cX8_demandCell 12 = .ok (.new 256, 3) := by decide +kernel
theorem dX8_demandCell_15 : decode cX8_demandCell 15 = .ok (.dup, 1) := by decide +kernel
theorem dX8_demandCell_16 : decode cX8_demandCell 16 = .ok (.ldc_w 372, 3) := by decide +kernel
theorem dX8_demandCell_19 : decode cX8_demandCell 19 = .ok (.invokespecial 260, 3) := by decide +kernel
theorem dX8_demandCell_22 : decode cX8_demandCell 22 = .ok (.athrow, 1) := by decide +kernel
theorem dX8_demandCell_23 : decode cX8_demandCell 23 = .ok (.iload_n 1, 1) := by decide +kernel
theorem dX8_demandCell_24 : decode cX8_demandCell 24 = .ok (.iload_n 2, 1) := by decide +kernel
theorem dX8_demandCell_25 : decode cX8_demandCell 25 = .ok (.iconst 0, 1) := by decide +kernel
theorem dX8_demandCell_26 : decode cX8_demandCell 26 = .ok (.invokestatic 261, 3) := by decide +kernel
theorem dX8_demandCell_29 : decode cX8_demandCell 29 = .ok (.ireturn, 1) := by decide +kernel
theorem dX8_demandRow_0 : decode cX8_demandRow 0 = .ok (.aload_n 0, 1) := by decide +kernel
theorem dX8_demandRow_1 : decode cX8_demandRow 1 = .ok (.getfield 78, 3) := by decide +kernel
theorem dX8_demandRow_4 : decode cX8_demandRow 4 = .ok (.iconst 0, 1) := by decide +kernel
theorem dX8_demandRow_5 : decode cX8_demandRow 5 = .ok (.iload_n 1, 1) := by decide +kernel
theorem dX8_demandRow_6 : decode cX8_demandRow 6 = .ok (.invokevirtual 368, 3) := by decide +kernel
theorem dX8_demandRow_9 : decode cX8_demandRow 9 = .ok (.ifCond .ne 14, 3) := by decide +kernel
theorem dX8_demandRow_12 : decode cX8_demandRow 12 = .ok (.new 256, 3) := by decide +kernel
theorem dX8_demandRow_15 : decode cX8_demandRow 15 = .ok (.dup, 1) := by decide +kernel
theorem dX8_demandRow_16 : decode cX8_demandRow 16 = .ok (.ldc_w 374, 3) := by decide +kernel
theorem dX8_demandRow_19 : decode cX8_demandRow 19 = .ok (.invokespecial 260, 3) := by decide +kernel
theorem dX8_demandRow_22 : decode cX8_demandRow 22 = .ok (.athrow, 1) := by decide +kernel
theorem dX8_demandRow_23 : decode cX8_demandRow 23 = .ok (.return_, 1) := by decide +kernel
theorem dX8_demandPipe_0 : decode cX8_demandPipe 0 = .ok (.iload_n 1, 1) := by decide +kernel
theorem dX8_demandPipe_1 : decode cX8_demandPipe 1 = .ok (.iload_n 2, 1) := by decide +kernel
theorem dX8_demandPipe_2 : decode cX8_demandPipe 2 = .ok (.iload_n 3, 1) := by decide +kernel
theorem dX8_demandPipe_3 : decode cX8_demandPipe 3 = .ok (.aload_n 0, 1) := by decide +kernel
theorem dX8_demandPipe_4 : decode cX8_demandPipe 4 = .ok (.getfield 78, 3) := by decide +kernel
theorem dX8_demandPipe_7 : decode cX8_demandPipe 7 = .ok (.getfield 214, 3) := by decide +kernel
theorem dX8_demandPipe_10 : decode cX8_demandPipe 10 = .ok (.aload_n 0, 1) := by decide +kernel
theorem dX8_demandPipe_11 : decode cX8_demandPipe 11 = .ok (.getfield 78, 3) := by decide +kernel
theorem dX8_demandPipe_14 : decode cX8_demandPipe 14 = .ok (.getfield 225, 3) := by decide +kernel
theorem dX8_demandPipe_17 : decode cX8_demandPipe 17 = .ok (.invokestatic 376, 3) := by decide +kernel
theorem dX8_demandPipe_20 : decode cX8_demandPipe 20 = .ok (.ifCond .ne 14, 3) := by decide +kernel
theorem dX8_demandPipe_23 : decode cX8_demandPipe 23 = .ok (.new 256, 3) := by decide +kernel
theorem dX8_demandPipe_26 : decode cX8_demandPipe 26 = .ok (.dup, 1) := by decide +kernel
theorem dX8_demandPipe_27 : decode cX8_demandPipe 27 = .ok (.ldc_w 380, 3) := by decide +kernel
theorem dX8_demandPipe_30 : decode cX8_demandPipe 30 = .ok (.invokespecial 260, 3) := by decide +kernel
theorem dX8_demandPipe_33 : decode cX8_demandPipe 33 = .ok (.athrow, 1) := by decide +kernel
theorem dX8_demandPipe_34 : decode cX8_demandPipe 34 = .ok (.iload_n 1, 1) := by decide +kernel
theorem dX8_demandPipe_35 : decode cX8_demandPipe 35 = .ok (.iload_n 2, 1) := by decide +kernel
theorem dX8_demandPipe_36 : decode cX8_demandPipe 36 = .ok (.iload_n 3, 1) := by decide +kernel
theorem dX8_demandPipe_37 : decode cX8_demandPipe 37 = .ok (.invokestatic 261, 3) := by decide +kernel
theorem dX8_demandPipe_40 : decode cX8_demandPipe 40 = .ok (.ireturn, 1) := by decide +kernel
theorem dX8_demandHow_0 : decode cX8_demandHow 0 = .ok (.iload_n 0, 1) := by decide +kernel
theorem dX8_demandHow_1 : decode cX8_demandHow 1 = .ok (.ifCond .lt 8, 3) := by decide +kernel
theorem dX8_demandHow_4 : decode cX8_demandHow 4 = .ok (.iload_n 0, 1) := by decide +kernel
theorem dX8_demandHow_5 : decode cX8_demandHow 5 = .ok (.iconst 2, 1) := by decide +kernel
theorem dX8_demandHow_6 : decode cX8_demandHow 6 = .ok (.if_icmp .le 14, 3) := by decide +kernel
theorem dX8_demandHow_9 : decode cX8_demandHow 9 = .ok (.new 99, 3) := by decide +kernel
theorem dX8_demandHow_12 : decode cX8_demandHow 12 = .ok (.dup, 1) := by decide +kernel
theorem dX8_demandHow_13 : decode cX8_demandHow 13 = .ok (.ldc_w 382, 3) := by decide +kernel
theorem dX8_demandHow_16 : decode cX8_demandHow 16 = .ok (.invokespecial 103, 3) := by decide +kernel
theorem dX8_demandHow_19 : decode cX8_demandHow 19 = .ok (.athrow, 1) := by decide +kernel
theorem dX8_demandHow_20 : decode cX8_demandHow 20 = .ok (.return_, 1) := by decide +kernel
theorem dX8_demandChance_0 : decode cX8_demandChance 0 = .ok (.iload_n 1, 1) := by decide +kernel
theorem dX8_demandChance_1 : decode cX8_demandChance 1 = .ok (.iconst 1, 1) := by decide +kernel
theorem dX8_demandChance_2 : decode cX8_demandChance 2 = .ok (.if_icmp .lt 17, 3) := by decide +kernel
theorem dX8_demandChance_5 : decode cX8_demandChance 5 = .ok (.iload_n 1, 1) := by decide +kernel
theorem dX8_demandChance_6 : decode cX8_demandChance 6 = .ok (.iload_n 2, 1) := by decide +kernel
theorem dX8_demandChance_7 : decode cX8_demandChance 7 = .ok (.if_icmp .gt 12, 3) := by decide +kernel
theorem dX8_demandChance_10 : decode cX8_demandChance 10 = .ok (.iload_n 0, 1) := by decide +kernel
theorem dX8_demandChance_11 : decode cX8_demandChance 11 = .ok (.ifCond .lt 8, 3) := by decide +kernel
theorem dX8_demandChance_14 : decode cX8_demandChance 14 = .ok (.iload_n 0, 1) := by decide +kernel
theorem dX8_demandChance_15 : decode cX8_demandChance 15 = .ok (.iload_n 1, 1) := by decide +kernel
theorem dX8_demandChance_16 : decode cX8_demandChance 16 = .ok (.if_icmp .le 14, 3) := by decide +kernel
theorem dX8_demandChance_19 : decode cX8_demandChance 19 = .ok (.new 99, 3) := by decide +kernel
theorem dX8_demandChance_22 : decode cX8_demandChance 22 = .ok (.dup, 1) := by decide +kernel
theorem dX8_demandChance_23 : decode cX8_demandChance 23 = .ok (.ldc_w 384, 3) := by decide +kernel
theorem dX8_demandChance_26 : decode cX8_demandChance 26 = .ok (.invokespecial 103, 3) := by decide +kernel
theorem dX8_demandChance_29 : decode cX8_demandChance 29 = .ok (.athrow, 1) := by decide +kernel
theorem dX8_demandChance_30 : decode cX8_demandChance 30 = .ok (.return_, 1) := by decide +kernel
theorem dX8_demandFree_0 : decode cX8_demandFree 0 = .ok (.aload_n 0, 1) := by decide +kernel
theorem dX8_demandFree_1 : decode cX8_demandFree 1 = .ok (.getfield 78, 3) := by decide +kernel
theorem dX8_demandFree_4 : decode cX8_demandFree 4 = .ok (.iload_n 1, 1) := by decide +kernel
theorem dX8_demandFree_5 : decode cX8_demandFree 5 = .ok (.invokevirtual 304, 3) := by decide +kernel
theorem dX8_demandFree_8 : decode cX8_demandFree 8 = .ok (.ifCond .ne 14, 3) := by decide +kernel
theorem dX8_demandFree_11 : decode cX8_demandFree 11 = .ok (.new 347, 3) := by decide +kernel
theorem dX8_demandFree_14 : decode cX8_demandFree 14 = .ok (.dup, 1) := by decide +kernel
theorem dX8_demandFree_15 : decode cX8_demandFree 15 = .ok (.ldc_w 386, 3) := by decide +kernel
theorem dX8_demandFree_18 : decode cX8_demandFree 18 = .ok (.invokespecial 351, 3) := by decide +kernel
theorem dX8_demandFree_21 : decode cX8_demandFree 21 = .ok (.athrow, 1) := by decide +kernel
theorem dX8_demandFree_22 : decode cX8_demandFree 22 = .ok (.return_, 1) := by decide +kernel
theorem dX8_demandFewFree_0 : decode cX8_demandFewFree 0 = .ok (.aload_n 0, 1) := by decide +kernel
theorem dX8_demandFewFree_1 : decode cX8_demandFewFree 1 = .ok (.invokevirtual 109, 3) := by decide +kernel
theorem dX8_demandFewFree_4 : decode cX8_demandFewFree 4 = .ok (.bipush 24, 2) := by decide +kernel
theorem dX8_demandFewFree_6 : decode cX8_demandFewFree 6 = .ok (.if_icmp .le 14, 3) := by decide +kernel
theorem dX8_demandFewFree_9 : decode cX8_demandFewFree 9 = .ok (.new 347, 3) := by decide +kernel
theorem dX8_demandFewFree_12 : decode cX8_demandFewFree 12 = .ok (.dup, 1) := by decide +kernel
theorem dX8_demandFewFree_13 : decode cX8_demandFewFree 13 = .ok (.ldc_w 388, 3) := by decide +kernel
theorem dX8_demandFewFree_16 : decode cX8_demandFewFree 16 = .ok (.invokespecial 351, 3) := by decide +kernel
theorem dX8_demandFewFree_19 : decode cX8_demandFewFree 19 = .ok (.athrow, 1) := by decide +kernel
theorem dX8_demandFewFree_20 : decode cX8_demandFewFree 20 = .ok (.aload_n 0, 1) := by decide +kernel
theorem dX8_demandFewFree_21 : decode cX8_demandFewFree 21 = .ok (.areturn, 1) := by decide +kernel
theorem dX8_demandState_0 : decode cX8_demandState 0 = .ok (.aload_n 0, 1) := by decide +kernel
theorem dX8_demandState_1 : decode cX8_demandState 1 = .ok (.invokevirtual 183, 3) := by decide +kernel
theorem dX8_demandState_4 : decode cX8_demandState 4 = .ok (.iload_n 1, 1) := by decide +kernel
theorem dX8_demandState_5 : decode cX8_demandState 5 = .ok (.iload_n 2, 1) := by decide +kernel
theorem dX8_demandState_6 : decode cX8_demandState 6 = .ok (.invokevirtual 390, 3) := by decide +kernel
theorem dX8_demandState_9 : decode cX8_demandState 9 = .ok (.istore_n 3, 1) := by decide +kernel
theorem dX8_demandState_10 : decode cX8_demandState 10 = .ok (.iload_n 3, 1) := by decide +kernel
theorem dX8_demandState_11 : decode cX8_demandState 11 = .ok (.ifCond .ge 14, 3) := by decide +kernel
theorem dX8_demandState_14 : decode cX8_demandState 14 = .ok (.new 307, 3) := by decide +kernel
theorem dX8_demandState_17 : decode cX8_demandState 17 = .ok (.dup, 1) := by decide +kernel
theorem dX8_demandState_18 : decode cX8_demandState 18 = .ok (.ldc_w 393, 3) := by decide +kernel
theorem dX8_demandState_21 : decode cX8_demandState 21 = .ok (.invokespecial 311, 3) := by decide +kernel
theorem dX8_demandState_24 : decode cX8_demandState 24 = .ok (.athrow, 1) := by decide +kernel
theorem dX8_demandState_25 : decode cX8_demandState 25 = .ok (.iload_n 3, 1) := by decide +kernel
theorem dX8_demandState_26 : decode cX8_demandState 26 = .ok (.ireturn, 1) := by decide +kernel
theorem dX8_demandTrial_0 : decode cX8_demandTrial 0 = .ok (.aload_n 0, 1) := by decide +kernel
theorem dX8_demandTrial_1 : decode cX8_demandTrial 1 = .ok (.getfield 78, 3) := by decide +kernel
theorem dX8_demandTrial_4 : decode cX8_demandTrial 4 = .ok (.invokevirtual 109, 3) := by decide +kernel
theorem dX8_demandTrial_7 : decode cX8_demandTrial 7 = .ok (.bipush 12, 2) := by decide +kernel
theorem dX8_demandTrial_9 : decode cX8_demandTrial 9 = .ok (.if_icmp .le 14, 3) := by decide +kernel
theorem dX8_demandTrial_12 : decode cX8_demandTrial 12 = .ok (.new 347, 3) := by decide +kernel
theorem dX8_demandTrial_15 : decode cX8_demandTrial 15 = .ok (.dup, 1) := by decide +kernel
theorem dX8_demandTrial_16 : decode cX8_demandTrial 16 = .ok (.ldc_w 395, 3) := by decide +kernel
theorem dX8_demandTrial_19 : decode cX8_demandTrial 19 = .ok (.invokespecial 351, 3) := by decide +kernel
theorem dX8_demandTrial_22 : decode cX8_demandTrial 22 = .ok (.athrow, 1) := by decide +kernel
theorem dX8_demandTrial_23 : decode cX8_demandTrial 23 = .ok (.aload_n 0, 1) := by decide +kernel
theorem dX8_demandTrial_24 : decode cX8_demandTrial 24 = .ok (.getfield 19, 3) := by decide +kernel
theorem dX8_demandTrial_27 : decode cX8_demandTrial 27 = .ok (.aload_n 0, 1) := by decide +kernel
theorem dX8_demandTrial_28 : decode cX8_demandTrial 28 = .ok (.getfield 78, 3) := by decide +kernel
theorem dX8_demandTrial_31 : decode cX8_demandTrial 31 = .ok (.getfield 214, 3) := by decide +kernel
theorem dX8_demandTrial_34 : decode cX8_demandTrial 34 = .ok (.aload_n 0, 1) := by decide +kernel
theorem dX8_demandTrial_35 : decode cX8_demandTrial 35 = .ok (.getfield 78, 3) := by decide +kernel
theorem dX8_demandTrial_38 : decode cX8_demandTrial 38 = .ok (.getfield 225, 3) := by decide +kernel
theorem dX8_demandTrial_41 : decode cX8_demandTrial 41 = .ok (.invokevirtual 397, 3) := by decide +kernel
theorem dX8_demandTrial_44 : decode cX8_demandTrial 44 = .ok (.aload_n 0, 1) := by decide +kernel
theorem dX8_demandTrial_45 : decode cX8_demandTrial 45 = .ok (.getfield 47, 3) := by decide +kernel
theorem dX8_demandTrial_48 : decode cX8_demandTrial 48 = .ok (.aload_n 0, 1) := by decide +kernel
theorem dX8_demandTrial_49 : decode cX8_demandTrial 49 = .ok (.getfield 78, 3) := by decide +kernel
theorem dX8_demandTrial_52 : decode cX8_demandTrial 52 = .ok (.invokevirtual 401, 3) := by decide +kernel
theorem dX8_demandTrial_55 : decode cX8_demandTrial 55 = .ok (.aload_n 0, 1) := by decide +kernel
theorem dX8_demandTrial_56 : decode cX8_demandTrial 56 = .ok (.getfield 47, 3) := by decide +kernel
theorem dX8_demandTrial_59 : decode cX8_demandTrial 59 = .ok (.areturn, 1) := by decide +kernel
theorem dX8_demandKept_0 : decode cX8_demandKept 0 = .ok (.aload_n 0, 1) := by decide +kernel
theorem dX8_demandKept_1 : decode cX8_demandKept 1 = .ok (.getfield 54, 3) := by decide +kernel
theorem dX8_demandKept_4 : decode cX8_demandKept 4 = .ok (.getfield 404, 3) := by decide +kernel
theorem dX8_demandKept_7 : decode cX8_demandKept 7 = .ok (.ifCond .ne 14, 3) := by decide +kernel
theorem dX8_demandKept_10 : decode cX8_demandKept 10 = .ok (.new 307, 3) := by decide +kernel
theorem dX8_demandKept_13 : decode cX8_demandKept 13 = .ok (.dup, 1) := by decide +kernel
theorem dX8_demandKept_14 : decode cX8_demandKept 14 = .ok (.ldc_w 408, 3) := by decide +kernel
theorem dX8_demandKept_17 : decode cX8_demandKept 17 = .ok (.invokespecial 311, 3) := by decide +kernel
theorem dX8_demandKept_20 : decode cX8_demandKept 20 = .ok (.athrow, 1) := by decide +kernel
theorem dX8_demandKept_21 : decode cX8_demandKept 21 = .ok (.aload_n 0, 1) := by decide +kernel
theorem dX8_demandKept_22 : decode cX8_demandKept 22 = .ok (.getfield 54, 3) := by decide +kernel
theorem dX8_demandKept_25 : decode cX8_demandKept 25 = .ok (.areturn, 1) := by decide +kernel
theorem dX8_act_0 : decode cX8_act 0 = .ok (.aload_n 0, 1) := by decide +kernel
theorem dX8_act_1 : decode cX8_act 1 = .ok (.getfield 106, 3) := by decide +kernel
theorem dX8_act_4 : decode cX8_act 4 = .ok (.bipush 16, 2) := by decide +kernel
theorem dX8_act_6 : decode cX8_act 6 = .ok (.if_icmp .lt 37, 3) := by decide +kernel
theorem dX8_act_9 : decode cX8_act 9 = .ok (.iconst 1, 1) := by decide +kernel
theorem dX8_act_10 : decode cX8_act 10 = .ok (.istore_n 2, 1) := by decide +kernel
theorem dX8_act_11 : decode cX8_act 11 = .ok (.iload_n 2, 1) := by decide +kernel
theorem dX8_act_12 : decode cX8_act 12 = .ok (.bipush 16, 2) := by decide +kernel
theorem dX8_act_14 : decode cX8_act 14 = .ok (.if_icmp .ge 23, 3) := by decide +kernel
theorem dX8_act_17 : decode cX8_act 17 = .ok (.aload_n 0, 1) := by decide +kernel
theorem dX8_act_18 : decode cX8_act 18 = .ok (.getfield 60, 3) := by decide +kernel
theorem dX8_act_21 : decode cX8_act 21 = .ok (.iload_n 2, 1) := by decide +kernel
theorem dX8_act_22 : decode cX8_act 22 = .ok (.iconst 1, 1) := by decide +kernel
theorem dX8_act_23 : decode cX8_act 23 = .ok (.isub, 1) := by decide +kernel
theorem dX8_act_24 : decode cX8_act 24 = .ok (.aload_n 0, 1) := by decide +kernel
theorem dX8_act_25 : decode cX8_act 25 = .ok (.getfield 60, 3) := by decide +kernel
theorem dX8_act_28 : decode cX8_act 28 = .ok (.iload_n 2, 1) := by decide +kernel
theorem dX8_act_29 : decode cX8_act 29 = .ok (.aaload, 1) := by decide +kernel
theorem dX8_act_30 : decode cX8_act 30 = .ok (.aastore, 1) := by decide +kernel
theorem dX8_act_31 : decode cX8_act 31 = .ok (.iinc 2 1, 3) := by decide +kernel
theorem dX8_act_34 : decode cX8_act 34 = .ok (.goto (-23), 3) := by decide +kernel
theorem dX8_act_37 : decode cX8_act 37 = .ok (.aload_n 0, 1) := by decide +kernel
theorem dX8_act_38 : decode cX8_act 38 = .ok (.bipush 15, 2) := by decide +kernel
theorem dX8_act_40 : decode cX8_act 40 = .ok (.putfield 106, 3) := by decide +kernel
theorem dX8_act_43 : decode cX8_act 43 = .ok (.aload_n 0, 1) := by decide +kernel
theorem dX8_act_44 : decode cX8_act 44 = .ok (.getfield 60, 3) := by decide +kernel
theorem dX8_act_47 : decode cX8_act 47 = .ok (.aload_n 0, 1) := by decide +kernel
theorem dX8_act_48 : decode cX8_act 48 = .ok (.getfield 106, 3) := by decide +kernel
theorem dX8_act_51 : decode cX8_act 51 = .ok (.aload_n 0, 1) := by decide +kernel
theorem dX8_act_52 : decode cX8_act 52 = .ok (.getfield 78, 3) := by decide +kernel
theorem dX8_act_55 : decode cX8_act 55 = .ok (.aastore, 1) := by decide +kernel
theorem dX8_act_56 : decode cX8_act 56 = .ok (.aload_n 0, 1) := by decide +kernel
theorem dX8_act_57 : decode cX8_act 57 = .ok (.dup, 1) := by decide +kernel
theorem dX8_act_58 : decode cX8_act 58 = .ok (.getfield 106, 3) := by decide +kernel
theorem dX8_act_61 : decode cX8_act 61 = .ok (.iconst 1, 1) := by decide +kernel
theorem dX8_act_62 : decode cX8_act 62 = .ok (.iadd, 1) := by decide +kernel
theorem dX8_act_63 : decode cX8_act 63 = .ok (.putfield 106, 3) := by decide +kernel
theorem dX8_act_66 : decode cX8_act 66 = .ok (.aload_n 0, 1) := by decide +kernel
theorem dX8_act_67 : decode cX8_act 67 = .ok (.aload_n 1, 1) := by decide +kernel
theorem dX8_act_68 : decode cX8_act 68 = .ok (.putfield 78, 3) := by decide +kernel
theorem dX8_act_71 : decode cX8_act 71 = .ok (.return_, 1) := by decide +kernel
theorem dX8_isCount_0 : decode cX8_isCount 0 = .ok (.iload_n 0, 1) := by decide +kernel
theorem dX8_isCount_1 : decode cX8_isCount 1 = .ok (.ifCond .lt 13, 3) := by decide +kernel
theorem dX8_isCount_4 : decode cX8_isCount 4 = .ok (.iload_n 0, 1) := by decide +kernel
theorem dX8_isCount_5 : decode cX8_isCount 5 = .ok (.bipush 24, 2) := by decide +kernel
theorem dX8_isCount_7 : decode cX8_isCount 7 = .ok (.if_icmp .gt 7, 3) := by decide +kernel
theorem dX8_isCount_10 : decode cX8_isCount 10 = .ok (.iconst 1, 1) := by decide +kernel
theorem dX8_isCount_11 : decode cX8_isCount 11 = .ok (.goto 4, 3) := by decide +kernel
theorem dX8_isCount_14 : decode cX8_isCount 14 = .ok (.iconst 0, 1) := by decide +kernel
theorem dX8_isCount_15 : decode cX8_isCount 15 = .ok (.ireturn, 1) := by decide +kernel
theorem dX8_counted_0 : decode cX8_counted 0 = .ok (.aload_n 0, 1) := by decide +kernel
theorem dX8_counted_1 : decode cX8_counted 1 = .ok (.getfield 19, 3) := by decide +kernel
theorem dX8_counted_4 : decode cX8_counted 4 = .ok (.aload_n 0, 1) := by decide +kernel
theorem dX8_counted_5 : decode cX8_counted 5 = .ok (.getfield 78, 3) := by decide +kernel
theorem dX8_counted_8 : decode cX8_counted 8 = .ok (.getfield 214, 3) := by decide +kernel
theorem dX8_counted_11 : decode cX8_counted 11 = .ok (.aload_n 0, 1) := by decide +kernel
theorem dX8_counted_12 : decode cX8_counted 12 = .ok (.getfield 78, 3) := by decide +kernel
theorem dX8_counted_15 : decode cX8_counted 15 = .ok (.getfield 225, 3) := by decide +kernel
theorem dX8_counted_18 : decode cX8_counted 18 = .ok (.invokevirtual 397, 3) := by decide +kernel
theorem dX8_counted_21 : decode cX8_counted 21 = .ok (.aload_n 0, 1) := by decide +kernel
theorem dX8_counted_22 : decode cX8_counted 22 = .ok (.getfield 28, 3) := by decide +kernel
theorem dX8_counted_25 : decode cX8_counted 25 = .ok (.aload_n 0, 1) := by decide +kernel
theorem dX8_counted_26 : decode cX8_counted 26 = .ok (.getfield 78, 3) := by decide +kernel
theorem dX8_counted_29 : decode cX8_counted 29 = .ok (.invokevirtual 410, 3) := by decide +kernel
theorem dX8_counted_32 : decode cX8_counted 32 = .ok (.aload_n 0, 1) := by decide +kernel
theorem dX8_counted_33 : decode cX8_counted 33 = .ok (.getfield 28, 3) := by decide +kernel
theorem dX8_counted_36 : decode cX8_counted 36 = .ok (.areturn, 1) := by decide +kernel
theorem dX8_joiningWith_0 : decode cX8_joiningWith 0 = .ok (.aload_n 0, 1) := by decide +kernel
theorem dX8_joiningWith_1 : decode cX8_joiningWith 1 = .ok (.invokevirtual 183, 3) := by decide +kernel
theorem dX8_joiningWith_4 : decode cX8_joiningWith 4 = .ok (.getfield 187, 3) := by decide +kernel
theorem dX8_joiningWith_7 : decode cX8_joiningWith 7 = .ok (.astore_n 3, 1) := by decide +kernel
theorem dX8_joiningWith_8 : decode cX8_joiningWith 8 = .ok (.aload_n 0, 1) := by decide +kernel
theorem dX8_joiningWith_9 : decode cX8_joiningWith 9 = .ok (.getfield 411, 3) := by decide +kernel
theorem dX8_joiningWith_12 : decode cX8_joiningWith 12 = .ok (.aload_n 0, 1) := by decide +kernel
theorem dX8_joiningWith_13 : decode cX8_joiningWith 13 = .ok (.getfield 78, 3) := by decide +kernel
theorem dX8_joiningWith_16 : decode cX8_joiningWith 16 = .ok (.if_acmp .ne 11, 3) := by decide +kernel
theorem dX8_joiningWith_19 : decode cX8_joiningWith 19 = .ok (.aload_n 0, 1) := by decide +kernel
theorem dX8_joiningWith_20 : decode cX8_joiningWith 20 = .ok (.getfield 414, 3) := by decide +kernel
theorem dX8_joiningWith_23 : decode cX8_joiningWith 23 = .ok (.iload_n 1, 1) := by decide +kernel
theorem dX8_joiningWith_24 : decode cX8_joiningWith 24 = .ok (.if_icmp .eq 32, 3) := by decide +kernel
theorem dX8_joiningWith_27 : decode cX8_joiningWith 27 = .ok (.aload_n 0, 1) := by decide +kernel
theorem dX8_joiningWith_28 : decode cX8_joiningWith 28 = .ok (.getfield 32, 3) := by decide +kernel
theorem dX8_joiningWith_31 : decode cX8_joiningWith 31 = .ok (.aload_n 0, 1) := by decide +kernel
theorem dX8_joiningWith_32 : decode cX8_joiningWith 32 = .ok (.getfield 78, 3) := by decide +kernel
theorem dX8_joiningWith_35 : decode cX8_joiningWith 35 = .ok (.iload_n 1, 1) := by decide +kernel
theorem dX8_joiningWith_36 : decode cX8_joiningWith 36 = .ok (.iconst 2, 1) := by decide +kernel
theorem dX8_joiningWith_37 : decode cX8_joiningWith 37 = .ok (.invokevirtual 138, 3) := by decide +kernel
theorem dX8_joiningWith_40 : decode cX8_joiningWith 40 = .ok (.invokevirtual 410, 3) := by decide +kernel
theorem dX8_joiningWith_43 : decode cX8_joiningWith 43 = .ok (.aload_n 0, 1) := by decide +kernel
theorem dX8_joiningWith_44 : decode cX8_joiningWith 44 = .ok (.aload_n 0, 1) := by decide +kernel
theorem dX8_joiningWith_45 : decode cX8_joiningWith 45 = .ok (.getfield 78, 3) := by decide +kernel
theorem dX8_joiningWith_48 : decode cX8_joiningWith 48 = .ok (.putfield 411, 3) := by decide +kernel
theorem dX8_joiningWith_51 : decode cX8_joiningWith 51 = .ok (.aload_n 0, 1) := by decide +kernel
theorem dX8_joiningWith_52 : decode cX8_joiningWith 52 = .ok (.iload_n 1, 1) := by decide +kernel
theorem dX8_joiningWith_53 : decode cX8_joiningWith 53 = .ok (.putfield 414, 3) := by decide +kernel
theorem dX8_joiningWith_56 : decode cX8_joiningWith 56 = .ok (.iload_n 2, 1) := by decide +kernel
theorem dX8_joiningWith_57 : decode cX8_joiningWith 57 = .ok (.iconst 2, 1) := by decide +kernel
theorem dX8_joiningWith_58 : decode cX8_joiningWith 58 = .ok (.if_icmp .ne 11, 3) := by decide +kernel
theorem dX8_joiningWith_61 : decode cX8_joiningWith 61 = .ok (.aload_n 0, 1) := by decide +kernel
theorem dX8_joiningWith_62 : decode cX8_joiningWith 62 = .ok (.getfield 32, 3) := by decide +kernel
theorem dX8_joiningWith_65 : decode cX8_joiningWith 65 = .ok (.getfield 187, 3) := by decide +kernel
theorem dX8_joiningWith_68 : decode cX8_joiningWith 68 = .ok (.areturn, 1) := by decide +kernel
theorem dX8_joiningWith_69 : decode cX8_joiningWith 69 = .ok (.aload_n 0, 1) := by decide +kernel
theorem dX8_joiningWith_70 : decode cX8_joiningWith 70 = .ok (.getfield 71, 3) := by decide +kernel
theorem dX8_joiningWith_73 : decode cX8_joiningWith 73 = .ok (.bipush 24, 2) := by decide +kernel
theorem dX8_joiningWith_75 : decode cX8_joiningWith 75 = .ok (.lconst 0, 1) := by decide +kernel
theorem dX8_joiningWith_76 : decode cX8_joiningWith 76 = .ok (.lastore, 1) := by decide +kernel
theorem dX8_joiningWith_77 : decode cX8_joiningWith 77 = .ok (.iconst 0, 1) := by decide +kernel
theorem dX8_joiningWith_78 : decode cX8_joiningWith 78 = .ok (.istore 4, 2) := by decide +kernel
theorem dX8_joiningWith_80 : decode cX8_joiningWith 80 = .ok (.iload 4, 2) := by decide +kernel
theorem dX8_joiningWith_82 : decode cX8_joiningWith 82 = .ok (.bipush 24, 2) := by decide +kernel
theorem dX8_joiningWith_84 : decode cX8_joiningWith 84 = .ok (.if_icmp .ge 35, 3) := by decide +kernel
theorem dX8_joiningWith_87 : decode cX8_joiningWith 87 = .ok (.aload_n 0, 1) := by decide +kernel
theorem dX8_joiningWith_88 : decode cX8_joiningWith 88 = .ok (.getfield 71, 3) := by decide +kernel
theorem dX8_joiningWith_91 : decode cX8_joiningWith 91 = .ok (.iload 4, 2) := by decide +kernel
theorem dX8_joiningWith_93 : decode cX8_joiningWith 93 = .ok (.aload_n 3, 1) := by decide +kernel
theorem dX8_joiningWith_94 : decode cX8_joiningWith 94 = .ok (.iload 4, 2) := by decide +kernel
theorem dX8_joiningWith_96 : decode cX8_joiningWith 96 = .ok (.iconst 1, 1) := by decide +kernel
theorem dX8_joiningWith_97 : decode cX8_joiningWith 97 = .ok (.iadd, 1) := by decide +kernel
theorem dX8_joiningWith_98 : decode cX8_joiningWith 98 = .ok (.laload, 1) := by decide +kernel
theorem dX8_joiningWith_99 : decode cX8_joiningWith 99 = .ok (.aload_n 0, 1) := by decide +kernel
theorem dX8_joiningWith_100 : decode cX8_joiningWith 100 = .ok (.getfield 32, 3) := by decide +kernel
theorem dX8_joiningWith_103 : decode cX8_joiningWith 103 = .ok (.getfield 187, 3) := by decide +kernel
theorem dX8_joiningWith_106 : decode cX8_joiningWith 106 = .ok (.iload 4, 2) := by decide +kernel
theorem dX8_joiningWith_108 : decode cX8_joiningWith 108 = .ok (.iconst 1, 1) := by decide +kernel
theorem dX8_joiningWith_109 : decode cX8_joiningWith 109 = .ok (.iadd, 1) := by decide +kernel
theorem dX8_joiningWith_110 : decode cX8_joiningWith 110 = .ok (.laload, 1) := by decide +kernel
theorem dX8_joiningWith_111 : decode cX8_joiningWith 111 = .ok (.lsub, 1) := by decide +kernel
theorem dX8_joiningWith_112 : decode cX8_joiningWith 112 = .ok (.lastore, 1) := by decide +kernel
theorem dX8_joiningWith_113 : decode cX8_joiningWith 113 = .ok (.iinc 4 1, 3) := by decide +kernel
theorem dX8_joiningWith_116 : decode cX8_joiningWith 116 = .ok (.goto (-36), 3) := by decide +kernel
theorem dX8_joiningWith_119 : decode cX8_joiningWith 119 = .ok (.aload_n 0, 1) := by decide +kernel
theorem dX8_joiningWith_120 : decode cX8_joiningWith 120 = .ok (.getfield 71, 3) := by decide +kernel
theorem dX8_joiningWith_123 : decode cX8_joiningWith 123 = .ok (.areturn, 1) := by decide +kernel
theorem dX8_barring_0 : decode cX8_barring 0 = .ok (.aload_n 0, 1) := by decide +kernel
theorem dX8_barring_1 : decode cX8_barring 1 = .ok (.getfield 78, 3) := by decide +kernel
theorem dX8_barring_4 : decode cX8_barring 4 = .ok (.invokevirtual 109, 3) := by decide +kernel
theorem dX8_barring_7 : decode cX8_barring 7 = .ok (.istore_n 3, 1) := by decide +kernel
theorem dX8_barring_8 : decode cX8_barring 8 = .ok (.aload_n 0, 1) := by decide +kernel
theorem dX8_barring_9 : decode cX8_barring 9 = .ok (.getfield 78, 3) := by decide +kernel
theorem dX8_barring_12 : decode cX8_barring 12 = .ok (.getfield 225, 3) := by decide +kernel
theorem dX8_barring_15 : decode cX8_barring 15 = .ok (.iconst 2, 1) := by decide +kernel
theorem dX8_barring_16 : decode cX8_barring 16 = .ok (.if_icmp .lt 18, 3) := by decide +kernel
theorem dX8_barring_19 : decode cX8_barring 19 = .ok (.iload_n 2, 1) := by decide +kernel
theorem dX8_barring_20 : decode cX8_barring 20 = .ok (.ifCond .lt 14, 3) := by decide +kernel
theorem dX8_barring_23 : decode cX8_barring 23 = .ok (.iload_n 2, 1) := by decide +kernel
theorem dX8_barring_24 : decode cX8_barring 24 = .ok (.iload_n 3, 1) := by decide +kernel
theorem dX8_barring_25 : decode cX8_barring 25 = .ok (.if_icmp .gt 9, 3) := by decide +kernel
theorem dX8_barring_28 : decode cX8_barring 28 = .ok (.iload_n 3, 1) := by decide +kernel
theorem dX8_barring_29 : decode cX8_barring 29 = .ok (.bipush 25, 2) := by decide +kernel
theorem dX8_barring_31 : decode cX8_barring 31 = .ok (.if_icmp .lt 5, 3) := by decide +kernel
theorem dX8_barring_34 : decode cX8_barring 34 = .ok (.lconst 0, 1) := by decide +kernel
theorem dX8_barring_35 : decode cX8_barring 35 = .ok (.lreturn, 1) := by decide +kernel
theorem dX8_barring_36 : decode cX8_barring 36 = .ok (.iload_n 3, 1) := by decide +kernel
theorem dX8_barring_37 : decode cX8_barring 37 = .ok (.iload_n 2, 1) := by decide +kernel
theorem dX8_barring_38 : decode cX8_barring 38 = .ok (.invokestatic 194, 3) := by decide +kernel
theorem dX8_barring_41 : decode cX8_barring 41 = .ok (.aload_n 1, 1) := by decide +kernel
theorem dX8_barring_42 : decode cX8_barring 42 = .ok (.iload_n 3, 1) := by decide +kernel
theorem dX8_barring_43 : decode cX8_barring 43 = .ok (.iload_n 2, 1) := by decide +kernel
theorem dX8_barring_44 : decode cX8_barring 44 = .ok (.isub, 1) := by decide +kernel
theorem dX8_barring_45 : decode cX8_barring 45 = .ok (.laload, 1) := by decide +kernel
theorem dX8_barring_46 : decode cX8_barring 46 = .ok (.lsub, 1) := by decide +kernel
theorem dX8_barring_47 : decode cX8_barring 47 = .ok (.lreturn, 1) := by decide +kernel
theorem dX8_leastBy_0 : decode cX8_leastBy 0 = .ok (.aload_n 0, 1) := by decide +kernel
theorem dX8_leastBy_1 : decode cX8_leastBy 1 = .ok (.getfield 78, 3) := by decide +kernel
theorem dX8_leastBy_4 : decode cX8_leastBy 4 = .ok (.invokevirtual 109, 3) := by decide +kernel
theorem dX8_leastBy_7 : decode cX8_leastBy 7 = .ok (.istore_n 3, 1) := by decide +kernel
theorem dX8_leastBy_8 : decode cX8_leastBy 8 = .ok (.aload_n 0, 1) := by decide +kernel
theorem dX8_leastBy_9 : decode cX8_leastBy 9 = .ok (.invokevirtual 183, 3) := by decide +kernel
theorem dX8_leastBy_12 : decode cX8_leastBy 12 = .ok (.getfield 187, 3) := by decide +kernel
theorem dX8_leastBy_15 : decode cX8_leastBy 15 = .ok (.astore 4, 2) := by decide +kernel
theorem dX8_leastBy_17 : decode cX8_leastBy 17 = .ok (.iconst 0, 1) := by decide +kernel
theorem dX8_leastBy_18 : decode cX8_leastBy 18 = .ok (.istore 5, 2) := by decide +kernel
theorem dX8_leastBy_20 : decode cX8_leastBy 20 = .ok (.iload 5, 2) := by decide +kernel
theorem dX8_leastBy_22 : decode cX8_leastBy 22 = .ok (.iload_n 3, 1) := by decide +kernel
theorem dX8_leastBy_23 : decode cX8_leastBy 23 = .ok (.if_icmp .gt 40, 3) := by decide +kernel
theorem dX8_leastBy_26 : decode cX8_leastBy 26 = .ok (.iload 5, 2) := by decide +kernel
theorem dX8_leastBy_28 : decode cX8_leastBy 28 = .ok (.bipush 25, 2) := by decide +kernel
theorem dX8_leastBy_30 : decode cX8_leastBy 30 = .ok (.if_icmp .ge 33, 3) := by decide +kernel
theorem dX8_leastBy_33 : decode cX8_leastBy 33 = .ok (.aload 4, 2) := by decide +kernel
theorem dX8_leastBy_35 : decode cX8_leastBy 35 = .ok (.iload 5, 2) := by decide +kernel
theorem dX8_leastBy_37 : decode cX8_leastBy 37 = .ok (.laload, 1) := by decide +kernel
theorem dX8_leastBy_38 : decode cX8_leastBy 38 = .ok (.iload_n 2, 1) := by decide +kernel
theorem dX8_leastBy_39 : decode cX8_leastBy 39 = .ok (.i2l, 1) := by decide +kernel
theorem dX8_leastBy_40 : decode cX8_leastBy 40 = .ok (.lmul, 1) := by decide +kernel
theorem dX8_leastBy_41 : decode cX8_leastBy 41 = .ok (.iload_n 3, 1) := by decide +kernel
theorem dX8_leastBy_42 : decode cX8_leastBy 42 = .ok (.iload 5, 2) := by decide +kernel
theorem dX8_leastBy_44 : decode cX8_leastBy 44 = .ok (.invokestatic 194, 3) := by decide +kernel
theorem dX8_leastBy_47 : decode cX8_leastBy 47 = .ok (.iload_n 1, 1) := by decide +kernel
theorem dX8_leastBy_48 : decode cX8_leastBy 48 = .ok (.i2l, 1) := by decide +kernel
theorem dX8_leastBy_49 : decode cX8_leastBy 49 = .ok (.lmul, 1) := by decide +kernel
theorem dX8_leastBy_50 : decode cX8_leastBy 50 = .ok (.lcmp, 1) := by decide +kernel
theorem dX8_leastBy_51 : decode cX8_leastBy 51 = .ok (.ifCond .lt 6, 3) := by decide +kernel
theorem dX8_leastBy_54 : decode cX8_leastBy 54 = .ok (.iload 5, 2) := by decide +kernel
theorem dX8_leastBy_56 : decode cX8_leastBy 56 = .ok (.ireturn, 1) := by decide +kernel
theorem dX8_leastBy_57 : decode cX8_leastBy 57 = .ok (.iinc 5 1, 3) := by decide +kernel
theorem dX8_leastBy_60 : decode cX8_leastBy 60 = .ok (.goto (-40), 3) := by decide +kernel
theorem dX8_leastBy_63 : decode cX8_leastBy 63 = .ok (.iconst (-1), 1) := by decide +kernel
theorem dX8_leastBy_64 : decode cX8_leastBy 64 = .ok (.ireturn, 1) := by decide +kernel
theorem dX8_decidedBy_0 : decode cX8_decidedBy 0 = .ok (.aload_n 0, 1) := by decide +kernel
theorem dX8_decidedBy_1 : decode cX8_decidedBy 1 = .ok (.getfield 19, 3) := by decide +kernel
theorem dX8_decidedBy_4 : decode cX8_decidedBy 4 = .ok (.aload_n 0, 1) := by decide +kernel
theorem dX8_decidedBy_5 : decode cX8_decidedBy 5 = .ok (.getfield 78, 3) := by decide +kernel
theorem dX8_decidedBy_8 : decode cX8_decidedBy 8 = .ok (.getfield 214, 3) := by decide +kernel
theorem dX8_decidedBy_11 : decode cX8_decidedBy 11 = .ok (.aload_n 0, 1) := by decide +kernel
theorem dX8_decidedBy_12 : decode cX8_decidedBy 12 = .ok (.getfield 78, 3) := by decide +kernel
theorem dX8_decidedBy_15 : decode cX8_decidedBy 15 = .ok (.getfield 225, 3) := by decide +kernel
theorem dX8_decidedBy_18 : decode cX8_decidedBy 18 = .ok (.invokevirtual 397, 3) := by decide +kernel
theorem dX8_decidedBy_21 : decode cX8_decidedBy 21 = .ok (.aload_n 0, 1) := by decide +kernel
theorem dX8_decidedBy_22 : decode cX8_decidedBy 22 = .ok (.getfield 40, 3) := by decide +kernel
theorem dX8_decidedBy_25 : decode cX8_decidedBy 25 = .ok (.aload_n 0, 1) := by decide +kernel
theorem dX8_decidedBy_26 : decode cX8_decidedBy 26 = .ok (.getfield 78, 3) := by decide +kernel
theorem dX8_decidedBy_29 : decode cX8_decidedBy 29 = .ok (.iload_n 1, 1) := by decide +kernel
theorem dX8_decidedBy_30 : decode cX8_decidedBy 30 = .ok (.iload_n 2, 1) := by decide +kernel
theorem dX8_decidedBy_31 : decode cX8_decidedBy 31 = .ok (.invokevirtual 417, 3) := by decide +kernel
theorem dX8_decidedBy_34 : decode cX8_decidedBy 34 = .ok (.aload_n 0, 1) := by decide +kernel
theorem dX8_decidedBy_35 : decode cX8_decidedBy 35 = .ok (.getfield 40, 3) := by decide +kernel
theorem dX8_decidedBy_38 : decode cX8_decidedBy 38 = .ok (.getfield 421, 3) := by decide +kernel
theorem dX8_decidedBy_41 : decode cX8_decidedBy 41 = .ok (.areturn, 1) := by decide +kernel
theorem dX8_digitOf_0 : decode cX8_digitOf 0 = .ok (.aload_n 0, 1) := by decide +kernel
theorem dX8_digitOf_1 : decode cX8_digitOf 1 = .ok (.getfield 78, 3) := by decide +kernel
theorem dX8_digitOf_4 : decode cX8_digitOf 4 = .ok (.iload_n 3, 1) := by decide +kernel
theorem dX8_digitOf_5 : decode cX8_digitOf 5 = .ok (.iload_n 2, 1) := by decide +kernel
theorem dX8_digitOf_6 : decode cX8_digitOf 6 = .ok (.iconst 0, 1) := by decide +kernel
theorem dX8_digitOf_7 : decode cX8_digitOf 7 = .ok (.invokestatic 261, 3) := by decide +kernel
theorem dX8_digitOf_10 : decode cX8_digitOf 10 = .ok (.invokevirtual 128, 3) := by decide +kernel
theorem dX8_digitOf_13 : decode cX8_digitOf 13 = .ok (.ifCond .eq 6, 3) := by decide +kernel
theorem dX8_digitOf_16 : decode cX8_digitOf 16 = .ok (.bipush 9, 2) := by decide +kernel
theorem dX8_digitOf_18 : decode cX8_digitOf 18 = .ok (.ireturn, 1) := by decide +kernel
theorem dX8_digitOf_19 : decode cX8_digitOf 19 = .ok (.aload_n 0, 1) := by decide +kernel
theorem dX8_digitOf_20 : decode cX8_digitOf 20 = .ok (.getfield 19, 3) := by decide +kernel
theorem dX8_digitOf_23 : decode cX8_digitOf 23 = .ok (.iload_n 1, 1) := by decide +kernel
theorem dX8_digitOf_24 : decode cX8_digitOf 24 = .ok (.iload_n 3, 1) := by decide +kernel
theorem dX8_digitOf_25 : decode cX8_digitOf 25 = .ok (.invokevirtual 240, 3) := by decide +kernel
theorem dX8_digitOf_28 : decode cX8_digitOf 28 = .ok (.istore 4, 2) := by decide +kernel
theorem dX8_digitOf_30 : decode cX8_digitOf 30 = .ok (.iconst 0, 1) := by decide +kernel
theorem dX8_digitOf_31 : decode cX8_digitOf 31 = .ok (.istore 5, 2) := by decide +kernel
theorem dX8_digitOf_33 : decode cX8_digitOf 33 = .ok (.iconst 0, 1) := by decide +kernel
theorem dX8_digitOf_34 : decode cX8_digitOf 34 = .ok (.istore 6, 2) := by decide +kernel
theorem dX8_digitOf_36 : decode cX8_digitOf 36 = .ok (.iload 6, 2) := by decide +kernel
theorem dX8_digitOf_38 : decode cX8_digitOf 38 = .ok (.aload_n 0, 1) := by decide +kernel
theorem dX8_digitOf_39 : decode cX8_digitOf 39 = .ok (.getfield 78, 3) := by decide +kernel
theorem dX8_digitOf_42 : decode cX8_digitOf 42 = .ok (.getfield 214, 3) := by decide +kernel
theorem dX8_digitOf_45 : decode cX8_digitOf 45 = .ok (.if_icmp .ge 44, 3) := by decide +kernel
theorem dX8_digitOf_48 : decode cX8_digitOf 48 = .ok (.aload_n 0, 1) := by decide +kernel
theorem dX8_digitOf_49 : decode cX8_digitOf 49 = .ok (.getfield 78, 3) := by decide +kernel
theorem dX8_digitOf_52 : decode cX8_digitOf 52 = .ok (.iload 6, 2) := by decide +kernel
theorem dX8_digitOf_54 : decode cX8_digitOf 54 = .ok (.iload_n 2, 1) := by decide +kernel
theorem dX8_digitOf_55 : decode cX8_digitOf 55 = .ok (.iconst 0, 1) := by decide +kernel
theorem dX8_digitOf_56 : decode cX8_digitOf 56 = .ok (.invokestatic 261, 3) := by decide +kernel
theorem dX8_digitOf_59 : decode cX8_digitOf 59 = .ok (.invokevirtual 128, 3) := by decide +kernel
theorem dX8_digitOf_62 : decode cX8_digitOf 62 = .ok (.ifCond .eq 21, 3) := by decide +kernel
theorem dX8_digitOf_65 : decode cX8_digitOf 65 = .ok (.aload_n 0, 1) := by decide +kernel
theorem dX8_digitOf_66 : decode cX8_digitOf 66 = .ok (.getfield 19, 3) := by decide +kernel
theorem dX8_digitOf_69 : decode cX8_digitOf 69 = .ok (.iload_n 1, 1) := by decide +kernel
theorem dX8_digitOf_70 : decode cX8_digitOf 70 = .ok (.iload 6, 2) := by decide +kernel
theorem dX8_digitOf_72 : decode cX8_digitOf 72 = .ok (.invokevirtual 240, 3) := by decide +kernel
theorem dX8_digitOf_75 : decode cX8_digitOf 75 = .ok (.iload 4, 2) := by decide +kernel
theorem dX8_digitOf_77 : decode cX8_digitOf 77 = .ok (.if_icmp .ge 6, 3) := by decide +kernel
theorem dX8_digitOf_80 : decode cX8_digitOf 80 = .ok (.iinc 5 1, 3) := by decide +kernel
theorem dX8_digitOf_83 : decode cX8_digitOf 83 = .ok (.iinc 6 1, 3) := by decide +kernel
theorem dX8_digitOf_86 : decode cX8_digitOf 86 = .ok (.goto (-50), 3) := by decide +kernel
theorem dX8_digitOf_89 : decode cX8_digitOf 89 = .ok (.iload 4, 2) := by decide +kernel
theorem dX8_digitOf_91 : decode cX8_digitOf 91 = .ok (.iload 5, 2) := by decide +kernel
theorem dX8_digitOf_93 : decode cX8_digitOf 93 = .ok (.isub, 1) := by decide +kernel
theorem dX8_digitOf_94 : decode cX8_digitOf 94 = .ok (.ireturn, 1) := by decide +kernel
theorem dX8_drawOpen_0 : decode cX8_drawOpen 0 = .ok (.lconst 0, 1) := by decide +kernel
theorem dX8_drawOpen_1 : decode cX8_drawOpen 1 = .ok (.lstore 4, 2) := by decide +kernel
theorem dX8_drawOpen_3 : decode cX8_drawOpen 3 = .ok (.iload_n 1, 1) := by decide +kernel
theorem dX8_drawOpen_4 : decode cX8_drawOpen 4 = .ok (.istore 6, 2) := by decide +kernel
theorem dX8_drawOpen_6 : decode cX8_drawOpen 6 = .ok (.iconst 0, 1) := by decide +kernel
theorem dX8_drawOpen_7 : decode cX8_drawOpen 7 = .ok (.istore 7, 2) := by decide +kernel
theorem dX8_drawOpen_9 : decode cX8_drawOpen 9 = .ok (.iload 7, 2) := by decide +kernel
theorem dX8_drawOpen_11 : decode cX8_drawOpen 11 = .ok (.bipush 50, 2) := by decide +kernel
theorem dX8_drawOpen_13 : decode cX8_drawOpen 13 = .ok (.if_icmp .ge 52, 3) := by decide +kernel
theorem dX8_drawOpen_16 : decode cX8_drawOpen 16 = .ok (.aload_n 0, 1) := by decide +kernel
theorem dX8_drawOpen_17 : decode cX8_drawOpen 17 = .ok (.getfield 78, 3) := by decide +kernel
theorem dX8_drawOpen_20 : decode cX8_drawOpen 20 = .ok (.iload 7, 2) := by decide +kernel
theorem dX8_drawOpen_22 : decode cX8_drawOpen 22 = .ok (.invokevirtual 304, 3) := by decide +kernel
theorem dX8_drawOpen_25 : decode cX8_drawOpen 25 = .ok (.ifCond .eq 34, 3) := by decide +kernel
theorem dX8_drawOpen_28 : decode cX8_drawOpen 28 = .ok (.iload 6, 2) := by decide +kernel
theorem dX8_drawOpen_30 : decode cX8_drawOpen 30 = .ok (.invokestatic 424, 3) := by decide +kernel
theorem dX8_drawOpen_33 : decode cX8_drawOpen 33 = .ok (.istore 6, 2) := by decide +kernel
theorem dX8_drawOpen_35 : decode cX8_drawOpen 35 = .ok (.iload_n 3, 1) := by decide +kernel
theorem dX8_drawOpen_36 : decode cX8_drawOpen 36 = .ok (.ifCond .le 23, 3) := by decide +kernel
theorem dX8_drawOpen_39 : decode cX8_drawOpen 39 = .ok (.iload 6, 2) := by decide +kernel
theorem dX8_drawOpen_41 : decode cX8_drawOpen 41 = .ok (.invokestatic 427, 3) := by decide +kernel
theorem dX8_drawOpen_44 : decode cX8_drawOpen 44 = .ok (.iload_n 3, 1) := by decide +kernel
theorem dX8_drawOpen_45 : decode cX8_drawOpen 45 = .ok (.irem, 1) := by decide +kernel
theorem dX8_drawOpen_46 : decode cX8_drawOpen 46 = .ok (.iload_n 2, 1) := by decide +kernel
theorem dX8_drawOpen_47 : decode cX8_drawOpen 47 = .ok (.if_icmp .ge 12, 3) := by decide +kernel
theorem dX8_drawOpen_50 : decode cX8_drawOpen 50 = .ok (.lload 4, 2) := by decide +kernel
theorem dX8_drawOpen_52 : decode cX8_drawOpen 52 = .ok (.lconst 1, 1) := by decide +kernel
theorem dX8_drawOpen_53 : decode cX8_drawOpen 53 = .ok (.iload 7, 2) := by decide +kernel
theorem dX8_drawOpen_55 : decode cX8_drawOpen 55 = .ok (.lshl, 1) := by decide +kernel
theorem dX8_drawOpen_56 : decode cX8_drawOpen 56 = .ok (.lor, 1) := by decide +kernel
theorem dX8_drawOpen_57 : decode cX8_drawOpen 57 = .ok (.lstore 4, 2) := by decide +kernel
theorem dX8_drawOpen_59 : decode cX8_drawOpen 59 = .ok (.iinc 7 1, 3) := by decide +kernel
theorem dX8_drawOpen_62 : decode cX8_drawOpen 62 = .ok (.goto (-53), 3) := by decide +kernel
theorem dX8_drawOpen_65 : decode cX8_drawOpen 65 = .ok (.lload 4, 2) := by decide +kernel
theorem dX8_drawOpen_67 : decode cX8_drawOpen 67 = .ok (.lreturn, 1) := by decide +kernel
theorem dX8_orderBy_0 : decode cX8_orderBy 0 = .ok (.iconst 0, 1) := by decide +kernel
theorem dX8_orderBy_1 : decode cX8_orderBy 1 = .ok (.istore_n 2, 1) := by decide +kernel
theorem dX8_orderBy_2 : decode cX8_orderBy 2 = .ok (.iconst 0, 1) := by decide +kernel
theorem dX8_orderBy_3 : decode cX8_orderBy 3 = .ok (.istore_n 3, 1) := by decide +kernel
theorem dX8_orderBy_4 : decode cX8_orderBy 4 = .ok (.iload_n 3, 1) := by decide +kernel
theorem dX8_orderBy_5 : decode cX8_orderBy 5 = .ok (.bipush 50, 2) := by decide +kernel
theorem dX8_orderBy_7 : decode cX8_orderBy 7 = .ok (.if_icmp .ge 36, 3) := by decide +kernel
theorem dX8_orderBy_10 : decode cX8_orderBy 10 = .ok (.iload_n 2, 1) := by decide +kernel
theorem dX8_orderBy_11 : decode cX8_orderBy 11 = .ok (.bipush 24, 2) := by decide +kernel
theorem dX8_orderBy_13 : decode cX8_orderBy 13 = .ok (.if_icmp .ge 30, 3) := by decide +kernel
theorem dX8_orderBy_16 : decode cX8_orderBy 16 = .ok (.aload_n 0, 1) := by decide +kernel
theorem dX8_orderBy_17 : decode cX8_orderBy 17 = .ok (.getfield 78, 3) := by decide +kernel
theorem dX8_orderBy_20 : decode cX8_orderBy 20 = .ok (.iload_n 3, 1) := by decide +kernel
theorem dX8_orderBy_21 : decode cX8_orderBy 21 = .ok (.invokevirtual 304, 3) := by decide +kernel
theorem dX8_orderBy_24 : decode cX8_orderBy 24 = .ok (.ifCond .eq 13, 3) := by decide +kernel
theorem dX8_orderBy_27 : decode cX8_orderBy 27 = .ok (.aload_n 0, 1) := by decide +kernel
theorem dX8_orderBy_28 : decode cX8_orderBy 28 = .ok (.getfield 64, 3) := by decide +kernel
theorem dX8_orderBy_31 : decode cX8_orderBy 31 = .ok (.iload_n 2, 1) := by decide +kernel
theorem dX8_orderBy_32 : decode cX8_orderBy 32 = .ok (.iload_n 3, 1) := by decide +kernel
theorem dX8_orderBy_33 : decode cX8_orderBy 33 = .ok (.iastore, 1) := by decide +kernel
theorem dX8_orderBy_34 : decode cX8_orderBy 34 = .ok (.iinc 2 1, 3) := by decide +kernel
theorem dX8_orderBy_37 : decode cX8_orderBy 37 = .ok (.iinc 3 1, 3) := by decide +kernel
theorem dX8_orderBy_40 : decode cX8_orderBy 40 = .ok (.goto (-36), 3) := by decide +kernel
theorem dX8_orderBy_43 : decode cX8_orderBy 43 = .ok (.iload_n 1, 1) := by decide +kernel
theorem dX8_orderBy_44 : decode cX8_orderBy 44 = .ok (.istore_n 3, 1) := by decide +kernel
theorem dX8_orderBy_45 : decode cX8_orderBy 45 = .ok (.iload_n 2, 1) := by decide +kernel
theorem dX8_orderBy_46 : decode cX8_orderBy 46 = .ok (.istore 4, 2) := by decide +kernel
theorem dX8_orderBy_48 : decode cX8_orderBy 48 = .ok (.iload 4, 2) := by decide +kernel
theorem dX8_orderBy_50 : decode cX8_orderBy 50 = .ok (.iconst 2, 1) := by decide +kernel
theorem dX8_orderBy_51 : decode cX8_orderBy 51 = .ok (.if_icmp .lt 59, 3) := by decide +kernel
theorem dX8_orderBy_54 : decode cX8_orderBy 54 = .ok (.iload_n 3, 1) := by decide +kernel
theorem dX8_orderBy_55 : decode cX8_orderBy 55 = .ok (.invokestatic 424, 3) := by decide +kernel
theorem dX8_orderBy_58 : decode cX8_orderBy 58 = .ok (.istore_n 3, 1) := by decide +kernel
theorem dX8_orderBy_59 : decode cX8_orderBy 59 = .ok (.iload_n 3, 1) := by decide +kernel
theorem dX8_orderBy_60 : decode cX8_orderBy 60 = .ok (.invokestatic 427, 3) := by decide +kernel
theorem dX8_orderBy_63 : decode cX8_orderBy 63 = .ok (.iload 4, 2) := by decide +kernel
theorem dX8_orderBy_65 : decode cX8_orderBy 65 = .ok (.irem, 1) := by decide +kernel
theorem dX8_orderBy_66 : decode cX8_orderBy 66 = .ok (.istore 5, 2) := by decide +kernel
theorem dX8_orderBy_68 : decode cX8_orderBy 68 = .ok (.aload_n 0, 1) := by decide +kernel
theorem dX8_orderBy_69 : decode cX8_orderBy 69 = .ok (.getfield 64, 3) := by decide +kernel
theorem dX8_orderBy_72 : decode cX8_orderBy 72 = .ok (.iload 4, 2) := by decide +kernel
theorem dX8_orderBy_74 : decode cX8_orderBy 74 = .ok (.iconst 1, 1) := by decide +kernel
theorem dX8_orderBy_75 : decode cX8_orderBy 75 = .ok (.isub, 1) := by decide +kernel
theorem dX8_orderBy_76 : decode cX8_orderBy 76 = .ok (.iaload, 1) := by decide +kernel
theorem dX8_orderBy_77 : decode cX8_orderBy 77 = .ok (.istore 6, 2) := by decide +kernel
theorem dX8_orderBy_79 : decode cX8_orderBy 79 = .ok (.aload_n 0, 1) := by decide +kernel
theorem dX8_orderBy_80 : decode cX8_orderBy 80 = .ok (.getfield 64, 3) := by decide +kernel
theorem dX8_orderBy_83 : decode cX8_orderBy 83 = .ok (.iload 4, 2) := by decide +kernel
theorem dX8_orderBy_85 : decode cX8_orderBy 85 = .ok (.iconst 1, 1) := by decide +kernel
theorem dX8_orderBy_86 : decode cX8_orderBy 86 = .ok (.isub, 1) := by decide +kernel
theorem dX8_orderBy_87 : decode cX8_orderBy 87 = .ok (.aload_n 0, 1) := by decide +kernel
theorem dX8_orderBy_88 : decode cX8_orderBy 88 = .ok (.getfield 64, 3) := by decide +kernel
theorem dX8_orderBy_91 : decode cX8_orderBy 91 = .ok (.iload 5, 2) := by decide +kernel
theorem dX8_orderBy_93 : decode cX8_orderBy 93 = .ok (.iaload, 1) := by decide +kernel
theorem dX8_orderBy_94 : decode cX8_orderBy 94 = .ok (.iastore, 1) := by decide +kernel
theorem dX8_orderBy_95 : decode cX8_orderBy 95 = .ok (.aload_n 0, 1) := by decide +kernel
theorem dX8_orderBy_96 : decode cX8_orderBy 96 = .ok (.getfield 64, 3) := by decide +kernel
theorem dX8_orderBy_99 : decode cX8_orderBy 99 = .ok (.iload 5, 2) := by decide +kernel
theorem dX8_orderBy_101 : decode cX8_orderBy 101 = .ok (.iload 6, 2) := by decide +kernel
theorem dX8_orderBy_103 : decode cX8_orderBy 103 = .ok (.iastore, 1) := by decide +kernel
theorem dX8_orderBy_104 : decode cX8_orderBy 104 = .ok (.iinc 4 (-1), 3) := by decide +kernel
theorem dX8_orderBy_107 : decode cX8_orderBy 107 = .ok (.goto (-59), 3) := by decide +kernel
theorem dX8_orderBy_110 : decode cX8_orderBy 110 = .ok (.iload_n 2, 1) := by decide +kernel
theorem dX8_orderBy_111 : decode cX8_orderBy 111 = .ok (.ireturn, 1) := by decide +kernel
theorem dX8_nextSeed_0 : decode cX8_nextSeed 0 = .ok (.ldc_w 430, 3) := by decide +kernel
theorem dX8_nextSeed_3 : decode cX8_nextSeed 3 = .ok (.iload_n 0, 1) := by decide +kernel
theorem dX8_nextSeed_4 : decode cX8_nextSeed 4 = .ok (.imul, 1) := by decide +kernel
theorem dX8_nextSeed_5 : decode cX8_nextSeed 5 = .ok (.sipush 12345, 3) := by decide +kernel
theorem dX8_nextSeed_8 : decode cX8_nextSeed 8 = .ok (.iadd, 1) := by decide +kernel
theorem dX8_nextSeed_9 : decode cX8_nextSeed 9 = .ok (.ireturn, 1) := by decide +kernel
theorem dX8_seedBits_0 : decode cX8_seedBits 0 = .ok (.iload_n 0, 1) := by decide +kernel
theorem dX8_seedBits_1 : decode cX8_seedBits 1 = .ok (.bipush 16, 2) := by decide +kernel
theorem dX8_seedBits_3 : decode cX8_seedBits 3 = .ok (.iushr, 1) := by decide +kernel
theorem dX8_seedBits_4 : decode cX8_seedBits 4 = .ok (.sipush 32767, 3) := by decide +kernel
theorem dX8_seedBits_7 : decode cX8_seedBits 7 = .ok (.iand, 1) := by decide +kernel
theorem dX8_seedBits_8 : decode cX8_seedBits 8 = .ok (.ireturn, 1) := by decide +kernel
theorem dX8_lastRowOf_0 : decode cX8_lastRowOf 0 = .ok (.iconst (-1), 1) := by decide +kernel
theorem dX8_lastRowOf_1 : decode cX8_lastRowOf 1 = .ok (.istore_n 2, 1) := by decide +kernel
theorem dX8_lastRowOf_2 : decode cX8_lastRowOf 2 = .ok (.iconst 0, 1) := by decide +kernel
theorem dX8_lastRowOf_3 : decode cX8_lastRowOf 3 = .ok (.istore_n 3, 1) := by decide +kernel
theorem dX8_lastRowOf_4 : decode cX8_lastRowOf 4 = .ok (.iload_n 3, 1) := by decide +kernel
theorem dX8_lastRowOf_5 : decode cX8_lastRowOf 5 = .ok (.iconst 5, 1) := by decide +kernel
theorem dX8_lastRowOf_6 : decode cX8_lastRowOf 6 = .ok (.if_icmp .ge 26, 3) := by decide +kernel
theorem dX8_lastRowOf_9 : decode cX8_lastRowOf 9 = .ok (.lload_n 0, 1) := by decide +kernel
theorem dX8_lastRowOf_10 : decode cX8_lastRowOf 10 = .ok (.ldc2_w 431, 3) := by decide +kernel
theorem dX8_lastRowOf_13 : decode cX8_lastRowOf 13 = .ok (.bipush 10, 2) := by decide +kernel
theorem dX8_lastRowOf_15 : decode cX8_lastRowOf 15 = .ok (.iload_n 3, 1) := by decide +kernel
theorem dX8_lastRowOf_16 : decode cX8_lastRowOf 16 = .ok (.imul, 1) := by decide +kernel
theorem dX8_lastRowOf_17 : decode cX8_lastRowOf 17 = .ok (.lshl, 1) := by decide +kernel
theorem dX8_lastRowOf_18 : decode cX8_lastRowOf 18 = .ok (.land, 1) := by decide +kernel
theorem dX8_lastRowOf_19 : decode cX8_lastRowOf 19 = .ok (.lconst 0, 1) := by decide +kernel
theorem dX8_lastRowOf_20 : decode cX8_lastRowOf 20 = .ok (.lcmp, 1) := by decide +kernel
theorem dX8_lastRowOf_21 : decode cX8_lastRowOf 21 = .ok (.ifCond .eq 5, 3) := by decide +kernel
theorem dX8_lastRowOf_24 : decode cX8_lastRowOf 24 = .ok (.iload_n 3, 1) := by decide +kernel
theorem dX8_lastRowOf_25 : decode cX8_lastRowOf 25 = .ok (.istore_n 2, 1) := by decide +kernel
theorem dX8_lastRowOf_26 : decode cX8_lastRowOf 26 = .ok (.iinc 3 1, 3) := by decide +kernel
theorem dX8_lastRowOf_29 : decode cX8_lastRowOf 29 = .ok (.goto (-25), 3) := by decide +kernel
theorem dX8_lastRowOf_32 : decode cX8_lastRowOf 32 = .ok (.iload_n 2, 1) := by decide +kernel
theorem dX8_lastRowOf_33 : decode cX8_lastRowOf 33 = .ok (.ireturn, 1) := by decide +kernel
theorem dX8_writeCells_0 : decode cX8_writeCells 0 = .ok (.iconst 0, 1) := by decide +kernel
theorem dX8_writeCells_1 : decode cX8_writeCells 1 = .ok (.istore_n 2, 1) := by decide +kernel
theorem dX8_writeCells_2 : decode cX8_writeCells 2 = .ok (.iload_n 2, 1) := by decide +kernel
theorem dX8_writeCells_3 : decode cX8_writeCells 3 = .ok (.aload_n 0, 1) := by decide +kernel
theorem dX8_writeCells_4 : decode cX8_writeCells 4 = .ok (.getfield 78, 3) := by decide +kernel
theorem dX8_writeCells_7 : decode cX8_writeCells 7 = .ok (.getfield 214, 3) := by decide +kernel
theorem dX8_writeCells_10 : decode cX8_writeCells 10 = .ok (.if_icmp .ge 67, 3) := by decide +kernel
theorem dX8_writeCells_13 : decode cX8_writeCells 13 = .ok (.iload_n 2, 1) := by decide +kernel
theorem dX8_writeCells_14 : decode cX8_writeCells 14 = .ok (.iload_n 1, 1) := by decide +kernel
theorem dX8_writeCells_15 : decode cX8_writeCells 15 = .ok (.iconst 0, 1) := by decide +kernel
theorem dX8_writeCells_16 : decode cX8_writeCells 16 = .ok (.invokestatic 261, 3) := by decide +kernel
theorem dX8_writeCells_19 : decode cX8_writeCells 19 = .ok (.istore_n 3, 1) := by decide +kernel
theorem dX8_writeCells_20 : decode cX8_writeCells 20 = .ok (.aload_n 0, 1) := by decide +kernel
theorem dX8_writeCells_21 : decode cX8_writeCells 21 = .ok (.aload_n 0, 1) := by decide +kernel
theorem dX8_writeCells_22 : decode cX8_writeCells 22 = .ok (.getfield 78, 3) := by decide +kernel
theorem dX8_writeCells_25 : decode cX8_writeCells 25 = .ok (.iload_n 3, 1) := by decide +kernel
theorem dX8_writeCells_26 : decode cX8_writeCells 26 = .ok (.invokevirtual 128, 3) := by decide +kernel
theorem dX8_writeCells_29 : decode cX8_writeCells 29 = .ok (.ifCond .eq 8, 3) := by decide +kernel
theorem dX8_writeCells_32 : decode cX8_writeCells 32 = .ok (.bipush 35, 2) := by decide +kernel
theorem dX8_writeCells_34 : decode cX8_writeCells 34 = .ok (.goto 5, 3) := by decide +kernel
theorem dX8_writeCells_37 : decode cX8_writeCells 37 = .ok (.bipush 111, 2) := by decide +kernel
theorem dX8_writeCells_39 : decode cX8_writeCells 39 = .ok (.invokevirtual 433, 3) := by decide +kernel
theorem dX8_writeCells_42 : decode cX8_writeCells 42 = .ok (.aload_n 0, 1) := by decide +kernel
theorem dX8_writeCells_43 : decode cX8_writeCells 43 = .ok (.iload_n 2, 1) := by decide +kernel
theorem dX8_writeCells_44 : decode cX8_writeCells 44 = .ok (.aload_n 0, 1) := by decide +kernel
theorem dX8_writeCells_45 : decode cX8_writeCells 45 = .ok (.getfield 78, 3) := by decide +kernel
theorem dX8_writeCells_48 : decode cX8_writeCells 48 = .ok (.getfield 214, 3) := by decide +kernel
theorem dX8_writeCells_51 : decode cX8_writeCells 51 = .ok (.iconst 1, 1) := by decide +kernel
theorem dX8_writeCells_52 : decode cX8_writeCells 52 = .ok (.isub, 1) := by decide +kernel
theorem dX8_writeCells_53 : decode cX8_writeCells 53 = .ok (.if_icmp .ne 8, 3) := by decide +kernel
theorem dX8_writeCells_56 : decode cX8_writeCells 56 = .ok (.bipush 10, 2) := by decide +kernel
theorem dX8_writeCells_58 : decode cX8_writeCells 58 = .ok (.goto 10, 3) := by decide +kernel
theorem dX8_writeCells_61 : decode cX8_writeCells 61 = .ok (.aload_n 0, 1) := by decide +kernel
theorem dX8_writeCells_62 : decode cX8_writeCells 62 = .ok (.iload_n 3, 1) := by decide +kernel
theorem dX8_writeCells_63 : decode cX8_writeCells 63 = .ok (.bipush 45, 2) := by decide +kernel
theorem dX8_writeCells_65 : decode cX8_writeCells 65 = .ok (.invokevirtual 437, 3) := by decide +kernel
theorem dX8_writeCells_68 : decode cX8_writeCells 68 = .ok (.invokevirtual 433, 3) := by decide +kernel
theorem dX8_writeCells_71 : decode cX8_writeCells 71 = .ok (.iinc 2 1, 3) := by decide +kernel
theorem dX8_writeCells_74 : decode cX8_writeCells 74 = .ok (.goto (-72), 3) := by decide +kernel
theorem dX8_writeCells_77 : decode cX8_writeCells 77 = .ok (.return_, 1) := by decide +kernel
theorem dX8_writePipesDown_0 : decode cX8_writePipesDown 0 = .ok (.iconst 0, 1) := by decide +kernel
theorem dX8_writePipesDown_1 : decode cX8_writePipesDown 1 = .ok (.istore_n 2, 1) := by decide +kernel
theorem dX8_writePipesDown_2 : decode cX8_writePipesDown 2 = .ok (.iload_n 2, 1) := by decide +kernel
theorem dX8_writePipesDown_3 : decode cX8_writePipesDown 3 = .ok (.aload_n 0, 1) := by decide +kernel
theorem dX8_writePipesDown_4 : decode cX8_writePipesDown 4 = .ok (.getfield 78, 3) := by decide +kernel
theorem dX8_writePipesDown_7 : decode cX8_writePipesDown 7 = .ok (.getfield 214, 3) := by decide +kernel
theorem dX8_writePipesDown_10 : decode cX8_writePipesDown 10 = .ok (.if_icmp .ge 49, 3) := by decide +kernel
theorem dX8_writePipesDown_13 : decode cX8_writePipesDown 13 = .ok (.aload_n 0, 1) := by decide +kernel
theorem dX8_writePipesDown_14 : decode cX8_writePipesDown 14 = .ok (.aload_n 0, 1) := by decide +kernel
theorem dX8_writePipesDown_15 : decode cX8_writePipesDown 15 = .ok (.iload_n 2, 1) := by decide +kernel
theorem dX8_writePipesDown_16 : decode cX8_writePipesDown 16 = .ok (.iload_n 1, 1) := by decide +kernel
theorem dX8_writePipesDown_17 : decode cX8_writePipesDown 17 = .ok (.iconst 1, 1) := by decide +kernel
theorem dX8_writePipesDown_18 : decode cX8_writePipesDown 18 = .ok (.invokestatic 261, 3) := by decide +kernel
theorem dX8_writePipesDown_21 : decode cX8_writePipesDown 21 = .ok (.bipush 124, 2) := by decide +kernel
theorem dX8_writePipesDown_23 : decode cX8_writePipesDown 23 = .ok (.invokevirtual 437, 3) := by decide +kernel
theorem dX8_writePipesDown_26 : decode cX8_writePipesDown 26 = .ok (.invokevirtual 433, 3) := by decide +kernel
theorem dX8_writePipesDown_29 : decode cX8_writePipesDown 29 = .ok (.aload_n 0, 1) := by decide +kernel
theorem dX8_writePipesDown_30 : decode cX8_writePipesDown 30 = .ok (.iload_n 2, 1) := by decide +kernel
theorem dX8_writePipesDown_31 : decode cX8_writePipesDown 31 = .ok (.aload_n 0, 1) := by decide +kernel
theorem dX8_writePipesDown_32 : decode cX8_writePipesDown 32 = .ok (.getfield 78, 3) := by decide +kernel
theorem dX8_writePipesDown_35 : decode cX8_writePipesDown 35 = .ok (.getfield 214, 3) := by decide +kernel
theorem dX8_writePipesDown_38 : decode cX8_writePipesDown 38 = .ok (.iconst 1, 1) := by decide +kernel
theorem dX8_writePipesDown_39 : decode cX8_writePipesDown 39 = .ok (.isub, 1) := by decide +kernel
theorem dX8_writePipesDown_40 : decode cX8_writePipesDown 40 = .ok (.if_icmp .ne 8, 3) := by decide +kernel
theorem dX8_writePipesDown_43 : decode cX8_writePipesDown 43 = .ok (.bipush 10, 2) := by decide +kernel
theorem dX8_writePipesDown_45 : decode cX8_writePipesDown 45 = .ok (.goto 5, 3) := by decide +kernel
theorem dX8_writePipesDown_48 : decode cX8_writePipesDown 48 = .ok (.bipush 32, 2) := by decide +kernel
theorem dX8_writePipesDown_50 : decode cX8_writePipesDown 50 = .ok (.invokevirtual 433, 3) := by decide +kernel
theorem dX8_writePipesDown_53 : decode cX8_writePipesDown 53 = .ok (.iinc 2 1, 3) := by decide +kernel
theorem dX8_writePipesDown_56 : decode cX8_writePipesDown 56 = .ok (.goto (-54), 3) := by decide +kernel
theorem dX8_writePipesDown_59 : decode cX8_writePipesDown 59 = .ok (.return_, 1) := by decide +kernel
theorem dX8_signOf_0 : decode cX8_signOf 0 = .ok (.aload_n 0, 1) := by decide +kernel
theorem dX8_signOf_1 : decode cX8_signOf 1 = .ok (.getfield 78, 3) := by decide +kernel
theorem dX8_signOf_4 : decode cX8_signOf 4 = .ok (.iload_n 1, 1) := by decide +kernel
theorem dX8_signOf_5 : decode cX8_signOf 5 = .ok (.invokevirtual 120, 3) := by decide +kernel
theorem dX8_signOf_8 : decode cX8_signOf 8 = .ok (.istore_n 3, 1) := by decide +kernel
theorem dX8_signOf_9 : decode cX8_signOf 9 = .ok (.iload_n 3, 1) := by decide +kernel
theorem dX8_signOf_10 : decode cX8_signOf 10 = .ok (.ifCond .ne 6, 3) := by decide +kernel
theorem dX8_signOf_13 : decode cX8_signOf 13 = .ok (.bipush 46, 2) := by decide +kernel
theorem dX8_signOf_15 : decode cX8_signOf 15 = .ok (.ireturn, 1) := by decide +kernel
theorem dX8_signOf_16 : decode cX8_signOf 16 = .ok (.iload_n 3, 1) := by decide +kernel
theorem dX8_signOf_17 : decode cX8_signOf 17 = .ok (.iconst 1, 1) := by decide +kernel
theorem dX8_signOf_18 : decode cX8_signOf 18 = .ok (.if_icmp .ne 7, 3) := by decide +kernel
theorem dX8_signOf_21 : decode cX8_signOf 21 = .ok (.iload_n 2, 1) := by decide +kernel
theorem dX8_signOf_22 : decode cX8_signOf 22 = .ok (.goto 5, 3) := by decide +kernel
theorem dX8_signOf_25 : decode cX8_signOf 25 = .ok (.bipush 32, 2) := by decide +kernel
theorem dX8_signOf_27 : decode cX8_signOf 27 = .ok (.ireturn, 1) := by decide +kernel
theorem dX8_writeByte_0 : decode cX8_writeByte 0 = .ok (.aload_n 0, 1) := by decide +kernel
theorem dX8_writeByte_1 : decode cX8_writeByte 1 = .ok (.getfield 353, 3) := by decide +kernel
theorem dX8_writeByte_4 : decode cX8_writeByte 4 = .ok (.aload_n 0, 1) := by decide +kernel
theorem dX8_writeByte_5 : decode cX8_writeByte 5 = .ok (.getfield 68, 3) := by decide +kernel
theorem dX8_writeByte_8 : decode cX8_writeByte 8 = .ok (.arraylength, 1) := by decide +kernel
theorem dX8_writeByte_9 : decode cX8_writeByte 9 = .ok (.if_icmp .ge 23, 3) := by decide +kernel
theorem dX8_writeByte_12 : decode cX8_writeByte 12 = .ok (.aload_n 0, 1) := by decide +kernel
theorem dX8_writeByte_13 : decode cX8_writeByte 13 = .ok (.getfield 68, 3) := by decide +kernel
theorem dX8_writeByte_16 : decode cX8_writeByte 16 = .ok (.aload_n 0, 1) := by decide +kernel
theorem dX8_writeByte_17 : decode cX8_writeByte 17 = .ok (.getfield 353, 3) := by decide +kernel
theorem dX8_writeByte_20 : decode cX8_writeByte 20 = .ok (.iload_n 1, 1) := by decide +kernel
theorem dX8_writeByte_21 : decode cX8_writeByte 21 = .ok (.iastore, 1) := by decide +kernel
theorem dX8_writeByte_22 : decode cX8_writeByte 22 = .ok (.aload_n 0, 1) := by decide +kernel
theorem dX8_writeByte_23 : decode cX8_writeByte 23 = .ok (.dup, 1) := by decide +kernel
theorem dX8_writeByte_24 : decode cX8_writeByte 24 = .ok (.getfield 353, 3) := by decide +kernel
theorem dX8_writeByte_27 : decode cX8_writeByte 27 = .ok (.iconst 1, 1) := by decide +kernel
theorem dX8_writeByte_28 : decode cX8_writeByte 28 = .ok (.iadd, 1) := by decide +kernel
theorem dX8_writeByte_29 : decode cX8_writeByte 29 = .ok (.putfield 353, 3) := by decide +kernel
theorem dX8_writeByte_32 : decode cX8_writeByte 32 = .ok (.return_, 1) := by decide +kernel
theorem dX8_choose_0 : decode cX8_choose 0 = .ok (.iload_n 1, 1) := by decide +kernel
theorem dX8_choose_1 : decode cX8_choose 1 = .ok (.ifCond .lt 8, 3) := by decide +kernel
theorem dX8_choose_4 : decode cX8_choose 4 = .ok (.iload_n 1, 1) := by decide +kernel
theorem dX8_choose_5 : decode cX8_choose 5 = .ok (.iload_n 0, 1) := by decide +kernel
theorem dX8_choose_6 : decode cX8_choose 6 = .ok (.if_icmp .le 5, 3) := by decide +kernel
theorem dX8_choose_9 : decode cX8_choose 9 = .ok (.lconst 0, 1) := by decide +kernel
theorem dX8_choose_10 : decode cX8_choose 10 = .ok (.lreturn, 1) := by decide +kernel
theorem dX8_choose_11 : decode cX8_choose 11 = .ok (.lconst 1, 1) := by decide +kernel
theorem dX8_choose_12 : decode cX8_choose 12 = .ok (.lstore_n 2, 1) := by decide +kernel
theorem dX8_choose_13 : decode cX8_choose 13 = .ok (.iconst 1, 1) := by decide +kernel
theorem dX8_choose_14 : decode cX8_choose 14 = .ok (.istore 4, 2) := by decide +kernel
theorem dX8_choose_16 : decode cX8_choose 16 = .ok (.iload 4, 2) := by decide +kernel
theorem dX8_choose_18 : decode cX8_choose 18 = .ok (.iload_n 1, 1) := by decide +kernel
theorem dX8_choose_19 : decode cX8_choose 19 = .ok (.if_icmp .gt 23, 3) := by decide +kernel
theorem dX8_choose_22 : decode cX8_choose 22 = .ok (.lload_n 2, 1) := by decide +kernel
theorem dX8_choose_23 : decode cX8_choose 23 = .ok (.iload_n 0, 1) := by decide +kernel
theorem dX8_choose_24 : decode cX8_choose 24 = .ok (.iload_n 1, 1) := by decide +kernel
theorem dX8_choose_25 : decode cX8_choose 25 = .ok (.isub, 1) := by decide +kernel
theorem dX8_choose_26 : decode cX8_choose 26 = .ok (.iload 4, 2) := by decide +kernel
theorem dX8_choose_28 : decode cX8_choose 28 = .ok (.iadd, 1) := by decide +kernel
theorem dX8_choose_29 : decode cX8_choose 29 = .ok (.i2l, 1) := by decide +kernel
theorem dX8_choose_30 : decode cX8_choose 30 = .ok (.lmul, 1) := by decide +kernel
theorem dX8_choose_31 : decode cX8_choose 31 = .ok (.iload 4, 2) := by decide +kernel
theorem dX8_choose_33 : decode cX8_choose 33 = .ok (.i2l, 1) := by decide +kernel
theorem dX8_choose_34 : decode cX8_choose 34 = .ok (.ldiv, 1) := by decide +kernel
theorem dX8_choose_35 : decode cX8_choose 35 = .ok (.lstore_n 2, 1) := by decide +kernel
theorem dX8_choose_36 : decode cX8_choose 36 = .ok (.iinc 4 1, 3) := by decide +kernel
theorem dX8_choose_39 : decode cX8_choose 39 = .ok (.goto (-23), 3) := by decide +kernel
theorem dX8_choose_42 : decode cX8_choose 42 = .ok (.lload_n 2, 1) := by decide +kernel
theorem dX8_choose_43 : decode cX8_choose 43 = .ok (.lreturn, 1) := by decide +kernel
theorem dX8_power_0 : decode cX8_power 0 = .ok (.lconst 1, 1) := by decide +kernel
theorem dX8_power_1 : decode cX8_power 1 = .ok (.lstore_n 2, 1) := by decide +kernel
theorem dX8_power_2 : decode cX8_power 2 = .ok (.iconst 0, 1) := by decide +kernel
theorem dX8_power_3 : decode cX8_power 3 = .ok (.istore 4, 2) := by decide +kernel
theorem dX8_power_5 : decode cX8_power 5 = .ok (.iload 4, 2) := by decide +kernel
theorem dX8_power_7 : decode cX8_power 7 = .ok (.iload_n 1, 1) := by decide +kernel
theorem dX8_power_8 : decode cX8_power 8 = .ok (.if_icmp .ge 14, 3) := by decide +kernel
theorem dX8_power_11 : decode cX8_power 11 = .ok (.lload_n 2, 1) := by decide +kernel
theorem dX8_power_12 : decode cX8_power 12 = .ok (.iload_n 0, 1) := by decide +kernel
theorem dX8_power_13 : decode cX8_power 13 = .ok (.i2l, 1) := by decide +kernel
theorem dX8_power_14 : decode cX8_power 14 = .ok (.lmul, 1) := by decide +kernel
theorem dX8_power_15 : decode cX8_power 15 = .ok (.lstore_n 2, 1) := by decide +kernel
theorem dX8_power_16 : decode cX8_power 16 = .ok (.iinc 4 1, 3) := by decide +kernel
theorem dX8_power_19 : decode cX8_power 19 = .ok (.goto (-14), 3) := by decide +kernel
theorem dX8_power_22 : decode cX8_power 22 = .ok (.lload_n 2, 1) := by decide +kernel
theorem dX8_power_23 : decode cX8_power 23 = .ok (.lreturn, 1) := by decide +kernel
theorem dX8_weighed_0 : decode cX8_weighed 0 = .ok (.lconst 0, 1) := by decide +kernel
theorem dX8_weighed_1 : decode cX8_weighed 1 = .ok (.lstore 4, 2) := by decide +kernel
theorem dX8_weighed_3 : decode cX8_weighed 3 = .ok (.iconst 0, 1) := by decide +kernel
theorem dX8_weighed_4 : decode cX8_weighed 4 = .ok (.istore 6, 2) := by decide +kernel
theorem dX8_weighed_6 : decode cX8_weighed 6 = .ok (.iload 6, 2) := by decide +kernel
theorem dX8_weighed_8 : decode cX8_weighed 8 = .ok (.iload_n 1, 1) := by decide +kernel
theorem dX8_weighed_9 : decode cX8_weighed 9 = .ok (.if_icmp .gt 43, 3) := by decide +kernel
theorem dX8_weighed_12 : decode cX8_weighed 12 = .ok (.iload 6, 2) := by decide +kernel
theorem dX8_weighed_14 : decode cX8_weighed 14 = .ok (.aload_n 0, 1) := by decide +kernel
theorem dX8_weighed_15 : decode cX8_weighed 15 = .ok (.arraylength, 1) := by decide +kernel
theorem dX8_weighed_16 : decode cX8_weighed 16 = .ok (.if_icmp .ge 36, 3) := by decide +kernel
theorem dX8_weighed_19 : decode cX8_weighed 19 = .ok (.lload 4, 2) := by decide +kernel
theorem dX8_weighed_21 : decode cX8_weighed 21 = .ok (.aload_n 0, 1) := by decide +kernel
theorem dX8_weighed_22 : decode cX8_weighed 22 = .ok (.iload 6, 2) := by decide +kernel
theorem dX8_weighed_24 : decode cX8_weighed 24 = .ok (.laload, 1) := by decide +kernel
theorem dX8_weighed_25 : decode cX8_weighed 25 = .ok (.iload_n 2, 1) := by decide +kernel
theorem dX8_weighed_26 : decode cX8_weighed 26 = .ok (.iload 6, 2) := by decide +kernel
theorem dX8_weighed_28 : decode cX8_weighed 28 = .ok (.invokestatic 268, 3) := by decide +kernel
theorem dX8_weighed_31 : decode cX8_weighed 31 = .ok (.iload_n 3, 1) := by decide +kernel
theorem dX8_weighed_32 : decode cX8_weighed 32 = .ok (.iload_n 2, 1) := by decide +kernel
theorem dX8_weighed_33 : decode cX8_weighed 33 = .ok (.isub, 1) := by decide +kernel
theorem dX8_weighed_34 : decode cX8_weighed 34 = .ok (.iload_n 1, 1) := by decide +kernel
theorem dX8_weighed_35 : decode cX8_weighed 35 = .ok (.iload 6, 2) := by decide +kernel
theorem dX8_weighed_37 : decode cX8_weighed 37 = .ok (.isub, 1) := by decide +kernel
theorem dX8_weighed_38 : decode cX8_weighed 38 = .ok (.invokestatic 268, 3) := by decide +kernel
theorem dX8_weighed_41 : decode cX8_weighed 41 = .ok (.lmul, 1) := by decide +kernel
theorem dX8_weighed_42 : decode cX8_weighed 42 = .ok (.lmul, 1) := by decide +kernel
theorem dX8_weighed_43 : decode cX8_weighed 43 = .ok (.ladd, 1) := by decide +kernel
theorem dX8_weighed_44 : decode cX8_weighed 44 = .ok (.lstore 4, 2) := by decide +kernel
theorem dX8_weighed_46 : decode cX8_weighed 46 = .ok (.iinc 6 1, 3) := by decide +kernel
theorem dX8_weighed_49 : decode cX8_weighed 49 = .ok (.goto (-43), 3) := by decide +kernel
theorem dX8_weighed_52 : decode cX8_weighed 52 = .ok (.lload 4, 2) := by decide +kernel
theorem dX8_weighed_54 : decode cX8_weighed 54 = .ok (.lreturn, 1) := by decide +kernel
theorem dX8_lowest_0 : decode cX8_lowest 0 = .ok (.lload_n 2, 1) := by decide +kernel
theorem dX8_lowest_1 : decode cX8_lowest 1 = .ok (.lstore 5, 2) := by decide +kernel
theorem dX8_lowest_3 : decode cX8_lowest 3 = .ok (.lload_n 0, 1) := by decide +kernel
theorem dX8_lowest_4 : decode cX8_lowest 4 = .ok (.lstore 7, 2) := by decide +kernel
theorem dX8_lowest_6 : decode cX8_lowest 6 = .ok (.iconst 0, 1) := by decide +kernel
theorem dX8_lowest_7 : decode cX8_lowest 7 = .ok (.istore 9, 2) := by decide +kernel
theorem dX8_lowest_9 : decode cX8_lowest 9 = .ok (.iload 9, 2) := by decide +kernel
theorem dX8_lowest_11 : decode cX8_lowest 11 = .ok (.sipush 200, 3) := by decide +kernel
theorem dX8_lowest_14 : decode cX8_lowest 14 = .ok (.if_icmp .ge 31, 3) := by decide +kernel
theorem dX8_lowest_17 : decode cX8_lowest 17 = .ok (.lload 7, 2) := by decide +kernel
theorem dX8_lowest_19 : decode cX8_lowest 19 = .ok (.lconst 0, 1) := by decide +kernel
theorem dX8_lowest_20 : decode cX8_lowest 20 = .ok (.lcmp, 1) := by decide +kernel
theorem dX8_lowest_21 : decode cX8_lowest 21 = .ok (.ifCond .eq 24, 3) := by decide +kernel
theorem dX8_lowest_24 : decode cX8_lowest 24 = .ok (.lload 5, 2) := by decide +kernel
theorem dX8_lowest_26 : decode cX8_lowest 26 = .ok (.lload 7, 2) := by decide +kernel
theorem dX8_lowest_28 : decode cX8_lowest 28 = .ok (.lrem, 1) := by decide +kernel
theorem dX8_lowest_29 : decode cX8_lowest 29 = .ok (.lstore 10, 2) := by decide +kernel
theorem dX8_lowest_31 : decode cX8_lowest 31 = .ok (.lload 7, 2) := by decide +kernel
theorem dX8_lowest_33 : decode cX8_lowest 33 = .ok (.lstore 5, 2) := by decide +kernel
theorem dX8_lowest_35 : decode cX8_lowest 35 = .ok (.lload 10, 2) := by decide +kernel
theorem dX8_lowest_37 : decode cX8_lowest 37 = .ok (.lstore 7, 2) := by decide +kernel
theorem dX8_lowest_39 : decode cX8_lowest 39 = .ok (.iinc 9 1, 3) := by decide +kernel
theorem dX8_lowest_42 : decode cX8_lowest 42 = .ok (.goto (-33), 3) := by decide +kernel
theorem dX8_lowest_45 : decode cX8_lowest 45 = .ok (.lload 5, 2) := by decide +kernel
theorem dX8_lowest_47 : decode cX8_lowest 47 = .ok (.lconst 0, 1) := by decide +kernel
theorem dX8_lowest_48 : decode cX8_lowest 48 = .ok (.lcmp, 1) := by decide +kernel
theorem dX8_lowest_49 : decode cX8_lowest 49 = .ok (.ifCond .ne 5, 3) := by decide +kernel
theorem dX8_lowest_52 : decode cX8_lowest 52 = .ok (.lconst 0, 1) := by decide +kernel
theorem dX8_lowest_53 : decode cX8_lowest 53 = .ok (.lreturn, 1) := by decide +kernel
theorem dX8_lowest_54 : decode cX8_lowest 54 = .ok (.iload 4, 2) := by decide +kernel
theorem dX8_lowest_56 : decode cX8_lowest 56 = .ok (.ifCond .eq 7, 3) := by decide +kernel
theorem dX8_lowest_59 : decode cX8_lowest 59 = .ok (.lload_n 2, 1) := by decide +kernel
theorem dX8_lowest_60 : decode cX8_lowest 60 = .ok (.goto 4, 3) := by decide +kernel
theorem dX8_lowest_63 : decode cX8_lowest 63 = .ok (.lload_n 0, 1) := by decide +kernel
theorem dX8_lowest_64 : decode cX8_lowest 64 = .ok (.lload 5, 2) := by decide +kernel
theorem dX8_lowest_66 : decode cX8_lowest 66 = .ok (.ldiv, 1) := by decide +kernel
theorem dX8_lowest_67 : decode cX8_lowest 67 = .ok (.lreturn, 1) := by decide +kernel
theorem dX9_init_0 : decode cX9_init 0 = .ok (.aload_n 0, 1) := by decide +kernel
theorem dX9_init_1 : decode cX9_init 1 = .ok (.invokespecial 1, 3) := by decide +kernel
theorem dX9_init_4 : decode cX9_init 4 = .ok (.aload_n 0, 1) := by decide +kernel
theorem dX9_init_5 : decode cX9_init 5 = .ok (.sipush 400, 3) := by decide +kernel
theorem dX9_init_8 : decode cX9_init 8 = .ok (.newarray .int, 2) := by decide +kernel
theorem dX9_init_10 : decode cX9_init 10 = .ok (.putfield 7, 3) := by decide +kernel
theorem dX9_init_13 : decode cX9_init 13 = .ok (.aload_n 0, 1) := by decide +kernel
theorem dX9_init_14 : decode cX9_init 14 = .ok (.iconst (-1), 1) := by decide +kernel
theorem dX9_init_15 : decode cX9_init 15 = .ok (.putfield 13, 3) := by decide +kernel
theorem dX9_init_18 : decode cX9_init 18 = .ok (.aload_n 0, 1) := by decide +kernel
theorem dX9_init_19 : decode cX9_init 19 = .ok (.bipush 50, 2) := by decide +kernel
theorem dX9_init_21 : decode cX9_init 21 = .ok (.newarray .int, 2) := by decide +kernel
theorem dX9_init_23 : decode cX9_init 23 = .ok (.putfield 17, 3) := by decide +kernel
theorem dX9_init_26 : decode cX9_init 26 = .ok (.aload_n 0, 1) := by decide +kernel
theorem dX9_init_27 : decode cX9_init 27 = .ok (.bipush 50, 2) := by decide +kernel
theorem dX9_init_29 : decode cX9_init 29 = .ok (.newarray .boolean, 2) := by decide +kernel
theorem dX9_init_31 : decode cX9_init 31 = .ok (.putfield 20, 3) := by decide +kernel
theorem dX9_init_34 : decode cX9_init 34 = .ok (.aload_n 0, 1) := by decide +kernel
theorem dX9_init_35 : decode cX9_init 35 = .ok (.bipush 25, 2) := by decide +kernel
theorem dX9_init_37 : decode cX9_init 37 = .ok (.newarray .boolean, 2) := by decide +kernel
theorem dX9_init_39 : decode cX9_init 39 = .ok (.putfield 24, 3) := by decide +kernel
theorem dX9_init_42 : decode cX9_init 42 = .ok (.aload_n 0, 1) := by decide +kernel
theorem dX9_init_43 : decode cX9_init 43 = .ok (.iconst 1, 1) := by decide +kernel
theorem dX9_init_44 : decode cX9_init 44 = .ok (.putfield 27, 3) := by decide +kernel
theorem dX9_init_47 : decode cX9_init 47 = .ok (.aload_n 0, 1) := by decide +kernel
theorem dX9_init_48 : decode cX9_init 48 = .ok (.iconst 1, 1) := by decide +kernel
theorem dX9_init_49 : decode cX9_init 49 = .ok (.putfield 30, 3) := by decide +kernel
theorem dX9_init_52 : decode cX9_init 52 = .ok (.aload_n 0, 1) := by decide +kernel
theorem dX9_init_53 : decode cX9_init 53 = .ok (.bipush 50, 2) := by decide +kernel
theorem dX9_init_55 : decode cX9_init 55 = .ok (.newarray .int, 2) := by decide +kernel
theorem dX9_init_57 : decode cX9_init 57 = .ok (.putfield 33, 3) := by decide +kernel
theorem dX9_init_60 : decode cX9_init 60 = .ok (.aload_n 0, 1) := by decide +kernel
theorem dX9_init_61 : decode cX9_init 61 = .ok (.bipush 25, 2) := by decide +kernel
theorem dX9_init_63 : decode cX9_init 63 = .ok (.newarray .boolean, 2) := by decide +kernel
theorem dX9_init_65 : decode cX9_init 65 = .ok (.putfield 36, 3) := by decide +kernel
theorem dX9_init_68 : decode cX9_init 68 = .ok (.aload_n 0, 1) := by decide +kernel
theorem dX9_init_69 : decode cX9_init 69 = .ok (.sipush 800, 3) := by decide +kernel
theorem dX9_init_72 : decode cX9_init 72 = .ok (.newarray .int, 2) := by decide +kernel
theorem dX9_init_74 : decode cX9_init 74 = .ok (.putfield 39, 3) := by decide +kernel
theorem dX9_init_77 : decode cX9_init 77 = .ok (.aload_n 0, 1) := by decide +kernel
theorem dX9_init_78 : decode cX9_init 78 = .ok (.sipush 400, 3) := by decide +kernel
theorem dX9_init_81 : decode cX9_init 81 = .ok (.newarray .boolean, 2) := by decide +kernel
theorem dX9_init_83 : decode cX9_init 83 = .ok (.putfield 42, 3) := by decide +kernel
theorem dX9_init_86 : decode cX9_init 86 = .ok (.aload_n 0, 1) := by decide +kernel
theorem dX9_init_87 : decode cX9_init 87 = .ok (.bipush 16, 2) := by decide +kernel
theorem dX9_init_89 : decode cX9_init 89 = .ok (.newarray .int, 2) := by decide +kernel
theorem dX9_init_91 : decode cX9_init 91 = .ok (.putfield 45, 3) := by decide +kernel
theorem dX9_init_94 : decode cX9_init 94 = .ok (.aload_n 0, 1) := by decide +kernel
theorem dX9_init_95 : decode cX9_init 95 = .ok (.bipush 16, 2) := by decide +kernel
theorem dX9_init_97 : decode cX9_init 97 = .ok (.newarray .int, 2) := by decide +kernel
theorem dX9_init_99 : decode cX9_init 99 = .ok (.putfield 48, 3) := by decide +kernel
theorem dX9_init_102 : decode cX9_init 102 = .ok (.aload_n 0, 1) := by decide +kernel
theorem dX9_init_103 : decode cX9_init 103 = .ok (.iconst 5, 1) := by decide +kernel
theorem dX9_init_104 : decode cX9_init 104 = .ok (.newarray .int, 2) := by decide +kernel
theorem dX9_init_106 : decode cX9_init 106 = .ok (.putfield 51, 3) := by decide +kernel
theorem dX9_init_109 : decode cX9_init 109 = .ok (.aload_n 0, 1) := by decide +kernel
theorem dX9_init_110 : decode cX9_init 110 = .ok (.sipush 1500, 3) := by decide +kernel
theorem dX9_init_113 : decode cX9_init 113 = .ok (.newarray .int, 2) := by decide +kernel
theorem dX9_init_115 : decode cX9_init 115 = .ok (.putfield 54, 3) := by decide +kernel
theorem dX9_init_118 : decode cX9_init 118 = .ok (.aload_n 0, 1) := by decide +kernel
theorem dX9_init_119 : decode cX9_init 119 = .ok (.ldc 57, 2) := by decide +kernel
theorem dX9_init_121 : decode cX9_init 121 = .ok (.newarray .long, 2) := by decide +kernel
theorem dX9_init_123 : decode cX9_init 123 = .ok (.putfield 58, 3) := by decide +kernel
theorem dX9_init_126 : decode cX9_init 126 = .ok (.aload_n 0, 1) := by decide +kernel
theorem dX9_init_127 : decode cX9_init 127 = .ok (.ldc 62, 2) := by decide +kernel
theorem dX9_init_129 : decode cX9_init 129 = .ok (.newarray .int, 2) := by decide +kernel
theorem dX9_init_131 : decode cX9_init 131 = .ok (.putfield 63, 3) := by decide +kernel
theorem dX9_init_134 : decode cX9_init 134 = .ok (.aload_n 0, 1) := by decide +kernel
theorem dX9_init_135 : decode cX9_init 135 = .ok (.iconst 5, 1) := by decide +kernel
theorem dX9_init_136 : decode cX9_init 136 = .ok (.newarray .int, 2) := by decide +kernel
theorem dX9_init_138 : decode cX9_init 138 = .ok (.putfield 66, 3) := by decide +kernel
theorem dX9_init_141 : decode cX9_init 141 = .ok (.aload_n 0, 1) := by decide +kernel
theorem dX9_init_142 : decode cX9_init 142 = .ok (.iconst 5, 1) := by decide +kernel
theorem dX9_init_143 : decode cX9_init 143 = .ok (.newarray .int, 2) := by decide +kernel
theorem dX9_init_145 : decode cX9_init 145 = .ok (.putfield 69, 3) := by decide +kernel
theorem dX9_init_148 : decode cX9_init 148 = .ok (.aload_n 0, 1) := by decide +kernel
theorem dX9_init_149 : decode cX9_init 149 = .ok (.bipush 50, 2) := by decide +kernel
theorem dX9_init_151 : decode cX9_init 151 = .ok (.newarray .boolean, 2) := by decide +kernel
theorem dX9_init_153 : decode cX9_init 153 = .ok (.putfield 72, 3) := by decide +kernel
theorem dX9_init_156 : decode cX9_init 156 = .ok (.aload_n 0, 1) := by decide +kernel
theorem dX9_init_157 : decode cX9_init 157 = .ok (.bipush 9, 2) := by decide +kernel
theorem dX9_init_159 : decode cX9_init 159 = .ok (.newarray .int, 2) := by decide +kernel
theorem dX9_init_161 : decode cX9_init 161 = .ok (.putfield 75, 3) := by decide +kernel
theorem dX9_init_164 : decode cX9_init 164 = .ok (.aload_n 0, 1) := by decide +kernel
theorem dX9_init_165 : decode cX9_init 165 = .ok (.bipush 25, 2) := by decide +kernel
theorem dX9_init_167 : decode cX9_init 167 = .ok (.newarray .long, 2) := by decide +kernel
theorem dX9_init_169 : decode cX9_init 169 = .ok (.putfield 78, 3) := by decide +kernel
theorem dX9_init_172 : decode cX9_init 172 = .ok (.aload_n 0, 1) := by decide +kernel
theorem dX9_init_173 : decode cX9_init 173 = .ok (.iconst 5, 1) := by decide +kernel
theorem dX9_init_174 : decode cX9_init 174 = .ok (.newarray .int, 2) := by decide +kernel
theorem dX9_init_176 : decode cX9_init 176 = .ok (.putfield 81, 3) := by decide +kernel
theorem dX9_init_179 : decode cX9_init 179 = .ok (.aload_n 0, 1) := by decide +kernel
theorem dX9_init_180 : decode cX9_init 180 = .ok (.bipush 25, 2) := by decide +kernel
theorem dX9_init_182 : decode cX9_init 182 = .ok (.newarray .long, 2) := by decide +kernel
theorem dX9_init_184 : decode cX9_init 184 = .ok (.putfield 84, 3) := by decide +kernel
theorem dX9_init_187 : decode cX9_init 187 = .ok (.aload_n 0, 1) := by decide +kernel
theorem dX9_init_188 : decode cX9_init 188 = .ok (.bipush 25, 2) := by decide +kernel
theorem dX9_init_190 : decode cX9_init 190 = .ok (.newarray .boolean, 2) := by decide +kernel
theorem dX9_init_192 : decode cX9_init 192 = .ok (.putfield 87, 3) := by decide +kernel
theorem dX9_init_195 : decode cX9_init 195 = .ok (.aload_n 0, 1) := by decide +kernel
theorem dX9_init_196 : decode cX9_init 196 = .ok (.bipush 24, 2) := by decide +kernel
theorem dX9_init_198 : decode cX9_init 198 = .ok (.newarray .int, 2) := by decide +kernel
theorem dX9_init_200 : decode cX9_init 200 = .ok (.putfield 90, 3) := by decide +kernel
theorem dX9_init_203 : decode cX9_init 203 = .ok (.aload_n 0, 1) := by decide +kernel
theorem dX9_init_204 : decode cX9_init 204 = .ok (.bipush 25, 2) := by decide +kernel
theorem dX9_init_206 : decode cX9_init 206 = .ok (.newarray .long, 2) := by decide +kernel
theorem dX9_init_208 : decode cX9_init 208 = .ok (.putfield 93, 3) := by decide +kernel
theorem dX9_init_211 : decode cX9_init 211 = .ok (.aload_n 0, 1) := by decide +kernel
theorem dX9_init_212 : decode cX9_init 212 = .ok (.bipush 90, 2) := by decide +kernel
theorem dX9_init_214 : decode cX9_init 214 = .ok (.newarray .int, 2) := by decide +kernel
theorem dX9_init_216 : decode cX9_init 216 = .ok (.putfield 96, 3) := by decide +kernel
theorem dX9_init_219 : decode cX9_init 219 = .ok (.aload_n 0, 1) := by decide +kernel
theorem dX9_init_220 : decode cX9_init 220 = .ok (.iconst 0, 1) := by decide +kernel
theorem dX9_init_221 : decode cX9_init 221 = .ok (.putfield 99, 3) := by decide +kernel
theorem dX9_init_224 : decode cX9_init 224 = .ok (.return_, 1) := by decide +kernel
theorem dX9_thrown_0 : decode cX9_thrown 0 = .ok (.aload_n 0, 1) := by decide +kernel
theorem dX9_thrown_1 : decode cX9_thrown 1 = .ok (.getfield 103, 3) := by decide +kernel
theorem dX9_thrown_4 : decode cX9_thrown 4 = .ok (.ireturn, 1) := by decide +kernel
theorem dX9_isIn_0 : decode cX9_isIn 0 = .ok (.iload_n 0, 1) := by decide +kernel
theorem dX9_isIn_1 : decode cX9_isIn 1 = .ok (.iload_n 1, 1) := by decide +kernel
theorem dX9_isIn_2 : decode cX9_isIn 2 = .ok (.if_icmp .lt 12, 3) := by decide +kernel
theorem dX9_isIn_5 : decode cX9_isIn 5 = .ok (.iload_n 0, 1) := by decide +kernel
theorem dX9_isIn_6 : decode cX9_isIn 6 = .ok (.iload_n 2, 1) := by decide +kernel
theorem dX9_isIn_7 : decode cX9_isIn 7 = .ok (.if_icmp .gt 7, 3) := by decide +kernel
theorem dX9_isIn_10 : decode cX9_isIn 10 = .ok (.iconst 1, 1) := by decide +kernel
theorem dX9_isIn_11 : decode cX9_isIn 11 = .ok (.goto 4, 3) := by decide +kernel
theorem dX9_isIn_14 : decode cX9_isIn 14 = .ok (.iconst 0, 1) := by decide +kernel
theorem dX9_isIn_15 : decode cX9_isIn 15 = .ok (.ireturn, 1) := by decide +kernel
theorem dX9_feed_0 : decode cX9_feed 0 = .ok (.aload_n 0, 1) := by decide +kernel
theorem dX9_feed_1 : decode cX9_feed 1 = .ok (.iconst 0, 1) := by decide +kernel
theorem dX9_feed_2 : decode cX9_feed 2 = .ok (.putfield 103, 3) := by decide +kernel
theorem dX9_feed_5 : decode cX9_feed 5 = .ok (.aload_n 0, 1) := by decide +kernel
theorem dX9_feed_6 : decode cX9_feed 6 = .ok (.getfield 106, 3) := by decide +kernel
theorem dX9_feed_9 : decode cX9_feed 9 = .ok (.bipush 20, 2) := by decide +kernel
theorem dX9_feed_11 : decode cX9_feed 11 = .ok (.iadd, 1) := by decide +kernel
theorem dX9_feed_12 : decode cX9_feed 12 = .ok (.sipush 400, 3) := by decide +kernel
theorem dX9_feed_15 : decode cX9_feed 15 = .ok (.if_icmp .le 5, 3) := by decide +kernel
theorem dX9_feed_18 : decode cX9_feed 18 = .ok (.iconst (-1), 1) := by decide +kernel
theorem dX9_feed_19 : decode cX9_feed 19 = .ok (.ireturn, 1) := by decide +kernel
theorem dX9_feed_20 : decode cX9_feed 20 = .ok (.iconst 0, 1) := by decide +kernel
theorem dX9_feed_21 : decode cX9_feed 21 = .ok (.istore 6, 2) := by decide +kernel
theorem dX9_feed_23 : decode cX9_feed 23 = .ok (.iload 6, 2) := by decide +kernel
theorem dX9_feed_25 : decode cX9_feed 25 = .ok (.bipush 20, 2) := by decide +kernel
theorem dX9_feed_27 : decode cX9_feed 27 = .ok (.if_icmp .ge 93, 3) := by decide +kernel
theorem dX9_feed_30 : decode cX9_feed 30 = .ok (.iload 6, 2) := by decide +kernel
theorem dX9_feed_32 : decode cX9_feed 32 = .ok (.iconst 4, 1) := by decide +kernel
theorem dX9_feed_33 : decode cX9_feed 33 = .ok (.if_icmp .ge 7, 3) := by decide +kernel
theorem dX9_feed_36 : decode cX9_feed 36 = .ok (.iload_n 1, 1) := by decide +kernel
theorem dX9_feed_37 : decode cX9_feed 37 = .ok (.goto 39, 3) := by decide +kernel
theorem dX9_feed_40 : decode cX9_feed 40 = .ok (.iload 6, 2) := by decide +kernel
theorem dX9_feed_42 : decode cX9_feed 42 = .ok (.bipush 8, 2) := by decide +kernel
theorem dX9_feed_44 : decode cX9_feed 44 = .ok (.if_icmp .ge 7, 3) := by decide +kernel
theorem dX9_feed_47 : decode cX9_feed 47 = .ok (.iload_n 2, 1) := by decide +kernel
theorem dX9_feed_48 : decode cX9_feed 48 = .ok (.goto 28, 3) := by decide +kernel
theorem dX9_feed_51 : decode cX9_feed 51 = .ok (.iload 6, 2) := by decide +kernel
theorem dX9_feed_53 : decode cX9_feed 53 = .ok (.bipush 12, 2) := by decide +kernel
theorem dX9_feed_55 : decode cX9_feed 55 = .ok (.if_icmp .ge 7, 3) := by decide +kernel
theorem dX9_feed_58 : decode cX9_feed 58 = .ok (.iload_n 3, 1) := by decide +kernel
theorem dX9_feed_59 : decode cX9_feed 59 = .ok (.goto 17, 3) := by decide +kernel
theorem dX9_feed_62 : decode cX9_feed 62 = .ok (.iload 6, 2) := by decide +kernel
theorem dX9_feed_64 : decode cX9_feed 64 = .ok (.bipush 16, 2) := by decide +kernel
theorem dX9_feed_66 : decode cX9_feed 66 = .ok (.if_icmp .ge 8, 3) := by decide +kernel
theorem dX9_feed_69 : decode cX9_feed 69 = .ok (.iload 4, 2) := by decide +kernel
theorem dX9_feed_71 : decode cX9_feed 71 = .ok (.goto 5, 3) := by decide +kernel
theorem dX9_feed_74 : decode cX9_feed 74 = .ok (.iload 5, 2) := by decide +kernel
theorem dX9_feed_76 : decode cX9_feed 76 = .ok (.istore 7, 2) := by decide +kernel
theorem dX9_feed_78 : decode cX9_feed 78 = .ok (.aload_n 0, 1) := by decide +kernel
theorem dX9_feed_79 : decode cX9_feed 79 = .ok (.getfield 7, 3) := by decide +kernel
theorem dX9_feed_82 : decode cX9_feed 82 = .ok (.aload_n 0, 1) := by decide +kernel
theorem dX9_feed_83 : decode cX9_feed 83 = .ok (.getfield 106, 3) := by decide +kernel
theorem dX9_feed_86 : decode cX9_feed 86 = .ok (.iload 7, 2) := by decide +kernel
theorem dX9_feed_88 : decode cX9_feed 88 = .ok (.bipush 24, 2) := by decide +kernel
theorem dX9_feed_90 : decode cX9_feed 90 = .ok (.bipush 8, 2) := by decide +kernel
theorem dX9_feed_92 : decode cX9_feed 92 = .ok (.iload 6, 2) := by decide +kernel
theorem dX9_feed_94 : decode cX9_feed 94 = .ok (.iconst 4, 1) := by decide +kernel
theorem dX9_feed_95 : decode cX9_feed 95 = .ok (.irem, 1) := by decide +kernel
theorem dX9_feed_96 : decode cX9_feed 96 = .ok (.imul, 1) := by decide +kernel
theorem dX9_feed_97 : decode cX9_feed 97 = .ok (.isub, 1) := by decide +kernel
theorem dX9_feed_98 : decode cX9_feed 98 = .ok (.ishr, 1) := by decide +kernel
theorem dX9_feed_99 : decode cX9_feed 99 = .ok (.sipush 255, 3) := by decide +kernel
theorem dX9_feed_102 : decode cX9_feed 102 = .ok (.iand, 1) := by decide +kernel
theorem dX9_feed_103 : decode cX9_feed 103 = .ok (.iastore, 1) := by decide +kernel
theorem dX9_feed_104 : decode cX9_feed 104 = .ok (.aload_n 0, 1) := by decide +kernel
theorem dX9_feed_105 : decode cX9_feed 105 = .ok (.dup, 1) := by decide +kernel
theorem dX9_feed_106 : decode cX9_feed 106 = .ok (.getfield 106, 3) := by decide +kernel
theorem dX9_feed_109 : decode cX9_feed 109 = .ok (.iconst 1, 1) := by decide +kernel
theorem dX9_feed_110 : decode cX9_feed 110 = .ok (.iadd, 1) := by decide +kernel
theorem dX9_feed_111 : decode cX9_feed 111 = .ok (.putfield 106, 3) := by decide +kernel
theorem dX9_feed_114 : decode cX9_feed 114 = .ok (.iinc 6 1, 3) := by decide +kernel
theorem dX9_feed_117 : decode cX9_feed 117 = .ok (.goto (-94), 3) := by decide +kernel
theorem dX9_feed_120 : decode cX9_feed 120 = .ok (.aload_n 0, 1) := by decide +kernel
theorem dX9_feed_121 : decode cX9_feed 121 = .ok (.getfield 106, 3) := by decide +kernel
theorem dX9_feed_124 : decode cX9_feed 124 = .ok (.ireturn, 1) := by decide +kernel
theorem dX9_end_0 : decode cX9_end 0 = .ok (.aload_n 0, 1) := by decide +kernel
theorem dX9_end_1 : decode cX9_end 1 = .ok (.iconst 0, 1) := by decide +kernel
theorem dX9_end_2 : decode cX9_end 2 = .ok (.putfield 103, 3) := by decide +kernel
theorem dX9_end_5 : decode cX9_end 5 = .ok (.iload_n 1, 1) := by decide +kernel
theorem dX9_end_6 : decode cX9_end 6 = .ok (.ifCond .lt 11, 3) := by decide +kernel
theorem dX9_end_9 : decode cX9_end 9 = .ok (.iload_n 1, 1) := by decide +kernel
theorem dX9_end_10 : decode cX9_end 10 = .ok (.aload_n 0, 1) := by decide +kernel
theorem dX9_end_11 : decode cX9_end 11 = .ok (.getfield 106, 3) := by decide +kernel
theorem dX9_end_14 : decode cX9_end 14 = .ok (.if_icmp .le 5, 3) := by decide +kernel
theorem dX9_end_17 : decode cX9_end 17 = .ok (.iconst 0, 1) := by decide +kernel
theorem dX9_end_18 : decode cX9_end 18 = .ok (.ireturn, 1) := by decide +kernel
theorem dX9_end_19 : decode cX9_end 19 = .ok (.aload_n 0, 1) := by decide +kernel
theorem dX9_end_20 : decode cX9_end 20 = .ok (.iload_n 1, 1) := by decide +kernel
theorem dX9_end_21 : decode cX9_end 21 = .ok (.putfield 106, 3) := by decide +kernel
theorem dX9_end_24 : decode cX9_end 24 = .ok (.iconst 1, 1) := by decide +kernel
theorem dX9_end_25 : decode cX9_end 25 = .ok (.ireturn, 1) := by decide +kernel
theorem dX9_wrong_0 : decode cX9_wrong 0 = .ok (.aload_n 0, 1) := by decide +kernel
theorem dX9_wrong_1 : decode cX9_wrong 1 = .ok (.getfield 13, 3) := by decide +kernel
theorem dX9_wrong_4 : decode cX9_wrong 4 = .ok (.iconst (-1), 1) := by decide +kernel
theorem dX9_wrong_5 : decode cX9_wrong 5 = .ok (.if_icmp .ne 11, 3) := by decide +kernel
theorem dX9_wrong_8 : decode cX9_wrong 8 = .ok (.aload_n 0, 1) := by decide +kernel
theorem dX9_wrong_9 : decode cX9_wrong 9 = .ok (.aload_n 0, 1) := by decide +kernel
theorem dX9_wrong_10 : decode cX9_wrong 10 = .ok (.getfield 109, 3) := by decide +kernel
theorem dX9_wrong_13 : decode cX9_wrong 13 = .ok (.putfield 13, 3) := by decide +kernel
theorem dX9_wrong_16 : decode cX9_wrong 16 = .ok (.return_, 1) := by decide +kernel
theorem dX9_here_0 : decode cX9_here 0 = .ok (.aload_n 0, 1) := by decide +kernel
theorem dX9_here_1 : decode cX9_here 1 = .ok (.getfield 109, 3) := by decide +kernel
theorem dX9_here_4 : decode cX9_here 4 = .ok (.aload_n 0, 1) := by decide +kernel
theorem dX9_here_5 : decode cX9_here 5 = .ok (.getfield 112, 3) := by decide +kernel
theorem dX9_here_8 : decode cX9_here 8 = .ok (.if_icmp .ge 58, 3) := by decide +kernel
theorem dX9_here_11 : decode cX9_here 11 = .ok (.aload_n 0, 1) := by decide +kernel
theorem dX9_here_12 : decode cX9_here 12 = .ok (.getfield 7, 3) := by decide +kernel
theorem dX9_here_15 : decode cX9_here 15 = .ok (.aload_n 0, 1) := by decide +kernel
theorem dX9_here_16 : decode cX9_here 16 = .ok (.getfield 109, 3) := by decide +kernel
theorem dX9_here_19 : decode cX9_here 19 = .ok (.iaload, 1) := by decide +kernel
theorem dX9_here_20 : decode cX9_here 20 = .ok (.bipush 32, 2) := by decide +kernel
theorem dX9_here_22 : decode cX9_here 22 = .ok (.if_icmp .eq 31, 3) := by decide +kernel
theorem dX9_here_25 : decode cX9_here 25 = .ok (.aload_n 0, 1) := by decide +kernel
theorem dX9_here_26 : decode cX9_here 26 = .ok (.getfield 7, 3) := by decide +kernel
theorem dX9_here_29 : decode cX9_here 29 = .ok (.aload_n 0, 1) := by decide +kernel
theorem dX9_here_30 : decode cX9_here 30 = .ok (.getfield 109, 3) := by decide +kernel
theorem dX9_here_33 : decode cX9_here 33 = .ok (.iaload, 1) := by decide +kernel
theorem dX9_here_34 : decode cX9_here 34 = .ok (.bipush 9, 2) := by decide +kernel
theorem dX9_here_36 : decode cX9_here 36 = .ok (.if_icmp .eq 17, 3) := by decide +kernel
theorem dX9_here_39 : decode cX9_here 39 = .ok (.aload_n 0, 1) := by decide +kernel
theorem dX9_here_40 : decode cX9_here 40 = .ok (.getfield 7, 3) := by decide +kernel
theorem dX9_here_43 : decode cX9_here 43 = .ok (.aload_n 0, 1) := by decide +kernel
theorem dX9_here_44 : decode cX9_here 44 = .ok (.getfield 109, 3) := by decide +kernel
theorem dX9_here_47 : decode cX9_here 47 = .ok (.iaload, 1) := by decide +kernel
theorem dX9_here_48 : decode cX9_here 48 = .ok (.bipush 10, 2) := by decide +kernel
theorem dX9_here_50 : decode cX9_here 50 = .ok (.if_icmp .ne 16, 3) := by decide +kernel
theorem dX9_here_53 : decode cX9_here 53 = .ok (.aload_n 0, 1) := by decide +kernel
theorem dX9_here_54 : decode cX9_here 54 = .ok (.dup, 1) := by decide +kernel
theorem dX9_here_55 : decode cX9_here 55 = .ok (.getfield 109, 3) := by decide +kernel
theorem dX9_here_58 : decode cX9_here 58 = .ok (.iconst 1, 1) := by decide +kernel
theorem dX9_here_59 : decode cX9_here 59 = .ok (.iadd, 1) := by decide +kernel
theorem dX9_here_60 : decode cX9_here 60 = .ok (.putfield 109, 3) := by decide +kernel
theorem dX9_here_63 : decode cX9_here 63 = .ok (.goto (-63), 3) := by decide +kernel
theorem dX9_here_66 : decode cX9_here 66 = .ok (.aload_n 0, 1) := by decide +kernel
theorem dX9_here_67 : decode cX9_here 67 = .ok (.getfield 109, 3) := by decide +kernel
theorem dX9_here_70 : decode cX9_here 70 = .ok (.aload_n 0, 1) := by decide +kernel
theorem dX9_here_71 : decode cX9_here 71 = .ok (.getfield 112, 3) := by decide +kernel
theorem dX9_here_74 : decode cX9_here 74 = .ok (.if_icmp .ge 15, 3) := by decide +kernel
theorem dX9_here_77 : decode cX9_here 77 = .ok (.aload_n 0, 1) := by decide +kernel
theorem dX9_here_78 : decode cX9_here 78 = .ok (.getfield 7, 3) := by decide +kernel
theorem dX9_here_81 : decode cX9_here 81 = .ok (.aload_n 0, 1) := by decide +kernel
theorem dX9_here_82 : decode cX9_here 82 = .ok (.getfield 109, 3) := by decide +kernel
theorem dX9_here_85 : decode cX9_here 85 = .ok (.iaload, 1) := by decide +kernel
theorem dX9_here_86 : decode cX9_here 86 = .ok (.goto 4, 3) := by decide +kernel
theorem dX9_here_89 : decode cX9_here 89 = .ok (.iconst (-1), 1) := by decide +kernel
theorem dX9_here_90 : decode cX9_here 90 = .ok (.ireturn, 1) := by decide +kernel
theorem dX9_wordSize_0 : decode cX9_wordSize 0 = .ok (.aload_n 0, 1) := by decide +kernel
theorem dX9_wordSize_1 : decode cX9_wordSize 1 = .ok (.invokevirtual 115, 3) := by decide +kernel
theorem dX9_wordSize_4 : decode cX9_wordSize 4 = .ok (.istore_n 1, 1) := by decide +kernel
theorem dX9_wordSize_5 : decode cX9_wordSize 5 = .ok (.aload_n 0, 1) := by decide +kernel
theorem dX9_wordSize_6 : decode cX9_wordSize 6 = .ok (.getfield 109, 3) := by decide +kernel
theorem dX9_wordSize_9 : decode cX9_wordSize 9 = .ok (.istore_n 2, 1) := by decide +kernel
theorem dX9_wordSize_10 : decode cX9_wordSize 10 = .ok (.iload_n 1, 1) := by decide +kernel
theorem dX9_wordSize_11 : decode cX9_wordSize 11 = .ok (.iconst (-1), 1) := by decide +kernel
theorem dX9_wordSize_12 : decode cX9_wordSize 12 = .ok (.if_icmp .eq 39, 3) := by decide +kernel
theorem dX9_wordSize_15 : decode cX9_wordSize 15 = .ok (.iload_n 2, 1) := by decide +kernel
theorem dX9_wordSize_16 : decode cX9_wordSize 16 = .ok (.aload_n 0, 1) := by decide +kernel
theorem dX9_wordSize_17 : decode cX9_wordSize 17 = .ok (.getfield 112, 3) := by decide +kernel
theorem dX9_wordSize_20 : decode cX9_wordSize 20 = .ok (.if_icmp .ge 31, 3) := by decide +kernel
theorem dX9_wordSize_23 : decode cX9_wordSize 23 = .ok (.aload_n 0, 1) := by decide +kernel
theorem dX9_wordSize_24 : decode cX9_wordSize 24 = .ok (.getfield 7, 3) := by decide +kernel
theorem dX9_wordSize_27 : decode cX9_wordSize 27 = .ok (.iload_n 2, 1) := by decide +kernel
theorem dX9_wordSize_28 : decode cX9_wordSize 28 = .ok (.iaload, 1) := by decide +kernel
theorem dX9_wordSize_29 : decode cX9_wordSize 29 = .ok (.bipush 97, 2) := by decide +kernel
theorem dX9_wordSize_31 : decode cX9_wordSize 31 = .ok (.if_icmp .lt 20, 3) := by decide +kernel
theorem dX9_wordSize_34 : decode cX9_wordSize 34 = .ok (.aload_n 0, 1) := by decide +kernel
theorem dX9_wordSize_35 : decode cX9_wordSize 35 = .ok (.getfield 7, 3) := by decide +kernel
theorem dX9_wordSize_38 : decode cX9_wordSize 38 = .ok (.iload_n 2, 1) := by decide +kernel
theorem dX9_wordSize_39 : decode cX9_wordSize 39 = .ok (.iaload, 1) := by decide +kernel
theorem dX9_wordSize_40 : decode cX9_wordSize 40 = .ok (.bipush 122, 2) := by decide +kernel
theorem dX9_wordSize_42 : decode cX9_wordSize 42 = .ok (.if_icmp .gt 9, 3) := by decide +kernel
theorem dX9_wordSize_45 : decode cX9_wordSize 45 = .ok (.iinc 2 1, 3) := by decide +kernel
theorem dX9_wordSize_48 : decode cX9_wordSize 48 = .ok (.goto (-38), 3) := by decide +kernel
theorem dX9_wordSize_51 : decode cX9_wordSize 51 = .ok (.iload_n 2, 1) := by decide +kernel
theorem dX9_wordSize_52 : decode cX9_wordSize 52 = .ok (.aload_n 0, 1) := by decide +kernel
theorem dX9_wordSize_53 : decode cX9_wordSize 53 = .ok (.getfield 109, 3) := by decide +kernel
theorem dX9_wordSize_56 : decode cX9_wordSize 56 = .ok (.isub, 1) := by decide +kernel
theorem dX9_wordSize_57 : decode cX9_wordSize 57 = .ok (.ireturn, 1) := by decide +kernel
theorem dX9_is_0 : decode cX9_is 0 = .ok (.aload_n 0, 1) := by decide +kernel
theorem dX9_is_1 : decode cX9_is 1 = .ok (.invokevirtual 119, 3) := by decide +kernel
theorem dX9_is_4 : decode cX9_is 4 = .ok (.aload_n 1, 1) := by decide +kernel
theorem dX9_is_5 : decode cX9_is 5 = .ok (.invokevirtual 122, 3) := by decide +kernel
theorem dX9_is_8 : decode cX9_is 8 = .ok (.if_icmp .eq 5, 3) := by decide +kernel
theorem dX9_is_11 : decode cX9_is 11 = .ok (.iconst 0, 1) := by decide +kernel
theorem dX9_is_12 : decode cX9_is 12 = .ok (.ireturn, 1) := by decide +kernel
theorem dX9_is_13 : decode cX9_is 13 = .ok (.iconst 0, 1) := by decide +kernel
theorem dX9_is_14 : decode cX9_is 14 = .ok (.istore_n 2, 1) := by decide +kernel
theorem dX9_is_15 : decode cX9_is 15 = .ok (.iload_n 2, 1) := by decide +kernel
theorem dX9_is_16 : decode cX9_is 16 = .ok (.aload_n 1, 1) := by decide +kernel
theorem dX9_is_17 : decode cX9_is 17 = .ok (.invokevirtual 122, 3) := by decide +kernel
theorem dX9_is_20 : decode cX9_is 20 = .ok (.if_icmp .ge 30, 3) := by decide +kernel
theorem dX9_is_23 : decode cX9_is 23 = .ok (.aload_n 0, 1) := by decide +kernel
theorem dX9_is_24 : decode cX9_is 24 = .ok (.getfield 7, 3) := by decide +kernel
theorem dX9_is_27 : decode cX9_is 27 = .ok (.aload_n 0, 1) := by decide +kernel
theorem dX9_is_28 : decode cX9_is 28 = .ok (.getfield 109, 3) := by decide +kernel
theorem dX9_is_31 : decode cX9_is 31 = .ok (.iload_n 2, 1) := by decide +kernel
theorem dX9_is_32 : decode cX9_is 32 = .ok (.iadd, 1) := by decide +kernel
theorem dX9_is_33 : decode cX9_is 33 = .ok (.iaload, 1) := by decide +kernel
theorem dX9_is_34 : decode cX9_is 34 = .ok (.aload_n 1, 1) := by decide +kernel
theorem dX9_is_35 : decode cX9_is 35 = .ok (.iload_n 2, 1) := by decide +kernel
theorem dX9_is_36 : decode cX9_is 36 = .ok (.invokevirtual 127, 3) := by decide +kernel
theorem dX9_is_39 : decode cX9_is 39 = .ok (.if_icmp .eq 5, 3) := by decide +kernel
theorem dX9_is_42 : decode cX9_is 42 = .ok (.iconst 0, 1) := by decide +kernel
theorem dX9_is_43 : decode cX9_is 43 = .ok (.ireturn, 1) := by decide +kernel
theorem dX9_is_44 : decode cX9_is 44 = .ok (.iinc 2 1, 3) := by decide +kernel
theorem dX9_is_47 : decode cX9_is 47 = .ok (.goto (-32), 3) := by decide +kernel
theorem dX9_is_50 : decode cX9_is 50 = .ok (.iconst 1, 1) := by decide +kernel
theorem dX9_is_51 : decode cX9_is 51 = .ok (.ireturn, 1) := by decide +kernel
theorem dX9_takes_0 : decode cX9_takes 0 = .ok (.aload_n 0, 1) := by decide +kernel
theorem dX9_takes_1 : decode cX9_takes 1 = .ok (.getfield 13, 3) := by decide +kernel
theorem dX9_takes_4 : decode cX9_takes 4 = .ok (.iconst (-1), 1) := by decide +kernel
theorem dX9_takes_5 : decode cX9_takes 5 = .ok (.if_icmp .ne 11, 3) := by decide +kernel
theorem dX9_takes_8 : decode cX9_takes 8 = .ok (.aload_n 0, 1) := by decide +kernel
theorem dX9_takes_9 : decode cX9_takes 9 = .ok (.aload_n 1, 1) := by decide +kernel
theorem dX9_takes_10 : decode cX9_takes 10 = .ok (.invokevirtual 131, 3) := by decide +kernel
theorem dX9_takes_13 : decode cX9_takes 13 = .ok (.ifCond .ne 5, 3) := by decide +kernel
theorem dX9_takes_16 : decode cX9_takes 16 = .ok (.iconst 0, 1) := by decide +kernel
theorem dX9_takes_17 : decode cX9_takes 17 = .ok (.ireturn, 1) := by decide +kernel
theorem dX9_takes_18 : decode cX9_takes 18 = .ok (.aload_n 0, 1) := by decide +kernel
theorem dX9_takes_19 : decode cX9_takes 19 = .ok (.dup, 1) := by decide +kernel
theorem dX9_takes_20 : decode cX9_takes 20 = .ok (.getfield 109, 3) := by decide +kernel
theorem dX9_takes_23 : decode cX9_takes 23 = .ok (.aload_n 1, 1) := by decide +kernel
theorem dX9_takes_24 : decode cX9_takes 24 = .ok (.invokevirtual 122, 3) := by decide +kernel
theorem dX9_takes_27 : decode cX9_takes 27 = .ok (.iadd, 1) := by decide +kernel
theorem dX9_takes_28 : decode cX9_takes 28 = .ok (.putfield 109, 3) := by decide +kernel
theorem dX9_takes_31 : decode cX9_takes 31 = .ok (.iconst 1, 1) := by decide +kernel
theorem dX9_takes_32 : decode cX9_takes 32 = .ok (.ireturn, 1) := by decide +kernel
theorem dX9_must_0 : decode cX9_must 0 = .ok (.aload_n 0, 1) := by decide +kernel
theorem dX9_must_1 : decode cX9_must 1 = .ok (.getfield 13, 3) := by decide +kernel
theorem dX9_must_4 : decode cX9_must 4 = .ok (.iconst (-1), 1) := by decide +kernel
theorem dX9_must_5 : decode cX9_must 5 = .ok (.if_icmp .eq 4, 3) := by decide +kernel
theorem dX9_must_8 : decode cX9_must 8 = .ok (.return_, 1) := by decide +kernel
theorem dX9_must_9 : decode cX9_must 9 = .ok (.aload_n 0, 1) := by decide +kernel
theorem dX9_must_10 : decode cX9_must 10 = .ok (.invokevirtual 115, 3) := by decide +kernel
theorem dX9_must_13 : decode cX9_must 13 = .ok (.iload_n 1, 1) := by decide +kernel
theorem dX9_must_14 : decode cX9_must 14 = .ok (.if_icmp .ne 16, 3) := by decide +kernel
theorem dX9_must_17 : decode cX9_must 17 = .ok (.aload_n 0, 1) := by decide +kernel
theorem dX9_must_18 : decode cX9_must 18 = .ok (.dup, 1) := by decide +kernel
theorem dX9_must_19 : decode cX9_must 19 = .ok (.getfield 109, 3) := by decide +kernel
theorem dX9_must_22 : decode cX9_must 22 = .ok (.iconst 1, 1) := by decide +kernel
theorem dX9_must_23 : decode cX9_must 23 = .ok (.iadd, 1) := by decide +kernel
theorem dX9_must_24 : decode cX9_must 24 = .ok (.putfield 109, 3) := by decide +kernel
theorem dX9_must_27 : decode cX9_must 27 = .ok (.goto 7, 3) := by decide +kernel
theorem dX9_must_30 : decode cX9_must 30 = .ok (.aload_n 0, 1) := by decide +kernel
theorem dX9_must_31 : decode cX9_must 31 = .ok (.invokevirtual 135, 3) := by decide +kernel
theorem dX9_must_34 : decode cX9_must 34 = .ok (.return_, 1) := by decide +kernel
theorem dX9_isDigit_0 : decode cX9_isDigit 0 = .ok (.iload_n 1, 1) := by decide +kernel
theorem dX9_isDigit_1 : decode cX9_isDigit 1 = .ok (.aload_n 0, 1) := by decide +kernel
theorem dX9_isDigit_2 : decode cX9_isDigit 2 = .ok (.getfield 112, 3) := by decide +kernel
theorem dX9_isDigit_5 : decode cX9_isDigit 5 = .ok (.if_icmp .ge 29, 3) := by decide +kernel
theorem dX9_isDigit_8 : decode cX9_isDigit 8 = .ok (.aload_n 0, 1) := by decide +kernel
theorem dX9_isDigit_9 : decode cX9_isDigit 9 = .ok (.getfield 7, 3) := by decide +kernel
theorem dX9_isDigit_12 : decode cX9_isDigit 12 = .ok (.iload_n 1, 1) := by decide +kernel
theorem dX9_isDigit_13 : decode cX9_isDigit 13 = .ok (.iaload, 1) := by decide +kernel
theorem dX9_isDigit_14 : decode cX9_isDigit 14 = .ok (.bipush 48, 2) := by decide +kernel
theorem dX9_isDigit_16 : decode cX9_isDigit 16 = .ok (.if_icmp .lt 18, 3) := by decide +kernel
theorem dX9_isDigit_19 : decode cX9_isDigit 19 = .ok (.aload_n 0, 1) := by decide +kernel
theorem dX9_isDigit_20 : decode cX9_isDigit 20 = .ok (.getfield 7, 3) := by decide +kernel
theorem dX9_isDigit_23 : decode cX9_isDigit 23 = .ok (.iload_n 1, 1) := by decide +kernel
theorem dX9_isDigit_24 : decode cX9_isDigit 24 = .ok (.iaload, 1) := by decide +kernel
theorem dX9_isDigit_25 : decode cX9_isDigit 25 = .ok (.bipush 57, 2) := by decide +kernel
theorem dX9_isDigit_27 : decode cX9_isDigit 27 = .ok (.if_icmp .gt 7, 3) := by decide +kernel
theorem dX9_isDigit_30 : decode cX9_isDigit 30 = .ok (.iconst 1, 1) := by decide +kernel
theorem dX9_isDigit_31 : decode cX9_isDigit 31 = .ok (.goto 4, 3) := by decide +kernel
theorem dX9_isDigit_34 : decode cX9_isDigit 34 = .ok (.iconst 0, 1) := by decide +kernel
theorem dX9_isDigit_35 : decode cX9_isDigit 35 = .ok (.ireturn, 1) := by decide +kernel
theorem dX9_digit_0 : decode cX9_digit 0 = .ok (.aload_n 0, 1) := by decide +kernel
theorem dX9_digit_1 : decode cX9_digit 1 = .ok (.getfield 13, 3) := by decide +kernel
theorem dX9_digit_4 : decode cX9_digit 4 = .ok (.iconst (-1), 1) := by decide +kernel
theorem dX9_digit_5 : decode cX9_digit 5 = .ok (.if_icmp .eq 5, 3) := by decide +kernel
theorem dX9_digit_8 : decode cX9_digit 8 = .ok (.iload_n 1, 1) := by decide +kernel
theorem dX9_digit_9 : decode cX9_digit 9 = .ok (.ireturn, 1) := by decide +kernel
theorem dX9_digit_10 : decode cX9_digit 10 = .ok (.aload_n 0, 1) := by decide +kernel
theorem dX9_digit_11 : decode cX9_digit 11 = .ok (.invokevirtual 115, 3) := by decide +kernel
theorem dX9_digit_14 : decode cX9_digit 14 = .ok (.istore_n 3, 1) := by decide +kernel
theorem dX9_digit_15 : decode cX9_digit 15 = .ok (.iload_n 3, 1) := by decide +kernel
theorem dX9_digit_16 : decode cX9_digit 16 = .ok (.iconst (-1), 1) := by decide +kernel
theorem dX9_digit_17 : decode cX9_digit 17 = .ok (.if_icmp .eq 39, 3) := by decide +kernel
theorem dX9_digit_20 : decode cX9_digit 20 = .ok (.aload_n 0, 1) := by decide +kernel
theorem dX9_digit_21 : decode cX9_digit 21 = .ok (.aload_n 0, 1) := by decide +kernel
theorem dX9_digit_22 : decode cX9_digit 22 = .ok (.getfield 109, 3) := by decide +kernel
theorem dX9_digit_25 : decode cX9_digit 25 = .ok (.invokevirtual 138, 3) := by decide +kernel
theorem dX9_digit_28 : decode cX9_digit 28 = .ok (.ifCond .eq 28, 3) := by decide +kernel
theorem dX9_digit_31 : decode cX9_digit 31 = .ok (.aload_n 0, 1) := by decide +kernel
theorem dX9_digit_32 : decode cX9_digit 32 = .ok (.aload_n 0, 1) := by decide +kernel
theorem dX9_digit_33 : decode cX9_digit 33 = .ok (.getfield 109, 3) := by decide +kernel
theorem dX9_digit_36 : decode cX9_digit 36 = .ok (.iconst 1, 1) := by decide +kernel
theorem dX9_digit_37 : decode cX9_digit 37 = .ok (.iadd, 1) := by decide +kernel
theorem dX9_digit_38 : decode cX9_digit 38 = .ok (.invokevirtual 138, 3) := by decide +kernel
theorem dX9_digit_41 : decode cX9_digit 41 = .ok (.ifCond .ne 15, 3) := by decide +kernel
theorem dX9_digit_44 : decode cX9_digit 44 = .ok (.iload_n 3, 1) := by decide +kernel
theorem dX9_digit_45 : decode cX9_digit 45 = .ok (.bipush 48, 2) := by decide +kernel
theorem dX9_digit_47 : decode cX9_digit 47 = .ok (.isub, 1) := by decide +kernel
theorem dX9_digit_48 : decode cX9_digit 48 = .ok (.iload_n 1, 1) := by decide +kernel
theorem dX9_digit_49 : decode cX9_digit 49 = .ok (.iload_n 2, 1) := by decide +kernel
theorem dX9_digit_50 : decode cX9_digit 50 = .ok (.invokestatic 142, 3) := by decide +kernel
theorem dX9_digit_53 : decode cX9_digit 53 = .ok (.ifCond .ne 7, 3) := by decide +kernel
theorem dX9_digit_56 : decode cX9_digit 56 = .ok (.aload_n 0, 1) := by decide +kernel
theorem dX9_digit_57 : decode cX9_digit 57 = .ok (.invokevirtual 135, 3) := by decide +kernel
theorem dX9_digit_60 : decode cX9_digit 60 = .ok (.aload_n 0, 1) := by decide +kernel
theorem dX9_digit_61 : decode cX9_digit 61 = .ok (.getfield 13, 3) := by decide +kernel
theorem dX9_digit_64 : decode cX9_digit 64 = .ok (.iconst (-1), 1) := by decide +kernel
theorem dX9_digit_65 : decode cX9_digit 65 = .ok (.if_icmp .eq 5, 3) := by decide +kernel
theorem dX9_digit_68 : decode cX9_digit 68 = .ok (.iload_n 1, 1) := by decide +kernel
theorem dX9_digit_69 : decode cX9_digit 69 = .ok (.ireturn, 1) := by decide +kernel
theorem dX9_digit_70 : decode cX9_digit 70 = .ok (.aload_n 0, 1) := by decide +kernel
theorem dX9_digit_71 : decode cX9_digit 71 = .ok (.dup, 1) := by decide +kernel
theorem dX9_digit_72 : decode cX9_digit 72 = .ok (.getfield 109, 3) := by decide +kernel
theorem dX9_digit_75 : decode cX9_digit 75 = .ok (.iconst 1, 1) := by decide +kernel
theorem dX9_digit_76 : decode cX9_digit 76 = .ok (.iadd, 1) := by decide +kernel
theorem dX9_digit_77 : decode cX9_digit 77 = .ok (.putfield 109, 3) := by decide +kernel
theorem dX9_digit_80 : decode cX9_digit 80 = .ok (.iload_n 3, 1) := by decide +kernel
theorem dX9_digit_81 : decode cX9_digit 81 = .ok (.bipush 48, 2) := by decide +kernel
theorem dX9_digit_83 : decode cX9_digit 83 = .ok (.isub, 1) := by decide +kernel
theorem dX9_digit_84 : decode cX9_digit 84 = .ok (.ireturn, 1) := by decide +kernel
theorem dX9_pipeLine_0 : decode cX9_pipeLine 0 = .ok (.aload_n 0, 1) := by decide +kernel
theorem dX9_pipeLine_1 : decode cX9_pipeLine 1 = .ok (.dup, 1) := by decide +kernel
theorem dX9_pipeLine_2 : decode cX9_pipeLine 2 = .ok (.getfield 109, 3) := by decide +kernel
theorem dX9_pipeLine_5 : decode cX9_pipeLine 5 = .ok (.iconst 4, 1) := by decide +kernel
theorem dX9_pipeLine_6 : decode cX9_pipeLine 6 = .ok (.iadd, 1) := by decide +kernel
theorem dX9_pipeLine_7 : decode cX9_pipeLine 7 = .ok (.putfield 109, 3) := by decide +kernel
theorem dX9_pipeLine_10 : decode cX9_pipeLine 10 = .ok (.aload_n 0, 1) := by decide +kernel
theorem dX9_pipeLine_11 : decode cX9_pipeLine 11 = .ok (.iconst 0, 1) := by decide +kernel
theorem dX9_pipeLine_12 : decode cX9_pipeLine 12 = .ok (.aload_n 0, 1) := by decide +kernel
theorem dX9_pipeLine_13 : decode cX9_pipeLine 13 = .ok (.getfield 146, 3) := by decide +kernel
theorem dX9_pipeLine_16 : decode cX9_pipeLine 16 = .ok (.iconst 1, 1) := by decide +kernel
theorem dX9_pipeLine_17 : decode cX9_pipeLine 17 = .ok (.isub, 1) := by decide +kernel
theorem dX9_pipeLine_18 : decode cX9_pipeLine 18 = .ok (.invokevirtual 149, 3) := by decide +kernel
theorem dX9_pipeLine_21 : decode cX9_pipeLine 21 = .ok (.istore_n 2, 1) := by decide +kernel
theorem dX9_pipeLine_22 : decode cX9_pipeLine 22 = .ok (.aload_n 0, 1) := by decide +kernel
theorem dX9_pipeLine_23 : decode cX9_pipeLine 23 = .ok (.iconst 0, 1) := by decide +kernel
theorem dX9_pipeLine_24 : decode cX9_pipeLine 24 = .ok (.aload_n 0, 1) := by decide +kernel
theorem dX9_pipeLine_25 : decode cX9_pipeLine 25 = .ok (.getfield 153, 3) := by decide +kernel
theorem dX9_pipeLine_28 : decode cX9_pipeLine 28 = .ok (.iconst 1, 1) := by decide +kernel
theorem dX9_pipeLine_29 : decode cX9_pipeLine 29 = .ok (.isub, 1) := by decide +kernel
theorem dX9_pipeLine_30 : decode cX9_pipeLine 30 = .ok (.invokevirtual 149, 3) := by decide +kernel
theorem dX9_pipeLine_33 : decode cX9_pipeLine 33 = .ok (.istore_n 3, 1) := by decide +kernel
theorem dX9_pipeLine_34 : decode cX9_pipeLine 34 = .ok (.aload_n 0, 1) := by decide +kernel
theorem dX9_pipeLine_35 : decode cX9_pipeLine 35 = .ok (.getfield 13, 3) := by decide +kernel
theorem dX9_pipeLine_38 : decode cX9_pipeLine 38 = .ok (.iconst (-1), 1) := by decide +kernel
theorem dX9_pipeLine_39 : decode cX9_pipeLine 39 = .ok (.if_icmp .eq 4, 3) := by decide +kernel
theorem dX9_pipeLine_42 : decode cX9_pipeLine 42 = .ok (.return_, 1) := by decide +kernel
theorem dX9_pipeLine_43 : decode cX9_pipeLine 43 = .ok (.aload_n 0, 1) := by decide +kernel
theorem dX9_pipeLine_44 : decode cX9_pipeLine 44 = .ok (.ldc 156, 2) := by decide +kernel
theorem dX9_pipeLine_46 : decode cX9_pipeLine 46 = .ok (.invokevirtual 131, 3) := by decide +kernel
theorem dX9_pipeLine_49 : decode cX9_pipeLine 49 = .ok (.istore 4, 2) := by decide +kernel
theorem dX9_pipeLine_51 : decode cX9_pipeLine 51 = .ok (.bipush 10, 2) := by decide +kernel
theorem dX9_pipeLine_53 : decode cX9_pipeLine 53 = .ok (.iload_n 3, 1) := by decide +kernel
theorem dX9_pipeLine_54 : decode cX9_pipeLine 54 = .ok (.imul, 1) := by decide +kernel
theorem dX9_pipeLine_55 : decode cX9_pipeLine 55 = .ok (.iconst 2, 1) := by decide +kernel
theorem dX9_pipeLine_56 : decode cX9_pipeLine 56 = .ok (.iload_n 2, 1) := by decide +kernel
theorem dX9_pipeLine_57 : decode cX9_pipeLine 57 = .ok (.imul, 1) := by decide +kernel
theorem dX9_pipeLine_58 : decode cX9_pipeLine 58 = .ok (.iadd, 1) := by decide +kernel
theorem dX9_pipeLine_59 : decode cX9_pipeLine 59 = .ok (.iload 4, 2) := by decide +kernel
theorem dX9_pipeLine_61 : decode cX9_pipeLine 61 = .ok (.ifCond .eq 7, 3) := by decide +kernel
theorem dX9_pipeLine_64 : decode cX9_pipeLine 64 = .ok (.iconst 1, 1) := by decide +kernel
theorem dX9_pipeLine_65 : decode cX9_pipeLine 65 = .ok (.goto 4, 3) := by decide +kernel
theorem dX9_pipeLine_68 : decode cX9_pipeLine 68 = .ok (.iconst 0, 1) := by decide +kernel
theorem dX9_pipeLine_69 : decode cX9_pipeLine 69 = .ok (.iadd, 1) := by decide +kernel
theorem dX9_pipeLine_70 : decode cX9_pipeLine 70 = .ok (.istore 5, 2) := by decide +kernel
theorem dX9_pipeLine_72 : decode cX9_pipeLine 72 = .ok (.iload 4, 2) := by decide +kernel
theorem dX9_pipeLine_74 : decode cX9_pipeLine 74 = .ok (.ifCond .eq 21, 3) := by decide +kernel
theorem dX9_pipeLine_77 : decode cX9_pipeLine 77 = .ok (.iload_n 3, 1) := by decide +kernel
theorem dX9_pipeLine_78 : decode cX9_pipeLine 78 = .ok (.iconst 1, 1) := by decide +kernel
theorem dX9_pipeLine_79 : decode cX9_pipeLine 79 = .ok (.iadd, 1) := by decide +kernel
theorem dX9_pipeLine_80 : decode cX9_pipeLine 80 = .ok (.aload_n 0, 1) := by decide +kernel
theorem dX9_pipeLine_81 : decode cX9_pipeLine 81 = .ok (.getfield 153, 3) := by decide +kernel
theorem dX9_pipeLine_84 : decode cX9_pipeLine 84 = .ok (.if_icmp .ge 7, 3) := by decide +kernel
theorem dX9_pipeLine_87 : decode cX9_pipeLine 87 = .ok (.iconst 1, 1) := by decide +kernel
theorem dX9_pipeLine_88 : decode cX9_pipeLine 88 = .ok (.goto 31, 3) := by decide +kernel
theorem dX9_pipeLine_91 : decode cX9_pipeLine 91 = .ok (.iconst 0, 1) := by decide +kernel
theorem dX9_pipeLine_92 : decode cX9_pipeLine 92 = .ok (.goto 27, 3) := by decide +kernel
theorem dX9_pipeLine_95 : decode cX9_pipeLine 95 = .ok (.aload_n 0, 1) := by decide +kernel
theorem dX9_pipeLine_96 : decode cX9_pipeLine 96 = .ok (.ldc 158, 2) := by decide +kernel
theorem dX9_pipeLine_98 : decode cX9_pipeLine 98 = .ok (.invokevirtual 131, 3) := by decide +kernel
theorem dX9_pipeLine_101 : decode cX9_pipeLine 101 = .ok (.ifCond .eq 17, 3) := by decide +kernel
theorem dX9_pipeLine_104 : decode cX9_pipeLine 104 = .ok (.iload_n 2, 1) := by decide +kernel
theorem dX9_pipeLine_105 : decode cX9_pipeLine 105 = .ok (.iconst 1, 1) := by decide +kernel
theorem dX9_pipeLine_106 : decode cX9_pipeLine 106 = .ok (.iadd, 1) := by decide +kernel
theorem dX9_pipeLine_107 : decode cX9_pipeLine 107 = .ok (.aload_n 0, 1) := by decide +kernel
theorem dX9_pipeLine_108 : decode cX9_pipeLine 108 = .ok (.getfield 146, 3) := by decide +kernel
theorem dX9_pipeLine_111 : decode cX9_pipeLine 111 = .ok (.if_icmp .ge 7, 3) := by decide +kernel
theorem dX9_pipeLine_114 : decode cX9_pipeLine 114 = .ok (.iconst 1, 1) := by decide +kernel
theorem dX9_pipeLine_115 : decode cX9_pipeLine 115 = .ok (.goto 4, 3) := by decide +kernel
theorem dX9_pipeLine_118 : decode cX9_pipeLine 118 = .ok (.iconst 0, 1) := by decide +kernel
theorem dX9_pipeLine_119 : decode cX9_pipeLine 119 = .ok (.istore 6, 2) := by decide +kernel
theorem dX9_pipeLine_121 : decode cX9_pipeLine 121 = .ok (.iload 6, 2) := by decide +kernel
theorem dX9_pipeLine_123 : decode cX9_pipeLine 123 = .ok (.ifCond .eq 13, 3) := by decide +kernel
theorem dX9_pipeLine_126 : decode cX9_pipeLine 126 = .ok (.aload_n 0, 1) := by decide +kernel
theorem dX9_pipeLine_127 : decode cX9_pipeLine 127 = .ok (.getfield 20, 3) := by decide +kernel
theorem dX9_pipeLine_130 : decode cX9_pipeLine 130 = .ok (.iload 5, 2) := by decide +kernel
theorem dX9_pipeLine_132 : decode cX9_pipeLine 132 = .ok (.baload, 1) := by decide +kernel
theorem dX9_pipeLine_133 : decode cX9_pipeLine 133 = .ok (.ifCond .eq 7, 3) := by decide +kernel
theorem dX9_pipeLine_136 : decode cX9_pipeLine 136 = .ok (.aload_n 0, 1) := by decide +kernel
theorem dX9_pipeLine_137 : decode cX9_pipeLine 137 = .ok (.invokevirtual 135, 3) := by decide +kernel
theorem dX9_pipeLine_140 : decode cX9_pipeLine 140 = .ok (.aload_n 0, 1) := by decide +kernel
theorem dX9_pipeLine_141 : decode cX9_pipeLine 141 = .ok (.getfield 13, 3) := by decide +kernel
