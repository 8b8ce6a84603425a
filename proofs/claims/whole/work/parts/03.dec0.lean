theorem dX0_init_0 : decode cX0_init 0 = .ok (.aload_n 0, 1) := by decide +kernel
theorem dX0_init_1 : decode cX0_init 1 = .ok (.invokespecial 3, 3) := by decide +kernel
theorem dX0_init_4 : decode cX0_init 4 = .ok (.aload_n 0, 1) := by decide +kernel
theorem dX0_init_5 : decode cX0_init 5 = .ok (.bipush 50, 2) := by decide +kernel
theorem dX0_init_7 : decode cX0_init 7 = .ok (.newarray .long, 2) := by decide +kernel
theorem dX0_init_9 : decode cX0_init 9 = .ok (.putfield 9, 3) := by decide +kernel
theorem dX0_init_12 : decode cX0_init 12 = .ok (.aload_n 0, 1) := by decide +kernel
theorem dX0_init_13 : decode cX0_init 13 = .ok (.sipush 3168, 3) := by decide +kernel
theorem dX0_init_16 : decode cX0_init 16 = .ok (.newarray .long, 2) := by decide +kernel
theorem dX0_init_18 : decode cX0_init 18 = .ok (.putfield 15, 3) := by decide +kernel
theorem dX0_init_21 : decode cX0_init 21 = .ok (.aload_n 0, 1) := by decide +kernel
theorem dX0_init_22 : decode cX0_init 22 = .ok (.sipush 132, 3) := by decide +kernel
theorem dX0_init_25 : decode cX0_init 25 = .ok (.newarray .long, 2) := by decide +kernel
theorem dX0_init_27 : decode cX0_init 27 = .ok (.putfield 18, 3) := by decide +kernel
theorem dX0_init_30 : decode cX0_init 30 = .ok (.aload_n 0, 1) := by decide +kernel
theorem dX0_init_31 : decode cX0_init 31 = .ok (.aload_n 1, 1) := by decide +kernel
theorem dX0_init_32 : decode cX0_init 32 = .ok (.putfield 21, 3) := by decide +kernel
theorem dX0_init_35 : decode cX0_init 35 = .ok (.return_, 1) := by decide +kernel
theorem dX0_weigh_0 : decode cX0_weigh 0 = .ok (.aload_n 0, 1) := by decide +kernel
theorem dX0_weigh_1 : decode cX0_weigh 1 = .ok (.getfield 25, 3) := by decide +kernel
theorem dX0_weigh_4 : decode cX0_weigh 4 = .ok (.aload_n 1, 1) := by decide +kernel
theorem dX0_weigh_5 : decode cX0_weigh 5 = .ok (.if_acmp .ne 22, 3) := by decide +kernel
theorem dX0_weigh_8 : decode cX0_weigh 8 = .ok (.aload_n 0, 1) := by decide +kernel
theorem dX0_weigh_9 : decode cX0_weigh 9 = .ok (.getfield 29, 3) := by decide +kernel
theorem dX0_weigh_12 : decode cX0_weigh 12 = .ok (.iload_n 2, 1) := by decide +kernel
theorem dX0_weigh_13 : decode cX0_weigh 13 = .ok (.if_icmp .ne 14, 3) := by decide +kernel
theorem dX0_weigh_16 : decode cX0_weigh 16 = .ok (.aload_n 0, 1) := by decide +kernel
theorem dX0_weigh_17 : decode cX0_weigh 17 = .ok (.getfield 33, 3) := by decide +kernel
theorem dX0_weigh_20 : decode cX0_weigh 20 = .ok (.iload_n 3, 1) := by decide +kernel
theorem dX0_weigh_21 : decode cX0_weigh 21 = .ok (.iload_n 2, 1) := by decide +kernel
theorem dX0_weigh_22 : decode cX0_weigh 22 = .ok (.isub, 1) := by decide +kernel
theorem dX0_weigh_23 : decode cX0_weigh 23 = .ok (.if_icmp .ne 4, 3) := by decide +kernel
theorem dX0_weigh_26 : decode cX0_weigh 26 = .ok (.return_, 1) := by decide +kernel
theorem dX0_weigh_27 : decode cX0_weigh 27 = .ok (.aload_n 0, 1) := by decide +kernel
theorem dX0_weigh_28 : decode cX0_weigh 28 = .ok (.aload_n 1, 1) := by decide +kernel
theorem dX0_weigh_29 : decode cX0_weigh 29 = .ok (.putfield 25, 3) := by decide +kernel
theorem dX0_weigh_32 : decode cX0_weigh 32 = .ok (.aload_n 0, 1) := by decide +kernel
theorem dX0_weigh_33 : decode cX0_weigh 33 = .ok (.iload_n 2, 1) := by decide +kernel
theorem dX0_weigh_34 : decode cX0_weigh 34 = .ok (.putfield 29, 3) := by decide +kernel
theorem dX0_weigh_37 : decode cX0_weigh 37 = .ok (.aload_n 0, 1) := by decide +kernel
theorem dX0_weigh_38 : decode cX0_weigh 38 = .ok (.iload_n 3, 1) := by decide +kernel
theorem dX0_weigh_39 : decode cX0_weigh 39 = .ok (.iload_n 2, 1) := by decide +kernel
theorem dX0_weigh_40 : decode cX0_weigh 40 = .ok (.isub, 1) := by decide +kernel
theorem dX0_weigh_41 : decode cX0_weigh 41 = .ok (.putfield 33, 3) := by decide +kernel
theorem dX0_weigh_44 : decode cX0_weigh 44 = .ok (.aload_n 0, 1) := by decide +kernel
theorem dX0_weigh_45 : decode cX0_weigh 45 = .ok (.invokevirtual 36, 3) := by decide +kernel
theorem dX0_weigh_48 : decode cX0_weigh 48 = .ok (.aload_n 0, 1) := by decide +kernel
theorem dX0_weigh_49 : decode cX0_weigh 49 = .ok (.invokevirtual 39, 3) := by decide +kernel
theorem dX0_weigh_52 : decode cX0_weigh 52 = .ok (.return_, 1) := by decide +kernel
theorem dX0_goDown_0 : decode cX0_goDown 0 = .ok (.iconst 0, 1) := by decide +kernel
theorem dX0_goDown_1 : decode cX0_goDown 1 = .ok (.istore_n 1, 1) := by decide +kernel
theorem dX0_goDown_2 : decode cX0_goDown 2 = .ok (.iload_n 1, 1) := by decide +kernel
theorem dX0_goDown_3 : decode cX0_goDown 3 = .ok (.aload_n 0, 1) := by decide +kernel
theorem dX0_goDown_4 : decode cX0_goDown 4 = .ok (.getfield 21, 3) := by decide +kernel
theorem dX0_goDown_7 : decode cX0_goDown 7 = .ok (.getfield 42, 3) := by decide +kernel
theorem dX0_goDown_10 : decode cX0_goDown 10 = .ok (.if_icmp .ge 16, 3) := by decide +kernel
theorem dX0_goDown_13 : decode cX0_goDown 13 = .ok (.aload_n 0, 1) := by decide +kernel
theorem dX0_goDown_14 : decode cX0_goDown 14 = .ok (.getfield 18, 3) := by decide +kernel
theorem dX0_goDown_17 : decode cX0_goDown 17 = .ok (.iload_n 1, 1) := by decide +kernel
theorem dX0_goDown_18 : decode cX0_goDown 18 = .ok (.lconst 0, 1) := by decide +kernel
theorem dX0_goDown_19 : decode cX0_goDown 19 = .ok (.lastore, 1) := by decide +kernel
theorem dX0_goDown_20 : decode cX0_goDown 20 = .ok (.iinc 1 1, 3) := by decide +kernel
theorem dX0_goDown_23 : decode cX0_goDown 23 = .ok (.goto (-21), 3) := by decide +kernel
theorem dX0_goDown_26 : decode cX0_goDown 26 = .ok (.aload_n 0, 1) := by decide +kernel
theorem dX0_goDown_27 : decode cX0_goDown 27 = .ok (.getfield 18, 3) := by decide +kernel
theorem dX0_goDown_30 : decode cX0_goDown 30 = .ok (.aload_n 0, 1) := by decide +kernel
theorem dX0_goDown_31 : decode cX0_goDown 31 = .ok (.getfield 21, 3) := by decide +kernel
theorem dX0_goDown_34 : decode cX0_goDown 34 = .ok (.aload_n 0, 1) := by decide +kernel
theorem dX0_goDown_35 : decode cX0_goDown 35 = .ok (.getfield 25, 3) := by decide +kernel
theorem dX0_goDown_38 : decode cX0_goDown 38 = .ok (.invokevirtual 47, 3) := by decide +kernel
theorem dX0_goDown_41 : decode cX0_goDown 41 = .ok (.lconst 1, 1) := by decide +kernel
theorem dX0_goDown_42 : decode cX0_goDown 42 = .ok (.lastore, 1) := by decide +kernel
theorem dX0_goDown_43 : decode cX0_goDown 43 = .ok (.iconst 0, 1) := by decide +kernel
theorem dX0_goDown_44 : decode cX0_goDown 44 = .ok (.istore_n 1, 1) := by decide +kernel
theorem dX0_goDown_45 : decode cX0_goDown 45 = .ok (.iconst 0, 1) := by decide +kernel
theorem dX0_goDown_46 : decode cX0_goDown 46 = .ok (.istore_n 2, 1) := by decide +kernel
theorem dX0_goDown_47 : decode cX0_goDown 47 = .ok (.iload_n 2, 1) := by decide +kernel
theorem dX0_goDown_48 : decode cX0_goDown 48 = .ok (.aload_n 0, 1) := by decide +kernel
theorem dX0_goDown_49 : decode cX0_goDown 49 = .ok (.getfield 21, 3) := by decide +kernel
theorem dX0_goDown_52 : decode cX0_goDown 52 = .ok (.getfield 51, 3) := by decide +kernel
theorem dX0_goDown_55 : decode cX0_goDown 55 = .ok (.if_icmp .ge 116, 3) := by decide +kernel
theorem dX0_goDown_58 : decode cX0_goDown 58 = .ok (.aload_n 0, 1) := by decide +kernel
theorem dX0_goDown_59 : decode cX0_goDown 59 = .ok (.getfield 21, 3) := by decide +kernel
theorem dX0_goDown_62 : decode cX0_goDown 62 = .ok (.getfield 54, 3) := by decide +kernel
theorem dX0_goDown_65 : decode cX0_goDown 65 = .ok (.iload_n 2, 1) := by decide +kernel
theorem dX0_goDown_66 : decode cX0_goDown 66 = .ok (.iaload, 1) := by decide +kernel
theorem dX0_goDown_67 : decode cX0_goDown 67 = .ok (.istore_n 3, 1) := by decide +kernel
theorem dX0_goDown_68 : decode cX0_goDown 68 = .ok (.aload_n 0, 1) := by decide +kernel
theorem dX0_goDown_69 : decode cX0_goDown 69 = .ok (.getfield 21, 3) := by decide +kernel
theorem dX0_goDown_72 : decode cX0_goDown 72 = .ok (.getfield 58, 3) := by decide +kernel
theorem dX0_goDown_75 : decode cX0_goDown 75 = .ok (.iload_n 2, 1) := by decide +kernel
theorem dX0_goDown_76 : decode cX0_goDown 76 = .ok (.iaload, 1) := by decide +kernel
theorem dX0_goDown_77 : decode cX0_goDown 77 = .ok (.istore 4, 2) := by decide +kernel
theorem dX0_goDown_79 : decode cX0_goDown 79 = .ok (.aload_n 0, 1) := by decide +kernel
theorem dX0_goDown_80 : decode cX0_goDown 80 = .ok (.getfield 25, 3) := by decide +kernel
theorem dX0_goDown_83 : decode cX0_goDown 83 = .ok (.iload_n 3, 1) := by decide +kernel
theorem dX0_goDown_84 : decode cX0_goDown 84 = .ok (.invokevirtual 61, 3) := by decide +kernel
theorem dX0_goDown_87 : decode cX0_goDown 87 = .ok (.ifCond .ne 29, 3) := by decide +kernel
theorem dX0_goDown_90 : decode cX0_goDown 90 = .ok (.iload_n 3, 1) := by decide +kernel
theorem dX0_goDown_91 : decode cX0_goDown 91 = .ok (.aload_n 0, 1) := by decide +kernel
theorem dX0_goDown_92 : decode cX0_goDown 92 = .ok (.getfield 25, 3) := by decide +kernel
theorem dX0_goDown_95 : decode cX0_goDown 95 = .ok (.iload_n 3, 1) := by decide +kernel
theorem dX0_goDown_96 : decode cX0_goDown 96 = .ok (.invokevirtual 67, 3) := by decide +kernel
theorem dX0_goDown_99 : decode cX0_goDown 99 = .ok (.invokestatic 71, 3) := by decide +kernel
theorem dX0_goDown_102 : decode cX0_goDown 102 = .ok (.ifCond .eq 63, 3) := by decide +kernel
theorem dX0_goDown_105 : decode cX0_goDown 105 = .ok (.aload_n 0, 1) := by decide +kernel
theorem dX0_goDown_106 : decode cX0_goDown 106 = .ok (.iload 4, 2) := by decide +kernel
theorem dX0_goDown_108 : decode cX0_goDown 108 = .ok (.lconst 1, 1) := by decide +kernel
theorem dX0_goDown_109 : decode cX0_goDown 109 = .ok (.lconst 0, 1) := by decide +kernel
theorem dX0_goDown_110 : decode cX0_goDown 110 = .ok (.invokevirtual 75, 3) := by decide +kernel
theorem dX0_goDown_113 : decode cX0_goDown 113 = .ok (.goto 52, 3) := by decide +kernel
theorem dX0_goDown_116 : decode cX0_goDown 116 = .ok (.iload_n 1, 1) := by decide +kernel
theorem dX0_goDown_117 : decode cX0_goDown 117 = .ok (.bipush 24, 2) := by decide +kernel
theorem dX0_goDown_119 : decode cX0_goDown 119 = .ok (.if_icmp .ge 46, 3) := by decide +kernel
theorem dX0_goDown_122 : decode cX0_goDown 122 = .ok (.aload_n 0, 1) := by decide +kernel
theorem dX0_goDown_123 : decode cX0_goDown 123 = .ok (.getfield 18, 3) := by decide +kernel
theorem dX0_goDown_126 : decode cX0_goDown 126 = .ok (.iconst 0, 1) := by decide +kernel
theorem dX0_goDown_127 : decode cX0_goDown 127 = .ok (.aload_n 0, 1) := by decide +kernel
theorem dX0_goDown_128 : decode cX0_goDown 128 = .ok (.getfield 15, 3) := by decide +kernel
theorem dX0_goDown_131 : decode cX0_goDown 131 = .ok (.iload_n 1, 1) := by decide +kernel
theorem dX0_goDown_132 : decode cX0_goDown 132 = .ok (.sipush 132, 3) := by decide +kernel
theorem dX0_goDown_135 : decode cX0_goDown 135 = .ok (.imul, 1) := by decide +kernel
theorem dX0_goDown_136 : decode cX0_goDown 136 = .ok (.aload_n 0, 1) := by decide +kernel
theorem dX0_goDown_137 : decode cX0_goDown 137 = .ok (.getfield 21, 3) := by decide +kernel
theorem dX0_goDown_140 : decode cX0_goDown 140 = .ok (.getfield 42, 3) := by decide +kernel
theorem dX0_goDown_143 : decode cX0_goDown 143 = .ok (.invokestatic 79, 3) := by decide +kernel
theorem dX0_goDown_146 : decode cX0_goDown 146 = .ok (.iinc 1 1, 3) := by decide +kernel
theorem dX0_goDown_149 : decode cX0_goDown 149 = .ok (.aload_n 0, 1) := by decide +kernel
theorem dX0_goDown_150 : decode cX0_goDown 150 = .ok (.iload 4, 2) := by decide +kernel
theorem dX0_goDown_152 : decode cX0_goDown 152 = .ok (.aload_n 0, 1) := by decide +kernel
theorem dX0_goDown_153 : decode cX0_goDown 153 = .ok (.iload_n 3, 1) := by decide +kernel
theorem dX0_goDown_154 : decode cX0_goDown 154 = .ok (.invokevirtual 85, 3) := by decide +kernel
theorem dX0_goDown_157 : decode cX0_goDown 157 = .ok (.aload_n 0, 1) := by decide +kernel
theorem dX0_goDown_158 : decode cX0_goDown 158 = .ok (.iload_n 3, 1) := by decide +kernel
theorem dX0_goDown_159 : decode cX0_goDown 159 = .ok (.invokevirtual 89, 3) := by decide +kernel
theorem dX0_goDown_162 : decode cX0_goDown 162 = .ok (.invokevirtual 75, 3) := by decide +kernel
theorem dX0_goDown_165 : decode cX0_goDown 165 = .ok (.iinc 2 1, 3) := by decide +kernel
theorem dX0_goDown_168 : decode cX0_goDown 168 = .ok (.goto (-121), 3) := by decide +kernel
theorem dX0_goDown_171 : decode cX0_goDown 171 = .ok (.return_, 1) := by decide +kernel
theorem dX0_goes_0 : decode cX0_goes 0 = .ok (.iload_n 1, 1) := by decide +kernel
theorem dX0_goes_1 : decode cX0_goes 1 = .ok (.invokestatic 92, 3) := by decide +kernel
theorem dX0_goes_4 : decode cX0_goes 4 = .ok (.ifCond .eq 11, 3) := by decide +kernel
theorem dX0_goes_7 : decode cX0_goes 7 = .ok (.aload_n 0, 1) := by decide +kernel
theorem dX0_goes_8 : decode cX0_goes 8 = .ok (.getfield 29, 3) := by decide +kernel
theorem dX0_goes_11 : decode cX0_goes 11 = .ok (.i2l, 1) := by decide +kernel
theorem dX0_goes_12 : decode cX0_goes 12 = .ok (.goto 8, 3) := by decide +kernel
theorem dX0_goes_15 : decode cX0_goes 15 = .ok (.aload_n 0, 1) := by decide +kernel
theorem dX0_goes_16 : decode cX0_goes 16 = .ok (.getfield 33, 3) := by decide +kernel
theorem dX0_goes_19 : decode cX0_goes 19 = .ok (.i2l, 1) := by decide +kernel
theorem dX0_goes_20 : decode cX0_goes 20 = .ok (.lreturn, 1) := by decide +kernel
theorem dX0_stays_0 : decode cX0_stays 0 = .ok (.iload_n 1, 1) := by decide +kernel
theorem dX0_stays_1 : decode cX0_stays 1 = .ok (.invokestatic 92, 3) := by decide +kernel
theorem dX0_stays_4 : decode cX0_stays 4 = .ok (.ifCond .eq 11, 3) := by decide +kernel
theorem dX0_stays_7 : decode cX0_stays 7 = .ok (.aload_n 0, 1) := by decide +kernel
theorem dX0_stays_8 : decode cX0_stays 8 = .ok (.getfield 33, 3) := by decide +kernel
theorem dX0_stays_11 : decode cX0_stays 11 = .ok (.i2l, 1) := by decide +kernel
theorem dX0_stays_12 : decode cX0_stays 12 = .ok (.goto 8, 3) := by decide +kernel
theorem dX0_stays_15 : decode cX0_stays 15 = .ok (.aload_n 0, 1) := by decide +kernel
theorem dX0_stays_16 : decode cX0_stays 16 = .ok (.getfield 29, 3) := by decide +kernel
theorem dX0_stays_19 : decode cX0_stays 19 = .ok (.i2l, 1) := by decide +kernel
theorem dX0_stays_20 : decode cX0_stays 20 = .ok (.lreturn, 1) := by decide +kernel
theorem dX0_spread_0 : decode cX0_spread 0 = .ok (.iconst 0, 1) := by decide +kernel
theorem dX0_spread_1 : decode cX0_spread 1 = .ok (.istore 6, 2) := by decide +kernel
theorem dX0_spread_3 : decode cX0_spread 3 = .ok (.iload 6, 2) := by decide +kernel
theorem dX0_spread_5 : decode cX0_spread 5 = .ok (.aload_n 0, 1) := by decide +kernel
theorem dX0_spread_6 : decode cX0_spread 6 = .ok (.getfield 21, 3) := by decide +kernel
theorem dX0_spread_9 : decode cX0_spread 9 = .ok (.getfield 42, 3) := by decide +kernel
theorem dX0_spread_12 : decode cX0_spread 12 = .ok (.if_icmp .ge 38, 3) := by decide +kernel
theorem dX0_spread_15 : decode cX0_spread 15 = .ok (.aload_n 0, 1) := by decide +kernel
theorem dX0_spread_16 : decode cX0_spread 16 = .ok (.getfield 21, 3) := by decide +kernel
theorem dX0_spread_19 : decode cX0_spread 19 = .ok (.iload_n 1, 1) := by decide +kernel
theorem dX0_spread_20 : decode cX0_spread 20 = .ok (.iload 6, 2) := by decide +kernel
theorem dX0_spread_22 : decode cX0_spread 22 = .ok (.invokevirtual 95, 3) := by decide +kernel
theorem dX0_spread_25 : decode cX0_spread 25 = .ok (.iload 6, 2) := by decide +kernel
theorem dX0_spread_27 : decode cX0_spread 27 = .ok (.if_icmp .ne 17, 3) := by decide +kernel
theorem dX0_spread_30 : decode cX0_spread 30 = .ok (.aload_n 0, 1) := by decide +kernel
theorem dX0_spread_31 : decode cX0_spread 31 = .ok (.getfield 18, 3) := by decide +kernel
theorem dX0_spread_34 : decode cX0_spread 34 = .ok (.iload 6, 2) := by decide +kernel
theorem dX0_spread_36 : decode cX0_spread 36 = .ok (.dup2, 1) := by decide +kernel
theorem dX0_spread_37 : decode cX0_spread 37 = .ok (.laload, 1) := by decide +kernel
theorem dX0_spread_38 : decode cX0_spread 38 = .ok (.lload_n 2, 1) := by decide +kernel
theorem dX0_spread_39 : decode cX0_spread 39 = .ok (.lload 4, 2) := by decide +kernel
theorem dX0_spread_41 : decode cX0_spread 41 = .ok (.ladd, 1) := by decide +kernel
theorem dX0_spread_42 : decode cX0_spread 42 = .ok (.lmul, 1) := by decide +kernel
theorem dX0_spread_43 : decode cX0_spread 43 = .ok (.lastore, 1) := by decide +kernel
theorem dX0_spread_44 : decode cX0_spread 44 = .ok (.iinc 6 1, 3) := by decide +kernel
theorem dX0_spread_47 : decode cX0_spread 47 = .ok (.goto (-44), 3) := by decide +kernel
theorem dX0_spread_50 : decode cX0_spread 50 = .ok (.iconst 0, 1) := by decide +kernel
theorem dX0_spread_51 : decode cX0_spread 51 = .ok (.istore 6, 2) := by decide +kernel
theorem dX0_spread_53 : decode cX0_spread 53 = .ok (.iload 6, 2) := by decide +kernel
theorem dX0_spread_55 : decode cX0_spread 55 = .ok (.aload_n 0, 1) := by decide +kernel
theorem dX0_spread_56 : decode cX0_spread 56 = .ok (.getfield 21, 3) := by decide +kernel
theorem dX0_spread_59 : decode cX0_spread 59 = .ok (.getfield 42, 3) := by decide +kernel
theorem dX0_spread_62 : decode cX0_spread 62 = .ok (.if_icmp .ge 59, 3) := by decide +kernel
theorem dX0_spread_65 : decode cX0_spread 65 = .ok (.aload_n 0, 1) := by decide +kernel
theorem dX0_spread_66 : decode cX0_spread 66 = .ok (.getfield 21, 3) := by decide +kernel
theorem dX0_spread_69 : decode cX0_spread 69 = .ok (.iload_n 1, 1) := by decide +kernel
theorem dX0_spread_70 : decode cX0_spread 70 = .ok (.iload 6, 2) := by decide +kernel
theorem dX0_spread_72 : decode cX0_spread 72 = .ok (.invokevirtual 95, 3) := by decide +kernel
theorem dX0_spread_75 : decode cX0_spread 75 = .ok (.istore 7, 2) := by decide +kernel
theorem dX0_spread_77 : decode cX0_spread 77 = .ok (.iload 7, 2) := by decide +kernel
theorem dX0_spread_79 : decode cX0_spread 79 = .ok (.iload 6, 2) := by decide +kernel
theorem dX0_spread_81 : decode cX0_spread 81 = .ok (.if_icmp .eq 34, 3) := by decide +kernel
theorem dX0_spread_84 : decode cX0_spread 84 = .ok (.aload_n 0, 1) := by decide +kernel
theorem dX0_spread_85 : decode cX0_spread 85 = .ok (.getfield 18, 3) := by decide +kernel
theorem dX0_spread_88 : decode cX0_spread 88 = .ok (.iload 7, 2) := by decide +kernel
theorem dX0_spread_90 : decode cX0_spread 90 = .ok (.dup2, 1) := by decide +kernel
theorem dX0_spread_91 : decode cX0_spread 91 = .ok (.laload, 1) := by decide +kernel
theorem dX0_spread_92 : decode cX0_spread 92 = .ok (.aload_n 0, 1) := by decide +kernel
theorem dX0_spread_93 : decode cX0_spread 93 = .ok (.getfield 18, 3) := by decide +kernel
theorem dX0_spread_96 : decode cX0_spread 96 = .ok (.iload 6, 2) := by decide +kernel
theorem dX0_spread_98 : decode cX0_spread 98 = .ok (.laload, 1) := by decide +kernel
theorem dX0_spread_99 : decode cX0_spread 99 = .ok (.lload_n 2, 1) := by decide +kernel
theorem dX0_spread_100 : decode cX0_spread 100 = .ok (.lmul, 1) := by decide +kernel
theorem dX0_spread_101 : decode cX0_spread 101 = .ok (.ladd, 1) := by decide +kernel
theorem dX0_spread_102 : decode cX0_spread 102 = .ok (.lastore, 1) := by decide +kernel
theorem dX0_spread_103 : decode cX0_spread 103 = .ok (.aload_n 0, 1) := by decide +kernel
theorem dX0_spread_104 : decode cX0_spread 104 = .ok (.getfield 18, 3) := by decide +kernel
theorem dX0_spread_107 : decode cX0_spread 107 = .ok (.iload 6, 2) := by decide +kernel
theorem dX0_spread_109 : decode cX0_spread 109 = .ok (.dup2, 1) := by decide +kernel
theorem dX0_spread_110 : decode cX0_spread 110 = .ok (.laload, 1) := by decide +kernel
theorem dX0_spread_111 : decode cX0_spread 111 = .ok (.lload 4, 2) := by decide +kernel
theorem dX0_spread_113 : decode cX0_spread 113 = .ok (.lmul, 1) := by decide +kernel
theorem dX0_spread_114 : decode cX0_spread 114 = .ok (.lastore, 1) := by decide +kernel
theorem dX0_spread_115 : decode cX0_spread 115 = .ok (.iinc 6 1, 3) := by decide +kernel
theorem dX0_spread_118 : decode cX0_spread 118 = .ok (.goto (-65), 3) := by decide +kernel
theorem dX0_spread_121 : decode cX0_spread 121 = .ok (.return_, 1) := by decide +kernel
theorem dX0_goUp_0 : decode cX0_goUp 0 = .ok (.iconst 0, 1) := by decide +kernel
theorem dX0_goUp_1 : decode cX0_goUp 1 = .ok (.istore_n 1, 1) := by decide +kernel
theorem dX0_goUp_2 : decode cX0_goUp 2 = .ok (.iload_n 1, 1) := by decide +kernel
theorem dX0_goUp_3 : decode cX0_goUp 3 = .ok (.aload_n 0, 1) := by decide +kernel
theorem dX0_goUp_4 : decode cX0_goUp 4 = .ok (.getfield 21, 3) := by decide +kernel
theorem dX0_goUp_7 : decode cX0_goUp 7 = .ok (.getfield 42, 3) := by decide +kernel
theorem dX0_goUp_10 : decode cX0_goUp 10 = .ok (.if_icmp .ge 32, 3) := by decide +kernel
theorem dX0_goUp_13 : decode cX0_goUp 13 = .ok (.aload_n 0, 1) := by decide +kernel
theorem dX0_goUp_14 : decode cX0_goUp 14 = .ok (.getfield 18, 3) := by decide +kernel
theorem dX0_goUp_17 : decode cX0_goUp 17 = .ok (.iload_n 1, 1) := by decide +kernel
theorem dX0_goUp_18 : decode cX0_goUp 18 = .ok (.aload_n 0, 1) := by decide +kernel
theorem dX0_goUp_19 : decode cX0_goUp 19 = .ok (.getfield 21, 3) := by decide +kernel
theorem dX0_goUp_22 : decode cX0_goUp 22 = .ok (.getfield 99, 3) := by decide +kernel
theorem dX0_goUp_25 : decode cX0_goUp 25 = .ok (.iload_n 1, 1) := by decide +kernel
theorem dX0_goUp_26 : decode cX0_goUp 26 = .ok (.iaload, 1) := by decide +kernel
theorem dX0_goUp_27 : decode cX0_goUp 27 = .ok (.ifCond .eq 7, 3) := by decide +kernel
theorem dX0_goUp_30 : decode cX0_goUp 30 = .ok (.lconst 1, 1) := by decide +kernel
theorem dX0_goUp_31 : decode cX0_goUp 31 = .ok (.goto 4, 3) := by decide +kernel
theorem dX0_goUp_34 : decode cX0_goUp 34 = .ok (.lconst 0, 1) := by decide +kernel
theorem dX0_goUp_35 : decode cX0_goUp 35 = .ok (.lastore, 1) := by decide +kernel
theorem dX0_goUp_36 : decode cX0_goUp 36 = .ok (.iinc 1 1, 3) := by decide +kernel
theorem dX0_goUp_39 : decode cX0_goUp 39 = .ok (.goto (-37), 3) := by decide +kernel
theorem dX0_goUp_42 : decode cX0_goUp 42 = .ok (.aload_n 0, 1) := by decide +kernel
theorem dX0_goUp_43 : decode cX0_goUp 43 = .ok (.getfield 25, 3) := by decide +kernel
theorem dX0_goUp_46 : decode cX0_goUp 46 = .ok (.invokevirtual 102, 3) := by decide +kernel
theorem dX0_goUp_49 : decode cX0_goUp 49 = .ok (.istore_n 1, 1) := by decide +kernel
theorem dX0_goUp_50 : decode cX0_goUp 50 = .ok (.aload_n 0, 1) := by decide +kernel
theorem dX0_goUp_51 : decode cX0_goUp 51 = .ok (.getfield 21, 3) := by decide +kernel
theorem dX0_goUp_54 : decode cX0_goUp 54 = .ok (.getfield 51, 3) := by decide +kernel
theorem dX0_goUp_57 : decode cX0_goUp 57 = .ok (.iconst 1, 1) := by decide +kernel
theorem dX0_goUp_58 : decode cX0_goUp 58 = .ok (.isub, 1) := by decide +kernel
theorem dX0_goUp_59 : decode cX0_goUp 59 = .ok (.istore_n 2, 1) := by decide +kernel
theorem dX0_goUp_60 : decode cX0_goUp 60 = .ok (.iload_n 2, 1) := by decide +kernel
theorem dX0_goUp_61 : decode cX0_goUp 61 = .ok (.ifCond .lt 117, 3) := by decide +kernel
theorem dX0_goUp_64 : decode cX0_goUp 64 = .ok (.aload_n 0, 1) := by decide +kernel
theorem dX0_goUp_65 : decode cX0_goUp 65 = .ok (.getfield 21, 3) := by decide +kernel
theorem dX0_goUp_68 : decode cX0_goUp 68 = .ok (.getfield 54, 3) := by decide +kernel
theorem dX0_goUp_71 : decode cX0_goUp 71 = .ok (.iload_n 2, 1) := by decide +kernel
theorem dX0_goUp_72 : decode cX0_goUp 72 = .ok (.iaload, 1) := by decide +kernel
theorem dX0_goUp_73 : decode cX0_goUp 73 = .ok (.istore_n 3, 1) := by decide +kernel
theorem dX0_goUp_74 : decode cX0_goUp 74 = .ok (.aload_n 0, 1) := by decide +kernel
theorem dX0_goUp_75 : decode cX0_goUp 75 = .ok (.getfield 21, 3) := by decide +kernel
theorem dX0_goUp_78 : decode cX0_goUp 78 = .ok (.getfield 58, 3) := by decide +kernel
theorem dX0_goUp_81 : decode cX0_goUp 81 = .ok (.iload_n 2, 1) := by decide +kernel
theorem dX0_goUp_82 : decode cX0_goUp 82 = .ok (.iaload, 1) := by decide +kernel
theorem dX0_goUp_83 : decode cX0_goUp 83 = .ok (.istore 4, 2) := by decide +kernel
theorem dX0_goUp_85 : decode cX0_goUp 85 = .ok (.aload_n 0, 1) := by decide +kernel
theorem dX0_goUp_86 : decode cX0_goUp 86 = .ok (.getfield 25, 3) := by decide +kernel
theorem dX0_goUp_89 : decode cX0_goUp 89 = .ok (.iload_n 3, 1) := by decide +kernel
theorem dX0_goUp_90 : decode cX0_goUp 90 = .ok (.invokevirtual 61, 3) := by decide +kernel
theorem dX0_goUp_93 : decode cX0_goUp 93 = .ok (.ifCond .ne 29, 3) := by decide +kernel
theorem dX0_goUp_96 : decode cX0_goUp 96 = .ok (.iload_n 3, 1) := by decide +kernel
theorem dX0_goUp_97 : decode cX0_goUp 97 = .ok (.aload_n 0, 1) := by decide +kernel
theorem dX0_goUp_98 : decode cX0_goUp 98 = .ok (.getfield 25, 3) := by decide +kernel
theorem dX0_goUp_101 : decode cX0_goUp 101 = .ok (.iload_n 3, 1) := by decide +kernel
theorem dX0_goUp_102 : decode cX0_goUp 102 = .ok (.invokevirtual 67, 3) := by decide +kernel
theorem dX0_goUp_105 : decode cX0_goUp 105 = .ok (.invokestatic 71, 3) := by decide +kernel
theorem dX0_goUp_108 : decode cX0_goUp 108 = .ok (.ifCond .eq 64, 3) := by decide +kernel
theorem dX0_goUp_111 : decode cX0_goUp 111 = .ok (.aload_n 0, 1) := by decide +kernel
theorem dX0_goUp_112 : decode cX0_goUp 112 = .ok (.iload 4, 2) := by decide +kernel
theorem dX0_goUp_114 : decode cX0_goUp 114 = .ok (.lconst 1, 1) := by decide +kernel
theorem dX0_goUp_115 : decode cX0_goUp 115 = .ok (.lconst 0, 1) := by decide +kernel
theorem dX0_goUp_116 : decode cX0_goUp 116 = .ok (.invokevirtual 106, 3) := by decide +kernel
theorem dX0_goUp_119 : decode cX0_goUp 119 = .ok (.goto 53, 3) := by decide +kernel
theorem dX0_goUp_122 : decode cX0_goUp 122 = .ok (.iload_n 1, 1) := by decide +kernel
theorem dX0_goUp_123 : decode cX0_goUp 123 = .ok (.ifCond .le 49, 3) := by decide +kernel
theorem dX0_goUp_126 : decode cX0_goUp 126 = .ok (.iload_n 1, 1) := by decide +kernel
theorem dX0_goUp_127 : decode cX0_goUp 127 = .ok (.bipush 24, 2) := by decide +kernel
theorem dX0_goUp_129 : decode cX0_goUp 129 = .ok (.if_icmp .gt 43, 3) := by decide +kernel
theorem dX0_goUp_132 : decode cX0_goUp 132 = .ok (.iinc 1 (-1), 3) := by decide +kernel
theorem dX0_goUp_135 : decode cX0_goUp 135 = .ok (.aload_n 0, 1) := by decide +kernel
theorem dX0_goUp_136 : decode cX0_goUp 136 = .ok (.getfield 9, 3) := by decide +kernel
theorem dX0_goUp_139 : decode cX0_goUp 139 = .ok (.iload_n 3, 1) := by decide +kernel
theorem dX0_goUp_140 : decode cX0_goUp 140 = .ok (.aload_n 0, 1) := by decide +kernel
theorem dX0_goUp_141 : decode cX0_goUp 141 = .ok (.iload 4, 2) := by decide +kernel
theorem dX0_goUp_143 : decode cX0_goUp 143 = .ok (.iload_n 1, 1) := by decide +kernel
theorem dX0_goUp_144 : decode cX0_goUp 144 = .ok (.sipush 132, 3) := by decide +kernel
theorem dX0_goUp_147 : decode cX0_goUp 147 = .ok (.imul, 1) := by decide +kernel
theorem dX0_goUp_148 : decode cX0_goUp 148 = .ok (.iload_n 3, 1) := by decide +kernel
theorem dX0_goUp_149 : decode cX0_goUp 149 = .ok (.invokestatic 92, 3) := by decide +kernel
theorem dX0_goUp_152 : decode cX0_goUp 152 = .ok (.invokevirtual 109, 3) := by decide +kernel
theorem dX0_goUp_155 : decode cX0_goUp 155 = .ok (.lastore, 1) := by decide +kernel
theorem dX0_goUp_156 : decode cX0_goUp 156 = .ok (.aload_n 0, 1) := by decide +kernel
theorem dX0_goUp_157 : decode cX0_goUp 157 = .ok (.iload 4, 2) := by decide +kernel
theorem dX0_goUp_159 : decode cX0_goUp 159 = .ok (.aload_n 0, 1) := by decide +kernel
theorem dX0_goUp_160 : decode cX0_goUp 160 = .ok (.iload_n 3, 1) := by decide +kernel
theorem dX0_goUp_161 : decode cX0_goUp 161 = .ok (.invokevirtual 85, 3) := by decide +kernel
theorem dX0_goUp_164 : decode cX0_goUp 164 = .ok (.aload_n 0, 1) := by decide +kernel
theorem dX0_goUp_165 : decode cX0_goUp 165 = .ok (.iload_n 3, 1) := by decide +kernel
theorem dX0_goUp_166 : decode cX0_goUp 166 = .ok (.invokevirtual 89, 3) := by decide +kernel
theorem dX0_goUp_169 : decode cX0_goUp 169 = .ok (.invokevirtual 106, 3) := by decide +kernel
theorem dX0_goUp_172 : decode cX0_goUp 172 = .ok (.iinc 2 (-1), 3) := by decide +kernel
theorem dX0_goUp_175 : decode cX0_goUp 175 = .ok (.goto (-115), 3) := by decide +kernel
theorem dX0_goUp_178 : decode cX0_goUp 178 = .ok (.return_, 1) := by decide +kernel
theorem dX0_decided_0 : decode cX0_decided 0 = .ok (.lconst 0, 1) := by decide +kernel
theorem dX0_decided_1 : decode cX0_decided 1 = .ok (.lstore 4, 2) := by decide +kernel
theorem dX0_decided_3 : decode cX0_decided 3 = .ok (.iconst 0, 1) := by decide +kernel
theorem dX0_decided_4 : decode cX0_decided 4 = .ok (.istore 6, 2) := by decide +kernel
theorem dX0_decided_6 : decode cX0_decided 6 = .ok (.iload 6, 2) := by decide +kernel
theorem dX0_decided_8 : decode cX0_decided 8 = .ok (.aload_n 0, 1) := by decide +kernel
theorem dX0_decided_9 : decode cX0_decided 9 = .ok (.getfield 21, 3) := by decide +kernel
theorem dX0_decided_12 : decode cX0_decided 12 = .ok (.getfield 42, 3) := by decide +kernel
theorem dX0_decided_15 : decode cX0_decided 15 = .ok (.if_icmp .ge 61, 3) := by decide +kernel
theorem dX0_decided_18 : decode cX0_decided 18 = .ok (.aload_n 0, 1) := by decide +kernel
theorem dX0_decided_19 : decode cX0_decided 19 = .ok (.getfield 18, 3) := by decide +kernel
theorem dX0_decided_22 : decode cX0_decided 22 = .ok (.aload_n 0, 1) := by decide +kernel
theorem dX0_decided_23 : decode cX0_decided 23 = .ok (.getfield 21, 3) := by decide +kernel
theorem dX0_decided_26 : decode cX0_decided 26 = .ok (.iload_n 1, 1) := by decide +kernel
theorem dX0_decided_27 : decode cX0_decided 27 = .ok (.iload 6, 2) := by decide +kernel
theorem dX0_decided_29 : decode cX0_decided 29 = .ok (.invokevirtual 95, 3) := by decide +kernel
theorem dX0_decided_32 : decode cX0_decided 32 = .ok (.laload, 1) := by decide +kernel
theorem dX0_decided_33 : decode cX0_decided 33 = .ok (.aload_n 0, 1) := by decide +kernel
theorem dX0_decided_34 : decode cX0_decided 34 = .ok (.getfield 18, 3) := by decide +kernel
theorem dX0_decided_37 : decode cX0_decided 37 = .ok (.iload 6, 2) := by decide +kernel
theorem dX0_decided_39 : decode cX0_decided 39 = .ok (.laload, 1) := by decide +kernel
theorem dX0_decided_40 : decode cX0_decided 40 = .ok (.lsub, 1) := by decide +kernel
theorem dX0_decided_41 : decode cX0_decided 41 = .ok (.lstore 7, 2) := by decide +kernel
theorem dX0_decided_43 : decode cX0_decided 43 = .ok (.lload 4, 2) := by decide +kernel
theorem dX0_decided_45 : decode cX0_decided 45 = .ok (.aload_n 0, 1) := by decide +kernel
theorem dX0_decided_46 : decode cX0_decided 46 = .ok (.getfield 15, 3) := by decide +kernel
theorem dX0_decided_49 : decode cX0_decided 49 = .ok (.iload_n 2, 1) := by decide +kernel
theorem dX0_decided_50 : decode cX0_decided 50 = .ok (.iload 6, 2) := by decide +kernel
theorem dX0_decided_52 : decode cX0_decided 52 = .ok (.iadd, 1) := by decide +kernel
theorem dX0_decided_53 : decode cX0_decided 53 = .ok (.laload, 1) := by decide +kernel
theorem dX0_decided_54 : decode cX0_decided 54 = .ok (.iload_n 3, 1) := by decide +kernel
theorem dX0_decided_55 : decode cX0_decided 55 = .ok (.ifCond .eq 8, 3) := by decide +kernel
theorem dX0_decided_58 : decode cX0_decided 58 = .ok (.lload 7, 2) := by decide +kernel
theorem dX0_decided_60 : decode cX0_decided 60 = .ok (.goto 6, 3) := by decide +kernel
theorem dX0_decided_63 : decode cX0_decided 63 = .ok (.lload 7, 2) := by decide +kernel
theorem dX0_decided_65 : decode cX0_decided 65 = .ok (.lneg, 1) := by decide +kernel
theorem dX0_decided_66 : decode cX0_decided 66 = .ok (.lmul, 1) := by decide +kernel
theorem dX0_decided_67 : decode cX0_decided 67 = .ok (.ladd, 1) := by decide +kernel
theorem dX0_decided_68 : decode cX0_decided 68 = .ok (.lstore 4, 2) := by decide +kernel
theorem dX0_decided_70 : decode cX0_decided 70 = .ok (.iinc 6 1, 3) := by decide +kernel
theorem dX0_decided_73 : decode cX0_decided 73 = .ok (.goto (-67), 3) := by decide +kernel
theorem dX0_decided_76 : decode cX0_decided 76 = .ok (.lload 4, 2) := by decide +kernel
theorem dX0_decided_78 : decode cX0_decided 78 = .ok (.lreturn, 1) := by decide +kernel
theorem dX0_gather_0 : decode cX0_gather 0 = .ok (.iconst 0, 1) := by decide +kernel
theorem dX0_gather_1 : decode cX0_gather 1 = .ok (.istore 6, 2) := by decide +kernel
theorem dX0_gather_3 : decode cX0_gather 3 = .ok (.iload 6, 2) := by decide +kernel
theorem dX0_gather_5 : decode cX0_gather 5 = .ok (.aload_n 0, 1) := by decide +kernel
theorem dX0_gather_6 : decode cX0_gather 6 = .ok (.getfield 21, 3) := by decide +kernel
theorem dX0_gather_9 : decode cX0_gather 9 = .ok (.getfield 42, 3) := by decide +kernel
theorem dX0_gather_12 : decode cX0_gather 12 = .ok (.if_icmp .ge 55, 3) := by decide +kernel
theorem dX0_gather_15 : decode cX0_gather 15 = .ok (.aload_n 0, 1) := by decide +kernel
theorem dX0_gather_16 : decode cX0_gather 16 = .ok (.getfield 21, 3) := by decide +kernel
theorem dX0_gather_19 : decode cX0_gather 19 = .ok (.iload_n 1, 1) := by decide +kernel
theorem dX0_gather_20 : decode cX0_gather 20 = .ok (.iload 6, 2) := by decide +kernel
theorem dX0_gather_22 : decode cX0_gather 22 = .ok (.invokevirtual 95, 3) := by decide +kernel
theorem dX0_gather_25 : decode cX0_gather 25 = .ok (.istore 7, 2) := by decide +kernel
theorem dX0_gather_27 : decode cX0_gather 27 = .ok (.iload 7, 2) := by decide +kernel
theorem dX0_gather_29 : decode cX0_gather 29 = .ok (.iload 6, 2) := by decide +kernel
theorem dX0_gather_31 : decode cX0_gather 31 = .ok (.if_icmp .eq 30, 3) := by decide +kernel
theorem dX0_gather_34 : decode cX0_gather 34 = .ok (.aload_n 0, 1) := by decide +kernel
theorem dX0_gather_35 : decode cX0_gather 35 = .ok (.getfield 18, 3) := by decide +kernel
theorem dX0_gather_38 : decode cX0_gather 38 = .ok (.iload 6, 2) := by decide +kernel
theorem dX0_gather_40 : decode cX0_gather 40 = .ok (.aload_n 0, 1) := by decide +kernel
theorem dX0_gather_41 : decode cX0_gather 41 = .ok (.getfield 18, 3) := by decide +kernel
theorem dX0_gather_44 : decode cX0_gather 44 = .ok (.iload 6, 2) := by decide +kernel
theorem dX0_gather_46 : decode cX0_gather 46 = .ok (.laload, 1) := by decide +kernel
theorem dX0_gather_47 : decode cX0_gather 47 = .ok (.lload 4, 2) := by decide +kernel
theorem dX0_gather_49 : decode cX0_gather 49 = .ok (.lmul, 1) := by decide +kernel
theorem dX0_gather_50 : decode cX0_gather 50 = .ok (.aload_n 0, 1) := by decide +kernel
theorem dX0_gather_51 : decode cX0_gather 51 = .ok (.getfield 18, 3) := by decide +kernel
theorem dX0_gather_54 : decode cX0_gather 54 = .ok (.iload 7, 2) := by decide +kernel
theorem dX0_gather_56 : decode cX0_gather 56 = .ok (.laload, 1) := by decide +kernel
theorem dX0_gather_57 : decode cX0_gather 57 = .ok (.lload_n 2, 1) := by decide +kernel
theorem dX0_gather_58 : decode cX0_gather 58 = .ok (.lmul, 1) := by decide +kernel
theorem dX0_gather_59 : decode cX0_gather 59 = .ok (.ladd, 1) := by decide +kernel
theorem dX0_gather_60 : decode cX0_gather 60 = .ok (.lastore, 1) := by decide +kernel
theorem dX0_gather_61 : decode cX0_gather 61 = .ok (.iinc 6 1, 3) := by decide +kernel
theorem dX0_gather_64 : decode cX0_gather 64 = .ok (.goto (-61), 3) := by decide +kernel
theorem dX0_gather_67 : decode cX0_gather 67 = .ok (.iconst 0, 1) := by decide +kernel
theorem dX0_gather_68 : decode cX0_gather 68 = .ok (.istore 6, 2) := by decide +kernel
theorem dX0_gather_70 : decode cX0_gather 70 = .ok (.iload 6, 2) := by decide +kernel
theorem dX0_gather_72 : decode cX0_gather 72 = .ok (.aload_n 0, 1) := by decide +kernel
theorem dX0_gather_73 : decode cX0_gather 73 = .ok (.getfield 21, 3) := by decide +kernel
theorem dX0_gather_76 : decode cX0_gather 76 = .ok (.getfield 42, 3) := by decide +kernel
theorem dX0_gather_79 : decode cX0_gather 79 = .ok (.if_icmp .ge 38, 3) := by decide +kernel
theorem dX0_gather_82 : decode cX0_gather 82 = .ok (.aload_n 0, 1) := by decide +kernel
theorem dX0_gather_83 : decode cX0_gather 83 = .ok (.getfield 21, 3) := by decide +kernel
theorem dX0_gather_86 : decode cX0_gather 86 = .ok (.iload_n 1, 1) := by decide +kernel
theorem dX0_gather_87 : decode cX0_gather 87 = .ok (.iload 6, 2) := by decide +kernel
theorem dX0_gather_89 : decode cX0_gather 89 = .ok (.invokevirtual 95, 3) := by decide +kernel
theorem dX0_gather_92 : decode cX0_gather 92 = .ok (.iload 6, 2) := by decide +kernel
theorem dX0_gather_94 : decode cX0_gather 94 = .ok (.if_icmp .ne 17, 3) := by decide +kernel
theorem dX0_gather_97 : decode cX0_gather 97 = .ok (.aload_n 0, 1) := by decide +kernel
theorem dX0_gather_98 : decode cX0_gather 98 = .ok (.getfield 18, 3) := by decide +kernel
theorem dX0_gather_101 : decode cX0_gather 101 = .ok (.iload 6, 2) := by decide +kernel
theorem dX0_gather_103 : decode cX0_gather 103 = .ok (.dup2, 1) := by decide +kernel
theorem dX0_gather_104 : decode cX0_gather 104 = .ok (.laload, 1) := by decide +kernel
theorem dX0_gather_105 : decode cX0_gather 105 = .ok (.lload_n 2, 1) := by decide +kernel
theorem dX0_gather_106 : decode cX0_gather 106 = .ok (.lload 4, 2) := by decide +kernel
theorem dX0_gather_108 : decode cX0_gather 108 = .ok (.ladd, 1) := by decide +kernel
theorem dX0_gather_109 : decode cX0_gather 109 = .ok (.lmul, 1) := by decide +kernel
theorem dX0_gather_110 : decode cX0_gather 110 = .ok (.lastore, 1) := by decide +kernel
theorem dX0_gather_111 : decode cX0_gather 111 = .ok (.iinc 6 1, 3) := by decide +kernel
theorem dX0_gather_114 : decode cX0_gather 114 = .ok (.goto (-44), 3) := by decide +kernel
theorem dX0_gather_117 : decode cX0_gather 117 = .ok (.return_, 1) := by decide +kernel
theorem dX1_init_0 : decode cX1_init 0 = .ok (.aload_n 0, 1) := by decide +kernel
theorem dX1_init_1 : decode cX1_init 1 = .ok (.invokespecial 3, 3) := by decide +kernel
theorem dX1_init_4 : decode cX1_init 4 = .ok (.aload_n 0, 1) := by decide +kernel
theorem dX1_init_5 : decode cX1_init 5 = .ok (.iconst 5, 1) := by decide +kernel
theorem dX1_init_6 : decode cX1_init 6 = .ok (.newarray .int, 2) := by decide +kernel
theorem dX1_init_8 : decode cX1_init 8 = .ok (.putfield 9, 3) := by decide +kernel
theorem dX1_init_11 : decode cX1_init 11 = .ok (.aload_n 0, 1) := by decide +kernel
theorem dX1_init_12 : decode cX1_init 12 = .ok (.bipush 25, 2) := by decide +kernel
theorem dX1_init_14 : decode cX1_init 14 = .ok (.newarray .long, 2) := by decide +kernel
theorem dX1_init_16 : decode cX1_init 16 = .ok (.putfield 15, 3) := by decide +kernel
theorem dX1_init_19 : decode cX1_init 19 = .ok (.aload_n 0, 1) := by decide +kernel
theorem dX1_init_20 : decode cX1_init 20 = .ok (.aload_n 1, 1) := by decide +kernel
theorem dX1_init_21 : decode cX1_init 21 = .ok (.putfield 19, 3) := by decide +kernel
theorem dX1_init_24 : decode cX1_init 24 = .ok (.aload_n 0, 1) := by decide +kernel
theorem dX1_init_25 : decode cX1_init 25 = .ok (.iload_n 2, 1) := by decide +kernel
theorem dX1_init_26 : decode cX1_init 26 = .ok (.putfield 23, 3) := by decide +kernel
theorem dX1_init_29 : decode cX1_init 29 = .ok (.aload_n 0, 1) := by decide +kernel
theorem dX1_init_30 : decode cX1_init 30 = .ok (.iload_n 2, 1) := by decide +kernel
theorem dX1_init_31 : decode cX1_init 31 = .ok (.sipush 132, 3) := by decide +kernel
theorem dX1_init_34 : decode cX1_init 34 = .ok (.imul, 1) := by decide +kernel
theorem dX1_init_35 : decode cX1_init 35 = .ok (.bipush 25, 2) := by decide +kernel
theorem dX1_init_37 : decode cX1_init 37 = .ok (.imul, 1) := by decide +kernel
theorem dX1_init_38 : decode cX1_init 38 = .ok (.newarray .long, 2) := by decide +kernel
theorem dX1_init_40 : decode cX1_init 40 = .ok (.putfield 27, 3) := by decide +kernel
theorem dX1_init_43 : decode cX1_init 43 = .ok (.aload_n 0, 1) := by decide +kernel
theorem dX1_init_44 : decode cX1_init 44 = .ok (.iload_n 2, 1) := by decide +kernel
theorem dX1_init_45 : decode cX1_init 45 = .ok (.sipush 132, 3) := by decide +kernel
theorem dX1_init_48 : decode cX1_init 48 = .ok (.imul, 1) := by decide +kernel
theorem dX1_init_49 : decode cX1_init 49 = .ok (.newarray .long, 2) := by decide +kernel
theorem dX1_init_51 : decode cX1_init 51 = .ok (.putfield 30, 3) := by decide +kernel
theorem dX1_init_54 : decode cX1_init 54 = .ok (.return_, 1) := by decide +kernel
theorem dX1_follow_0 : decode cX1_follow 0 = .ok (.aload_n 0, 1) := by decide +kernel
theorem dX1_follow_1 : decode cX1_follow 1 = .ok (.getfield 33, 3) := by decide +kernel
theorem dX1_follow_4 : decode cX1_follow 4 = .ok (.aload_n 1, 1) := by decide +kernel
theorem dX1_follow_5 : decode cX1_follow 5 = .ok (.if_acmp .ne 4, 3) := by decide +kernel
theorem dX1_follow_8 : decode cX1_follow 8 = .ok (.return_, 1) := by decide +kernel
theorem dX1_follow_9 : decode cX1_follow 9 = .ok (.aload_n 0, 1) := by decide +kernel
theorem dX1_follow_10 : decode cX1_follow 10 = .ok (.aload_n 1, 1) := by decide +kernel
theorem dX1_follow_11 : decode cX1_follow 11 = .ok (.putfield 33, 3) := by decide +kernel
theorem dX1_follow_14 : decode cX1_follow 14 = .ok (.aload_n 0, 1) := by decide +kernel
theorem dX1_follow_15 : decode cX1_follow 15 = .ok (.iconst 0, 1) := by decide +kernel
theorem dX1_follow_16 : decode cX1_follow 16 = .ok (.putfield 37, 3) := by decide +kernel
theorem dX1_follow_19 : decode cX1_follow 19 = .ok (.aload_n 0, 1) := by decide +kernel
theorem dX1_follow_20 : decode cX1_follow 20 = .ok (.invokevirtual 40, 3) := by decide +kernel
theorem dX1_follow_23 : decode cX1_follow 23 = .ok (.iconst 0, 1) := by decide +kernel
theorem dX1_follow_24 : decode cX1_follow 24 = .ok (.istore_n 2, 1) := by decide +kernel
theorem dX1_follow_25 : decode cX1_follow 25 = .ok (.iload_n 2, 1) := by decide +kernel
theorem dX1_follow_26 : decode cX1_follow 26 = .ok (.aload_n 1, 1) := by decide +kernel
theorem dX1_follow_27 : decode cX1_follow 27 = .ok (.getfield 43, 3) := by decide +kernel
theorem dX1_follow_30 : decode cX1_follow 30 = .ok (.if_icmp .ge 65, 3) := by decide +kernel
theorem dX1_follow_33 : decode cX1_follow 33 = .ok (.aload_n 0, 1) := by decide +kernel
theorem dX1_follow_34 : decode cX1_follow 34 = .ok (.iload_n 2, 1) := by decide +kernel
theorem dX1_follow_35 : decode cX1_follow 35 = .ok (.invokevirtual 48, 3) := by decide +kernel
theorem dX1_follow_38 : decode cX1_follow 38 = .ok (.aload_n 0, 1) := by decide +kernel
theorem dX1_follow_39 : decode cX1_follow 39 = .ok (.getfield 19, 3) := by decide +kernel
theorem dX1_follow_42 : decode cX1_follow 42 = .ok (.getfield 52, 3) := by decide +kernel
theorem dX1_follow_45 : decode cX1_follow 45 = .ok (.iload_n 2, 1) := by decide +kernel
theorem dX1_follow_46 : decode cX1_follow 46 = .ok (.iaload, 1) := by decide +kernel
theorem dX1_follow_47 : decode cX1_follow 47 = .ok (.istore_n 3, 1) := by decide +kernel
theorem dX1_follow_48 : decode cX1_follow 48 = .ok (.iload_n 3, 1) := by decide +kernel
theorem dX1_follow_49 : decode cX1_follow 49 = .ok (.aload_n 0, 1) := by decide +kernel
theorem dX1_follow_50 : decode cX1_follow 50 = .ok (.getfield 19, 3) := by decide +kernel
theorem dX1_follow_53 : decode cX1_follow 53 = .ok (.getfield 52, 3) := by decide +kernel
theorem dX1_follow_56 : decode cX1_follow 56 = .ok (.iload_n 2, 1) := by decide +kernel
theorem dX1_follow_57 : decode cX1_follow 57 = .ok (.iconst 1, 1) := by decide +kernel
theorem dX1_follow_58 : decode cX1_follow 58 = .ok (.iadd, 1) := by decide +kernel
theorem dX1_follow_59 : decode cX1_follow 59 = .ok (.iaload, 1) := by decide +kernel
theorem dX1_follow_60 : decode cX1_follow 60 = .ok (.if_icmp .ge 19, 3) := by decide +kernel
theorem dX1_follow_63 : decode cX1_follow 63 = .ok (.aload_n 0, 1) := by decide +kernel
theorem dX1_follow_64 : decode cX1_follow 64 = .ok (.aload_n 0, 1) := by decide +kernel
theorem dX1_follow_65 : decode cX1_follow 65 = .ok (.iload_n 2, 1) := by decide +kernel
theorem dX1_follow_66 : decode cX1_follow 66 = .ok (.invokevirtual 57, 3) := by decide +kernel
theorem dX1_follow_69 : decode cX1_follow 69 = .ok (.iload_n 3, 1) := by decide +kernel
theorem dX1_follow_70 : decode cX1_follow 70 = .ok (.invokevirtual 61, 3) := by decide +kernel
theorem dX1_follow_73 : decode cX1_follow 73 = .ok (.iinc 3 1, 3) := by decide +kernel
theorem dX1_follow_76 : decode cX1_follow 76 = .ok (.goto (-28), 3) := by decide +kernel
theorem dX1_follow_79 : decode cX1_follow 79 = .ok (.aload_n 0, 1) := by decide +kernel
theorem dX1_follow_80 : decode cX1_follow 80 = .ok (.getfield 9, 3) := by decide +kernel
theorem dX1_follow_83 : decode cX1_follow 83 = .ok (.iload_n 2, 1) := by decide +kernel
theorem dX1_follow_84 : decode cX1_follow 84 = .ok (.aload_n 0, 1) := by decide +kernel
theorem dX1_follow_85 : decode cX1_follow 85 = .ok (.getfield 37, 3) := by decide +kernel
theorem dX1_follow_88 : decode cX1_follow 88 = .ok (.iastore, 1) := by decide +kernel
theorem dX1_follow_89 : decode cX1_follow 89 = .ok (.iinc 2 1, 3) := by decide +kernel
theorem dX1_follow_92 : decode cX1_follow 92 = .ok (.goto (-67), 3) := by decide +kernel
theorem dX1_follow_95 : decode cX1_follow 95 = .ok (.iconst 0, 1) := by decide +kernel
theorem dX1_follow_96 : decode cX1_follow 96 = .ok (.istore_n 2, 1) := by decide +kernel
theorem dX1_follow_97 : decode cX1_follow 97 = .ok (.iload_n 2, 1) := by decide +kernel
theorem dX1_follow_98 : decode cX1_follow 98 = .ok (.bipush 25, 2) := by decide +kernel
theorem dX1_follow_100 : decode cX1_follow 100 = .ok (.if_icmp .ge 26, 3) := by decide +kernel
theorem dX1_follow_103 : decode cX1_follow 103 = .ok (.aload_n 0, 1) := by decide +kernel
theorem dX1_follow_104 : decode cX1_follow 104 = .ok (.getfield 15, 3) := by decide +kernel
theorem dX1_follow_107 : decode cX1_follow 107 = .ok (.iload_n 2, 1) := by decide +kernel
theorem dX1_follow_108 : decode cX1_follow 108 = .ok (.aload_n 0, 1) := by decide +kernel
theorem dX1_follow_109 : decode cX1_follow 109 = .ok (.aload_n 1, 1) := by decide +kernel
theorem dX1_follow_110 : decode cX1_follow 110 = .ok (.getfield 43, 3) := by decide +kernel
theorem dX1_follow_113 : decode cX1_follow 113 = .ok (.iconst 1, 1) := by decide +kernel
theorem dX1_follow_114 : decode cX1_follow 114 = .ok (.isub, 1) := by decide +kernel
theorem dX1_follow_115 : decode cX1_follow 115 = .ok (.iload_n 2, 1) := by decide +kernel
theorem dX1_follow_116 : decode cX1_follow 116 = .ok (.invokevirtual 65, 3) := by decide +kernel
theorem dX1_follow_119 : decode cX1_follow 119 = .ok (.lastore, 1) := by decide +kernel
theorem dX1_follow_120 : decode cX1_follow 120 = .ok (.iinc 2 1, 3) := by decide +kernel
theorem dX1_follow_123 : decode cX1_follow 123 = .ok (.goto (-26), 3) := by decide +kernel
theorem dX1_follow_126 : decode cX1_follow 126 = .ok (.return_, 1) := by decide +kernel
theorem dX1_begin_0 : decode cX1_begin 0 = .ok (.iconst 0, 1) := by decide +kernel
theorem dX1_begin_1 : decode cX1_begin 1 = .ok (.istore_n 1, 1) := by decide +kernel
theorem dX1_begin_2 : decode cX1_begin 2 = .ok (.iload_n 1, 1) := by decide +kernel
theorem dX1_begin_3 : decode cX1_begin 3 = .ok (.aload_n 0, 1) := by decide +kernel
theorem dX1_begin_4 : decode cX1_begin 4 = .ok (.getfield 19, 3) := by decide +kernel
theorem dX1_begin_7 : decode cX1_begin 7 = .ok (.getfield 69, 3) := by decide +kernel
theorem dX1_begin_10 : decode cX1_begin 10 = .ok (.if_icmp .ge 42, 3) := by decide +kernel
theorem dX1_begin_13 : decode cX1_begin 13 = .ok (.aload_n 0, 1) := by decide +kernel
theorem dX1_begin_14 : decode cX1_begin 14 = .ok (.getfield 30, 3) := by decide +kernel
theorem dX1_begin_17 : decode cX1_begin 17 = .ok (.iload_n 1, 1) := by decide +kernel
theorem dX1_begin_18 : decode cX1_begin 18 = .ok (.lconst 0, 1) := by decide +kernel
theorem dX1_begin_19 : decode cX1_begin 19 = .ok (.lastore, 1) := by decide +kernel
theorem dX1_begin_20 : decode cX1_begin 20 = .ok (.iconst 0, 1) := by decide +kernel
theorem dX1_begin_21 : decode cX1_begin 21 = .ok (.istore_n 2, 1) := by decide +kernel
theorem dX1_begin_22 : decode cX1_begin 22 = .ok (.iload_n 2, 1) := by decide +kernel
theorem dX1_begin_23 : decode cX1_begin 23 = .ok (.bipush 25, 2) := by decide +kernel
theorem dX1_begin_25 : decode cX1_begin 25 = .ok (.if_icmp .ge 21, 3) := by decide +kernel
theorem dX1_begin_28 : decode cX1_begin 28 = .ok (.aload_n 0, 1) := by decide +kernel
theorem dX1_begin_29 : decode cX1_begin 29 = .ok (.getfield 27, 3) := by decide +kernel
theorem dX1_begin_32 : decode cX1_begin 32 = .ok (.iload_n 1, 1) := by decide +kernel
theorem dX1_begin_33 : decode cX1_begin 33 = .ok (.bipush 25, 2) := by decide +kernel
theorem dX1_begin_35 : decode cX1_begin 35 = .ok (.imul, 1) := by decide +kernel
theorem dX1_begin_36 : decode cX1_begin 36 = .ok (.iload_n 2, 1) := by decide +kernel
theorem dX1_begin_37 : decode cX1_begin 37 = .ok (.iadd, 1) := by decide +kernel
theorem dX1_begin_38 : decode cX1_begin 38 = .ok (.lconst 0, 1) := by decide +kernel
theorem dX1_begin_39 : decode cX1_begin 39 = .ok (.lastore, 1) := by decide +kernel
theorem dX1_begin_40 : decode cX1_begin 40 = .ok (.iinc 2 1, 3) := by decide +kernel
theorem dX1_begin_43 : decode cX1_begin 43 = .ok (.goto (-21), 3) := by decide +kernel
theorem dX1_begin_46 : decode cX1_begin 46 = .ok (.iinc 1 1, 3) := by decide +kernel
theorem dX1_begin_49 : decode cX1_begin 49 = .ok (.goto (-47), 3) := by decide +kernel
theorem dX1_begin_52 : decode cX1_begin 52 = .ok (.aload_n 0, 1) := by decide +kernel
theorem dX1_begin_53 : decode cX1_begin 53 = .ok (.getfield 19, 3) := by decide +kernel
theorem dX1_begin_56 : decode cX1_begin 56 = .ok (.aload_n 0, 1) := by decide +kernel
theorem dX1_begin_57 : decode cX1_begin 57 = .ok (.getfield 33, 3) := by decide +kernel
theorem dX1_begin_60 : decode cX1_begin 60 = .ok (.invokevirtual 72, 3) := by decide +kernel
theorem dX1_begin_63 : decode cX1_begin 63 = .ok (.istore_n 1, 1) := by decide +kernel
theorem dX1_begin_64 : decode cX1_begin 64 = .ok (.aload_n 0, 1) := by decide +kernel
theorem dX1_begin_65 : decode cX1_begin 65 = .ok (.getfield 30, 3) := by decide +kernel
theorem dX1_begin_68 : decode cX1_begin 68 = .ok (.iload_n 1, 1) := by decide +kernel
theorem dX1_begin_69 : decode cX1_begin 69 = .ok (.lconst 1, 1) := by decide +kernel
theorem dX1_begin_70 : decode cX1_begin 70 = .ok (.lastore, 1) := by decide +kernel
theorem dX1_begin_71 : decode cX1_begin 71 = .ok (.aload_n 0, 1) := by decide +kernel
theorem dX1_begin_72 : decode cX1_begin 72 = .ok (.getfield 27, 3) := by decide +kernel
theorem dX1_begin_75 : decode cX1_begin 75 = .ok (.iload_n 1, 1) := by decide +kernel
theorem dX1_begin_76 : decode cX1_begin 76 = .ok (.bipush 25, 2) := by decide +kernel
theorem dX1_begin_78 : decode cX1_begin 78 = .ok (.imul, 1) := by decide +kernel
theorem dX1_begin_79 : decode cX1_begin 79 = .ok (.lconst 1, 1) := by decide +kernel
theorem dX1_begin_80 : decode cX1_begin 80 = .ok (.lastore, 1) := by decide +kernel
theorem dX1_begin_81 : decode cX1_begin 81 = .ok (.return_, 1) := by decide +kernel
theorem dX1_blockOf_0 : decode cX1_blockOf 0 = .ok (.iload_n 1, 1) := by decide +kernel
theorem dX1_blockOf_1 : decode cX1_blockOf 1 = .ok (.aload_n 0, 1) := by decide +kernel
theorem dX1_blockOf_2 : decode cX1_blockOf 2 = .ok (.getfield 23, 3) := by decide +kernel
theorem dX1_blockOf_5 : decode cX1_blockOf 5 = .ok (.iconst 1, 1) := by decide +kernel
theorem dX1_blockOf_6 : decode cX1_blockOf 6 = .ok (.isub, 1) := by decide +kernel
theorem dX1_blockOf_7 : decode cX1_blockOf 7 = .ok (.invokestatic 76, 3) := by decide +kernel
theorem dX1_blockOf_10 : decode cX1_blockOf 10 = .ok (.ireturn, 1) := by decide +kernel
theorem dX1_enterRow_0 : decode cX1_enterRow 0 = .ok (.iload_n 1, 1) := by decide +kernel
theorem dX1_enterRow_1 : decode cX1_enterRow 1 = .ok (.ifCond .le 74, 3) := by decide +kernel
theorem dX1_enterRow_4 : decode cX1_enterRow 4 = .ok (.iload_n 1, 1) := by decide +kernel
theorem dX1_enterRow_5 : decode cX1_enterRow 5 = .ok (.aload_n 0, 1) := by decide +kernel
theorem dX1_enterRow_6 : decode cX1_enterRow 6 = .ok (.getfield 23, 3) := by decide +kernel
theorem dX1_enterRow_9 : decode cX1_enterRow 9 = .ok (.if_icmp .ge 66, 3) := by decide +kernel
theorem dX1_enterRow_12 : decode cX1_enterRow 12 = .ok (.iload_n 1, 1) := by decide +kernel
theorem dX1_enterRow_13 : decode cX1_enterRow 13 = .ok (.iconst 1, 1) := by decide +kernel
theorem dX1_enterRow_14 : decode cX1_enterRow 14 = .ok (.isub, 1) := by decide +kernel
theorem dX1_enterRow_15 : decode cX1_enterRow 15 = .ok (.sipush 132, 3) := by decide +kernel
theorem dX1_enterRow_18 : decode cX1_enterRow 18 = .ok (.imul, 1) := by decide +kernel
theorem dX1_enterRow_19 : decode cX1_enterRow 19 = .ok (.istore_n 2, 1) := by decide +kernel
theorem dX1_enterRow_20 : decode cX1_enterRow 20 = .ok (.iload_n 1, 1) := by decide +kernel
theorem dX1_enterRow_21 : decode cX1_enterRow 21 = .ok (.sipush 132, 3) := by decide +kernel
theorem dX1_enterRow_24 : decode cX1_enterRow 24 = .ok (.imul, 1) := by decide +kernel
theorem dX1_enterRow_25 : decode cX1_enterRow 25 = .ok (.istore_n 3, 1) := by decide +kernel
theorem dX1_enterRow_26 : decode cX1_enterRow 26 = .ok (.aload_n 0, 1) := by decide +kernel
theorem dX1_enterRow_27 : decode cX1_enterRow 27 = .ok (.getfield 30, 3) := by decide +kernel
theorem dX1_enterRow_30 : decode cX1_enterRow 30 = .ok (.iload_n 2, 1) := by decide +kernel
theorem dX1_enterRow_31 : decode cX1_enterRow 31 = .ok (.aload_n 0, 1) := by decide +kernel
theorem dX1_enterRow_32 : decode cX1_enterRow 32 = .ok (.getfield 30, 3) := by decide +kernel
theorem dX1_enterRow_35 : decode cX1_enterRow 35 = .ok (.iload_n 3, 1) := by decide +kernel
theorem dX1_enterRow_36 : decode cX1_enterRow 36 = .ok (.aload_n 0, 1) := by decide +kernel
theorem dX1_enterRow_37 : decode cX1_enterRow 37 = .ok (.getfield 19, 3) := by decide +kernel
theorem dX1_enterRow_40 : decode cX1_enterRow 40 = .ok (.getfield 69, 3) := by decide +kernel
theorem dX1_enterRow_43 : decode cX1_enterRow 43 = .ok (.invokestatic 82, 3) := by decide +kernel
theorem dX1_enterRow_46 : decode cX1_enterRow 46 = .ok (.aload_n 0, 1) := by decide +kernel
theorem dX1_enterRow_47 : decode cX1_enterRow 47 = .ok (.getfield 27, 3) := by decide +kernel
theorem dX1_enterRow_50 : decode cX1_enterRow 50 = .ok (.iload_n 2, 1) := by decide +kernel
theorem dX1_enterRow_51 : decode cX1_enterRow 51 = .ok (.bipush 25, 2) := by decide +kernel
theorem dX1_enterRow_53 : decode cX1_enterRow 53 = .ok (.imul, 1) := by decide +kernel
theorem dX1_enterRow_54 : decode cX1_enterRow 54 = .ok (.aload_n 0, 1) := by decide +kernel
theorem dX1_enterRow_55 : decode cX1_enterRow 55 = .ok (.getfield 27, 3) := by decide +kernel
theorem dX1_enterRow_58 : decode cX1_enterRow 58 = .ok (.iload_n 3, 1) := by decide +kernel
theorem dX1_enterRow_59 : decode cX1_enterRow 59 = .ok (.bipush 25, 2) := by decide +kernel
theorem dX1_enterRow_61 : decode cX1_enterRow 61 = .ok (.imul, 1) := by decide +kernel
theorem dX1_enterRow_62 : decode cX1_enterRow 62 = .ok (.aload_n 0, 1) := by decide +kernel
theorem dX1_enterRow_63 : decode cX1_enterRow 63 = .ok (.getfield 19, 3) := by decide +kernel
theorem dX1_enterRow_66 : decode cX1_enterRow 66 = .ok (.getfield 69, 3) := by decide +kernel
theorem dX1_enterRow_69 : decode cX1_enterRow 69 = .ok (.bipush 25, 2) := by decide +kernel
theorem dX1_enterRow_71 : decode cX1_enterRow 71 = .ok (.imul, 1) := by decide +kernel
theorem dX1_enterRow_72 : decode cX1_enterRow 72 = .ok (.invokestatic 82, 3) := by decide +kernel
theorem dX1_enterRow_75 : decode cX1_enterRow 75 = .ok (.return_, 1) := by decide +kernel
theorem dX1_pass_0 : decode cX1_pass 0 = .ok (.aload_n 0, 1) := by decide +kernel
theorem dX1_pass_1 : decode cX1_pass 1 = .ok (.getfield 19, 3) := by decide +kernel
theorem dX1_pass_4 : decode cX1_pass 4 = .ok (.getfield 88, 3) := by decide +kernel
theorem dX1_pass_7 : decode cX1_pass 7 = .ok (.iload_n 2, 1) := by decide +kernel
theorem dX1_pass_8 : decode cX1_pass 8 = .ok (.iaload, 1) := by decide +kernel
theorem dX1_pass_9 : decode cX1_pass 9 = .ok (.istore_n 3, 1) := by decide +kernel
theorem dX1_pass_10 : decode cX1_pass 10 = .ok (.aload_n 0, 1) := by decide +kernel
theorem dX1_pass_11 : decode cX1_pass 11 = .ok (.getfield 19, 3) := by decide +kernel
theorem dX1_pass_14 : decode cX1_pass 14 = .ok (.getfield 91, 3) := by decide +kernel
theorem dX1_pass_17 : decode cX1_pass 17 = .ok (.iload_n 2, 1) := by decide +kernel
theorem dX1_pass_18 : decode cX1_pass 18 = .ok (.iaload, 1) := by decide +kernel
theorem dX1_pass_19 : decode cX1_pass 19 = .ok (.istore 4, 2) := by decide +kernel
theorem dX1_pass_21 : decode cX1_pass 21 = .ok (.iload_n 1, 1) := by decide +kernel
theorem dX1_pass_22 : decode cX1_pass 22 = .ok (.sipush 132, 3) := by decide +kernel
theorem dX1_pass_25 : decode cX1_pass 25 = .ok (.imul, 1) := by decide +kernel
theorem dX1_pass_26 : decode cX1_pass 26 = .ok (.istore 5, 2) := by decide +kernel
theorem dX1_pass_28 : decode cX1_pass 28 = .ok (.aload_n 0, 1) := by decide +kernel
theorem dX1_pass_29 : decode cX1_pass 29 = .ok (.getfield 33, 3) := by decide +kernel
theorem dX1_pass_32 : decode cX1_pass 32 = .ok (.iload_n 3, 1) := by decide +kernel
theorem dX1_pass_33 : decode cX1_pass 33 = .ok (.invokevirtual 94, 3) := by decide +kernel
theorem dX1_pass_36 : decode cX1_pass 36 = .ok (.ifCond .ne 29, 3) := by decide +kernel
theorem dX1_pass_39 : decode cX1_pass 39 = .ok (.iload_n 3, 1) := by decide +kernel
theorem dX1_pass_40 : decode cX1_pass 40 = .ok (.aload_n 0, 1) := by decide +kernel
theorem dX1_pass_41 : decode cX1_pass 41 = .ok (.getfield 33, 3) := by decide +kernel
theorem dX1_pass_44 : decode cX1_pass 44 = .ok (.iload_n 3, 1) := by decide +kernel
theorem dX1_pass_45 : decode cX1_pass 45 = .ok (.invokevirtual 98, 3) := by decide +kernel
theorem dX1_pass_48 : decode cX1_pass 48 = .ok (.invokestatic 101, 3) := by decide +kernel
theorem dX1_pass_51 : decode cX1_pass 51 = .ok (.ifCond .eq 53, 3) := by decide +kernel
theorem dX1_pass_54 : decode cX1_pass 54 = .ok (.aload_n 0, 1) := by decide +kernel
theorem dX1_pass_55 : decode cX1_pass 55 = .ok (.iload 5, 2) := by decide +kernel
theorem dX1_pass_57 : decode cX1_pass 57 = .ok (.iload 4, 2) := by decide +kernel
theorem dX1_pass_59 : decode cX1_pass 59 = .ok (.invokevirtual 105, 3) := by decide +kernel
theorem dX1_pass_62 : decode cX1_pass 62 = .ok (.goto 42, 3) := by decide +kernel
theorem dX1_pass_65 : decode cX1_pass 65 = .ok (.aload_n 0, 1) := by decide +kernel
theorem dX1_pass_66 : decode cX1_pass 66 = .ok (.getfield 37, 3) := by decide +kernel
theorem dX1_pass_69 : decode cX1_pass 69 = .ok (.bipush 24, 2) := by decide +kernel
theorem dX1_pass_71 : decode cX1_pass 71 = .ok (.if_icmp .ge 33, 3) := by decide +kernel
theorem dX1_pass_74 : decode cX1_pass 74 = .ok (.aload_n 0, 1) := by decide +kernel
theorem dX1_pass_75 : decode cX1_pass 75 = .ok (.iload 5, 2) := by decide +kernel
theorem dX1_pass_77 : decode cX1_pass 77 = .ok (.iload 4, 2) := by decide +kernel
theorem dX1_pass_79 : decode cX1_pass 79 = .ok (.invokevirtual 108, 3) := by decide +kernel
theorem dX1_pass_82 : decode cX1_pass 82 = .ok (.aload_n 0, 1) := by decide +kernel
theorem dX1_pass_83 : decode cX1_pass 83 = .ok (.iload 5, 2) := by decide +kernel
theorem dX1_pass_85 : decode cX1_pass 85 = .ok (.iload 4, 2) := by decide +kernel
theorem dX1_pass_87 : decode cX1_pass 87 = .ok (.iload_n 3, 1) := by decide +kernel
theorem dX1_pass_88 : decode cX1_pass 88 = .ok (.invokestatic 111, 3) := by decide +kernel
theorem dX1_pass_91 : decode cX1_pass 91 = .ok (.invokevirtual 114, 3) := by decide +kernel
theorem dX1_pass_94 : decode cX1_pass 94 = .ok (.aload_n 0, 1) := by decide +kernel
theorem dX1_pass_95 : decode cX1_pass 95 = .ok (.dup, 1) := by decide +kernel
theorem dX1_pass_96 : decode cX1_pass 96 = .ok (.getfield 37, 3) := by decide +kernel
theorem dX1_pass_99 : decode cX1_pass 99 = .ok (.iconst 1, 1) := by decide +kernel
theorem dX1_pass_100 : decode cX1_pass 100 = .ok (.iadd, 1) := by decide +kernel
theorem dX1_pass_101 : decode cX1_pass 101 = .ok (.putfield 37, 3) := by decide +kernel
theorem dX1_pass_104 : decode cX1_pass 104 = .ok (.return_, 1) := by decide +kernel
theorem dX1_moveAll_0 : decode cX1_moveAll 0 = .ok (.iconst 0, 1) := by decide +kernel
theorem dX1_moveAll_1 : decode cX1_moveAll 1 = .ok (.istore_n 3, 1) := by decide +kernel
theorem dX1_moveAll_2 : decode cX1_moveAll 2 = .ok (.iload_n 3, 1) := by decide +kernel
theorem dX1_moveAll_3 : decode cX1_moveAll 3 = .ok (.aload_n 0, 1) := by decide +kernel
theorem dX1_moveAll_4 : decode cX1_moveAll 4 = .ok (.getfield 19, 3) := by decide +kernel
theorem dX1_moveAll_7 : decode cX1_moveAll 7 = .ok (.getfield 69, 3) := by decide +kernel
theorem dX1_moveAll_10 : decode cX1_moveAll 10 = .ok (.if_icmp .ge 133, 3) := by decide +kernel
theorem dX1_moveAll_13 : decode cX1_moveAll 13 = .ok (.aload_n 0, 1) := by decide +kernel
theorem dX1_moveAll_14 : decode cX1_moveAll 14 = .ok (.getfield 19, 3) := by decide +kernel
theorem dX1_moveAll_17 : decode cX1_moveAll 17 = .ok (.iload_n 2, 1) := by decide +kernel
theorem dX1_moveAll_18 : decode cX1_moveAll 18 = .ok (.iload_n 3, 1) := by decide +kernel
theorem dX1_moveAll_19 : decode cX1_moveAll 19 = .ok (.invokevirtual 118, 3) := by decide +kernel
theorem dX1_moveAll_22 : decode cX1_moveAll 22 = .ok (.istore 4, 2) := by decide +kernel
theorem dX1_moveAll_24 : decode cX1_moveAll 24 = .ok (.iload 4, 2) := by decide +kernel
theorem dX1_moveAll_26 : decode cX1_moveAll 26 = .ok (.iload_n 3, 1) := by decide +kernel
theorem dX1_moveAll_27 : decode cX1_moveAll 27 = .ok (.if_icmp .eq 110, 3) := by decide +kernel
theorem dX1_moveAll_30 : decode cX1_moveAll 30 = .ok (.aload_n 0, 1) := by decide +kernel
theorem dX1_moveAll_31 : decode cX1_moveAll 31 = .ok (.getfield 30, 3) := by decide +kernel
theorem dX1_moveAll_34 : decode cX1_moveAll 34 = .ok (.iload_n 1, 1) := by decide +kernel
theorem dX1_moveAll_35 : decode cX1_moveAll 35 = .ok (.iload_n 3, 1) := by decide +kernel
theorem dX1_moveAll_36 : decode cX1_moveAll 36 = .ok (.iadd, 1) := by decide +kernel
theorem dX1_moveAll_37 : decode cX1_moveAll 37 = .ok (.laload, 1) := by decide +kernel
theorem dX1_moveAll_38 : decode cX1_moveAll 38 = .ok (.lconst 0, 1) := by decide +kernel
theorem dX1_moveAll_39 : decode cX1_moveAll 39 = .ok (.lcmp, 1) := by decide +kernel
theorem dX1_moveAll_40 : decode cX1_moveAll 40 = .ok (.ifCond .eq 97, 3) := by decide +kernel
theorem dX1_moveAll_43 : decode cX1_moveAll 43 = .ok (.aload_n 0, 1) := by decide +kernel
theorem dX1_moveAll_44 : decode cX1_moveAll 44 = .ok (.getfield 30, 3) := by decide +kernel
theorem dX1_moveAll_47 : decode cX1_moveAll 47 = .ok (.iload_n 1, 1) := by decide +kernel
theorem dX1_moveAll_48 : decode cX1_moveAll 48 = .ok (.iload 4, 2) := by decide +kernel
theorem dX1_moveAll_50 : decode cX1_moveAll 50 = .ok (.iadd, 1) := by decide +kernel
theorem dX1_moveAll_51 : decode cX1_moveAll 51 = .ok (.dup2, 1) := by decide +kernel
theorem dX1_moveAll_52 : decode cX1_moveAll 52 = .ok (.laload, 1) := by decide +kernel
theorem dX1_moveAll_53 : decode cX1_moveAll 53 = .ok (.aload_n 0, 1) := by decide +kernel
theorem dX1_moveAll_54 : decode cX1_moveAll 54 = .ok (.getfield 30, 3) := by decide +kernel
theorem dX1_moveAll_57 : decode cX1_moveAll 57 = .ok (.iload_n 1, 1) := by decide +kernel
theorem dX1_moveAll_58 : decode cX1_moveAll 58 = .ok (.iload_n 3, 1) := by decide +kernel
theorem dX1_moveAll_59 : decode cX1_moveAll 59 = .ok (.iadd, 1) := by decide +kernel
theorem dX1_moveAll_60 : decode cX1_moveAll 60 = .ok (.laload, 1) := by decide +kernel
theorem dX1_moveAll_61 : decode cX1_moveAll 61 = .ok (.ladd, 1) := by decide +kernel
theorem dX1_moveAll_62 : decode cX1_moveAll 62 = .ok (.lastore, 1) := by decide +kernel
theorem dX1_moveAll_63 : decode cX1_moveAll 63 = .ok (.aload_n 0, 1) := by decide +kernel
theorem dX1_moveAll_64 : decode cX1_moveAll 64 = .ok (.getfield 30, 3) := by decide +kernel
theorem dX1_moveAll_67 : decode cX1_moveAll 67 = .ok (.iload_n 1, 1) := by decide +kernel
theorem dX1_moveAll_68 : decode cX1_moveAll 68 = .ok (.iload_n 3, 1) := by decide +kernel
theorem dX1_moveAll_69 : decode cX1_moveAll 69 = .ok (.iadd, 1) := by decide +kernel
theorem dX1_moveAll_70 : decode cX1_moveAll 70 = .ok (.lconst 0, 1) := by decide +kernel
theorem dX1_moveAll_71 : decode cX1_moveAll 71 = .ok (.lastore, 1) := by decide +kernel
theorem dX1_moveAll_72 : decode cX1_moveAll 72 = .ok (.iconst 0, 1) := by decide +kernel
theorem dX1_moveAll_73 : decode cX1_moveAll 73 = .ok (.istore 5, 2) := by decide +kernel
theorem dX1_moveAll_75 : decode cX1_moveAll 75 = .ok (.iload 5, 2) := by decide +kernel
theorem dX1_moveAll_77 : decode cX1_moveAll 77 = .ok (.aload_n 0, 1) := by decide +kernel
theorem dX1_moveAll_78 : decode cX1_moveAll 78 = .ok (.getfield 37, 3) := by decide +kernel
theorem dX1_moveAll_81 : decode cX1_moveAll 81 = .ok (.if_icmp .gt 56, 3) := by decide +kernel
theorem dX1_moveAll_84 : decode cX1_moveAll 84 = .ok (.aload_n 0, 1) := by decide +kernel
theorem dX1_moveAll_85 : decode cX1_moveAll 85 = .ok (.getfield 27, 3) := by decide +kernel
theorem dX1_moveAll_88 : decode cX1_moveAll 88 = .ok (.iload_n 1, 1) := by decide +kernel
theorem dX1_moveAll_89 : decode cX1_moveAll 89 = .ok (.iload 4, 2) := by decide +kernel
theorem dX1_moveAll_91 : decode cX1_moveAll 91 = .ok (.iadd, 1) := by decide +kernel
theorem dX1_moveAll_92 : decode cX1_moveAll 92 = .ok (.bipush 25, 2) := by decide +kernel
theorem dX1_moveAll_94 : decode cX1_moveAll 94 = .ok (.imul, 1) := by decide +kernel
theorem dX1_moveAll_95 : decode cX1_moveAll 95 = .ok (.iload 5, 2) := by decide +kernel
theorem dX1_moveAll_97 : decode cX1_moveAll 97 = .ok (.iadd, 1) := by decide +kernel
theorem dX1_moveAll_98 : decode cX1_moveAll 98 = .ok (.dup2, 1) := by decide +kernel
theorem dX1_moveAll_99 : decode cX1_moveAll 99 = .ok (.laload, 1) := by decide +kernel
theorem dX1_moveAll_100 : decode cX1_moveAll 100 = .ok (.aload_n 0, 1) := by decide +kernel
theorem dX1_moveAll_101 : decode cX1_moveAll 101 = .ok (.getfield 27, 3) := by decide +kernel
theorem dX1_moveAll_104 : decode cX1_moveAll 104 = .ok (.iload_n 1, 1) := by decide +kernel
theorem dX1_moveAll_105 : decode cX1_moveAll 105 = .ok (.iload_n 3, 1) := by decide +kernel
theorem dX1_moveAll_106 : decode cX1_moveAll 106 = .ok (.iadd, 1) := by decide +kernel
theorem dX1_moveAll_107 : decode cX1_moveAll 107 = .ok (.bipush 25, 2) := by decide +kernel
theorem dX1_moveAll_109 : decode cX1_moveAll 109 = .ok (.imul, 1) := by decide +kernel
theorem dX1_moveAll_110 : decode cX1_moveAll 110 = .ok (.iload 5, 2) := by decide +kernel
theorem dX1_moveAll_112 : decode cX1_moveAll 112 = .ok (.iadd, 1) := by decide +kernel
theorem dX1_moveAll_113 : decode cX1_moveAll 113 = .ok (.laload, 1) := by decide +kernel
theorem dX1_moveAll_114 : decode cX1_moveAll 114 = .ok (.ladd, 1) := by decide +kernel
theorem dX1_moveAll_115 : decode cX1_moveAll 115 = .ok (.lastore, 1) := by decide +kernel
theorem dX1_moveAll_116 : decode cX1_moveAll 116 = .ok (.aload_n 0, 1) := by decide +kernel
theorem dX1_moveAll_117 : decode cX1_moveAll 117 = .ok (.getfield 27, 3) := by decide +kernel
theorem dX1_moveAll_120 : decode cX1_moveAll 120 = .ok (.iload_n 1, 1) := by decide +kernel
theorem dX1_moveAll_121 : decode cX1_moveAll 121 = .ok (.iload_n 3, 1) := by decide +kernel
theorem dX1_moveAll_122 : decode cX1_moveAll 122 = .ok (.iadd, 1) := by decide +kernel
theorem dX1_moveAll_123 : decode cX1_moveAll 123 = .ok (.bipush 25, 2) := by decide +kernel
theorem dX1_moveAll_125 : decode cX1_moveAll 125 = .ok (.imul, 1) := by decide +kernel
theorem dX1_moveAll_126 : decode cX1_moveAll 126 = .ok (.iload 5, 2) := by decide +kernel
theorem dX1_moveAll_128 : decode cX1_moveAll 128 = .ok (.iadd, 1) := by decide +kernel
theorem dX1_moveAll_129 : decode cX1_moveAll 129 = .ok (.lconst 0, 1) := by decide +kernel
theorem dX1_moveAll_130 : decode cX1_moveAll 130 = .ok (.lastore, 1) := by decide +kernel
theorem dX1_moveAll_131 : decode cX1_moveAll 131 = .ok (.iinc 5 1, 3) := by decide +kernel
theorem dX1_moveAll_134 : decode cX1_moveAll 134 = .ok (.goto (-59), 3) := by decide +kernel
theorem dX1_moveAll_137 : decode cX1_moveAll 137 = .ok (.iinc 3 1, 3) := by decide +kernel
theorem dX1_moveAll_140 : decode cX1_moveAll 140 = .ok (.goto (-138), 3) := by decide +kernel
theorem dX1_moveAll_143 : decode cX1_moveAll 143 = .ok (.return_, 1) := by decide +kernel
theorem dX1_doubleUnmoved_0 : decode cX1_doubleUnmoved 0 = .ok (.iconst 0, 1) := by decide +kernel
theorem dX1_doubleUnmoved_1 : decode cX1_doubleUnmoved 1 = .ok (.istore_n 3, 1) := by decide +kernel
theorem dX1_doubleUnmoved_2 : decode cX1_doubleUnmoved 2 = .ok (.iload_n 3, 1) := by decide +kernel
theorem dX1_doubleUnmoved_3 : decode cX1_doubleUnmoved 3 = .ok (.aload_n 0, 1) := by decide +kernel
theorem dX1_doubleUnmoved_4 : decode cX1_doubleUnmoved 4 = .ok (.getfield 19, 3) := by decide +kernel
theorem dX1_doubleUnmoved_7 : decode cX1_doubleUnmoved 7 = .ok (.getfield 69, 3) := by decide +kernel
theorem dX1_doubleUnmoved_10 : decode cX1_doubleUnmoved 10 = .ok (.if_icmp .ge 101, 3) := by decide +kernel
theorem dX1_doubleUnmoved_13 : decode cX1_doubleUnmoved 13 = .ok (.aload_n 0, 1) := by decide +kernel
theorem dX1_doubleUnmoved_14 : decode cX1_doubleUnmoved 14 = .ok (.getfield 19, 3) := by decide +kernel
theorem dX1_doubleUnmoved_17 : decode cX1_doubleUnmoved 17 = .ok (.iload_n 2, 1) := by decide +kernel
theorem dX1_doubleUnmoved_18 : decode cX1_doubleUnmoved 18 = .ok (.iload_n 3, 1) := by decide +kernel
theorem dX1_doubleUnmoved_19 : decode cX1_doubleUnmoved 19 = .ok (.invokevirtual 118, 3) := by decide +kernel
theorem dX1_doubleUnmoved_22 : decode cX1_doubleUnmoved 22 = .ok (.iload_n 3, 1) := by decide +kernel
theorem dX1_doubleUnmoved_23 : decode cX1_doubleUnmoved 23 = .ok (.if_icmp .ne 82, 3) := by decide +kernel
theorem dX1_doubleUnmoved_26 : decode cX1_doubleUnmoved 26 = .ok (.aload_n 0, 1) := by decide +kernel
theorem dX1_doubleUnmoved_27 : decode cX1_doubleUnmoved 27 = .ok (.getfield 30, 3) := by decide +kernel
theorem dX1_doubleUnmoved_30 : decode cX1_doubleUnmoved 30 = .ok (.iload_n 1, 1) := by decide +kernel
theorem dX1_doubleUnmoved_31 : decode cX1_doubleUnmoved 31 = .ok (.iload_n 3, 1) := by decide +kernel
theorem dX1_doubleUnmoved_32 : decode cX1_doubleUnmoved 32 = .ok (.iadd, 1) := by decide +kernel
theorem dX1_doubleUnmoved_33 : decode cX1_doubleUnmoved 33 = .ok (.laload, 1) := by decide +kernel
theorem dX1_doubleUnmoved_34 : decode cX1_doubleUnmoved 34 = .ok (.lconst 0, 1) := by decide +kernel
theorem dX1_doubleUnmoved_35 : decode cX1_doubleUnmoved 35 = .ok (.lcmp, 1) := by decide +kernel
theorem dX1_doubleUnmoved_36 : decode cX1_doubleUnmoved 36 = .ok (.ifCond .eq 69, 3) := by decide +kernel
theorem dX1_doubleUnmoved_39 : decode cX1_doubleUnmoved 39 = .ok (.aload_n 0, 1) := by decide +kernel
theorem dX1_doubleUnmoved_40 : decode cX1_doubleUnmoved 40 = .ok (.getfield 30, 3) := by decide +kernel
theorem dX1_doubleUnmoved_43 : decode cX1_doubleUnmoved 43 = .ok (.iload_n 1, 1) := by decide +kernel
theorem dX1_doubleUnmoved_44 : decode cX1_doubleUnmoved 44 = .ok (.iload_n 3, 1) := by decide +kernel
theorem dX1_doubleUnmoved_45 : decode cX1_doubleUnmoved 45 = .ok (.iadd, 1) := by decide +kernel
theorem dX1_doubleUnmoved_46 : decode cX1_doubleUnmoved 46 = .ok (.dup2, 1) := by decide +kernel
theorem dX1_doubleUnmoved_47 : decode cX1_doubleUnmoved 47 = .ok (.laload, 1) := by decide +kernel
theorem dX1_doubleUnmoved_48 : decode cX1_doubleUnmoved 48 = .ok (.ldc2_w 121, 3) := by decide +kernel
theorem dX1_doubleUnmoved_51 : decode cX1_doubleUnmoved 51 = .ok (.lmul, 1) := by decide +kernel
theorem dX1_doubleUnmoved_52 : decode cX1_doubleUnmoved 52 = .ok (.lastore, 1) := by decide +kernel
theorem dX1_doubleUnmoved_53 : decode cX1_doubleUnmoved 53 = .ok (.iload_n 1, 1) := by decide +kernel
theorem dX1_doubleUnmoved_54 : decode cX1_doubleUnmoved 54 = .ok (.iload_n 3, 1) := by decide +kernel
theorem dX1_doubleUnmoved_55 : decode cX1_doubleUnmoved 55 = .ok (.iadd, 1) := by decide +kernel
theorem dX1_doubleUnmoved_56 : decode cX1_doubleUnmoved 56 = .ok (.bipush 25, 2) := by decide +kernel
theorem dX1_doubleUnmoved_58 : decode cX1_doubleUnmoved 58 = .ok (.imul, 1) := by decide +kernel
theorem dX1_doubleUnmoved_59 : decode cX1_doubleUnmoved 59 = .ok (.istore 4, 2) := by decide +kernel
theorem dX1_doubleUnmoved_61 : decode cX1_doubleUnmoved 61 = .ok (.aload_n 0, 1) := by decide +kernel
theorem dX1_doubleUnmoved_62 : decode cX1_doubleUnmoved 62 = .ok (.getfield 37, 3) := by decide +kernel
theorem dX1_doubleUnmoved_65 : decode cX1_doubleUnmoved 65 = .ok (.iconst 1, 1) := by decide +kernel
theorem dX1_doubleUnmoved_66 : decode cX1_doubleUnmoved 66 = .ok (.iadd, 1) := by decide +kernel
theorem dX1_doubleUnmoved_67 : decode cX1_doubleUnmoved 67 = .ok (.istore 5, 2) := by decide +kernel
theorem dX1_doubleUnmoved_69 : decode cX1_doubleUnmoved 69 = .ok (.iload 5, 2) := by decide +kernel
theorem dX1_doubleUnmoved_71 : decode cX1_doubleUnmoved 71 = .ok (.ifCond .le 34, 3) := by decide +kernel
theorem dX1_doubleUnmoved_74 : decode cX1_doubleUnmoved 74 = .ok (.aload_n 0, 1) := by decide +kernel
theorem dX1_doubleUnmoved_75 : decode cX1_doubleUnmoved 75 = .ok (.getfield 27, 3) := by decide +kernel
theorem dX1_doubleUnmoved_78 : decode cX1_doubleUnmoved 78 = .ok (.iload 4, 2) := by decide +kernel
theorem dX1_doubleUnmoved_80 : decode cX1_doubleUnmoved 80 = .ok (.iload 5, 2) := by decide +kernel
theorem dX1_doubleUnmoved_82 : decode cX1_doubleUnmoved 82 = .ok (.iadd, 1) := by decide +kernel
theorem dX1_doubleUnmoved_83 : decode cX1_doubleUnmoved 83 = .ok (.dup2, 1) := by decide +kernel
theorem dX1_doubleUnmoved_84 : decode cX1_doubleUnmoved 84 = .ok (.laload, 1) := by decide +kernel
theorem dX1_doubleUnmoved_85 : decode cX1_doubleUnmoved 85 = .ok (.aload_n 0, 1) := by decide +kernel
theorem dX1_doubleUnmoved_86 : decode cX1_doubleUnmoved 86 = .ok (.getfield 27, 3) := by decide +kernel
theorem dX1_doubleUnmoved_89 : decode cX1_doubleUnmoved 89 = .ok (.iload 4, 2) := by decide +kernel
theorem dX1_doubleUnmoved_91 : decode cX1_doubleUnmoved 91 = .ok (.iload 5, 2) := by decide +kernel
theorem dX1_doubleUnmoved_93 : decode cX1_doubleUnmoved 93 = .ok (.iadd, 1) := by decide +kernel
theorem dX1_doubleUnmoved_94 : decode cX1_doubleUnmoved 94 = .ok (.iconst 1, 1) := by decide +kernel
theorem dX1_doubleUnmoved_95 : decode cX1_doubleUnmoved 95 = .ok (.isub, 1) := by decide +kernel
theorem dX1_doubleUnmoved_96 : decode cX1_doubleUnmoved 96 = .ok (.laload, 1) := by decide +kernel
theorem dX1_doubleUnmoved_97 : decode cX1_doubleUnmoved 97 = .ok (.ladd, 1) := by decide +kernel
theorem dX1_doubleUnmoved_98 : decode cX1_doubleUnmoved 98 = .ok (.lastore, 1) := by decide +kernel
theorem dX1_doubleUnmoved_99 : decode cX1_doubleUnmoved 99 = .ok (.iinc 5 (-1), 3) := by decide +kernel
theorem dX1_doubleUnmoved_102 : decode cX1_doubleUnmoved 102 = .ok (.goto (-33), 3) := by decide +kernel
theorem dX1_doubleUnmoved_105 : decode cX1_doubleUnmoved 105 = .ok (.iinc 3 1, 3) := by decide +kernel
theorem dX1_doubleUnmoved_108 : decode cX1_doubleUnmoved 108 = .ok (.goto (-106), 3) := by decide +kernel
theorem dX1_doubleUnmoved_111 : decode cX1_doubleUnmoved 111 = .ok (.return_, 1) := by decide +kernel
theorem dX1_divideMoved_0 : decode cX1_divideMoved 0 = .ok (.iload_n 3, 1) := by decide +kernel
theorem dX1_divideMoved_1 : decode cX1_divideMoved 1 = .ok (.ifCond .eq 7, 3) := by decide +kernel
theorem dX1_divideMoved_4 : decode cX1_divideMoved 4 = .ok (.iconst 1, 1) := by decide +kernel
theorem dX1_divideMoved_5 : decode cX1_divideMoved 5 = .ok (.goto 4, 3) := by decide +kernel
theorem dX1_divideMoved_8 : decode cX1_divideMoved 8 = .ok (.iconst 0, 1) := by decide +kernel
theorem dX1_divideMoved_9 : decode cX1_divideMoved 9 = .ok (.istore 4, 2) := by decide +kernel
theorem dX1_divideMoved_11 : decode cX1_divideMoved 11 = .ok (.iconst 0, 1) := by decide +kernel
theorem dX1_divideMoved_12 : decode cX1_divideMoved 12 = .ok (.istore 5, 2) := by decide +kernel
theorem dX1_divideMoved_14 : decode cX1_divideMoved 14 = .ok (.iload 5, 2) := by decide +kernel
theorem dX1_divideMoved_16 : decode cX1_divideMoved 16 = .ok (.aload_n 0, 1) := by decide +kernel
theorem dX1_divideMoved_17 : decode cX1_divideMoved 17 = .ok (.getfield 19, 3) := by decide +kernel
theorem dX1_divideMoved_20 : decode cX1_divideMoved 20 = .ok (.getfield 69, 3) := by decide +kernel
theorem dX1_divideMoved_23 : decode cX1_divideMoved 23 = .ok (.if_icmp .ge 161, 3) := by decide +kernel
theorem dX1_divideMoved_26 : decode cX1_divideMoved 26 = .ok (.aload_n 0, 1) := by decide +kernel
theorem dX1_divideMoved_27 : decode cX1_divideMoved 27 = .ok (.getfield 19, 3) := by decide +kernel
theorem dX1_divideMoved_30 : decode cX1_divideMoved 30 = .ok (.iload_n 2, 1) := by decide +kernel
theorem dX1_divideMoved_31 : decode cX1_divideMoved 31 = .ok (.iload 5, 2) := by decide +kernel
theorem dX1_divideMoved_33 : decode cX1_divideMoved 33 = .ok (.invokevirtual 118, 3) := by decide +kernel
theorem dX1_divideMoved_36 : decode cX1_divideMoved 36 = .ok (.istore 6, 2) := by decide +kernel
theorem dX1_divideMoved_38 : decode cX1_divideMoved 38 = .ok (.iload 6, 2) := by decide +kernel
theorem dX1_divideMoved_40 : decode cX1_divideMoved 40 = .ok (.iload 5, 2) := by decide +kernel
theorem dX1_divideMoved_42 : decode cX1_divideMoved 42 = .ok (.if_icmp .eq 136, 3) := by decide +kernel
theorem dX1_divideMoved_45 : decode cX1_divideMoved 45 = .ok (.aload_n 0, 1) := by decide +kernel
theorem dX1_divideMoved_46 : decode cX1_divideMoved 46 = .ok (.getfield 30, 3) := by decide +kernel
theorem dX1_divideMoved_49 : decode cX1_divideMoved 49 = .ok (.iload_n 1, 1) := by decide +kernel
theorem dX1_divideMoved_50 : decode cX1_divideMoved 50 = .ok (.iload 5, 2) := by decide +kernel
theorem dX1_divideMoved_52 : decode cX1_divideMoved 52 = .ok (.iadd, 1) := by decide +kernel
theorem dX1_divideMoved_53 : decode cX1_divideMoved 53 = .ok (.laload, 1) := by decide +kernel
theorem dX1_divideMoved_54 : decode cX1_divideMoved 54 = .ok (.lconst 0, 1) := by decide +kernel
theorem dX1_divideMoved_55 : decode cX1_divideMoved 55 = .ok (.lcmp, 1) := by decide +kernel
theorem dX1_divideMoved_56 : decode cX1_divideMoved 56 = .ok (.ifCond .eq 122, 3) := by decide +kernel
theorem dX1_divideMoved_59 : decode cX1_divideMoved 59 = .ok (.aload_n 0, 1) := by decide +kernel
theorem dX1_divideMoved_60 : decode cX1_divideMoved 60 = .ok (.getfield 30, 3) := by decide +kernel
theorem dX1_divideMoved_63 : decode cX1_divideMoved 63 = .ok (.iload_n 1, 1) := by decide +kernel
theorem dX1_divideMoved_64 : decode cX1_divideMoved 64 = .ok (.iload 6, 2) := by decide +kernel
theorem dX1_divideMoved_66 : decode cX1_divideMoved 66 = .ok (.iadd, 1) := by decide +kernel
theorem dX1_divideMoved_67 : decode cX1_divideMoved 67 = .ok (.dup2, 1) := by decide +kernel
theorem dX1_divideMoved_68 : decode cX1_divideMoved 68 = .ok (.laload, 1) := by decide +kernel
theorem dX1_divideMoved_69 : decode cX1_divideMoved 69 = .ok (.aload_n 0, 1) := by decide +kernel
theorem dX1_divideMoved_70 : decode cX1_divideMoved 70 = .ok (.getfield 30, 3) := by decide +kernel
theorem dX1_divideMoved_73 : decode cX1_divideMoved 73 = .ok (.iload_n 1, 1) := by decide +kernel
theorem dX1_divideMoved_74 : decode cX1_divideMoved 74 = .ok (.iload 5, 2) := by decide +kernel
theorem dX1_divideMoved_76 : decode cX1_divideMoved 76 = .ok (.iadd, 1) := by decide +kernel
theorem dX1_divideMoved_77 : decode cX1_divideMoved 77 = .ok (.laload, 1) := by decide +kernel
theorem dX1_divideMoved_78 : decode cX1_divideMoved 78 = .ok (.ladd, 1) := by decide +kernel
theorem dX1_divideMoved_79 : decode cX1_divideMoved 79 = .ok (.lastore, 1) := by decide +kernel
theorem dX1_divideMoved_80 : decode cX1_divideMoved 80 = .ok (.iload_n 1, 1) := by decide +kernel
theorem dX1_divideMoved_81 : decode cX1_divideMoved 81 = .ok (.iload 5, 2) := by decide +kernel
theorem dX1_divideMoved_83 : decode cX1_divideMoved 83 = .ok (.iadd, 1) := by decide +kernel
theorem dX1_divideMoved_84 : decode cX1_divideMoved 84 = .ok (.bipush 25, 2) := by decide +kernel
theorem dX1_divideMoved_86 : decode cX1_divideMoved 86 = .ok (.imul, 1) := by decide +kernel
theorem dX1_divideMoved_87 : decode cX1_divideMoved 87 = .ok (.istore 7, 2) := by decide +kernel
theorem dX1_divideMoved_89 : decode cX1_divideMoved 89 = .ok (.iload_n 1, 1) := by decide +kernel
theorem dX1_divideMoved_90 : decode cX1_divideMoved 90 = .ok (.iload 6, 2) := by decide +kernel
theorem dX1_divideMoved_92 : decode cX1_divideMoved 92 = .ok (.iadd, 1) := by decide +kernel
theorem dX1_divideMoved_93 : decode cX1_divideMoved 93 = .ok (.bipush 25, 2) := by decide +kernel
theorem dX1_divideMoved_95 : decode cX1_divideMoved 95 = .ok (.imul, 1) := by decide +kernel
theorem dX1_divideMoved_96 : decode cX1_divideMoved 96 = .ok (.iload 4, 2) := by decide +kernel
theorem dX1_divideMoved_98 : decode cX1_divideMoved 98 = .ok (.iadd, 1) := by decide +kernel
theorem dX1_divideMoved_99 : decode cX1_divideMoved 99 = .ok (.istore 8, 2) := by decide +kernel
theorem dX1_divideMoved_101 : decode cX1_divideMoved 101 = .ok (.aload_n 0, 1) := by decide +kernel
theorem dX1_divideMoved_102 : decode cX1_divideMoved 102 = .ok (.getfield 37, 3) := by decide +kernel
theorem dX1_divideMoved_105 : decode cX1_divideMoved 105 = .ok (.istore 9, 2) := by decide +kernel
theorem dX1_divideMoved_107 : decode cX1_divideMoved 107 = .ok (.iload 9, 2) := by decide +kernel
theorem dX1_divideMoved_109 : decode cX1_divideMoved 109 = .ok (.ifCond .lt 57, 3) := by decide +kernel
theorem dX1_divideMoved_112 : decode cX1_divideMoved 112 = .ok (.aload_n 0, 1) := by decide +kernel
theorem dX1_divideMoved_113 : decode cX1_divideMoved 113 = .ok (.getfield 27, 3) := by decide +kernel
theorem dX1_divideMoved_116 : decode cX1_divideMoved 116 = .ok (.iload 8, 2) := by decide +kernel
theorem dX1_divideMoved_118 : decode cX1_divideMoved 118 = .ok (.iload 9, 2) := by decide +kernel
theorem dX1_divideMoved_120 : decode cX1_divideMoved 120 = .ok (.iadd, 1) := by decide +kernel
theorem dX1_divideMoved_121 : decode cX1_divideMoved 121 = .ok (.dup2, 1) := by decide +kernel
theorem dX1_divideMoved_122 : decode cX1_divideMoved 122 = .ok (.laload, 1) := by decide +kernel
theorem dX1_divideMoved_123 : decode cX1_divideMoved 123 = .ok (.aload_n 0, 1) := by decide +kernel
theorem dX1_divideMoved_124 : decode cX1_divideMoved 124 = .ok (.getfield 27, 3) := by decide +kernel
theorem dX1_divideMoved_127 : decode cX1_divideMoved 127 = .ok (.iload 7, 2) := by decide +kernel
theorem dX1_divideMoved_129 : decode cX1_divideMoved 129 = .ok (.iload 9, 2) := by decide +kernel
theorem dX1_divideMoved_131 : decode cX1_divideMoved 131 = .ok (.iadd, 1) := by decide +kernel
theorem dX1_divideMoved_132 : decode cX1_divideMoved 132 = .ok (.laload, 1) := by decide +kernel
theorem dX1_divideMoved_133 : decode cX1_divideMoved 133 = .ok (.ladd, 1) := by decide +kernel
theorem dX1_divideMoved_134 : decode cX1_divideMoved 134 = .ok (.lastore, 1) := by decide +kernel
theorem dX1_divideMoved_135 : decode cX1_divideMoved 135 = .ok (.aload_n 0, 1) := by decide +kernel
theorem dX1_divideMoved_136 : decode cX1_divideMoved 136 = .ok (.getfield 27, 3) := by decide +kernel
theorem dX1_divideMoved_139 : decode cX1_divideMoved 139 = .ok (.iload 7, 2) := by decide +kernel
theorem dX1_divideMoved_141 : decode cX1_divideMoved 141 = .ok (.iload 9, 2) := by decide +kernel
theorem dX1_divideMoved_143 : decode cX1_divideMoved 143 = .ok (.iadd, 1) := by decide +kernel
theorem dX1_divideMoved_144 : decode cX1_divideMoved 144 = .ok (.iconst 1, 1) := by decide +kernel
theorem dX1_divideMoved_145 : decode cX1_divideMoved 145 = .ok (.iadd, 1) := by decide +kernel
theorem dX1_divideMoved_146 : decode cX1_divideMoved 146 = .ok (.iload 4, 2) := by decide +kernel
theorem dX1_divideMoved_148 : decode cX1_divideMoved 148 = .ok (.isub, 1) := by decide +kernel
theorem dX1_divideMoved_149 : decode cX1_divideMoved 149 = .ok (.aload_n 0, 1) := by decide +kernel
theorem dX1_divideMoved_150 : decode cX1_divideMoved 150 = .ok (.getfield 27, 3) := by decide +kernel
theorem dX1_divideMoved_153 : decode cX1_divideMoved 153 = .ok (.iload 7, 2) := by decide +kernel
theorem dX1_divideMoved_155 : decode cX1_divideMoved 155 = .ok (.iload 9, 2) := by decide +kernel
theorem dX1_divideMoved_157 : decode cX1_divideMoved 157 = .ok (.iadd, 1) := by decide +kernel
theorem dX1_divideMoved_158 : decode cX1_divideMoved 158 = .ok (.laload, 1) := by decide +kernel
theorem dX1_divideMoved_159 : decode cX1_divideMoved 159 = .ok (.lastore, 1) := by decide +kernel
theorem dX1_divideMoved_160 : decode cX1_divideMoved 160 = .ok (.iinc 9 (-1), 3) := by decide +kernel
theorem dX1_divideMoved_163 : decode cX1_divideMoved 163 = .ok (.goto (-56), 3) := by decide +kernel
theorem dX1_divideMoved_166 : decode cX1_divideMoved 166 = .ok (.iload_n 3, 1) := by decide +kernel
theorem dX1_divideMoved_167 : decode cX1_divideMoved 167 = .ok (.ifCond .ne 11, 3) := by decide +kernel
theorem dX1_divideMoved_170 : decode cX1_divideMoved 170 = .ok (.aload_n 0, 1) := by decide +kernel
theorem dX1_divideMoved_171 : decode cX1_divideMoved 171 = .ok (.getfield 27, 3) := by decide +kernel
theorem dX1_divideMoved_174 : decode cX1_divideMoved 174 = .ok (.iload 7, 2) := by decide +kernel
theorem dX1_divideMoved_176 : decode cX1_divideMoved 176 = .ok (.lconst 0, 1) := by decide +kernel
theorem dX1_divideMoved_177 : decode cX1_divideMoved 177 = .ok (.lastore, 1) := by decide +kernel
theorem dX1_divideMoved_178 : decode cX1_divideMoved 178 = .ok (.iinc 5 1, 3) := by decide +kernel
theorem dX1_divideMoved_181 : decode cX1_divideMoved 181 = .ok (.goto (-167), 3) := by decide +kernel
theorem dX1_divideMoved_184 : decode cX1_divideMoved 184 = .ok (.return_, 1) := by decide +kernel
theorem dX1_freeTo_0 : decode cX1_freeTo 0 = .ok (.aload_n 0, 1) := by decide +kernel
theorem dX1_freeTo_1 : decode cX1_freeTo 1 = .ok (.getfield 9, 3) := by decide +kernel
theorem dX1_freeTo_4 : decode cX1_freeTo 4 = .ok (.iload_n 1, 1) := by decide +kernel
theorem dX1_freeTo_5 : decode cX1_freeTo 5 = .ok (.iaload, 1) := by decide +kernel
theorem dX1_freeTo_6 : decode cX1_freeTo 6 = .ok (.ireturn, 1) := by decide +kernel
theorem dX1_waysTo_0 : decode cX1_waysTo 0 = .ok (.aload_n 0, 1) := by decide +kernel
theorem dX1_waysTo_1 : decode cX1_waysTo 1 = .ok (.getfield 27, 3) := by decide +kernel
theorem dX1_waysTo_4 : decode cX1_waysTo 4 = .ok (.aload_n 0, 1) := by decide +kernel
theorem dX1_waysTo_5 : decode cX1_waysTo 5 = .ok (.iload_n 1, 1) := by decide +kernel
theorem dX1_waysTo_6 : decode cX1_waysTo 6 = .ok (.invokevirtual 57, 3) := by decide +kernel
theorem dX1_waysTo_9 : decode cX1_waysTo 9 = .ok (.sipush 132, 3) := by decide +kernel
theorem dX1_waysTo_12 : decode cX1_waysTo 12 = .ok (.imul, 1) := by decide +kernel
theorem dX1_waysTo_13 : decode cX1_waysTo 13 = .ok (.iload_n 2, 1) := by decide +kernel
theorem dX1_waysTo_14 : decode cX1_waysTo 14 = .ok (.iadd, 1) := by decide +kernel
theorem dX1_waysTo_15 : decode cX1_waysTo 15 = .ok (.bipush 25, 2) := by decide +kernel
theorem dX1_waysTo_17 : decode cX1_waysTo 17 = .ok (.imul, 1) := by decide +kernel
theorem dX1_waysTo_18 : decode cX1_waysTo 18 = .ok (.iload_n 3, 1) := by decide +kernel
theorem dX1_waysTo_19 : decode cX1_waysTo 19 = .ok (.iadd, 1) := by decide +kernel
theorem dX1_waysTo_20 : decode cX1_waysTo 20 = .ok (.laload, 1) := by decide +kernel
theorem dX1_waysTo_21 : decode cX1_waysTo 21 = .ok (.lreturn, 1) := by decide +kernel
theorem dX1_totalOf_0 : decode cX1_totalOf 0 = .ok (.aload_n 0, 1) := by decide +kernel
theorem dX1_totalOf_1 : decode cX1_totalOf 1 = .ok (.getfield 30, 3) := by decide +kernel
theorem dX1_totalOf_4 : decode cX1_totalOf 4 = .ok (.aload_n 0, 1) := by decide +kernel
theorem dX1_totalOf_5 : decode cX1_totalOf 5 = .ok (.iload_n 1, 1) := by decide +kernel
theorem dX1_totalOf_6 : decode cX1_totalOf 6 = .ok (.invokevirtual 57, 3) := by decide +kernel
theorem dX1_totalOf_9 : decode cX1_totalOf 9 = .ok (.sipush 132, 3) := by decide +kernel
theorem dX1_totalOf_12 : decode cX1_totalOf 12 = .ok (.imul, 1) := by decide +kernel
theorem dX1_totalOf_13 : decode cX1_totalOf 13 = .ok (.iload_n 2, 1) := by decide +kernel
theorem dX1_totalOf_14 : decode cX1_totalOf 14 = .ok (.iadd, 1) := by decide +kernel
theorem dX1_totalOf_15 : decode cX1_totalOf 15 = .ok (.laload, 1) := by decide +kernel
theorem dX1_totalOf_16 : decode cX1_totalOf 16 = .ok (.lreturn, 1) := by decide +kernel
theorem dX1_wetWays_0 : decode cX1_wetWays 0 = .ok (.lconst 0, 1) := by decide +kernel
theorem dX1_wetWays_1 : decode cX1_wetWays 1 = .ok (.lstore_n 3, 1) := by decide +kernel
theorem dX1_wetWays_2 : decode cX1_wetWays 2 = .ok (.iconst 0, 1) := by decide +kernel
theorem dX1_wetWays_3 : decode cX1_wetWays 3 = .ok (.istore 5, 2) := by decide +kernel
theorem dX1_wetWays_5 : decode cX1_wetWays 5 = .ok (.iload 5, 2) := by decide +kernel
theorem dX1_wetWays_7 : decode cX1_wetWays 7 = .ok (.aload_n 0, 1) := by decide +kernel
theorem dX1_wetWays_8 : decode cX1_wetWays 8 = .ok (.getfield 19, 3) := by decide +kernel
theorem dX1_wetWays_11 : decode cX1_wetWays 11 = .ok (.getfield 69, 3) := by decide +kernel
theorem dX1_wetWays_14 : decode cX1_wetWays 14 = .ok (.if_icmp .ge 33, 3) := by decide +kernel
theorem dX1_wetWays_17 : decode cX1_wetWays 17 = .ok (.aload_n 0, 1) := by decide +kernel
theorem dX1_wetWays_18 : decode cX1_wetWays 18 = .ok (.getfield 19, 3) := by decide +kernel
theorem dX1_wetWays_21 : decode cX1_wetWays 21 = .ok (.getfield 123, 3) := by decide +kernel
theorem dX1_wetWays_24 : decode cX1_wetWays 24 = .ok (.iload 5, 2) := by decide +kernel
theorem dX1_wetWays_26 : decode cX1_wetWays 26 = .ok (.iaload, 1) := by decide +kernel
theorem dX1_wetWays_27 : decode cX1_wetWays 27 = .ok (.ifCond .eq 14, 3) := by decide +kernel
theorem dX1_wetWays_30 : decode cX1_wetWays 30 = .ok (.lload_n 3, 1) := by decide +kernel
theorem dX1_wetWays_31 : decode cX1_wetWays 31 = .ok (.aload_n 0, 1) := by decide +kernel
theorem dX1_wetWays_32 : decode cX1_wetWays 32 = .ok (.iload_n 1, 1) := by decide +kernel
theorem dX1_wetWays_33 : decode cX1_wetWays 33 = .ok (.iload 5, 2) := by decide +kernel
theorem dX1_wetWays_35 : decode cX1_wetWays 35 = .ok (.iload_n 2, 1) := by decide +kernel
theorem dX1_wetWays_36 : decode cX1_wetWays 36 = .ok (.invokevirtual 126, 3) := by decide +kernel
theorem dX1_wetWays_39 : decode cX1_wetWays 39 = .ok (.ladd, 1) := by decide +kernel
theorem dX1_wetWays_40 : decode cX1_wetWays 40 = .ok (.lstore_n 3, 1) := by decide +kernel
theorem dX1_wetWays_41 : decode cX1_wetWays 41 = .ok (.iinc 5 1, 3) := by decide +kernel
theorem dX1_wetWays_44 : decode cX1_wetWays 44 = .ok (.goto (-39), 3) := by decide +kernel
theorem dX1_wetWays_47 : decode cX1_wetWays 47 = .ok (.lload_n 3, 1) := by decide +kernel
theorem dX1_wetWays_48 : decode cX1_wetWays 48 = .ok (.lreturn, 1) := by decide +kernel
theorem dX1_stateCount_0 : decode cX1_stateCount 0 = .ok (.iconst 0, 1) := by decide +kernel
theorem dX1_stateCount_1 : decode cX1_stateCount 1 = .ok (.istore_n 2, 1) := by decide +kernel
theorem dX1_stateCount_2 : decode cX1_stateCount 2 = .ok (.iconst 0, 1) := by decide +kernel
theorem dX1_stateCount_3 : decode cX1_stateCount 3 = .ok (.istore_n 3, 1) := by decide +kernel
theorem dX1_stateCount_4 : decode cX1_stateCount 4 = .ok (.iload_n 3, 1) := by decide +kernel
theorem dX1_stateCount_5 : decode cX1_stateCount 5 = .ok (.aload_n 0, 1) := by decide +kernel
theorem dX1_stateCount_6 : decode cX1_stateCount 6 = .ok (.getfield 19, 3) := by decide +kernel
theorem dX1_stateCount_9 : decode cX1_stateCount 9 = .ok (.getfield 69, 3) := by decide +kernel
theorem dX1_stateCount_12 : decode cX1_stateCount 12 = .ok (.if_icmp .ge 23, 3) := by decide +kernel
theorem dX1_stateCount_15 : decode cX1_stateCount 15 = .ok (.aload_n 0, 1) := by decide +kernel
theorem dX1_stateCount_16 : decode cX1_stateCount 16 = .ok (.iload_n 1, 1) := by decide +kernel
theorem dX1_stateCount_17 : decode cX1_stateCount 17 = .ok (.iload_n 3, 1) := by decide +kernel
theorem dX1_stateCount_18 : decode cX1_stateCount 18 = .ok (.invokevirtual 130, 3) := by decide +kernel
theorem dX1_stateCount_21 : decode cX1_stateCount 21 = .ok (.lconst 0, 1) := by decide +kernel
theorem dX1_stateCount_22 : decode cX1_stateCount 22 = .ok (.lcmp, 1) := by decide +kernel
theorem dX1_stateCount_23 : decode cX1_stateCount 23 = .ok (.ifCond .le 6, 3) := by decide +kernel
theorem dX1_stateCount_26 : decode cX1_stateCount 26 = .ok (.iinc 2 1, 3) := by decide +kernel
theorem dX1_stateCount_29 : decode cX1_stateCount 29 = .ok (.iinc 3 1, 3) := by decide +kernel
theorem dX1_stateCount_32 : decode cX1_stateCount 32 = .ok (.goto (-28), 3) := by decide +kernel
theorem dX1_stateCount_35 : decode cX1_stateCount 35 = .ok (.iload_n 2, 1) := by decide +kernel
theorem dX1_stateCount_36 : decode cX1_stateCount 36 = .ok (.ireturn, 1) := by decide +kernel
theorem dX1_stateAt_0 : decode cX1_stateAt 0 = .ok (.iconst 0, 1) := by decide +kernel
theorem dX1_stateAt_1 : decode cX1_stateAt 1 = .ok (.istore_n 3, 1) := by decide +kernel
theorem dX1_stateAt_2 : decode cX1_stateAt 2 = .ok (.iconst 0, 1) := by decide +kernel
theorem dX1_stateAt_3 : decode cX1_stateAt 3 = .ok (.istore 4, 2) := by decide +kernel
theorem dX1_stateAt_5 : decode cX1_stateAt 5 = .ok (.iload 4, 2) := by decide +kernel
theorem dX1_stateAt_7 : decode cX1_stateAt 7 = .ok (.aload_n 0, 1) := by decide +kernel
theorem dX1_stateAt_8 : decode cX1_stateAt 8 = .ok (.getfield 19, 3) := by decide +kernel
theorem dX1_stateAt_11 : decode cX1_stateAt 11 = .ok (.getfield 69, 3) := by decide +kernel
theorem dX1_stateAt_14 : decode cX1_stateAt 14 = .ok (.if_icmp .ge 32, 3) := by decide +kernel
theorem dX1_stateAt_17 : decode cX1_stateAt 17 = .ok (.aload_n 0, 1) := by decide +kernel
theorem dX1_stateAt_18 : decode cX1_stateAt 18 = .ok (.iload_n 1, 1) := by decide +kernel
theorem dX1_stateAt_19 : decode cX1_stateAt 19 = .ok (.iload 4, 2) := by decide +kernel
theorem dX1_stateAt_21 : decode cX1_stateAt 21 = .ok (.invokevirtual 130, 3) := by decide +kernel
theorem dX1_stateAt_24 : decode cX1_stateAt 24 = .ok (.lconst 0, 1) := by decide +kernel
theorem dX1_stateAt_25 : decode cX1_stateAt 25 = .ok (.lcmp, 1) := by decide +kernel
theorem dX1_stateAt_26 : decode cX1_stateAt 26 = .ok (.ifCond .le 14, 3) := by decide +kernel
theorem dX1_stateAt_29 : decode cX1_stateAt 29 = .ok (.iload_n 3, 1) := by decide +kernel
theorem dX1_stateAt_30 : decode cX1_stateAt 30 = .ok (.iload_n 2, 1) := by decide +kernel
theorem dX1_stateAt_31 : decode cX1_stateAt 31 = .ok (.if_icmp .ne 6, 3) := by decide +kernel
theorem dX1_stateAt_34 : decode cX1_stateAt 34 = .ok (.iload 4, 2) := by decide +kernel
theorem dX1_stateAt_36 : decode cX1_stateAt 36 = .ok (.ireturn, 1) := by decide +kernel
theorem dX1_stateAt_37 : decode cX1_stateAt 37 = .ok (.iinc 3 1, 3) := by decide +kernel
theorem dX1_stateAt_40 : decode cX1_stateAt 40 = .ok (.iinc 4 1, 3) := by decide +kernel
theorem dX1_stateAt_43 : decode cX1_stateAt 43 = .ok (.goto (-38), 3) := by decide +kernel
theorem dX1_stateAt_46 : decode cX1_stateAt 46 = .ok (.iconst (-1), 1) := by decide +kernel
theorem dX1_stateAt_47 : decode cX1_stateAt 47 = .ok (.ireturn, 1) := by decide +kernel
theorem dX2_init_0 : decode cX2_init 0 = .ok (.aload_n 0, 1) := by decide +kernel
theorem dX2_init_1 : decode cX2_init 1 = .ok (.invokespecial 3, 3) := by decide +kernel
theorem dX2_init_4 : decode cX2_init 4 = .ok (.aload_n 0, 1) := by decide +kernel
theorem dX2_init_5 : decode cX2_init 5 = .ok (.iload_n 1, 1) := by decide +kernel
theorem dX2_init_6 : decode cX2_init 6 = .ok (.putfield 9, 3) := by decide +kernel
theorem dX2_init_9 : decode cX2_init 9 = .ok (.aload_n 0, 1) := by decide +kernel
theorem dX2_init_10 : decode cX2_init 10 = .ok (.iload_n 2, 1) := by decide +kernel
theorem dX2_init_11 : decode cX2_init 11 = .ok (.putfield 15, 3) := by decide +kernel
theorem dX2_init_14 : decode cX2_init 14 = .ok (.aload_n 0, 1) := by decide +kernel
theorem dX2_init_15 : decode cX2_init 15 = .ok (.lload_n 3, 1) := by decide +kernel
theorem dX2_init_16 : decode cX2_init 16 = .ok (.putfield 18, 3) := by decide +kernel
theorem dX2_init_19 : decode cX2_init 19 = .ok (.aload_n 0, 1) := by decide +kernel
theorem dX2_init_20 : decode cX2_init 20 = .ok (.lload 5, 2) := by decide +kernel
theorem dX2_init_22 : decode cX2_init 22 = .ok (.putfield 22, 3) := by decide +kernel
theorem dX2_init_25 : decode cX2_init 25 = .ok (.aload_n 0, 1) := by decide +kernel
theorem dX2_init_26 : decode cX2_init 26 = .ok (.lload 7, 2) := by decide +kernel
theorem dX2_init_28 : decode cX2_init 28 = .ok (.putfield 25, 3) := by decide +kernel
theorem dX2_init_31 : decode cX2_init 31 = .ok (.iload_n 1, 1) := by decide +kernel
theorem dX2_init_32 : decode cX2_init 32 = .ok (.iload_n 2, 1) := by decide +kernel
theorem dX2_init_33 : decode cX2_init 33 = .ok (.invokestatic 28, 3) := by decide +kernel
theorem dX2_init_36 : decode cX2_init 36 = .ok (.lstore 9, 2) := by decide +kernel
theorem dX2_init_38 : decode cX2_init 38 = .ok (.lload 7, 2) := by decide +kernel
theorem dX2_init_40 : decode cX2_init 40 = .ok (.lload 7, 2) := by decide +kernel
theorem dX2_init_42 : decode cX2_init 42 = .ok (.iconst 2, 1) := by decide +kernel
theorem dX2_init_43 : decode cX2_init 43 = .ok (.lushr, 1) := by decide +kernel
theorem dX2_init_44 : decode cX2_init 44 = .ok (.lor, 1) := by decide +kernel
theorem dX2_init_45 : decode cX2_init 45 = .ok (.lload 7, 2) := by decide +kernel
theorem dX2_init_47 : decode cX2_init 47 = .ok (.iconst 1, 1) := by decide +kernel
theorem dX2_init_48 : decode cX2_init 48 = .ok (.lshl, 1) := by decide +kernel
theorem dX2_init_49 : decode cX2_init 49 = .ok (.lor, 1) := by decide +kernel
theorem dX2_init_50 : decode cX2_init 50 = .ok (.lload 7, 2) := by decide +kernel
theorem dX2_init_52 : decode cX2_init 52 = .ok (.bipush 10, 2) := by decide +kernel
theorem dX2_init_54 : decode cX2_init 54 = .ok (.lushr, 1) := by decide +kernel
theorem dX2_init_55 : decode cX2_init 55 = .ok (.iconst 1, 1) := by decide +kernel
theorem dX2_init_56 : decode cX2_init 56 = .ok (.lshl, 1) := by decide +kernel
theorem dX2_init_57 : decode cX2_init 57 = .ok (.lor, 1) := by decide +kernel
theorem dX2_init_58 : decode cX2_init 58 = .ok (.lload 9, 2) := by decide +kernel
theorem dX2_init_60 : decode cX2_init 60 = .ok (.land, 1) := by decide +kernel
theorem dX2_init_61 : decode cX2_init 61 = .ok (.lstore 11, 2) := by decide +kernel
theorem dX2_init_63 : decode cX2_init 63 = .ok (.aload_n 0, 1) := by decide +kernel
theorem dX2_init_64 : decode cX2_init 64 = .ok (.lload_n 3, 1) := by decide +kernel
theorem dX2_init_65 : decode cX2_init 65 = .ok (.lload 11, 2) := by decide +kernel
theorem dX2_init_67 : decode cX2_init 67 = .ok (.ldc2_w 32, 3) := by decide +kernel
theorem dX2_init_70 : decode cX2_init 70 = .ok (.lxor, 1) := by decide +kernel
theorem dX2_init_71 : decode cX2_init 71 = .ok (.land, 1) := by decide +kernel
theorem dX2_init_72 : decode cX2_init 72 = .ok (.putfield 34, 3) := by decide +kernel
theorem dX2_init_75 : decode cX2_init 75 = .ok (.aload_n 0, 1) := by decide +kernel
theorem dX2_init_76 : decode cX2_init 76 = .ok (.lload 5, 2) := by decide +kernel
theorem dX2_init_78 : decode cX2_init 78 = .ok (.lload 11, 2) := by decide +kernel
theorem dX2_init_80 : decode cX2_init 80 = .ok (.lor, 1) := by decide +kernel
theorem dX2_init_81 : decode cX2_init 81 = .ok (.putfield 37, 3) := by decide +kernel
theorem dX2_init_84 : decode cX2_init 84 = .ok (.aload_n 0, 1) := by decide +kernel
theorem dX2_init_85 : decode cX2_init 85 = .ok (.lload 9, 2) := by decide +kernel
theorem dX2_init_87 : decode cX2_init 87 = .ok (.aload_n 0, 1) := by decide +kernel
theorem dX2_init_88 : decode cX2_init 88 = .ok (.getfield 34, 3) := by decide +kernel
theorem dX2_init_91 : decode cX2_init 91 = .ok (.ldc2_w 32, 3) := by decide +kernel
theorem dX2_init_94 : decode cX2_init 94 = .ok (.lxor, 1) := by decide +kernel
theorem dX2_init_95 : decode cX2_init 95 = .ok (.land, 1) := by decide +kernel
theorem dX2_init_96 : decode cX2_init 96 = .ok (.aload_n 0, 1) := by decide +kernel
theorem dX2_init_97 : decode cX2_init 97 = .ok (.getfield 37, 3) := by decide +kernel
theorem dX2_init_100 : decode cX2_init 100 = .ok (.ldc2_w 32, 3) := by decide +kernel
theorem dX2_init_103 : decode cX2_init 103 = .ok (.lxor, 1) := by decide +kernel
theorem dX2_init_104 : decode cX2_init 104 = .ok (.land, 1) := by decide +kernel
theorem dX2_init_105 : decode cX2_init 105 = .ok (.putfield 40, 3) := by decide +kernel
theorem dX2_init_108 : decode cX2_init 108 = .ok (.return_, 1) := by decide +kernel
theorem dX2_pipesOf_0 : decode cX2_pipesOf 0 = .ok (.lconst 0, 1) := by decide +kernel
theorem dX2_pipesOf_1 : decode cX2_pipesOf 1 = .ok (.lstore_n 2, 1) := by decide +kernel
theorem dX2_pipesOf_2 : decode cX2_pipesOf 2 = .ok (.iconst 0, 1) := by decide +kernel
theorem dX2_pipesOf_3 : decode cX2_pipesOf 3 = .ok (.istore 4, 2) := by decide +kernel
theorem dX2_pipesOf_5 : decode cX2_pipesOf 5 = .ok (.iload 4, 2) := by decide +kernel
theorem dX2_pipesOf_7 : decode cX2_pipesOf 7 = .ok (.iload_n 1, 1) := by decide +kernel
theorem dX2_pipesOf_8 : decode cX2_pipesOf 8 = .ok (.if_icmp .ge 76, 3) := by decide +kernel
theorem dX2_pipesOf_11 : decode cX2_pipesOf 11 = .ok (.iconst 0, 1) := by decide +kernel
theorem dX2_pipesOf_12 : decode cX2_pipesOf 12 = .ok (.istore 5, 2) := by decide +kernel
theorem dX2_pipesOf_14 : decode cX2_pipesOf 14 = .ok (.iload 5, 2) := by decide +kernel
theorem dX2_pipesOf_16 : decode cX2_pipesOf 16 = .ok (.iload_n 0, 1) := by decide +kernel
theorem dX2_pipesOf_17 : decode cX2_pipesOf 17 = .ok (.if_icmp .ge 61, 3) := by decide +kernel
theorem dX2_pipesOf_20 : decode cX2_pipesOf 20 = .ok (.iload 5, 2) := by decide +kernel
theorem dX2_pipesOf_22 : decode cX2_pipesOf 22 = .ok (.iload 4, 2) := by decide +kernel
theorem dX2_pipesOf_24 : decode cX2_pipesOf 24 = .ok (.iconst 0, 1) := by decide +kernel
theorem dX2_pipesOf_25 : decode cX2_pipesOf 25 = .ok (.iload_n 0, 1) := by decide +kernel
theorem dX2_pipesOf_26 : decode cX2_pipesOf 26 = .ok (.iload_n 1, 1) := by decide +kernel
theorem dX2_pipesOf_27 : decode cX2_pipesOf 27 = .ok (.invokestatic 43, 3) := by decide +kernel
theorem dX2_pipesOf_30 : decode cX2_pipesOf 30 = .ok (.ifCond .eq 16, 3) := by decide +kernel
theorem dX2_pipesOf_33 : decode cX2_pipesOf 33 = .ok (.lload_n 2, 1) := by decide +kernel
theorem dX2_pipesOf_34 : decode cX2_pipesOf 34 = .ok (.lconst 1, 1) := by decide +kernel
theorem dX2_pipesOf_35 : decode cX2_pipesOf 35 = .ok (.iload 5, 2) := by decide +kernel
theorem dX2_pipesOf_37 : decode cX2_pipesOf 37 = .ok (.iload 4, 2) := by decide +kernel
theorem dX2_pipesOf_39 : decode cX2_pipesOf 39 = .ok (.iconst 0, 1) := by decide +kernel
theorem dX2_pipesOf_40 : decode cX2_pipesOf 40 = .ok (.invokestatic 47, 3) := by decide +kernel
theorem dX2_pipesOf_43 : decode cX2_pipesOf 43 = .ok (.lshl, 1) := by decide +kernel
theorem dX2_pipesOf_44 : decode cX2_pipesOf 44 = .ok (.lor, 1) := by decide +kernel
theorem dX2_pipesOf_45 : decode cX2_pipesOf 45 = .ok (.lstore_n 2, 1) := by decide +kernel
theorem dX2_pipesOf_46 : decode cX2_pipesOf 46 = .ok (.iload 5, 2) := by decide +kernel
theorem dX2_pipesOf_48 : decode cX2_pipesOf 48 = .ok (.iload 4, 2) := by decide +kernel
theorem dX2_pipesOf_50 : decode cX2_pipesOf 50 = .ok (.iconst 1, 1) := by decide +kernel
theorem dX2_pipesOf_51 : decode cX2_pipesOf 51 = .ok (.iload_n 0, 1) := by decide +kernel
theorem dX2_pipesOf_52 : decode cX2_pipesOf 52 = .ok (.iload_n 1, 1) := by decide +kernel
theorem dX2_pipesOf_53 : decode cX2_pipesOf 53 = .ok (.invokestatic 43, 3) := by decide +kernel
theorem dX2_pipesOf_56 : decode cX2_pipesOf 56 = .ok (.ifCond .eq 16, 3) := by decide +kernel
theorem dX2_pipesOf_59 : decode cX2_pipesOf 59 = .ok (.lload_n 2, 1) := by decide +kernel
theorem dX2_pipesOf_60 : decode cX2_pipesOf 60 = .ok (.lconst 1, 1) := by decide +kernel
theorem dX2_pipesOf_61 : decode cX2_pipesOf 61 = .ok (.iload 5, 2) := by decide +kernel
theorem dX2_pipesOf_63 : decode cX2_pipesOf 63 = .ok (.iload 4, 2) := by decide +kernel
theorem dX2_pipesOf_65 : decode cX2_pipesOf 65 = .ok (.iconst 1, 1) := by decide +kernel
theorem dX2_pipesOf_66 : decode cX2_pipesOf 66 = .ok (.invokestatic 47, 3) := by decide +kernel
theorem dX2_pipesOf_69 : decode cX2_pipesOf 69 = .ok (.lshl, 1) := by decide +kernel
theorem dX2_pipesOf_70 : decode cX2_pipesOf 70 = .ok (.lor, 1) := by decide +kernel
theorem dX2_pipesOf_71 : decode cX2_pipesOf 71 = .ok (.lstore_n 2, 1) := by decide +kernel
theorem dX2_pipesOf_72 : decode cX2_pipesOf 72 = .ok (.iinc 5 1, 3) := by decide +kernel
theorem dX2_pipesOf_75 : decode cX2_pipesOf 75 = .ok (.goto (-61), 3) := by decide +kernel
theorem dX2_pipesOf_78 : decode cX2_pipesOf 78 = .ok (.iinc 4 1, 3) := by decide +kernel
theorem dX2_pipesOf_81 : decode cX2_pipesOf 81 = .ok (.goto (-76), 3) := by decide +kernel
theorem dX2_pipesOf_84 : decode cX2_pipesOf 84 = .ok (.lload_n 2, 1) := by decide +kernel
theorem dX2_pipesOf_85 : decode cX2_pipesOf 85 = .ok (.lreturn, 1) := by decide +kernel
theorem dX2_numberOf_0 : decode cX2_numberOf 0 = .ok (.bipush 10, 2) := by decide +kernel
theorem dX2_numberOf_2 : decode cX2_numberOf 2 = .ok (.iload_n 1, 1) := by decide +kernel
theorem dX2_numberOf_3 : decode cX2_numberOf 3 = .ok (.imul, 1) := by decide +kernel
theorem dX2_numberOf_4 : decode cX2_numberOf 4 = .ok (.iconst 2, 1) := by decide +kernel
theorem dX2_numberOf_5 : decode cX2_numberOf 5 = .ok (.iload_n 0, 1) := by decide +kernel
theorem dX2_numberOf_6 : decode cX2_numberOf 6 = .ok (.imul, 1) := by decide +kernel
theorem dX2_numberOf_7 : decode cX2_numberOf 7 = .ok (.iadd, 1) := by decide +kernel
theorem dX2_numberOf_8 : decode cX2_numberOf 8 = .ok (.iload_n 2, 1) := by decide +kernel
theorem dX2_numberOf_9 : decode cX2_numberOf 9 = .ok (.ifCond .eq 7, 3) := by decide +kernel
theorem dX2_numberOf_12 : decode cX2_numberOf 12 = .ok (.iconst 1, 1) := by decide +kernel
theorem dX2_numberOf_13 : decode cX2_numberOf 13 = .ok (.goto 4, 3) := by decide +kernel
theorem dX2_numberOf_16 : decode cX2_numberOf 16 = .ok (.iconst 0, 1) := by decide +kernel
theorem dX2_numberOf_17 : decode cX2_numberOf 17 = .ok (.iadd, 1) := by decide +kernel
theorem dX2_numberOf_18 : decode cX2_numberOf 18 = .ok (.ireturn, 1) := by decide +kernel
theorem dX2_hasPipe_0 : decode cX2_hasPipe 0 = .ok (.iload_n 2, 1) := by decide +kernel
theorem dX2_hasPipe_1 : decode cX2_hasPipe 1 = .ok (.ifCond .eq 9, 3) := by decide +kernel
theorem dX2_hasPipe_4 : decode cX2_hasPipe 4 = .ok (.iload_n 3, 1) := by decide +kernel
theorem dX2_hasPipe_5 : decode cX2_hasPipe 5 = .ok (.iconst 1, 1) := by decide +kernel
theorem dX2_hasPipe_6 : decode cX2_hasPipe 6 = .ok (.isub, 1) := by decide +kernel
theorem dX2_hasPipe_7 : decode cX2_hasPipe 7 = .ok (.goto 6, 3) := by decide +kernel
theorem dX2_hasPipe_10 : decode cX2_hasPipe 10 = .ok (.iload_n 3, 1) := by decide +kernel
theorem dX2_hasPipe_11 : decode cX2_hasPipe 11 = .ok (.iconst 2, 1) := by decide +kernel
theorem dX2_hasPipe_12 : decode cX2_hasPipe 12 = .ok (.isub, 1) := by decide +kernel
theorem dX2_hasPipe_13 : decode cX2_hasPipe 13 = .ok (.istore 5, 2) := by decide +kernel
theorem dX2_hasPipe_15 : decode cX2_hasPipe 15 = .ok (.iload_n 2, 1) := by decide +kernel
theorem dX2_hasPipe_16 : decode cX2_hasPipe 16 = .ok (.ifCond .eq 10, 3) := by decide +kernel
theorem dX2_hasPipe_19 : decode cX2_hasPipe 19 = .ok (.iload 4, 2) := by decide +kernel
theorem dX2_hasPipe_21 : decode cX2_hasPipe 21 = .ok (.iconst 2, 1) := by decide +kernel
theorem dX2_hasPipe_22 : decode cX2_hasPipe 22 = .ok (.isub, 1) := by decide +kernel
theorem dX2_hasPipe_23 : decode cX2_hasPipe 23 = .ok (.goto 7, 3) := by decide +kernel
theorem dX2_hasPipe_26 : decode cX2_hasPipe 26 = .ok (.iload 4, 2) := by decide +kernel
theorem dX2_hasPipe_28 : decode cX2_hasPipe 28 = .ok (.iconst 1, 1) := by decide +kernel
theorem dX2_hasPipe_29 : decode cX2_hasPipe 29 = .ok (.isub, 1) := by decide +kernel
theorem dX2_hasPipe_30 : decode cX2_hasPipe 30 = .ok (.istore 6, 2) := by decide +kernel
theorem dX2_hasPipe_32 : decode cX2_hasPipe 32 = .ok (.iload_n 0, 1) := by decide +kernel
theorem dX2_hasPipe_33 : decode cX2_hasPipe 33 = .ok (.ifCond .lt 23, 3) := by decide +kernel
theorem dX2_hasPipe_36 : decode cX2_hasPipe 36 = .ok (.iload_n 0, 1) := by decide +kernel
theorem dX2_hasPipe_37 : decode cX2_hasPipe 37 = .ok (.iload 5, 2) := by decide +kernel
theorem dX2_hasPipe_39 : decode cX2_hasPipe 39 = .ok (.if_icmp .gt 17, 3) := by decide +kernel
theorem dX2_hasPipe_42 : decode cX2_hasPipe 42 = .ok (.iload_n 1, 1) := by decide +kernel
theorem dX2_hasPipe_43 : decode cX2_hasPipe 43 = .ok (.ifCond .lt 13, 3) := by decide +kernel
theorem dX2_hasPipe_46 : decode cX2_hasPipe 46 = .ok (.iload_n 1, 1) := by decide +kernel
theorem dX2_hasPipe_47 : decode cX2_hasPipe 47 = .ok (.iload 6, 2) := by decide +kernel
theorem dX2_hasPipe_49 : decode cX2_hasPipe 49 = .ok (.if_icmp .gt 7, 3) := by decide +kernel
theorem dX2_hasPipe_52 : decode cX2_hasPipe 52 = .ok (.iconst 1, 1) := by decide +kernel
theorem dX2_hasPipe_53 : decode cX2_hasPipe 53 = .ok (.goto 4, 3) := by decide +kernel
theorem dX2_hasPipe_56 : decode cX2_hasPipe 56 = .ok (.iconst 0, 1) := by decide +kernel
theorem dX2_hasPipe_57 : decode cX2_hasPipe 57 = .ok (.ireturn, 1) := by decide +kernel
theorem dX2_hasCell_0 : decode cX2_hasCell 0 = .ok (.iload_n 1, 1) := by decide +kernel
theorem dX2_hasCell_1 : decode cX2_hasCell 1 = .ok (.ifCond .lt 27, 3) := by decide +kernel
theorem dX2_hasCell_4 : decode cX2_hasCell 4 = .ok (.iload_n 1, 1) := by decide +kernel
theorem dX2_hasCell_5 : decode cX2_hasCell 5 = .ok (.aload_n 0, 1) := by decide +kernel
theorem dX2_hasCell_6 : decode cX2_hasCell 6 = .ok (.getfield 9, 3) := by decide +kernel
theorem dX2_hasCell_9 : decode cX2_hasCell 9 = .ok (.if_icmp .ge 19, 3) := by decide +kernel
theorem dX2_hasCell_12 : decode cX2_hasCell 12 = .ok (.iload_n 2, 1) := by decide +kernel
theorem dX2_hasCell_13 : decode cX2_hasCell 13 = .ok (.ifCond .lt 15, 3) := by decide +kernel
theorem dX2_hasCell_16 : decode cX2_hasCell 16 = .ok (.iload_n 2, 1) := by decide +kernel
theorem dX2_hasCell_17 : decode cX2_hasCell 17 = .ok (.aload_n 0, 1) := by decide +kernel
theorem dX2_hasCell_18 : decode cX2_hasCell 18 = .ok (.getfield 15, 3) := by decide +kernel
theorem dX2_hasCell_21 : decode cX2_hasCell 21 = .ok (.if_icmp .ge 7, 3) := by decide +kernel
theorem dX2_hasCell_24 : decode cX2_hasCell 24 = .ok (.iconst 1, 1) := by decide +kernel
theorem dX2_hasCell_25 : decode cX2_hasCell 25 = .ok (.goto 4, 3) := by decide +kernel
theorem dX2_hasCell_28 : decode cX2_hasCell 28 = .ok (.iconst 0, 1) := by decide +kernel
theorem dX2_hasCell_29 : decode cX2_hasCell 29 = .ok (.ireturn, 1) := by decide +kernel
theorem dX2_isStone_0 : decode cX2_isStone 0 = .ok (.aload_n 0, 1) := by decide +kernel
theorem dX2_isStone_1 : decode cX2_isStone 1 = .ok (.getfield 25, 3) := by decide +kernel
theorem dX2_isStone_4 : decode cX2_isStone 4 = .ok (.iload_n 1, 1) := by decide +kernel
theorem dX2_isStone_5 : decode cX2_isStone 5 = .ok (.lushr, 1) := by decide +kernel
theorem dX2_isStone_6 : decode cX2_isStone 6 = .ok (.lconst 1, 1) := by decide +kernel
theorem dX2_isStone_7 : decode cX2_isStone 7 = .ok (.land, 1) := by decide +kernel
theorem dX2_isStone_8 : decode cX2_isStone 8 = .ok (.lconst 0, 1) := by decide +kernel
theorem dX2_isStone_9 : decode cX2_isStone 9 = .ok (.lcmp, 1) := by decide +kernel
theorem dX2_isStone_10 : decode cX2_isStone 10 = .ok (.ifCond .eq 7, 3) := by decide +kernel
theorem dX2_isStone_13 : decode cX2_isStone 13 = .ok (.iconst 1, 1) := by decide +kernel
theorem dX2_isStone_14 : decode cX2_isStone 14 = .ok (.goto 4, 3) := by decide +kernel
theorem dX2_isStone_17 : decode cX2_isStone 17 = .ok (.iconst 0, 1) := by decide +kernel
theorem dX2_isStone_18 : decode cX2_isStone 18 = .ok (.ireturn, 1) := by decide +kernel
theorem dX2_isFree_0 : decode cX2_isFree 0 = .ok (.aload_n 0, 1) := by decide +kernel
theorem dX2_isFree_1 : decode cX2_isFree 1 = .ok (.getfield 40, 3) := by decide +kernel
theorem dX2_isFree_4 : decode cX2_isFree 4 = .ok (.iload_n 1, 1) := by decide +kernel
theorem dX2_isFree_5 : decode cX2_isFree 5 = .ok (.lushr, 1) := by decide +kernel
theorem dX2_isFree_6 : decode cX2_isFree 6 = .ok (.lconst 1, 1) := by decide +kernel
theorem dX2_isFree_7 : decode cX2_isFree 7 = .ok (.land, 1) := by decide +kernel
theorem dX2_isFree_8 : decode cX2_isFree 8 = .ok (.lconst 0, 1) := by decide +kernel
theorem dX2_isFree_9 : decode cX2_isFree 9 = .ok (.lcmp, 1) := by decide +kernel
theorem dX2_isFree_10 : decode cX2_isFree 10 = .ok (.ifCond .eq 7, 3) := by decide +kernel
theorem dX2_isFree_13 : decode cX2_isFree 13 = .ok (.iconst 1, 1) := by decide +kernel
theorem dX2_isFree_14 : decode cX2_isFree 14 = .ok (.goto 4, 3) := by decide +kernel
theorem dX2_isFree_17 : decode cX2_isFree 17 = .ok (.iconst 0, 1) := by decide +kernel
theorem dX2_isFree_18 : decode cX2_isFree 18 = .ok (.ireturn, 1) := by decide +kernel
theorem dX2_freeCount_0 : decode cX2_freeCount 0 = .ok (.aload_n 0, 1) := by decide +kernel
theorem dX2_freeCount_1 : decode cX2_freeCount 1 = .ok (.getfield 40, 3) := by decide +kernel
theorem dX2_freeCount_4 : decode cX2_freeCount 4 = .ok (.invokestatic 51, 3) := by decide +kernel
theorem dX2_freeCount_7 : decode cX2_freeCount 7 = .ok (.ireturn, 1) := by decide +kernel
theorem dX2_stonesIn_0 : decode cX2_stonesIn 0 = .ok (.aload_n 0, 1) := by decide +kernel
theorem dX2_stonesIn_1 : decode cX2_stonesIn 1 = .ok (.getfield 25, 3) := by decide +kernel
theorem dX2_stonesIn_4 : decode cX2_stonesIn 4 = .ok (.ldc2_w 57, 3) := by decide +kernel
theorem dX2_stonesIn_7 : decode cX2_stonesIn 7 = .ok (.bipush 10, 2) := by decide +kernel
theorem dX2_stonesIn_9 : decode cX2_stonesIn 9 = .ok (.iload_n 1, 1) := by decide +kernel
theorem dX2_stonesIn_10 : decode cX2_stonesIn 10 = .ok (.imul, 1) := by decide +kernel
theorem dX2_stonesIn_11 : decode cX2_stonesIn 11 = .ok (.lshl, 1) := by decide +kernel
theorem dX2_stonesIn_12 : decode cX2_stonesIn 12 = .ok (.land, 1) := by decide +kernel
theorem dX2_stonesIn_13 : decode cX2_stonesIn 13 = .ok (.invokestatic 51, 3) := by decide +kernel
theorem dX2_stonesIn_16 : decode cX2_stonesIn 16 = .ok (.ireturn, 1) := by decide +kernel
theorem dX2_statusOf_0 : decode cX2_statusOf 0 = .ok (.aload_n 0, 1) := by decide +kernel
theorem dX2_statusOf_1 : decode cX2_statusOf 1 = .ok (.getfield 34, 3) := by decide +kernel
theorem dX2_statusOf_4 : decode cX2_statusOf 4 = .ok (.aload_n 0, 1) := by decide +kernel
theorem dX2_statusOf_5 : decode cX2_statusOf 5 = .ok (.getfield 37, 3) := by decide +kernel
theorem dX2_statusOf_8 : decode cX2_statusOf 8 = .ok (.iload_n 1, 1) := by decide +kernel
theorem dX2_statusOf_9 : decode cX2_statusOf 9 = .ok (.invokestatic 59, 3) := by decide +kernel
theorem dX2_statusOf_12 : decode cX2_statusOf 12 = .ok (.ireturn, 1) := by decide +kernel
theorem dX2_toldOf_0 : decode cX2_toldOf 0 = .ok (.aload_n 0, 1) := by decide +kernel
theorem dX2_toldOf_1 : decode cX2_toldOf 1 = .ok (.getfield 18, 3) := by decide +kernel
theorem dX2_toldOf_4 : decode cX2_toldOf 4 = .ok (.aload_n 0, 1) := by decide +kernel
theorem dX2_toldOf_5 : decode cX2_toldOf 5 = .ok (.getfield 22, 3) := by decide +kernel
theorem dX2_toldOf_8 : decode cX2_toldOf 8 = .ok (.iload_n 1, 1) := by decide +kernel
theorem dX2_toldOf_9 : decode cX2_toldOf 9 = .ok (.invokestatic 59, 3) := by decide +kernel
theorem dX2_toldOf_12 : decode cX2_toldOf 12 = .ok (.ireturn, 1) := by decide +kernel
theorem dX2_statusBy_0 : decode cX2_statusBy 0 = .ok (.lload_n 2, 1) := by decide +kernel
theorem dX2_statusBy_1 : decode cX2_statusBy 1 = .ok (.iload 4, 2) := by decide +kernel
theorem dX2_statusBy_3 : decode cX2_statusBy 3 = .ok (.lushr, 1) := by decide +kernel
theorem dX2_statusBy_4 : decode cX2_statusBy 4 = .ok (.lconst 1, 1) := by decide +kernel
theorem dX2_statusBy_5 : decode cX2_statusBy 5 = .ok (.land, 1) := by decide +kernel
theorem dX2_statusBy_6 : decode cX2_statusBy 6 = .ok (.lconst 0, 1) := by decide +kernel
theorem dX2_statusBy_7 : decode cX2_statusBy 7 = .ok (.lcmp, 1) := by decide +kernel
theorem dX2_statusBy_8 : decode cX2_statusBy 8 = .ok (.ifCond .eq 5, 3) := by decide +kernel
theorem dX2_statusBy_11 : decode cX2_statusBy 11 = .ok (.iconst 2, 1) := by decide +kernel
theorem dX2_statusBy_12 : decode cX2_statusBy 12 = .ok (.ireturn, 1) := by decide +kernel
theorem dX2_statusBy_13 : decode cX2_statusBy 13 = .ok (.lload_n 0, 1) := by decide +kernel
theorem dX2_statusBy_14 : decode cX2_statusBy 14 = .ok (.iload 4, 2) := by decide +kernel
theorem dX2_statusBy_16 : decode cX2_statusBy 16 = .ok (.lushr, 1) := by decide +kernel
theorem dX2_statusBy_17 : decode cX2_statusBy 17 = .ok (.lconst 1, 1) := by decide +kernel
theorem dX2_statusBy_18 : decode cX2_statusBy 18 = .ok (.land, 1) := by decide +kernel
theorem dX2_statusBy_19 : decode cX2_statusBy 19 = .ok (.lconst 0, 1) := by decide +kernel
theorem dX2_statusBy_20 : decode cX2_statusBy 20 = .ok (.lcmp, 1) := by decide +kernel
theorem dX2_statusBy_21 : decode cX2_statusBy 21 = .ok (.ifCond .eq 7, 3) := by decide +kernel
theorem dX2_statusBy_24 : decode cX2_statusBy 24 = .ok (.iconst 1, 1) := by decide +kernel
theorem dX2_statusBy_25 : decode cX2_statusBy 25 = .ok (.goto 4, 3) := by decide +kernel
theorem dX2_statusBy_28 : decode cX2_statusBy 28 = .ok (.iconst 0, 1) := by decide +kernel
theorem dX2_statusBy_29 : decode cX2_statusBy 29 = .ok (.ireturn, 1) := by decide +kernel
theorem dX2_withPipe_0 : decode cX2_withPipe 0 = .ok (.lconst 1, 1) := by decide +kernel
theorem dX2_withPipe_1 : decode cX2_withPipe 1 = .ok (.iload_n 1, 1) := by decide +kernel
theorem dX2_withPipe_2 : decode cX2_withPipe 2 = .ok (.lshl, 1) := by decide +kernel
theorem dX2_withPipe_3 : decode cX2_withPipe 3 = .ok (.lstore_n 3, 1) := by decide +kernel
theorem dX2_withPipe_4 : decode cX2_withPipe 4 = .ok (.iload_n 2, 1) := by decide +kernel
theorem dX2_withPipe_5 : decode cX2_withPipe 5 = .ok (.iconst 1, 1) := by decide +kernel
theorem dX2_withPipe_6 : decode cX2_withPipe 6 = .ok (.if_icmp .ne 12, 3) := by decide +kernel
theorem dX2_withPipe_9 : decode cX2_withPipe 9 = .ok (.aload_n 0, 1) := by decide +kernel
theorem dX2_withPipe_10 : decode cX2_withPipe 10 = .ok (.getfield 18, 3) := by decide +kernel
theorem dX2_withPipe_13 : decode cX2_withPipe 13 = .ok (.lload_n 3, 1) := by decide +kernel
theorem dX2_withPipe_14 : decode cX2_withPipe 14 = .ok (.lor, 1) := by decide +kernel
theorem dX2_withPipe_15 : decode cX2_withPipe 15 = .ok (.goto 13, 3) := by decide +kernel
theorem dX2_withPipe_18 : decode cX2_withPipe 18 = .ok (.aload_n 0, 1) := by decide +kernel
theorem dX2_withPipe_19 : decode cX2_withPipe 19 = .ok (.getfield 18, 3) := by decide +kernel
theorem dX2_withPipe_22 : decode cX2_withPipe 22 = .ok (.lload_n 3, 1) := by decide +kernel
theorem dX2_withPipe_23 : decode cX2_withPipe 23 = .ok (.ldc2_w 32, 3) := by decide +kernel
theorem dX2_withPipe_26 : decode cX2_withPipe 26 = .ok (.lxor, 1) := by decide +kernel
theorem dX2_withPipe_27 : decode cX2_withPipe 27 = .ok (.land, 1) := by decide +kernel
theorem dX2_withPipe_28 : decode cX2_withPipe 28 = .ok (.lstore 5, 2) := by decide +kernel
theorem dX2_withPipe_30 : decode cX2_withPipe 30 = .ok (.iload_n 2, 1) := by decide +kernel
theorem dX2_withPipe_31 : decode cX2_withPipe 31 = .ok (.iconst 2, 1) := by decide +kernel
theorem dX2_withPipe_32 : decode cX2_withPipe 32 = .ok (.if_icmp .ne 12, 3) := by decide +kernel
theorem dX2_withPipe_35 : decode cX2_withPipe 35 = .ok (.aload_n 0, 1) := by decide +kernel
theorem dX2_withPipe_36 : decode cX2_withPipe 36 = .ok (.getfield 22, 3) := by decide +kernel
theorem dX2_withPipe_39 : decode cX2_withPipe 39 = .ok (.lload_n 3, 1) := by decide +kernel
theorem dX2_withPipe_40 : decode cX2_withPipe 40 = .ok (.lor, 1) := by decide +kernel
theorem dX2_withPipe_41 : decode cX2_withPipe 41 = .ok (.goto 13, 3) := by decide +kernel
theorem dX2_withPipe_44 : decode cX2_withPipe 44 = .ok (.aload_n 0, 1) := by decide +kernel
theorem dX2_withPipe_45 : decode cX2_withPipe 45 = .ok (.getfield 22, 3) := by decide +kernel
theorem dX2_withPipe_48 : decode cX2_withPipe 48 = .ok (.lload_n 3, 1) := by decide +kernel
theorem dX2_withPipe_49 : decode cX2_withPipe 49 = .ok (.ldc2_w 32, 3) := by decide +kernel
theorem dX2_withPipe_52 : decode cX2_withPipe 52 = .ok (.lxor, 1) := by decide +kernel
theorem dX2_withPipe_53 : decode cX2_withPipe 53 = .ok (.land, 1) := by decide +kernel
theorem dX2_withPipe_54 : decode cX2_withPipe 54 = .ok (.lstore 7, 2) := by decide +kernel
theorem dX2_withPipe_56 : decode cX2_withPipe 56 = .ok (.new 10, 3) := by decide +kernel
theorem dX2_withPipe_59 : decode cX2_withPipe 59 = .ok (.dup, 1) := by decide +kernel
theorem dX2_withPipe_60 : decode cX2_withPipe 60 = .ok (.aload_n 0, 1) := by decide +kernel
theorem dX2_withPipe_61 : decode cX2_withPipe 61 = .ok (.getfield 9, 3) := by decide +kernel
theorem dX2_withPipe_64 : decode cX2_withPipe 64 = .ok (.aload_n 0, 1) := by decide +kernel
theorem dX2_withPipe_65 : decode cX2_withPipe 65 = .ok (.getfield 15, 3) := by decide +kernel
theorem dX2_withPipe_68 : decode cX2_withPipe 68 = .ok (.lload 5, 2) := by decide +kernel
theorem dX2_withPipe_70 : decode cX2_withPipe 70 = .ok (.lload 7, 2) := by decide +kernel
theorem dX2_withPipe_72 : decode cX2_withPipe 72 = .ok (.aload_n 0, 1) := by decide +kernel
theorem dX2_withPipe_73 : decode cX2_withPipe 73 = .ok (.getfield 25, 3) := by decide +kernel
theorem dX2_withPipe_76 : decode cX2_withPipe 76 = .ok (.invokespecial 63, 3) := by decide +kernel
theorem dX2_withPipe_79 : decode cX2_withPipe 79 = .ok (.areturn, 1) := by decide +kernel
theorem dX2_withStone_0 : decode cX2_withStone 0 = .ok (.lconst 1, 1) := by decide +kernel
theorem dX2_withStone_1 : decode cX2_withStone 1 = .ok (.iload_n 1, 1) := by decide +kernel
theorem dX2_withStone_2 : decode cX2_withStone 2 = .ok (.lshl, 1) := by decide +kernel
theorem dX2_withStone_3 : decode cX2_withStone 3 = .ok (.lstore_n 3, 1) := by decide +kernel
theorem dX2_withStone_4 : decode cX2_withStone 4 = .ok (.new 10, 3) := by decide +kernel
theorem dX2_withStone_7 : decode cX2_withStone 7 = .ok (.dup, 1) := by decide +kernel
theorem dX2_withStone_8 : decode cX2_withStone 8 = .ok (.aload_n 0, 1) := by decide +kernel
theorem dX2_withStone_9 : decode cX2_withStone 9 = .ok (.getfield 9, 3) := by decide +kernel
theorem dX2_withStone_12 : decode cX2_withStone 12 = .ok (.aload_n 0, 1) := by decide +kernel
theorem dX2_withStone_13 : decode cX2_withStone 13 = .ok (.getfield 15, 3) := by decide +kernel
theorem dX2_withStone_16 : decode cX2_withStone 16 = .ok (.aload_n 0, 1) := by decide +kernel
theorem dX2_withStone_17 : decode cX2_withStone 17 = .ok (.getfield 18, 3) := by decide +kernel
theorem dX2_withStone_20 : decode cX2_withStone 20 = .ok (.aload_n 0, 1) := by decide +kernel
theorem dX2_withStone_21 : decode cX2_withStone 21 = .ok (.getfield 22, 3) := by decide +kernel
theorem dX2_withStone_24 : decode cX2_withStone 24 = .ok (.iload_n 2, 1) := by decide +kernel
theorem dX2_withStone_25 : decode cX2_withStone 25 = .ok (.ifCond .eq 12, 3) := by decide +kernel
theorem dX2_withStone_28 : decode cX2_withStone 28 = .ok (.aload_n 0, 1) := by decide +kernel
theorem dX2_withStone_29 : decode cX2_withStone 29 = .ok (.getfield 25, 3) := by decide +kernel
theorem dX2_withStone_32 : decode cX2_withStone 32 = .ok (.lload_n 3, 1) := by decide +kernel
theorem dX2_withStone_33 : decode cX2_withStone 33 = .ok (.lor, 1) := by decide +kernel
theorem dX2_withStone_34 : decode cX2_withStone 34 = .ok (.goto 13, 3) := by decide +kernel
theorem dX2_withStone_37 : decode cX2_withStone 37 = .ok (.aload_n 0, 1) := by decide +kernel
theorem dX2_withStone_38 : decode cX2_withStone 38 = .ok (.getfield 25, 3) := by decide +kernel
theorem dX2_withStone_41 : decode cX2_withStone 41 = .ok (.lload_n 3, 1) := by decide +kernel
theorem dX2_withStone_42 : decode cX2_withStone 42 = .ok (.ldc2_w 32, 3) := by decide +kernel
theorem dX2_withStone_45 : decode cX2_withStone 45 = .ok (.lxor, 1) := by decide +kernel
theorem dX2_withStone_46 : decode cX2_withStone 46 = .ok (.land, 1) := by decide +kernel
theorem dX2_withStone_47 : decode cX2_withStone 47 = .ok (.invokespecial 63, 3) := by decide +kernel
theorem dX2_withStone_50 : decode cX2_withStone 50 = .ok (.areturn, 1) := by decide +kernel
theorem dX2_drained_0 : decode cX2_drained 0 = .ok (.new 10, 3) := by decide +kernel
theorem dX2_drained_3 : decode cX2_drained 3 = .ok (.dup, 1) := by decide +kernel
theorem dX2_drained_4 : decode cX2_drained 4 = .ok (.aload_n 0, 1) := by decide +kernel
theorem dX2_drained_5 : decode cX2_drained 5 = .ok (.getfield 9, 3) := by decide +kernel
theorem dX2_drained_8 : decode cX2_drained 8 = .ok (.aload_n 0, 1) := by decide +kernel
theorem dX2_drained_9 : decode cX2_drained 9 = .ok (.getfield 15, 3) := by decide +kernel
theorem dX2_drained_12 : decode cX2_drained 12 = .ok (.aload_n 0, 1) := by decide +kernel
theorem dX2_drained_13 : decode cX2_drained 13 = .ok (.getfield 18, 3) := by decide +kernel
theorem dX2_drained_16 : decode cX2_drained 16 = .ok (.lload_n 1, 1) := by decide +kernel
theorem dX2_drained_17 : decode cX2_drained 17 = .ok (.lor, 1) := by decide +kernel
theorem dX2_drained_18 : decode cX2_drained 18 = .ok (.aload_n 0, 1) := by decide +kernel
theorem dX2_drained_19 : decode cX2_drained 19 = .ok (.getfield 22, 3) := by decide +kernel
theorem dX2_drained_22 : decode cX2_drained 22 = .ok (.aload_n 0, 1) := by decide +kernel
theorem dX2_drained_23 : decode cX2_drained 23 = .ok (.getfield 40, 3) := by decide +kernel
theorem dX2_drained_26 : decode cX2_drained 26 = .ok (.lload_n 1, 1) := by decide +kernel
theorem dX2_drained_27 : decode cX2_drained 27 = .ok (.ldc2_w 32, 3) := by decide +kernel
theorem dX2_drained_30 : decode cX2_drained 30 = .ok (.lxor, 1) := by decide +kernel
theorem dX2_drained_31 : decode cX2_drained 31 = .ok (.land, 1) := by decide +kernel
theorem dX2_drained_32 : decode cX2_drained 32 = .ok (.lor, 1) := by decide +kernel
theorem dX2_drained_33 : decode cX2_drained 33 = .ok (.aload_n 0, 1) := by decide +kernel
theorem dX2_drained_34 : decode cX2_drained 34 = .ok (.getfield 25, 3) := by decide +kernel
theorem dX2_drained_37 : decode cX2_drained 37 = .ok (.invokespecial 63, 3) := by decide +kernel
theorem dX2_drained_40 : decode cX2_drained 40 = .ok (.areturn, 1) := by decide +kernel
theorem dX2_turned_0 : decode cX2_turned 0 = .ok (.lconst 0, 1) := by decide +kernel
theorem dX2_turned_1 : decode cX2_turned 1 = .ok (.lstore_n 2, 1) := by decide +kernel
theorem dX2_turned_2 : decode cX2_turned 2 = .ok (.lconst 0, 1) := by decide +kernel
theorem dX2_turned_3 : decode cX2_turned 3 = .ok (.lstore 4, 2) := by decide +kernel
theorem dX2_turned_5 : decode cX2_turned 5 = .ok (.lconst 0, 1) := by decide +kernel
theorem dX2_turned_6 : decode cX2_turned 6 = .ok (.lstore 6, 2) := by decide +kernel
theorem dX2_turned_8 : decode cX2_turned 8 = .ok (.iconst 0, 1) := by decide +kernel
theorem dX2_turned_9 : decode cX2_turned 9 = .ok (.istore 8, 2) := by decide +kernel
theorem dX2_turned_11 : decode cX2_turned 11 = .ok (.iload 8, 2) := by decide +kernel
theorem dX2_turned_13 : decode cX2_turned 13 = .ok (.bipush 25, 2) := by decide +kernel
theorem dX2_turned_15 : decode cX2_turned 15 = .ok (.if_icmp .ge 178, 3) := by decide +kernel
theorem dX2_turned_18 : decode cX2_turned 18 = .ok (.iload 8, 2) := by decide +kernel
theorem dX2_turned_20 : decode cX2_turned 20 = .ok (.iconst 5, 1) := by decide +kernel
theorem dX2_turned_21 : decode cX2_turned 21 = .ok (.irem, 1) := by decide +kernel
theorem dX2_turned_22 : decode cX2_turned 22 = .ok (.istore 9, 2) := by decide +kernel
theorem dX2_turned_24 : decode cX2_turned 24 = .ok (.iload 8, 2) := by decide +kernel
theorem dX2_turned_26 : decode cX2_turned 26 = .ok (.iconst 5, 1) := by decide +kernel
theorem dX2_turned_27 : decode cX2_turned 27 = .ok (.idiv, 1) := by decide +kernel
theorem dX2_turned_28 : decode cX2_turned 28 = .ok (.istore 10, 2) := by decide +kernel
theorem dX2_turned_30 : decode cX2_turned 30 = .ok (.iload 9, 2) := by decide +kernel
theorem dX2_turned_32 : decode cX2_turned 32 = .ok (.iload 10, 2) := by decide +kernel
theorem dX2_turned_34 : decode cX2_turned 34 = .ok (.iconst 0, 1) := by decide +kernel
theorem dX2_turned_35 : decode cX2_turned 35 = .ok (.invokestatic 47, 3) := by decide +kernel
theorem dX2_turned_38 : decode cX2_turned 38 = .ok (.istore 11, 2) := by decide +kernel
theorem dX2_turned_40 : decode cX2_turned 40 = .ok (.aload_n 0, 1) := by decide +kernel
theorem dX2_turned_41 : decode cX2_turned 41 = .ok (.iload 9, 2) := by decide +kernel
theorem dX2_turned_43 : decode cX2_turned 43 = .ok (.iload 10, 2) := by decide +kernel
theorem dX2_turned_45 : decode cX2_turned 45 = .ok (.iload_n 1, 1) := by decide +kernel
theorem dX2_turned_46 : decode cX2_turned 46 = .ok (.invokevirtual 66, 3) := by decide +kernel
theorem dX2_turned_49 : decode cX2_turned 49 = .ok (.iload_n 1, 1) := by decide +kernel
theorem dX2_turned_50 : decode cX2_turned 50 = .ok (.ifCond .ne 7, 3) := by decide +kernel
theorem dX2_turned_53 : decode cX2_turned 53 = .ok (.iconst 2, 1) := by decide +kernel
theorem dX2_turned_54 : decode cX2_turned 54 = .ok (.goto 4, 3) := by decide +kernel
theorem dX2_turned_57 : decode cX2_turned 57 = .ok (.iconst 0, 1) := by decide +kernel
theorem dX2_turned_58 : decode cX2_turned 58 = .ok (.isub, 1) := by decide +kernel
theorem dX2_turned_59 : decode cX2_turned 59 = .ok (.iload_n 1, 1) := by decide +kernel
theorem dX2_turned_60 : decode cX2_turned 60 = .ok (.iconst 2, 1) := by decide +kernel
theorem dX2_turned_61 : decode cX2_turned 61 = .ok (.if_icmp .ne 7, 3) := by decide +kernel
theorem dX2_turned_64 : decode cX2_turned 64 = .ok (.iconst 1, 1) := by decide +kernel
theorem dX2_turned_65 : decode cX2_turned 65 = .ok (.goto 4, 3) := by decide +kernel
theorem dX2_turned_68 : decode cX2_turned 68 = .ok (.iconst 0, 1) := by decide +kernel
theorem dX2_turned_69 : decode cX2_turned 69 = .ok (.iadd, 1) := by decide +kernel
theorem dX2_turned_70 : decode cX2_turned 70 = .ok (.istore 12, 2) := by decide +kernel
theorem dX2_turned_72 : decode cX2_turned 72 = .ok (.aload_n 0, 1) := by decide +kernel
theorem dX2_turned_73 : decode cX2_turned 73 = .ok (.iload 9, 2) := by decide +kernel
theorem dX2_turned_75 : decode cX2_turned 75 = .ok (.iload 10, 2) := by decide +kernel
theorem dX2_turned_77 : decode cX2_turned 77 = .ok (.iload_n 1, 1) := by decide +kernel
theorem dX2_turned_78 : decode cX2_turned 78 = .ok (.invokevirtual 66, 3) := by decide +kernel
theorem dX2_turned_81 : decode cX2_turned 81 = .ok (.iload_n 1, 1) := by decide +kernel
theorem dX2_turned_82 : decode cX2_turned 82 = .ok (.iconst 1, 1) := by decide +kernel
theorem dX2_turned_83 : decode cX2_turned 83 = .ok (.if_icmp .ne 8, 3) := by decide +kernel
theorem dX2_turned_86 : decode cX2_turned 86 = .ok (.bipush 10, 2) := by decide +kernel
theorem dX2_turned_88 : decode cX2_turned 88 = .ok (.goto 4, 3) := by decide +kernel
theorem dX2_turned_91 : decode cX2_turned 91 = .ok (.iconst 0, 1) := by decide +kernel
theorem dX2_turned_92 : decode cX2_turned 92 = .ok (.isub, 1) := by decide +kernel
theorem dX2_turned_93 : decode cX2_turned 93 = .ok (.iload_n 1, 1) := by decide +kernel
theorem dX2_turned_94 : decode cX2_turned 94 = .ok (.iconst 2, 1) := by decide +kernel
theorem dX2_turned_95 : decode cX2_turned 95 = .ok (.if_icmp .ne 7, 3) := by decide +kernel
theorem dX2_turned_98 : decode cX2_turned 98 = .ok (.iconst 0, 1) := by decide +kernel
theorem dX2_turned_99 : decode cX2_turned 99 = .ok (.goto 4, 3) := by decide +kernel
theorem dX2_turned_102 : decode cX2_turned 102 = .ok (.iconst 1, 1) := by decide +kernel
theorem dX2_turned_103 : decode cX2_turned 103 = .ok (.iadd, 1) := by decide +kernel
theorem dX2_turned_104 : decode cX2_turned 104 = .ok (.istore 13, 2) := by decide +kernel
theorem dX2_turned_106 : decode cX2_turned 106 = .ok (.lload 6, 2) := by decide +kernel
theorem dX2_turned_108 : decode cX2_turned 108 = .ok (.aload_n 0, 1) := by decide +kernel
theorem dX2_turned_109 : decode cX2_turned 109 = .ok (.getfield 25, 3) := by decide +kernel
theorem dX2_turned_112 : decode cX2_turned 112 = .ok (.iload 11, 2) := by decide +kernel
theorem dX2_turned_114 : decode cX2_turned 114 = .ok (.aload_n 0, 1) := by decide +kernel
theorem dX2_turned_115 : decode cX2_turned 115 = .ok (.iload 9, 2) := by decide +kernel
theorem dX2_turned_117 : decode cX2_turned 117 = .ok (.iload 10, 2) := by decide +kernel
theorem dX2_turned_119 : decode cX2_turned 119 = .ok (.iload_n 1, 1) := by decide +kernel
theorem dX2_turned_120 : decode cX2_turned 120 = .ok (.invokevirtual 66, 3) := by decide +kernel
theorem dX2_turned_123 : decode cX2_turned 123 = .ok (.invokestatic 70, 3) := by decide +kernel
theorem dX2_turned_126 : decode cX2_turned 126 = .ok (.lor, 1) := by decide +kernel
theorem dX2_turned_127 : decode cX2_turned 127 = .ok (.lstore 6, 2) := by decide +kernel
theorem dX2_turned_129 : decode cX2_turned 129 = .ok (.lload_n 2, 1) := by decide +kernel
theorem dX2_turned_130 : decode cX2_turned 130 = .ok (.aload_n 0, 1) := by decide +kernel
theorem dX2_turned_131 : decode cX2_turned 131 = .ok (.getfield 18, 3) := by decide +kernel
theorem dX2_turned_134 : decode cX2_turned 134 = .ok (.iload 11, 2) := by decide +kernel
theorem dX2_turned_136 : decode cX2_turned 136 = .ok (.iload 12, 2) := by decide +kernel
theorem dX2_turned_138 : decode cX2_turned 138 = .ok (.invokestatic 70, 3) := by decide +kernel
theorem dX2_turned_141 : decode cX2_turned 141 = .ok (.aload_n 0, 1) := by decide +kernel
theorem dX2_turned_142 : decode cX2_turned 142 = .ok (.getfield 18, 3) := by decide +kernel
theorem dX2_turned_145 : decode cX2_turned 145 = .ok (.iload 11, 2) := by decide +kernel
theorem dX2_turned_147 : decode cX2_turned 147 = .ok (.iconst 1, 1) := by decide +kernel
theorem dX2_turned_148 : decode cX2_turned 148 = .ok (.iadd, 1) := by decide +kernel
theorem dX2_turned_149 : decode cX2_turned 149 = .ok (.iload 13, 2) := by decide +kernel
theorem dX2_turned_151 : decode cX2_turned 151 = .ok (.invokestatic 70, 3) := by decide +kernel
theorem dX2_turned_154 : decode cX2_turned 154 = .ok (.lor, 1) := by decide +kernel
theorem dX2_turned_155 : decode cX2_turned 155 = .ok (.lor, 1) := by decide +kernel
theorem dX2_turned_156 : decode cX2_turned 156 = .ok (.lstore_n 2, 1) := by decide +kernel
theorem dX2_turned_157 : decode cX2_turned 157 = .ok (.lload 4, 2) := by decide +kernel
theorem dX2_turned_159 : decode cX2_turned 159 = .ok (.aload_n 0, 1) := by decide +kernel
theorem dX2_turned_160 : decode cX2_turned 160 = .ok (.getfield 22, 3) := by decide +kernel
theorem dX2_turned_163 : decode cX2_turned 163 = .ok (.iload 11, 2) := by decide +kernel
theorem dX2_turned_165 : decode cX2_turned 165 = .ok (.iload 12, 2) := by decide +kernel
theorem dX2_turned_167 : decode cX2_turned 167 = .ok (.invokestatic 70, 3) := by decide +kernel
theorem dX2_turned_170 : decode cX2_turned 170 = .ok (.aload_n 0, 1) := by decide +kernel
theorem dX2_turned_171 : decode cX2_turned 171 = .ok (.getfield 22, 3) := by decide +kernel
theorem dX2_turned_174 : decode cX2_turned 174 = .ok (.iload 11, 2) := by decide +kernel
theorem dX2_turned_176 : decode cX2_turned 176 = .ok (.iconst 1, 1) := by decide +kernel
theorem dX2_turned_177 : decode cX2_turned 177 = .ok (.iadd, 1) := by decide +kernel
theorem dX2_turned_178 : decode cX2_turned 178 = .ok (.iload 13, 2) := by decide +kernel
theorem dX2_turned_180 : decode cX2_turned 180 = .ok (.invokestatic 70, 3) := by decide +kernel
theorem dX2_turned_183 : decode cX2_turned 183 = .ok (.lor, 1) := by decide +kernel
theorem dX2_turned_184 : decode cX2_turned 184 = .ok (.lor, 1) := by decide +kernel
theorem dX2_turned_185 : decode cX2_turned 185 = .ok (.lstore 4, 2) := by decide +kernel
theorem dX2_turned_187 : decode cX2_turned 187 = .ok (.iinc 8 1, 3) := by decide +kernel
theorem dX2_turned_190 : decode cX2_turned 190 = .ok (.goto (-179), 3) := by decide +kernel
theorem dX2_turned_193 : decode cX2_turned 193 = .ok (.iload_n 1, 1) := by decide +kernel
theorem dX2_turned_194 : decode cX2_turned 194 = .ok (.iconst 2, 1) := by decide +kernel
theorem dX2_turned_195 : decode cX2_turned 195 = .ok (.if_icmp .ne 7, 3) := by decide +kernel
theorem dX2_turned_198 : decode cX2_turned 198 = .ok (.iconst 1, 1) := by decide +kernel
theorem dX2_turned_199 : decode cX2_turned 199 = .ok (.goto 4, 3) := by decide +kernel
theorem dX2_turned_202 : decode cX2_turned 202 = .ok (.iconst 0, 1) := by decide +kernel
theorem dX2_turned_203 : decode cX2_turned 203 = .ok (.istore 8, 2) := by decide +kernel
theorem dX2_turned_205 : decode cX2_turned 205 = .ok (.new 10, 3) := by decide +kernel
theorem dX2_turned_208 : decode cX2_turned 208 = .ok (.dup, 1) := by decide +kernel
theorem dX2_turned_209 : decode cX2_turned 209 = .ok (.iload 8, 2) := by decide +kernel
theorem dX2_turned_211 : decode cX2_turned 211 = .ok (.ifCond .eq 10, 3) := by decide +kernel
theorem dX2_turned_214 : decode cX2_turned 214 = .ok (.aload_n 0, 1) := by decide +kernel
theorem dX2_turned_215 : decode cX2_turned 215 = .ok (.getfield 15, 3) := by decide +kernel
theorem dX2_turned_218 : decode cX2_turned 218 = .ok (.goto 7, 3) := by decide +kernel
theorem dX2_turned_221 : decode cX2_turned 221 = .ok (.aload_n 0, 1) := by decide +kernel
theorem dX2_turned_222 : decode cX2_turned 222 = .ok (.getfield 9, 3) := by decide +kernel
theorem dX2_turned_225 : decode cX2_turned 225 = .ok (.iload 8, 2) := by decide +kernel
theorem dX2_turned_227 : decode cX2_turned 227 = .ok (.ifCond .eq 10, 3) := by decide +kernel
theorem dX2_turned_230 : decode cX2_turned 230 = .ok (.aload_n 0, 1) := by decide +kernel
theorem dX2_turned_231 : decode cX2_turned 231 = .ok (.getfield 9, 3) := by decide +kernel
theorem dX2_turned_234 : decode cX2_turned 234 = .ok (.goto 7, 3) := by decide +kernel
theorem dX2_turned_237 : decode cX2_turned 237 = .ok (.aload_n 0, 1) := by decide +kernel
theorem dX2_turned_238 : decode cX2_turned 238 = .ok (.getfield 15, 3) := by decide +kernel
theorem dX2_turned_241 : decode cX2_turned 241 = .ok (.lload_n 2, 1) := by decide +kernel
theorem dX2_turned_242 : decode cX2_turned 242 = .ok (.lload 4, 2) := by decide +kernel
theorem dX2_turned_244 : decode cX2_turned 244 = .ok (.lload 6, 2) := by decide +kernel
theorem dX2_turned_246 : decode cX2_turned 246 = .ok (.invokespecial 63, 3) := by decide +kernel
theorem dX2_turned_249 : decode cX2_turned 249 = .ok (.areturn, 1) := by decide +kernel
theorem dX2_cellTurned_0 : decode cX2_cellTurned 0 = .ok (.iload_n 3, 1) := by decide +kernel
theorem dX2_cellTurned_1 : decode cX2_cellTurned 1 = .ok (.ifCond .ne 17, 3) := by decide +kernel
theorem dX2_cellTurned_4 : decode cX2_cellTurned 4 = .ok (.aload_n 0, 1) := by decide +kernel
theorem dX2_cellTurned_5 : decode cX2_cellTurned 5 = .ok (.getfield 9, 3) := by decide +kernel
theorem dX2_cellTurned_8 : decode cX2_cellTurned 8 = .ok (.iconst 1, 1) := by decide +kernel
theorem dX2_cellTurned_9 : decode cX2_cellTurned 9 = .ok (.isub, 1) := by decide +kernel
theorem dX2_cellTurned_10 : decode cX2_cellTurned 10 = .ok (.iload_n 1, 1) := by decide +kernel
theorem dX2_cellTurned_11 : decode cX2_cellTurned 11 = .ok (.isub, 1) := by decide +kernel
theorem dX2_cellTurned_12 : decode cX2_cellTurned 12 = .ok (.iload_n 2, 1) := by decide +kernel
theorem dX2_cellTurned_13 : decode cX2_cellTurned 13 = .ok (.iconst 0, 1) := by decide +kernel
theorem dX2_cellTurned_14 : decode cX2_cellTurned 14 = .ok (.invokestatic 47, 3) := by decide +kernel
theorem dX2_cellTurned_17 : decode cX2_cellTurned 17 = .ok (.ireturn, 1) := by decide +kernel
theorem dX2_cellTurned_18 : decode cX2_cellTurned 18 = .ok (.iload_n 3, 1) := by decide +kernel
theorem dX2_cellTurned_19 : decode cX2_cellTurned 19 = .ok (.iconst 1, 1) := by decide +kernel
theorem dX2_cellTurned_20 : decode cX2_cellTurned 20 = .ok (.if_icmp .ne 19, 3) := by decide +kernel
theorem dX2_cellTurned_23 : decode cX2_cellTurned 23 = .ok (.iload_n 1, 1) := by decide +kernel
theorem dX2_cellTurned_24 : decode cX2_cellTurned 24 = .ok (.aload_n 0, 1) := by decide +kernel
theorem dX2_cellTurned_25 : decode cX2_cellTurned 25 = .ok (.getfield 15, 3) := by decide +kernel
theorem dX2_cellTurned_28 : decode cX2_cellTurned 28 = .ok (.iconst 1, 1) := by decide +kernel
theorem dX2_cellTurned_29 : decode cX2_cellTurned 29 = .ok (.isub, 1) := by decide +kernel
theorem dX2_cellTurned_30 : decode cX2_cellTurned 30 = .ok (.iload_n 2, 1) := by decide +kernel
theorem dX2_cellTurned_31 : decode cX2_cellTurned 31 = .ok (.isub, 1) := by decide +kernel
theorem dX2_cellTurned_32 : decode cX2_cellTurned 32 = .ok (.iconst 0, 1) := by decide +kernel
theorem dX2_cellTurned_33 : decode cX2_cellTurned 33 = .ok (.invokestatic 47, 3) := by decide +kernel
theorem dX2_cellTurned_36 : decode cX2_cellTurned 36 = .ok (.goto 9, 3) := by decide +kernel
theorem dX2_cellTurned_39 : decode cX2_cellTurned 39 = .ok (.iload_n 2, 1) := by decide +kernel
theorem dX2_cellTurned_40 : decode cX2_cellTurned 40 = .ok (.iload_n 1, 1) := by decide +kernel
theorem dX2_cellTurned_41 : decode cX2_cellTurned 41 = .ok (.iconst 0, 1) := by decide +kernel
theorem dX2_cellTurned_42 : decode cX2_cellTurned 42 = .ok (.invokestatic 47, 3) := by decide +kernel
theorem dX2_cellTurned_45 : decode cX2_cellTurned 45 = .ok (.ireturn, 1) := by decide +kernel
theorem dX2_bitMoved_0 : decode cX2_bitMoved 0 = .ok (.lload_n 0, 1) := by decide +kernel
theorem dX2_bitMoved_1 : decode cX2_bitMoved 1 = .ok (.iload_n 2, 1) := by decide +kernel
theorem dX2_bitMoved_2 : decode cX2_bitMoved 2 = .ok (.lushr, 1) := by decide +kernel
theorem dX2_bitMoved_3 : decode cX2_bitMoved 3 = .ok (.lconst 1, 1) := by decide +kernel
theorem dX2_bitMoved_4 : decode cX2_bitMoved 4 = .ok (.land, 1) := by decide +kernel
theorem dX2_bitMoved_5 : decode cX2_bitMoved 5 = .ok (.lconst 0, 1) := by decide +kernel
theorem dX2_bitMoved_6 : decode cX2_bitMoved 6 = .ok (.lcmp, 1) := by decide +kernel
theorem dX2_bitMoved_7 : decode cX2_bitMoved 7 = .ok (.ifCond .eq 9, 3) := by decide +kernel
theorem dX2_bitMoved_10 : decode cX2_bitMoved 10 = .ok (.lconst 1, 1) := by decide +kernel
theorem dX2_bitMoved_11 : decode cX2_bitMoved 11 = .ok (.iload_n 3, 1) := by decide +kernel
theorem dX2_bitMoved_12 : decode cX2_bitMoved 12 = .ok (.lshl, 1) := by decide +kernel
theorem dX2_bitMoved_13 : decode cX2_bitMoved 13 = .ok (.goto 4, 3) := by decide +kernel
theorem dX2_bitMoved_16 : decode cX2_bitMoved 16 = .ok (.lconst 0, 1) := by decide +kernel
theorem dX2_bitMoved_17 : decode cX2_bitMoved 17 = .ok (.lreturn, 1) := by decide +kernel
theorem dX2_flooded_0 : decode cX2_flooded 0 = .ok (.lload_n 1, 1) := by decide +kernel
theorem dX2_flooded_1 : decode cX2_flooded 1 = .ok (.ldc2_w 74, 3) := by decide +kernel
theorem dX2_flooded_4 : decode cX2_flooded 4 = .ok (.land, 1) := by decide +kernel
theorem dX2_flooded_5 : decode cX2_flooded 5 = .ok (.lstore_n 3, 1) := by decide +kernel
theorem dX2_flooded_6 : decode cX2_flooded 6 = .ok (.lload_n 1, 1) := by decide +kernel
theorem dX2_flooded_7 : decode cX2_flooded 7 = .ok (.iconst 1, 1) := by decide +kernel
theorem dX2_flooded_8 : decode cX2_flooded 8 = .ok (.lushr, 1) := by decide +kernel
theorem dX2_flooded_9 : decode cX2_flooded 9 = .ok (.ldc2_w 74, 3) := by decide +kernel
theorem dX2_flooded_12 : decode cX2_flooded 12 = .ok (.land, 1) := by decide +kernel
theorem dX2_flooded_13 : decode cX2_flooded 13 = .ok (.lstore 5, 2) := by decide +kernel
theorem dX2_flooded_15 : decode cX2_flooded 15 = .ok (.ldc2_w 57, 3) := by decide +kernel
theorem dX2_flooded_18 : decode cX2_flooded 18 = .ok (.lconst 1, 1) := by decide +kernel
theorem dX2_flooded_19 : decode cX2_flooded 19 = .ok (.iconst 2, 1) := by decide +kernel
theorem dX2_flooded_20 : decode cX2_flooded 20 = .ok (.aload_n 0, 1) := by decide +kernel
theorem dX2_flooded_21 : decode cX2_flooded 21 = .ok (.getfield 9, 3) := by decide +kernel
theorem dX2_flooded_24 : decode cX2_flooded 24 = .ok (.imul, 1) := by decide +kernel
theorem dX2_flooded_25 : decode cX2_flooded 25 = .ok (.lshl, 1) := by decide +kernel
theorem dX2_flooded_26 : decode cX2_flooded 26 = .ok (.lconst 1, 1) := by decide +kernel
theorem dX2_flooded_27 : decode cX2_flooded 27 = .ok (.lsub, 1) := by decide +kernel
theorem dX2_flooded_28 : decode cX2_flooded 28 = .ok (.land, 1) := by decide +kernel
theorem dX2_flooded_29 : decode cX2_flooded 29 = .ok (.aload_n 0, 1) := by decide +kernel
theorem dX2_flooded_30 : decode cX2_flooded 30 = .ok (.getfield 25, 3) := by decide +kernel
theorem dX2_flooded_33 : decode cX2_flooded 33 = .ok (.ldc2_w 32, 3) := by decide +kernel
theorem dX2_flooded_36 : decode cX2_flooded 36 = .ok (.lxor, 1) := by decide +kernel
theorem dX2_flooded_37 : decode cX2_flooded 37 = .ok (.land, 1) := by decide +kernel
theorem dX2_flooded_38 : decode cX2_flooded 38 = .ok (.lstore 7, 2) := by decide +kernel
theorem dX2_flooded_40 : decode cX2_flooded 40 = .ok (.iconst 0, 1) := by decide +kernel
theorem dX2_flooded_41 : decode cX2_flooded 41 = .ok (.istore 9, 2) := by decide +kernel
theorem dX2_flooded_43 : decode cX2_flooded 43 = .ok (.iload 9, 2) := by decide +kernel
theorem dX2_flooded_45 : decode cX2_flooded 45 = .ok (.bipush 25, 2) := by decide +kernel
theorem dX2_flooded_47 : decode cX2_flooded 47 = .ok (.if_icmp .ge 64, 3) := by decide +kernel
theorem dX2_flooded_50 : decode cX2_flooded 50 = .ok (.lload 7, 2) := by decide +kernel
theorem dX2_flooded_52 : decode cX2_flooded 52 = .ok (.lstore 10, 2) := by decide +kernel
theorem dX2_flooded_54 : decode cX2_flooded 54 = .ok (.lload 7, 2) := by decide +kernel
theorem dX2_flooded_56 : decode cX2_flooded 56 = .ok (.lload 7, 2) := by decide +kernel
theorem dX2_flooded_58 : decode cX2_flooded 58 = .ok (.lload_n 3, 1) := by decide +kernel
theorem dX2_flooded_59 : decode cX2_flooded 59 = .ok (.land, 1) := by decide +kernel
theorem dX2_flooded_60 : decode cX2_flooded 60 = .ok (.iconst 2, 1) := by decide +kernel
theorem dX2_flooded_61 : decode cX2_flooded 61 = .ok (.lshl, 1) := by decide +kernel
theorem dX2_flooded_62 : decode cX2_flooded 62 = .ok (.lload 7, 2) := by decide +kernel
theorem dX2_flooded_64 : decode cX2_flooded 64 = .ok (.iconst 2, 1) := by decide +kernel
theorem dX2_flooded_65 : decode cX2_flooded 65 = .ok (.lushr, 1) := by decide +kernel
theorem dX2_flooded_66 : decode cX2_flooded 66 = .ok (.lload_n 3, 1) := by decide +kernel
theorem dX2_flooded_67 : decode cX2_flooded 67 = .ok (.land, 1) := by decide +kernel
theorem dX2_flooded_68 : decode cX2_flooded 68 = .ok (.lor, 1) := by decide +kernel
theorem dX2_flooded_69 : decode cX2_flooded 69 = .ok (.lor, 1) := by decide +kernel
theorem dX2_flooded_70 : decode cX2_flooded 70 = .ok (.lstore 7, 2) := by decide +kernel
theorem dX2_flooded_72 : decode cX2_flooded 72 = .ok (.lload 7, 2) := by decide +kernel
theorem dX2_flooded_74 : decode cX2_flooded 74 = .ok (.lload 7, 2) := by decide +kernel
theorem dX2_flooded_76 : decode cX2_flooded 76 = .ok (.lload 5, 2) := by decide +kernel
theorem dX2_flooded_78 : decode cX2_flooded 78 = .ok (.land, 1) := by decide +kernel
theorem dX2_flooded_79 : decode cX2_flooded 79 = .ok (.bipush 10, 2) := by decide +kernel
theorem dX2_flooded_81 : decode cX2_flooded 81 = .ok (.lshl, 1) := by decide +kernel
theorem dX2_flooded_82 : decode cX2_flooded 82 = .ok (.lload 7, 2) := by decide +kernel
theorem dX2_flooded_84 : decode cX2_flooded 84 = .ok (.bipush 10, 2) := by decide +kernel
theorem dX2_flooded_86 : decode cX2_flooded 86 = .ok (.lushr, 1) := by decide +kernel
theorem dX2_flooded_87 : decode cX2_flooded 87 = .ok (.lload 5, 2) := by decide +kernel
theorem dX2_flooded_89 : decode cX2_flooded 89 = .ok (.land, 1) := by decide +kernel
theorem dX2_flooded_90 : decode cX2_flooded 90 = .ok (.lor, 1) := by decide +kernel
theorem dX2_flooded_91 : decode cX2_flooded 91 = .ok (.lor, 1) := by decide +kernel
theorem dX2_flooded_92 : decode cX2_flooded 92 = .ok (.lstore 7, 2) := by decide +kernel
theorem dX2_flooded_94 : decode cX2_flooded 94 = .ok (.lload 7, 2) := by decide +kernel
theorem dX2_flooded_96 : decode cX2_flooded 96 = .ok (.lload 10, 2) := by decide +kernel
theorem dX2_flooded_98 : decode cX2_flooded 98 = .ok (.lcmp, 1) := by decide +kernel
theorem dX2_flooded_99 : decode cX2_flooded 99 = .ok (.ifCond .ne 6, 3) := by decide +kernel
theorem dX2_flooded_102 : decode cX2_flooded 102 = .ok (.goto 9, 3) := by decide +kernel
theorem dX2_flooded_105 : decode cX2_flooded 105 = .ok (.iinc 9 1, 3) := by decide +kernel
theorem dX2_flooded_108 : decode cX2_flooded 108 = .ok (.goto (-65), 3) := by decide +kernel
theorem dX2_flooded_111 : decode cX2_flooded 111 = .ok (.lload 7, 2) := by decide +kernel
theorem dX2_flooded_113 : decode cX2_flooded 113 = .ok (.lreturn, 1) := by decide +kernel
theorem dX2_joinsBy_0 : decode cX2_joinsBy 0 = .ok (.aload_n 0, 1) := by decide +kernel
theorem dX2_joinsBy_1 : decode cX2_joinsBy 1 = .ok (.lload_n 1, 1) := by decide +kernel
theorem dX2_joinsBy_2 : decode cX2_joinsBy 2 = .ok (.invokevirtual 76, 3) := by decide +kernel
theorem dX2_joinsBy_5 : decode cX2_joinsBy 5 = .ok (.ldc2_w 57, 3) := by decide +kernel
theorem dX2_joinsBy_8 : decode cX2_joinsBy 8 = .ok (.bipush 10, 2) := by decide +kernel
theorem dX2_joinsBy_10 : decode cX2_joinsBy 10 = .ok (.aload_n 0, 1) := by decide +kernel
theorem dX2_joinsBy_11 : decode cX2_joinsBy 11 = .ok (.getfield 15, 3) := by decide +kernel
theorem dX2_joinsBy_14 : decode cX2_joinsBy 14 = .ok (.iconst 1, 1) := by decide +kernel
theorem dX2_joinsBy_15 : decode cX2_joinsBy 15 = .ok (.isub, 1) := by decide +kernel
theorem dX2_joinsBy_16 : decode cX2_joinsBy 16 = .ok (.imul, 1) := by decide +kernel
theorem dX2_joinsBy_17 : decode cX2_joinsBy 17 = .ok (.lshl, 1) := by decide +kernel
theorem dX2_joinsBy_18 : decode cX2_joinsBy 18 = .ok (.land, 1) := by decide +kernel
theorem dX2_joinsBy_19 : decode cX2_joinsBy 19 = .ok (.lconst 0, 1) := by decide +kernel
theorem dX2_joinsBy_20 : decode cX2_joinsBy 20 = .ok (.lcmp, 1) := by decide +kernel
theorem dX2_joinsBy_21 : decode cX2_joinsBy 21 = .ok (.ifCond .eq 7, 3) := by decide +kernel
theorem dX2_joinsBy_24 : decode cX2_joinsBy 24 = .ok (.iconst 1, 1) := by decide +kernel
theorem dX2_joinsBy_25 : decode cX2_joinsBy 25 = .ok (.goto 4, 3) := by decide +kernel
theorem dX2_joinsBy_28 : decode cX2_joinsBy 28 = .ok (.iconst 0, 1) := by decide +kernel
theorem dX2_joinsBy_29 : decode cX2_joinsBy 29 = .ok (.ireturn, 1) := by decide +kernel
theorem dX3_init_0 : decode cX3_init 0 = .ok (.aload_n 0, 1) := by decide +kernel
theorem dX3_init_1 : decode cX3_init 1 = .ok (.invokespecial 3, 3) := by decide +kernel
theorem dX3_init_4 : decode cX3_init 4 = .ok (.aload_n 0, 1) := by decide +kernel
theorem dX3_init_5 : decode cX3_init 5 = .ok (.bipush 25, 2) := by decide +kernel
theorem dX3_init_7 : decode cX3_init 7 = .ok (.newarray .long, 2) := by decide +kernel
theorem dX3_init_9 : decode cX3_init 9 = .ok (.putfield 9, 3) := by decide +kernel
theorem dX3_init_12 : decode cX3_init 12 = .ok (.return_, 1) := by decide +kernel
theorem dX3_take_0 : decode cX3_take 0 = .ok (.iconst 0, 1) := by decide +kernel
theorem dX3_take_1 : decode cX3_take 1 = .ok (.istore 4, 2) := by decide +kernel
theorem dX3_take_3 : decode cX3_take 3 = .ok (.iload 4, 2) := by decide +kernel
theorem dX3_take_5 : decode cX3_take 5 = .ok (.bipush 25, 2) := by decide +kernel
theorem dX3_take_7 : decode cX3_take 7 = .ok (.if_icmp .ge 27, 3) := by decide +kernel
theorem dX3_take_10 : decode cX3_take 10 = .ok (.iload 4, 2) := by decide +kernel
theorem dX3_take_12 : decode cX3_take 12 = .ok (.aload_n 3, 1) := by decide +kernel
theorem dX3_take_13 : decode cX3_take 13 = .ok (.arraylength, 1) := by decide +kernel
theorem dX3_take_14 : decode cX3_take 14 = .ok (.if_icmp .ge 20, 3) := by decide +kernel
theorem dX3_take_17 : decode cX3_take 17 = .ok (.aload_n 0, 1) := by decide +kernel
theorem dX3_take_18 : decode cX3_take 18 = .ok (.getfield 9, 3) := by decide +kernel
theorem dX3_take_21 : decode cX3_take 21 = .ok (.iload 4, 2) := by decide +kernel
theorem dX3_take_23 : decode cX3_take 23 = .ok (.aload_n 3, 1) := by decide +kernel
theorem dX3_take_24 : decode cX3_take 24 = .ok (.iload 4, 2) := by decide +kernel
theorem dX3_take_26 : decode cX3_take 26 = .ok (.laload, 1) := by decide +kernel
theorem dX3_take_27 : decode cX3_take 27 = .ok (.lastore, 1) := by decide +kernel
theorem dX3_take_28 : decode cX3_take 28 = .ok (.iinc 4 1, 3) := by decide +kernel
theorem dX3_take_31 : decode cX3_take 31 = .ok (.goto (-28), 3) := by decide +kernel
theorem dX3_take_34 : decode cX3_take 34 = .ok (.aload_n 0, 1) := by decide +kernel
theorem dX3_take_35 : decode cX3_take 35 = .ok (.iload_n 1, 1) := by decide +kernel
theorem dX3_take_36 : decode cX3_take 36 = .ok (.putfield 15, 3) := by decide +kernel
theorem dX3_take_39 : decode cX3_take 39 = .ok (.aload_n 0, 1) := by decide +kernel
theorem dX3_take_40 : decode cX3_take 40 = .ok (.iload_n 2, 1) := by decide +kernel
theorem dX3_take_41 : decode cX3_take 41 = .ok (.putfield 19, 3) := by decide +kernel
theorem dX3_take_44 : decode cX3_take 44 = .ok (.aload_n 0, 1) := by decide +kernel
theorem dX3_take_45 : decode cX3_take 45 = .ok (.iconst 1, 1) := by decide +kernel
theorem dX3_take_46 : decode cX3_take 46 = .ok (.putfield 22, 3) := by decide +kernel
theorem dX3_take_49 : decode cX3_take 49 = .ok (.return_, 1) := by decide +kernel
theorem dX3_upper_0 : decode cX3_upper 0 = .ok (.iload_n 0, 1) := by decide +kernel
theorem dX3_upper_1 : decode cX3_upper 1 = .ok (.ifCond .ne 5, 3) := by decide +kernel
theorem dX3_upper_4 : decode cX3_upper 4 = .ok (.iconst 0, 1) := by decide +kernel
theorem dX3_upper_5 : decode cX3_upper 5 = .ok (.ireturn, 1) := by decide +kernel
theorem dX3_upper_6 : decode cX3_upper 6 = .ok (.iload_n 1, 1) := by decide +kernel
theorem dX3_upper_7 : decode cX3_upper 7 = .ok (.iconst (-1), 1) := by decide +kernel
theorem dX3_upper_8 : decode cX3_upper 8 = .ok (.if_icmp .ne 7, 3) := by decide +kernel
theorem dX3_upper_11 : decode cX3_upper 11 = .ok (.iconst 1, 1) := by decide +kernel
theorem dX3_upper_12 : decode cX3_upper 12 = .ok (.goto 4, 3) := by decide +kernel
theorem dX3_upper_15 : decode cX3_upper 15 = .ok (.iload_n 1, 1) := by decide +kernel
theorem dX3_upper_16 : decode cX3_upper 16 = .ok (.ireturn, 1) := by decide +kernel
theorem dX3_lower_0 : decode cX3_lower 0 = .ok (.iload_n 0, 1) := by decide +kernel
theorem dX3_lower_1 : decode cX3_lower 1 = .ok (.ifCond .ne 5, 3) := by decide +kernel
theorem dX3_lower_4 : decode cX3_lower 4 = .ok (.iconst 1, 1) := by decide +kernel
theorem dX3_lower_5 : decode cX3_lower 5 = .ok (.ireturn, 1) := by decide +kernel
theorem dX3_lower_6 : decode cX3_lower 6 = .ok (.iload_n 1, 1) := by decide +kernel
theorem dX3_lower_7 : decode cX3_lower 7 = .ok (.iconst (-1), 1) := by decide +kernel
theorem dX3_lower_8 : decode cX3_lower 8 = .ok (.if_icmp .ne 7, 3) := by decide +kernel
theorem dX3_lower_11 : decode cX3_lower 11 = .ok (.iconst 0, 1) := by decide +kernel
theorem dX3_lower_12 : decode cX3_lower 12 = .ok (.goto 4, 3) := by decide +kernel
theorem dX3_lower_15 : decode cX3_lower 15 = .ok (.iload_n 0, 1) := by decide +kernel
theorem dX3_lower_16 : decode cX3_lower 16 = .ok (.ireturn, 1) := by decide +kernel
theorem dX4_init_0 : decode cX4_init 0 = .ok (.aload_n 0, 1) := by decide +kernel
theorem dX4_init_1 : decode cX4_init 1 = .ok (.invokespecial 3, 3) := by decide +kernel
theorem dX4_init_4 : decode cX4_init 4 = .ok (.aload_n 0, 1) := by decide +kernel
theorem dX4_init_5 : decode cX4_init 5 = .ok (.sipush 132, 3) := by decide +kernel
theorem dX4_init_8 : decode cX4_init 8 = .ok (.newarray .int, 2) := by decide +kernel
theorem dX4_init_10 : decode cX4_init 10 = .ok (.putfield 9, 3) := by decide +kernel
theorem dX4_init_13 : decode cX4_init 13 = .ok (.aload_n 0, 1) := by decide +kernel
theorem dX4_init_14 : decode cX4_init 14 = .ok (.sipush 132, 3) := by decide +kernel
theorem dX4_init_17 : decode cX4_init 17 = .ok (.newarray .int, 2) := by decide +kernel
theorem dX4_init_19 : decode cX4_init 19 = .ok (.putfield 15, 3) := by decide +kernel
theorem dX4_init_22 : decode cX4_init 22 = .ok (.aload_n 0, 1) := by decide +kernel
theorem dX4_init_23 : decode cX4_init 23 = .ok (.sipush 1188, 3) := by decide +kernel
theorem dX4_init_26 : decode cX4_init 26 = .ok (.newarray .int, 2) := by decide +kernel
theorem dX4_init_28 : decode cX4_init 28 = .ok (.putfield 18, 3) := by decide +kernel
theorem dX4_init_31 : decode cX4_init 31 = .ok (.aload_n 0, 1) := by decide +kernel
theorem dX4_init_32 : decode cX4_init 32 = .ok (.bipush 40, 2) := by decide +kernel
theorem dX4_init_34 : decode cX4_init 34 = .ok (.newarray .int, 2) := by decide +kernel
theorem dX4_init_36 : decode cX4_init 36 = .ok (.putfield 21, 3) := by decide +kernel
theorem dX4_init_39 : decode cX4_init 39 = .ok (.aload_n 0, 1) := by decide +kernel
theorem dX4_init_40 : decode cX4_init 40 = .ok (.bipush 40, 2) := by decide +kernel
theorem dX4_init_42 : decode cX4_init 42 = .ok (.newarray .int, 2) := by decide +kernel
theorem dX4_init_44 : decode cX4_init 44 = .ok (.putfield 24, 3) := by decide +kernel
theorem dX4_init_47 : decode cX4_init 47 = .ok (.aload_n 0, 1) := by decide +kernel
theorem dX4_init_48 : decode cX4_init 48 = .ok (.bipush 6, 2) := by decide +kernel
theorem dX4_init_50 : decode cX4_init 50 = .ok (.newarray .int, 2) := by decide +kernel
theorem dX4_init_52 : decode cX4_init 52 = .ok (.putfield 27, 3) := by decide +kernel
theorem dX4_init_55 : decode cX4_init 55 = .ok (.aload_n 0, 1) := by decide +kernel
theorem dX4_init_56 : decode cX4_init 56 = .ok (.sipush 132, 3) := by decide +kernel
theorem dX4_init_59 : decode cX4_init 59 = .ok (.newarray .int, 2) := by decide +kernel
theorem dX4_init_61 : decode cX4_init 61 = .ok (.putfield 30, 3) := by decide +kernel
theorem dX4_init_64 : decode cX4_init 64 = .ok (.return_, 1) := by decide +kernel
theorem dX4_fit_0 : decode cX4_fit 0 = .ok (.aload_n 0, 1) := by decide +kernel
theorem dX4_fit_1 : decode cX4_fit 1 = .ok (.getfield 33, 3) := by decide +kernel
theorem dX4_fit_4 : decode cX4_fit 4 = .ok (.iload_n 1, 1) := by decide +kernel
theorem dX4_fit_5 : decode cX4_fit 5 = .ok (.if_icmp .ne 12, 3) := by decide +kernel
theorem dX4_fit_8 : decode cX4_fit 8 = .ok (.aload_n 0, 1) := by decide +kernel
theorem dX4_fit_9 : decode cX4_fit 9 = .ok (.getfield 37, 3) := by decide +kernel
theorem dX4_fit_12 : decode cX4_fit 12 = .ok (.iload_n 2, 1) := by decide +kernel
theorem dX4_fit_13 : decode cX4_fit 13 = .ok (.if_icmp .ne 4, 3) := by decide +kernel
theorem dX4_fit_16 : decode cX4_fit 16 = .ok (.return_, 1) := by decide +kernel
theorem dX4_fit_17 : decode cX4_fit 17 = .ok (.aload_n 0, 1) := by decide +kernel
theorem dX4_fit_18 : decode cX4_fit 18 = .ok (.getfield 33, 3) := by decide +kernel
theorem dX4_fit_21 : decode cX4_fit 21 = .ok (.iload_n 1, 1) := by decide +kernel
theorem dX4_fit_22 : decode cX4_fit 22 = .ok (.if_icmp .eq 49, 3) := by decide +kernel
theorem dX4_fit_25 : decode cX4_fit 25 = .ok (.aload_n 0, 1) := by decide +kernel
theorem dX4_fit_26 : decode cX4_fit 26 = .ok (.iload_n 1, 1) := by decide +kernel
theorem dX4_fit_27 : decode cX4_fit 27 = .ok (.putfield 33, 3) := by decide +kernel
theorem dX4_fit_30 : decode cX4_fit 30 = .ok (.aload_n 0, 1) := by decide +kernel
theorem dX4_fit_31 : decode cX4_fit 31 = .ok (.getfield 9, 3) := by decide +kernel
theorem dX4_fit_34 : decode cX4_fit 34 = .ok (.iconst 0, 1) := by decide +kernel
theorem dX4_fit_35 : decode cX4_fit 35 = .ok (.iconst 0, 1) := by decide +kernel
theorem dX4_fit_36 : decode cX4_fit 36 = .ok (.iastore, 1) := by decide +kernel
theorem dX4_fit_37 : decode cX4_fit 37 = .ok (.aload_n 0, 1) := by decide +kernel
theorem dX4_fit_38 : decode cX4_fit 38 = .ok (.iconst 1, 1) := by decide +kernel
theorem dX4_fit_39 : decode cX4_fit 39 = .ok (.putfield 40, 3) := by decide +kernel
theorem dX4_fit_42 : decode cX4_fit 42 = .ok (.iconst 0, 1) := by decide +kernel
theorem dX4_fit_43 : decode cX4_fit 43 = .ok (.istore_n 3, 1) := by decide +kernel
theorem dX4_fit_44 : decode cX4_fit 44 = .ok (.iload_n 3, 1) := by decide +kernel
theorem dX4_fit_45 : decode cX4_fit 45 = .ok (.aload_n 0, 1) := by decide +kernel
theorem dX4_fit_46 : decode cX4_fit 46 = .ok (.getfield 33, 3) := by decide +kernel
theorem dX4_fit_49 : decode cX4_fit 49 = .ok (.if_icmp .ge 14, 3) := by decide +kernel
theorem dX4_fit_52 : decode cX4_fit 52 = .ok (.aload_n 0, 1) := by decide +kernel
theorem dX4_fit_53 : decode cX4_fit 53 = .ok (.iload_n 3, 1) := by decide +kernel
theorem dX4_fit_54 : decode cX4_fit 54 = .ok (.invokevirtual 43, 3) := by decide +kernel
theorem dX4_fit_57 : decode cX4_fit 57 = .ok (.iinc 3 1, 3) := by decide +kernel
theorem dX4_fit_60 : decode cX4_fit 60 = .ok (.goto (-16), 3) := by decide +kernel
theorem dX4_fit_63 : decode cX4_fit 63 = .ok (.aload_n 0, 1) := by decide +kernel
theorem dX4_fit_64 : decode cX4_fit 64 = .ok (.invokevirtual 47, 3) := by decide +kernel
theorem dX4_fit_67 : decode cX4_fit 67 = .ok (.aload_n 0, 1) := by decide +kernel
theorem dX4_fit_68 : decode cX4_fit 68 = .ok (.invokevirtual 50, 3) := by decide +kernel
theorem dX4_fit_71 : decode cX4_fit 71 = .ok (.aload_n 0, 1) := by decide +kernel
theorem dX4_fit_72 : decode cX4_fit 72 = .ok (.iload_n 2, 1) := by decide +kernel
theorem dX4_fit_73 : decode cX4_fit 73 = .ok (.putfield 37, 3) := by decide +kernel
theorem dX4_fit_76 : decode cX4_fit 76 = .ok (.aload_n 0, 1) := by decide +kernel
theorem dX4_fit_77 : decode cX4_fit 77 = .ok (.invokevirtual 53, 3) := by decide +kernel
theorem dX4_fit_80 : decode cX4_fit 80 = .ok (.return_, 1) := by decide +kernel
theorem dX4_findWetCells_0 : decode cX4_findWetCells 0 = .ok (.iconst 0, 1) := by decide +kernel
theorem dX4_findWetCells_1 : decode cX4_findWetCells 1 = .ok (.istore_n 1, 1) := by decide +kernel
theorem dX4_findWetCells_2 : decode cX4_findWetCells 2 = .ok (.iload_n 1, 1) := by decide +kernel
theorem dX4_findWetCells_3 : decode cX4_findWetCells 3 = .ok (.aload_n 0, 1) := by decide +kernel
theorem dX4_findWetCells_4 : decode cX4_findWetCells 4 = .ok (.getfield 40, 3) := by decide +kernel
theorem dX4_findWetCells_7 : decode cX4_findWetCells 7 = .ok (.if_icmp .ge 53, 3) := by decide +kernel
theorem dX4_findWetCells_10 : decode cX4_findWetCells 10 = .ok (.aload_n 0, 1) := by decide +kernel
theorem dX4_findWetCells_11 : decode cX4_findWetCells 11 = .ok (.getfield 15, 3) := by decide +kernel
theorem dX4_findWetCells_14 : decode cX4_findWetCells 14 = .ok (.iload_n 1, 1) := by decide +kernel
theorem dX4_findWetCells_15 : decode cX4_findWetCells 15 = .ok (.iconst 0, 1) := by decide +kernel
theorem dX4_findWetCells_16 : decode cX4_findWetCells 16 = .ok (.iastore, 1) := by decide +kernel
theorem dX4_findWetCells_17 : decode cX4_findWetCells 17 = .ok (.iconst 0, 1) := by decide +kernel
theorem dX4_findWetCells_18 : decode cX4_findWetCells 18 = .ok (.istore_n 2, 1) := by decide +kernel
theorem dX4_findWetCells_19 : decode cX4_findWetCells 19 = .ok (.iload_n 2, 1) := by decide +kernel
theorem dX4_findWetCells_20 : decode cX4_findWetCells 20 = .ok (.aload_n 0, 1) := by decide +kernel
theorem dX4_findWetCells_21 : decode cX4_findWetCells 21 = .ok (.getfield 33, 3) := by decide +kernel
theorem dX4_findWetCells_24 : decode cX4_findWetCells 24 = .ok (.if_icmp .ge 30, 3) := by decide +kernel
theorem dX4_findWetCells_27 : decode cX4_findWetCells 27 = .ok (.aload_n 0, 1) := by decide +kernel
theorem dX4_findWetCells_28 : decode cX4_findWetCells 28 = .ok (.iload_n 1, 1) := by decide +kernel
theorem dX4_findWetCells_29 : decode cX4_findWetCells 29 = .ok (.iload_n 2, 1) := by decide +kernel
theorem dX4_findWetCells_30 : decode cX4_findWetCells 30 = .ok (.invokevirtual 56, 3) := by decide +kernel
theorem dX4_findWetCells_33 : decode cX4_findWetCells 33 = .ok (.ifCond .ne 15, 3) := by decide +kernel
theorem dX4_findWetCells_36 : decode cX4_findWetCells 36 = .ok (.aload_n 0, 1) := by decide +kernel
theorem dX4_findWetCells_37 : decode cX4_findWetCells 37 = .ok (.getfield 15, 3) := by decide +kernel
theorem dX4_findWetCells_40 : decode cX4_findWetCells 40 = .ok (.iload_n 1, 1) := by decide +kernel
theorem dX4_findWetCells_41 : decode cX4_findWetCells 41 = .ok (.dup2, 1) := by decide +kernel
theorem dX4_findWetCells_42 : decode cX4_findWetCells 42 = .ok (.iaload, 1) := by decide +kernel
theorem dX4_findWetCells_43 : decode cX4_findWetCells 43 = .ok (.iconst 1, 1) := by decide +kernel
theorem dX4_findWetCells_44 : decode cX4_findWetCells 44 = .ok (.iload_n 2, 1) := by decide +kernel
theorem dX4_findWetCells_45 : decode cX4_findWetCells 45 = .ok (.ishl, 1) := by decide +kernel
theorem dX4_findWetCells_46 : decode cX4_findWetCells 46 = .ok (.ior, 1) := by decide +kernel
theorem dX4_findWetCells_47 : decode cX4_findWetCells 47 = .ok (.iastore, 1) := by decide +kernel
theorem dX4_findWetCells_48 : decode cX4_findWetCells 48 = .ok (.iinc 2 1, 3) := by decide +kernel
theorem dX4_findWetCells_51 : decode cX4_findWetCells 51 = .ok (.goto (-32), 3) := by decide +kernel
theorem dX4_findWetCells_54 : decode cX4_findWetCells 54 = .ok (.iinc 1 1, 3) := by decide +kernel
theorem dX4_findWetCells_57 : decode cX4_findWetCells 57 = .ok (.goto (-55), 3) := by decide +kernel
theorem dX4_findWetCells_60 : decode cX4_findWetCells 60 = .ok (.return_, 1) := by decide +kernel
theorem dX4_addCell_0 : decode cX4_addCell 0 = .ok (.iconst 0, 1) := by decide +kernel
theorem dX4_addCell_1 : decode cX4_addCell 1 = .ok (.istore_n 2, 1) := by decide +kernel
theorem dX4_addCell_2 : decode cX4_addCell 2 = .ok (.iconst 0, 1) := by decide +kernel
theorem dX4_addCell_3 : decode cX4_addCell 3 = .ok (.istore_n 3, 1) := by decide +kernel
theorem dX4_addCell_4 : decode cX4_addCell 4 = .ok (.iload_n 3, 1) := by decide +kernel
theorem dX4_addCell_5 : decode cX4_addCell 5 = .ok (.aload_n 0, 1) := by decide +kernel
theorem dX4_addCell_6 : decode cX4_addCell 6 = .ok (.getfield 40, 3) := by decide +kernel
theorem dX4_addCell_9 : decode cX4_addCell 9 = .ok (.if_icmp .ge 84, 3) := by decide +kernel
theorem dX4_addCell_12 : decode cX4_addCell 12 = .ok (.aload_n 0, 1) := by decide +kernel
theorem dX4_addCell_13 : decode cX4_addCell 13 = .ok (.getfield 9, 3) := by decide +kernel
theorem dX4_addCell_16 : decode cX4_addCell 16 = .ok (.iload_n 3, 1) := by decide +kernel
theorem dX4_addCell_17 : decode cX4_addCell 17 = .ok (.iaload, 1) := by decide +kernel
theorem dX4_addCell_18 : decode cX4_addCell 18 = .ok (.iload_n 1, 1) := by decide +kernel
theorem dX4_addCell_19 : decode cX4_addCell 19 = .ok (.invokestatic 60, 3) := by decide +kernel
theorem dX4_addCell_22 : decode cX4_addCell 22 = .ok (.iconst 1, 1) := by decide +kernel
theorem dX4_addCell_23 : decode cX4_addCell 23 = .ok (.iadd, 1) := by decide +kernel
theorem dX4_addCell_24 : decode cX4_addCell 24 = .ok (.istore 4, 2) := by decide +kernel
theorem dX4_addCell_26 : decode cX4_addCell 26 = .ok (.iconst 0, 1) := by decide +kernel
theorem dX4_addCell_27 : decode cX4_addCell 27 = .ok (.istore 5, 2) := by decide +kernel
theorem dX4_addCell_29 : decode cX4_addCell 29 = .ok (.iload 5, 2) := by decide +kernel
theorem dX4_addCell_31 : decode cX4_addCell 31 = .ok (.iload 4, 2) := by decide +kernel
theorem dX4_addCell_33 : decode cX4_addCell 33 = .ok (.if_icmp .gt 54, 3) := by decide +kernel
theorem dX4_addCell_36 : decode cX4_addCell 36 = .ok (.iload_n 2, 1) := by decide +kernel
theorem dX4_addCell_37 : decode cX4_addCell 37 = .ok (.sipush 132, 3) := by decide +kernel
theorem dX4_addCell_40 : decode cX4_addCell 40 = .ok (.if_icmp .ge 41, 3) := by decide +kernel
theorem dX4_addCell_43 : decode cX4_addCell 43 = .ok (.aload_n 0, 1) := by decide +kernel
theorem dX4_addCell_44 : decode cX4_addCell 44 = .ok (.getfield 9, 3) := by decide +kernel
theorem dX4_addCell_47 : decode cX4_addCell 47 = .ok (.iload_n 3, 1) := by decide +kernel
theorem dX4_addCell_48 : decode cX4_addCell 48 = .ok (.iaload, 1) := by decide +kernel
theorem dX4_addCell_49 : decode cX4_addCell 49 = .ok (.iload_n 1, 1) := by decide +kernel
theorem dX4_addCell_50 : decode cX4_addCell 50 = .ok (.iload 5, 2) := by decide +kernel
theorem dX4_addCell_52 : decode cX4_addCell 52 = .ok (.invokestatic 63, 3) := by decide +kernel
theorem dX4_addCell_55 : decode cX4_addCell 55 = .ok (.ifCond .ne 26, 3) := by decide +kernel
theorem dX4_addCell_58 : decode cX4_addCell 58 = .ok (.aload_n 0, 1) := by decide +kernel
theorem dX4_addCell_59 : decode cX4_addCell 59 = .ok (.getfield 30, 3) := by decide +kernel
theorem dX4_addCell_62 : decode cX4_addCell 62 = .ok (.iload_n 2, 1) := by decide +kernel
theorem dX4_addCell_63 : decode cX4_addCell 63 = .ok (.aload_n 0, 1) := by decide +kernel
theorem dX4_addCell_64 : decode cX4_addCell 64 = .ok (.getfield 9, 3) := by decide +kernel
theorem dX4_addCell_67 : decode cX4_addCell 67 = .ok (.iload_n 3, 1) := by decide +kernel
theorem dX4_addCell_68 : decode cX4_addCell 68 = .ok (.iaload, 1) := by decide +kernel
theorem dX4_addCell_69 : decode cX4_addCell 69 = .ok (.iload 5, 2) := by decide +kernel
theorem dX4_addCell_71 : decode cX4_addCell 71 = .ok (.iload_n 1, 1) := by decide +kernel
theorem dX4_addCell_72 : decode cX4_addCell 72 = .ok (.invokestatic 67, 3) := by decide +kernel
theorem dX4_addCell_75 : decode cX4_addCell 75 = .ok (.ishl, 1) := by decide +kernel
theorem dX4_addCell_76 : decode cX4_addCell 76 = .ok (.ior, 1) := by decide +kernel
theorem dX4_addCell_77 : decode cX4_addCell 77 = .ok (.iastore, 1) := by decide +kernel
theorem dX4_addCell_78 : decode cX4_addCell 78 = .ok (.iinc 2 1, 3) := by decide +kernel
theorem dX4_addCell_81 : decode cX4_addCell 81 = .ok (.iinc 5 1, 3) := by decide +kernel
theorem dX4_addCell_84 : decode cX4_addCell 84 = .ok (.goto (-55), 3) := by decide +kernel
theorem dX4_addCell_87 : decode cX4_addCell 87 = .ok (.iinc 3 1, 3) := by decide +kernel
theorem dX4_addCell_90 : decode cX4_addCell 90 = .ok (.goto (-86), 3) := by decide +kernel
theorem dX4_addCell_93 : decode cX4_addCell 93 = .ok (.aload_n 0, 1) := by decide +kernel
theorem dX4_addCell_94 : decode cX4_addCell 94 = .ok (.getfield 30, 3) := by decide +kernel
theorem dX4_addCell_97 : decode cX4_addCell 97 = .ok (.iconst 0, 1) := by decide +kernel
theorem dX4_addCell_98 : decode cX4_addCell 98 = .ok (.aload_n 0, 1) := by decide +kernel
theorem dX4_addCell_99 : decode cX4_addCell 99 = .ok (.getfield 9, 3) := by decide +kernel
theorem dX4_addCell_102 : decode cX4_addCell 102 = .ok (.iconst 0, 1) := by decide +kernel
theorem dX4_addCell_103 : decode cX4_addCell 103 = .ok (.iload_n 2, 1) := by decide +kernel
theorem dX4_addCell_104 : decode cX4_addCell 104 = .ok (.invokestatic 71, 3) := by decide +kernel
theorem dX4_addCell_107 : decode cX4_addCell 107 = .ok (.aload_n 0, 1) := by decide +kernel
theorem dX4_addCell_108 : decode cX4_addCell 108 = .ok (.iload_n 2, 1) := by decide +kernel
theorem dX4_addCell_109 : decode cX4_addCell 109 = .ok (.putfield 40, 3) := by decide +kernel
theorem dX4_addCell_112 : decode cX4_addCell 112 = .ok (.return_, 1) := by decide +kernel
theorem dX4_crosses_0 : decode cX4_crosses 0 = .ok (.iconst (-1), 1) := by decide +kernel
theorem dX4_crosses_1 : decode cX4_crosses 1 = .ok (.istore_n 3, 1) := by decide +kernel
theorem dX4_crosses_2 : decode cX4_crosses 2 = .ok (.iconst 0, 1) := by decide +kernel
theorem dX4_crosses_3 : decode cX4_crosses 3 = .ok (.istore 4, 2) := by decide +kernel
theorem dX4_crosses_5 : decode cX4_crosses 5 = .ok (.iload 4, 2) := by decide +kernel
theorem dX4_crosses_7 : decode cX4_crosses 7 = .ok (.iload_n 1, 1) := by decide +kernel
theorem dX4_crosses_8 : decode cX4_crosses 8 = .ok (.if_icmp .ge 22, 3) := by decide +kernel
theorem dX4_crosses_11 : decode cX4_crosses 11 = .ok (.iload_n 0, 1) := by decide +kernel
theorem dX4_crosses_12 : decode cX4_crosses 12 = .ok (.iload 4, 2) := by decide +kernel
theorem dX4_crosses_14 : decode cX4_crosses 14 = .ok (.invokestatic 77, 3) := by decide +kernel
theorem dX4_crosses_17 : decode cX4_crosses 17 = .ok (.iload_n 2, 1) := by decide +kernel
theorem dX4_crosses_18 : decode cX4_crosses 18 = .ok (.if_icmp .ne 6, 3) := by decide +kernel
theorem dX4_crosses_21 : decode cX4_crosses 21 = .ok (.iload 4, 2) := by decide +kernel
theorem dX4_crosses_23 : decode cX4_crosses 23 = .ok (.istore_n 3, 1) := by decide +kernel
theorem dX4_crosses_24 : decode cX4_crosses 24 = .ok (.iinc 4 1, 3) := by decide +kernel
theorem dX4_crosses_27 : decode cX4_crosses 27 = .ok (.goto (-22), 3) := by decide +kernel
theorem dX4_crosses_30 : decode cX4_crosses 30 = .ok (.iload_n 3, 1) := by decide +kernel
theorem dX4_crosses_31 : decode cX4_crosses 31 = .ok (.ifCond .ge 5, 3) := by decide +kernel
theorem dX4_crosses_34 : decode cX4_crosses 34 = .ok (.iconst 0, 1) := by decide +kernel
theorem dX4_crosses_35 : decode cX4_crosses 35 = .ok (.ireturn, 1) := by decide +kernel
theorem dX4_crosses_36 : decode cX4_crosses 36 = .ok (.iload_n 3, 1) := by decide +kernel
theorem dX4_crosses_37 : decode cX4_crosses 37 = .ok (.iconst 1, 1) := by decide +kernel
theorem dX4_crosses_38 : decode cX4_crosses 38 = .ok (.iadd, 1) := by decide +kernel
theorem dX4_crosses_39 : decode cX4_crosses 39 = .ok (.istore 4, 2) := by decide +kernel
theorem dX4_crosses_41 : decode cX4_crosses 41 = .ok (.iload 4, 2) := by decide +kernel
theorem dX4_crosses_43 : decode cX4_crosses 43 = .ok (.iload_n 1, 1) := by decide +kernel
theorem dX4_crosses_44 : decode cX4_crosses 44 = .ok (.if_icmp .ge 52, 3) := by decide +kernel
theorem dX4_crosses_47 : decode cX4_crosses 47 = .ok (.iload_n 0, 1) := by decide +kernel
theorem dX4_crosses_48 : decode cX4_crosses 48 = .ok (.iload 4, 2) := by decide +kernel
theorem dX4_crosses_50 : decode cX4_crosses 50 = .ok (.invokestatic 77, 3) := by decide +kernel
theorem dX4_crosses_53 : decode cX4_crosses 53 = .ok (.istore 5, 2) := by decide +kernel
theorem dX4_crosses_55 : decode cX4_crosses 55 = .ok (.iload 5, 2) := by decide +kernel
theorem dX4_crosses_57 : decode cX4_crosses 57 = .ok (.ifCond .ne 5, 3) := by decide +kernel
theorem dX4_crosses_60 : decode cX4_crosses 60 = .ok (.iconst 1, 1) := by decide +kernel
theorem dX4_crosses_61 : decode cX4_crosses 61 = .ok (.ireturn, 1) := by decide +kernel
theorem dX4_crosses_62 : decode cX4_crosses 62 = .ok (.iconst 0, 1) := by decide +kernel
theorem dX4_crosses_63 : decode cX4_crosses 63 = .ok (.istore 6, 2) := by decide +kernel
theorem dX4_crosses_65 : decode cX4_crosses 65 = .ok (.iload 6, 2) := by decide +kernel
theorem dX4_crosses_67 : decode cX4_crosses 67 = .ok (.iload_n 3, 1) := by decide +kernel
theorem dX4_crosses_68 : decode cX4_crosses 68 = .ok (.if_icmp .ge 22, 3) := by decide +kernel
theorem dX4_crosses_71 : decode cX4_crosses 71 = .ok (.iload_n 0, 1) := by decide +kernel
theorem dX4_crosses_72 : decode cX4_crosses 72 = .ok (.iload 6, 2) := by decide +kernel
theorem dX4_crosses_74 : decode cX4_crosses 74 = .ok (.invokestatic 77, 3) := by decide +kernel
theorem dX4_crosses_77 : decode cX4_crosses 77 = .ok (.iload 5, 2) := by decide +kernel
theorem dX4_crosses_79 : decode cX4_crosses 79 = .ok (.if_icmp .ne 5, 3) := by decide +kernel
theorem dX4_crosses_82 : decode cX4_crosses 82 = .ok (.iconst 1, 1) := by decide +kernel
theorem dX4_crosses_83 : decode cX4_crosses 83 = .ok (.ireturn, 1) := by decide +kernel
theorem dX4_crosses_84 : decode cX4_crosses 84 = .ok (.iinc 6 1, 3) := by decide +kernel
theorem dX4_crosses_87 : decode cX4_crosses 87 = .ok (.goto (-22), 3) := by decide +kernel
theorem dX4_crosses_90 : decode cX4_crosses 90 = .ok (.iinc 4 1, 3) := by decide +kernel
theorem dX4_crosses_93 : decode cX4_crosses 93 = .ok (.goto (-52), 3) := by decide +kernel
theorem dX4_crosses_96 : decode cX4_crosses 96 = .ok (.iconst 0, 1) := by decide +kernel
theorem dX4_crosses_97 : decode cX4_crosses 97 = .ok (.ireturn, 1) := by decide +kernel
theorem dX4_makeMoves_0 : decode cX4_makeMoves 0 = .ok (.iconst 0, 1) := by decide +kernel
theorem dX4_makeMoves_1 : decode cX4_makeMoves 1 = .ok (.istore_n 1, 1) := by decide +kernel
theorem dX4_makeMoves_2 : decode cX4_makeMoves 2 = .ok (.iload_n 1, 1) := by decide +kernel
theorem dX4_makeMoves_3 : decode cX4_makeMoves 3 = .ok (.aload_n 0, 1) := by decide +kernel
theorem dX4_makeMoves_4 : decode cX4_makeMoves 4 = .ok (.getfield 40, 3) := by decide +kernel
theorem dX4_makeMoves_7 : decode cX4_makeMoves 7 = .ok (.if_icmp .ge 86, 3) := by decide +kernel
theorem dX4_makeMoves_10 : decode cX4_makeMoves 10 = .ok (.iconst 0, 1) := by decide +kernel
theorem dX4_makeMoves_11 : decode cX4_makeMoves 11 = .ok (.istore_n 2, 1) := by decide +kernel
theorem dX4_makeMoves_12 : decode cX4_makeMoves 12 = .ok (.iload_n 2, 1) := by decide +kernel
theorem dX4_makeMoves_13 : decode cX4_makeMoves 13 = .ok (.aload_n 0, 1) := by decide +kernel
theorem dX4_makeMoves_14 : decode cX4_makeMoves 14 = .ok (.getfield 33, 3) := by decide +kernel
theorem dX4_makeMoves_17 : decode cX4_makeMoves 17 = .ok (.if_icmp .ge 70, 3) := by decide +kernel
theorem dX4_makeMoves_20 : decode cX4_makeMoves 20 = .ok (.aload_n 0, 1) := by decide +kernel
theorem dX4_makeMoves_21 : decode cX4_makeMoves 21 = .ok (.getfield 18, 3) := by decide +kernel
theorem dX4_makeMoves_24 : decode cX4_makeMoves 24 = .ok (.iload_n 2, 1) := by decide +kernel
theorem dX4_makeMoves_25 : decode cX4_makeMoves 25 = .ok (.sipush 132, 3) := by decide +kernel
theorem dX4_makeMoves_28 : decode cX4_makeMoves 28 = .ok (.imul, 1) := by decide +kernel
theorem dX4_makeMoves_29 : decode cX4_makeMoves 29 = .ok (.iload_n 1, 1) := by decide +kernel
theorem dX4_makeMoves_30 : decode cX4_makeMoves 30 = .ok (.iadd, 1) := by decide +kernel
theorem dX4_makeMoves_31 : decode cX4_makeMoves 31 = .ok (.aload_n 0, 1) := by decide +kernel
theorem dX4_makeMoves_32 : decode cX4_makeMoves 32 = .ok (.aload_n 0, 1) := by decide +kernel
theorem dX4_makeMoves_33 : decode cX4_makeMoves 33 = .ok (.aload_n 0, 1) := by decide +kernel
theorem dX4_makeMoves_34 : decode cX4_makeMoves 34 = .ok (.getfield 9, 3) := by decide +kernel
theorem dX4_makeMoves_37 : decode cX4_makeMoves 37 = .ok (.iload_n 1, 1) := by decide +kernel
theorem dX4_makeMoves_38 : decode cX4_makeMoves 38 = .ok (.iaload, 1) := by decide +kernel
theorem dX4_makeMoves_39 : decode cX4_makeMoves 39 = .ok (.iload_n 2, 1) := by decide +kernel
theorem dX4_makeMoves_40 : decode cX4_makeMoves 40 = .ok (.invokevirtual 80, 3) := by decide +kernel
theorem dX4_makeMoves_43 : decode cX4_makeMoves 43 = .ok (.invokevirtual 83, 3) := by decide +kernel
theorem dX4_makeMoves_46 : decode cX4_makeMoves 46 = .ok (.iastore, 1) := by decide +kernel
theorem dX4_makeMoves_47 : decode cX4_makeMoves 47 = .ok (.iload_n 2, 1) := by decide +kernel
theorem dX4_makeMoves_48 : decode cX4_makeMoves 48 = .ok (.ifCond .le 33, 3) := by decide +kernel
theorem dX4_makeMoves_51 : decode cX4_makeMoves 51 = .ok (.aload_n 0, 1) := by decide +kernel
theorem dX4_makeMoves_52 : decode cX4_makeMoves 52 = .ok (.getfield 18, 3) := by decide +kernel
theorem dX4_makeMoves_55 : decode cX4_makeMoves 55 = .ok (.iload_n 2, 1) := by decide +kernel
theorem dX4_makeMoves_56 : decode cX4_makeMoves 56 = .ok (.invokestatic 86, 3) := by decide +kernel
theorem dX4_makeMoves_59 : decode cX4_makeMoves 59 = .ok (.sipush 132, 3) := by decide +kernel
