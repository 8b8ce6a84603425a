theorem dX9_choices_1 : decode cX9_choices 1 = .ok (.iconst 0, 1) := by decide +kernel
theorem dX9_choices_2 : decode cX9_choices 2 = .ok (.putfield 103, 3) := by decide +kernel
theorem dX9_choices_5 : decode cX9_choices 5 = .ok (.aload_n 0, 1) := by decide +kernel
theorem dX9_choices_6 : decode cX9_choices 6 = .ok (.invokevirtual 187, 3) := by decide +kernel
theorem dX9_choices_9 : decode cX9_choices 9 = .ok (.iload_n 1, 1) := by decide +kernel
theorem dX9_choices_10 : decode cX9_choices 10 = .ok (.invokestatic 250, 3) := by decide +kernel
theorem dX9_choices_13 : decode cX9_choices 13 = .ok (.lreturn, 1) := by decide +kernel
theorem dX9_isRow_0 : decode cX9_isRow 0 = .ok (.iload_n 1, 1) := by decide +kernel
theorem dX9_isRow_1 : decode cX9_isRow 1 = .ok (.iconst 0, 1) := by decide +kernel
theorem dX9_isRow_2 : decode cX9_isRow 2 = .ok (.aload_n 0, 1) := by decide +kernel
theorem dX9_isRow_3 : decode cX9_isRow 3 = .ok (.getfield 30, 3) := by decide +kernel
theorem dX9_isRow_6 : decode cX9_isRow 6 = .ok (.iconst 1, 1) := by decide +kernel
theorem dX9_isRow_7 : decode cX9_isRow 7 = .ok (.isub, 1) := by decide +kernel
theorem dX9_isRow_8 : decode cX9_isRow 8 = .ok (.invokestatic 142, 3) := by decide +kernel
theorem dX9_isRow_11 : decode cX9_isRow 11 = .ok (.ireturn, 1) := by decide +kernel
theorem dX9_states_0 : decode cX9_states 0 = .ok (.aload_n 0, 1) := by decide +kernel
theorem dX9_states_1 : decode cX9_states 1 = .ok (.aload_n 0, 1) := by decide +kernel
theorem dX9_states_2 : decode cX9_states 2 = .ok (.iload_n 1, 1) := by decide +kernel
theorem dX9_states_3 : decode cX9_states 3 = .ok (.invokevirtual 261, 3) := by decide +kernel
theorem dX9_states_6 : decode cX9_states 6 = .ok (.ifCond .eq 7, 3) := by decide +kernel
theorem dX9_states_9 : decode cX9_states 9 = .ok (.iconst 0, 1) := by decide +kernel
theorem dX9_states_10 : decode cX9_states 10 = .ok (.goto 4, 3) := by decide +kernel
theorem dX9_states_13 : decode cX9_states 13 = .ok (.iconst 1, 1) := by decide +kernel
theorem dX9_states_14 : decode cX9_states 14 = .ok (.putfield 103, 3) := by decide +kernel
theorem dX9_states_17 : decode cX9_states 17 = .ok (.aload_n 0, 1) := by decide +kernel
theorem dX9_states_18 : decode cX9_states 18 = .ok (.getfield 103, 3) := by decide +kernel
theorem dX9_states_21 : decode cX9_states 21 = .ok (.ifCond .le 5, 3) := by decide +kernel
theorem dX9_states_24 : decode cX9_states 24 = .ok (.iconst 0, 1) := by decide +kernel
theorem dX9_states_25 : decode cX9_states 25 = .ok (.ireturn, 1) := by decide +kernel
theorem dX9_states_26 : decode cX9_states 26 = .ok (.aload_n 0, 1) := by decide +kernel
theorem dX9_states_27 : decode cX9_states 27 = .ok (.invokevirtual 247, 3) := by decide +kernel
theorem dX9_states_30 : decode cX9_states 30 = .ok (.aload_n 0, 1) := by decide +kernel
theorem dX9_states_31 : decode cX9_states 31 = .ok (.getfield 51, 3) := by decide +kernel
theorem dX9_states_34 : decode cX9_states 34 = .ok (.iload_n 1, 1) := by decide +kernel
theorem dX9_states_35 : decode cX9_states 35 = .ok (.iaload, 1) := by decide +kernel
theorem dX9_states_36 : decode cX9_states 36 = .ok (.ireturn, 1) := by decide +kernel
theorem dX9_state_0 : decode cX9_state 0 = .ok (.aload_n 0, 1) := by decide +kernel
theorem dX9_state_1 : decode cX9_state 1 = .ok (.invokevirtual 247, 3) := by decide +kernel
theorem dX9_state_4 : decode cX9_state 4 = .ok (.aload_n 0, 1) := by decide +kernel
theorem dX9_state_5 : decode cX9_state 5 = .ok (.aload_n 0, 1) := by decide +kernel
theorem dX9_state_6 : decode cX9_state 6 = .ok (.iload_n 1, 1) := by decide +kernel
theorem dX9_state_7 : decode cX9_state 7 = .ok (.invokevirtual 261, 3) := by decide +kernel
theorem dX9_state_10 : decode cX9_state 10 = .ok (.ifCond .eq 17, 3) := by decide +kernel
theorem dX9_state_13 : decode cX9_state 13 = .ok (.iload_n 3, 1) := by decide +kernel
theorem dX9_state_14 : decode cX9_state 14 = .ok (.iconst 0, 1) := by decide +kernel
theorem dX9_state_15 : decode cX9_state 15 = .ok (.aload_n 0, 1) := by decide +kernel
theorem dX9_state_16 : decode cX9_state 16 = .ok (.getfield 27, 3) := by decide +kernel
theorem dX9_state_19 : decode cX9_state 19 = .ok (.iconst 1, 1) := by decide +kernel
theorem dX9_state_20 : decode cX9_state 20 = .ok (.isub, 1) := by decide +kernel
theorem dX9_state_21 : decode cX9_state 21 = .ok (.invokestatic 142, 3) := by decide +kernel
theorem dX9_state_24 : decode cX9_state 24 = .ok (.ifCond .ne 7, 3) := by decide +kernel
theorem dX9_state_27 : decode cX9_state 27 = .ok (.iconst 1, 1) := by decide +kernel
theorem dX9_state_28 : decode cX9_state 28 = .ok (.goto 4, 3) := by decide +kernel
theorem dX9_state_31 : decode cX9_state 31 = .ok (.iconst 0, 1) := by decide +kernel
theorem dX9_state_32 : decode cX9_state 32 = .ok (.putfield 103, 3) := by decide +kernel
theorem dX9_state_35 : decode cX9_state 35 = .ok (.aload_n 0, 1) := by decide +kernel
theorem dX9_state_36 : decode cX9_state 36 = .ok (.getfield 103, 3) := by decide +kernel
theorem dX9_state_39 : decode cX9_state 39 = .ok (.ifCond .ne 24, 3) := by decide +kernel
theorem dX9_state_42 : decode cX9_state 42 = .ok (.iload_n 2, 1) := by decide +kernel
theorem dX9_state_43 : decode cX9_state 43 = .ok (.iconst 0, 1) := by decide +kernel
theorem dX9_state_44 : decode cX9_state 44 = .ok (.aload_n 0, 1) := by decide +kernel
theorem dX9_state_45 : decode cX9_state 45 = .ok (.getfield 51, 3) := by decide +kernel
theorem dX9_state_48 : decode cX9_state 48 = .ok (.iload_n 1, 1) := by decide +kernel
theorem dX9_state_49 : decode cX9_state 49 = .ok (.iaload, 1) := by decide +kernel
theorem dX9_state_50 : decode cX9_state 50 = .ok (.iconst 1, 1) := by decide +kernel
theorem dX9_state_51 : decode cX9_state 51 = .ok (.isub, 1) := by decide +kernel
theorem dX9_state_52 : decode cX9_state 52 = .ok (.invokestatic 142, 3) := by decide +kernel
theorem dX9_state_55 : decode cX9_state 55 = .ok (.ifCond .ne 8, 3) := by decide +kernel
theorem dX9_state_58 : decode cX9_state 58 = .ok (.aload_n 0, 1) := by decide +kernel
theorem dX9_state_59 : decode cX9_state 59 = .ok (.iconst 2, 1) := by decide +kernel
theorem dX9_state_60 : decode cX9_state 60 = .ok (.putfield 103, 3) := by decide +kernel
theorem dX9_state_63 : decode cX9_state 63 = .ok (.aload_n 0, 1) := by decide +kernel
theorem dX9_state_64 : decode cX9_state 64 = .ok (.getfield 103, 3) := by decide +kernel
theorem dX9_state_67 : decode cX9_state 67 = .ok (.ifCond .le 5, 3) := by decide +kernel
theorem dX9_state_70 : decode cX9_state 70 = .ok (.iconst 0, 1) := by decide +kernel
theorem dX9_state_71 : decode cX9_state 71 = .ok (.ireturn, 1) := by decide +kernel
theorem dX9_state_72 : decode cX9_state 72 = .ok (.aload_n 0, 1) := by decide +kernel
theorem dX9_state_73 : decode cX9_state 73 = .ok (.getfield 54, 3) := by decide +kernel
theorem dX9_state_76 : decode cX9_state 76 = .ok (.sipush 300, 3) := by decide +kernel
theorem dX9_state_79 : decode cX9_state 79 = .ok (.iload_n 1, 1) := by decide +kernel
theorem dX9_state_80 : decode cX9_state 80 = .ok (.imul, 1) := by decide +kernel
theorem dX9_state_81 : decode cX9_state 81 = .ok (.iload_n 2, 1) := by decide +kernel
theorem dX9_state_82 : decode cX9_state 82 = .ok (.iadd, 1) := by decide +kernel
theorem dX9_state_83 : decode cX9_state 83 = .ok (.iaload, 1) := by decide +kernel
theorem dX9_state_84 : decode cX9_state 84 = .ok (.istore 4, 2) := by decide +kernel
theorem dX9_state_86 : decode cX9_state 86 = .ok (.aload_n 0, 1) := by decide +kernel
theorem dX9_state_87 : decode cX9_state 87 = .ok (.getfield 27, 3) := by decide +kernel
theorem dX9_state_90 : decode cX9_state 90 = .ok (.iconst 1, 1) := by decide +kernel
theorem dX9_state_91 : decode cX9_state 91 = .ok (.isub, 1) := by decide +kernel
theorem dX9_state_92 : decode cX9_state 92 = .ok (.istore 5, 2) := by decide +kernel
theorem dX9_state_94 : decode cX9_state 94 = .ok (.iload 5, 2) := by decide +kernel
theorem dX9_state_96 : decode cX9_state 96 = .ok (.iload_n 3, 1) := by decide +kernel
theorem dX9_state_97 : decode cX9_state 97 = .ok (.if_icmp .le 16, 3) := by decide +kernel
theorem dX9_state_100 : decode cX9_state 100 = .ok (.iload 4, 2) := by decide +kernel
theorem dX9_state_102 : decode cX9_state 102 = .ok (.bipush 10, 2) := by decide +kernel
theorem dX9_state_104 : decode cX9_state 104 = .ok (.idiv, 1) := by decide +kernel
theorem dX9_state_105 : decode cX9_state 105 = .ok (.istore 4, 2) := by decide +kernel
theorem dX9_state_107 : decode cX9_state 107 = .ok (.iinc 5 (-1), 3) := by decide +kernel
theorem dX9_state_110 : decode cX9_state 110 = .ok (.goto (-16), 3) := by decide +kernel
theorem dX9_state_113 : decode cX9_state 113 = .ok (.iload 4, 2) := by decide +kernel
theorem dX9_state_115 : decode cX9_state 115 = .ok (.bipush 10, 2) := by decide +kernel
theorem dX9_state_117 : decode cX9_state 117 = .ok (.irem, 1) := by decide +kernel
theorem dX9_state_118 : decode cX9_state 118 = .ok (.ireturn, 1) := by decide +kernel
theorem dX9_ways_0 : decode cX9_ways 0 = .ok (.aload_n 0, 1) := by decide +kernel
theorem dX9_ways_1 : decode cX9_ways 1 = .ok (.invokevirtual 247, 3) := by decide +kernel
theorem dX9_ways_4 : decode cX9_ways 4 = .ok (.aload_n 0, 1) := by decide +kernel
theorem dX9_ways_5 : decode cX9_ways 5 = .ok (.aload_n 0, 1) := by decide +kernel
theorem dX9_ways_6 : decode cX9_ways 6 = .ok (.iload_n 1, 1) := by decide +kernel
theorem dX9_ways_7 : decode cX9_ways 7 = .ok (.invokevirtual 261, 3) := by decide +kernel
theorem dX9_ways_10 : decode cX9_ways 10 = .ok (.ifCond .eq 7, 3) := by decide +kernel
theorem dX9_ways_13 : decode cX9_ways 13 = .ok (.iconst 0, 1) := by decide +kernel
theorem dX9_ways_14 : decode cX9_ways 14 = .ok (.goto 4, 3) := by decide +kernel
theorem dX9_ways_17 : decode cX9_ways 17 = .ok (.iconst 1, 1) := by decide +kernel
theorem dX9_ways_18 : decode cX9_ways 18 = .ok (.putfield 103, 3) := by decide +kernel
theorem dX9_ways_21 : decode cX9_ways 21 = .ok (.aload_n 0, 1) := by decide +kernel
theorem dX9_ways_22 : decode cX9_ways 22 = .ok (.getfield 103, 3) := by decide +kernel
theorem dX9_ways_25 : decode cX9_ways 25 = .ok (.ifCond .ne 24, 3) := by decide +kernel
theorem dX9_ways_28 : decode cX9_ways 28 = .ok (.iload_n 2, 1) := by decide +kernel
theorem dX9_ways_29 : decode cX9_ways 29 = .ok (.iconst 0, 1) := by decide +kernel
theorem dX9_ways_30 : decode cX9_ways 30 = .ok (.aload_n 0, 1) := by decide +kernel
theorem dX9_ways_31 : decode cX9_ways 31 = .ok (.getfield 51, 3) := by decide +kernel
theorem dX9_ways_34 : decode cX9_ways 34 = .ok (.iload_n 1, 1) := by decide +kernel
theorem dX9_ways_35 : decode cX9_ways 35 = .ok (.iaload, 1) := by decide +kernel
theorem dX9_ways_36 : decode cX9_ways 36 = .ok (.iconst 1, 1) := by decide +kernel
theorem dX9_ways_37 : decode cX9_ways 37 = .ok (.isub, 1) := by decide +kernel
theorem dX9_ways_38 : decode cX9_ways 38 = .ok (.invokestatic 142, 3) := by decide +kernel
theorem dX9_ways_41 : decode cX9_ways 41 = .ok (.ifCond .ne 8, 3) := by decide +kernel
theorem dX9_ways_44 : decode cX9_ways 44 = .ok (.aload_n 0, 1) := by decide +kernel
theorem dX9_ways_45 : decode cX9_ways 45 = .ok (.iconst 2, 1) := by decide +kernel
theorem dX9_ways_46 : decode cX9_ways 46 = .ok (.putfield 103, 3) := by decide +kernel
theorem dX9_ways_49 : decode cX9_ways 49 = .ok (.aload_n 0, 1) := by decide +kernel
theorem dX9_ways_50 : decode cX9_ways 50 = .ok (.getfield 103, 3) := by decide +kernel
theorem dX9_ways_53 : decode cX9_ways 53 = .ok (.ifCond .le 5, 3) := by decide +kernel
theorem dX9_ways_56 : decode cX9_ways 56 = .ok (.lconst 0, 1) := by decide +kernel
theorem dX9_ways_57 : decode cX9_ways 57 = .ok (.lreturn, 1) := by decide +kernel
theorem dX9_ways_58 : decode cX9_ways 58 = .ok (.iload_n 3, 1) := by decide +kernel
theorem dX9_ways_59 : decode cX9_ways 59 = .ok (.iconst 0, 1) := by decide +kernel
theorem dX9_ways_60 : decode cX9_ways 60 = .ok (.bipush 24, 2) := by decide +kernel
theorem dX9_ways_62 : decode cX9_ways 62 = .ok (.invokestatic 142, 3) := by decide +kernel
theorem dX9_ways_65 : decode cX9_ways 65 = .ok (.ifCond .eq 23, 3) := by decide +kernel
theorem dX9_ways_68 : decode cX9_ways 68 = .ok (.aload_n 0, 1) := by decide +kernel
theorem dX9_ways_69 : decode cX9_ways 69 = .ok (.getfield 58, 3) := by decide +kernel
theorem dX9_ways_72 : decode cX9_ways 72 = .ok (.bipush 25, 2) := by decide +kernel
theorem dX9_ways_74 : decode cX9_ways 74 = .ok (.sipush 300, 3) := by decide +kernel
theorem dX9_ways_77 : decode cX9_ways 77 = .ok (.iload_n 1, 1) := by decide +kernel
theorem dX9_ways_78 : decode cX9_ways 78 = .ok (.imul, 1) := by decide +kernel
theorem dX9_ways_79 : decode cX9_ways 79 = .ok (.iload_n 2, 1) := by decide +kernel
theorem dX9_ways_80 : decode cX9_ways 80 = .ok (.iadd, 1) := by decide +kernel
theorem dX9_ways_81 : decode cX9_ways 81 = .ok (.imul, 1) := by decide +kernel
theorem dX9_ways_82 : decode cX9_ways 82 = .ok (.iload_n 3, 1) := by decide +kernel
theorem dX9_ways_83 : decode cX9_ways 83 = .ok (.iadd, 1) := by decide +kernel
theorem dX9_ways_84 : decode cX9_ways 84 = .ok (.laload, 1) := by decide +kernel
theorem dX9_ways_85 : decode cX9_ways 85 = .ok (.goto 4, 3) := by decide +kernel
theorem dX9_ways_88 : decode cX9_ways 88 = .ok (.lconst 0, 1) := by decide +kernel
theorem dX9_ways_89 : decode cX9_ways 89 = .ok (.lreturn, 1) := by decide +kernel
theorem dX9_wet_0 : decode cX9_wet 0 = .ok (.aload_n 0, 1) := by decide +kernel
theorem dX9_wet_1 : decode cX9_wet 1 = .ok (.iload_n 1, 1) := by decide +kernel
theorem dX9_wet_2 : decode cX9_wet 2 = .ok (.iconst 0, 1) := by decide +kernel
theorem dX9_wet_3 : decode cX9_wet 3 = .ok (.iconst 1, 1) := by decide +kernel
theorem dX9_wet_4 : decode cX9_wet 4 = .ok (.aload_n 0, 1) := by decide +kernel
theorem dX9_wet_5 : decode cX9_wet 5 = .ok (.getfield 27, 3) := by decide +kernel
theorem dX9_wet_8 : decode cX9_wet 8 = .ok (.ishl, 1) := by decide +kernel
theorem dX9_wet_9 : decode cX9_wet 9 = .ok (.iconst 1, 1) := by decide +kernel
theorem dX9_wet_10 : decode cX9_wet 10 = .ok (.isub, 1) := by decide +kernel
theorem dX9_wet_11 : decode cX9_wet 11 = .ok (.invokestatic 142, 3) := by decide +kernel
theorem dX9_wet_14 : decode cX9_wet 14 = .ok (.ifCond .eq 7, 3) := by decide +kernel
theorem dX9_wet_17 : decode cX9_wet 17 = .ok (.iconst 0, 1) := by decide +kernel
theorem dX9_wet_18 : decode cX9_wet 18 = .ok (.goto 4, 3) := by decide +kernel
theorem dX9_wet_21 : decode cX9_wet 21 = .ok (.iconst 1, 1) := by decide +kernel
theorem dX9_wet_22 : decode cX9_wet 22 = .ok (.putfield 103, 3) := by decide +kernel
theorem dX9_wet_25 : decode cX9_wet 25 = .ok (.aload_n 0, 1) := by decide +kernel
theorem dX9_wet_26 : decode cX9_wet 26 = .ok (.getfield 103, 3) := by decide +kernel
theorem dX9_wet_29 : decode cX9_wet 29 = .ok (.ifCond .le 5, 3) := by decide +kernel
theorem dX9_wet_32 : decode cX9_wet 32 = .ok (.lconst 0, 1) := by decide +kernel
theorem dX9_wet_33 : decode cX9_wet 33 = .ok (.lreturn, 1) := by decide +kernel
theorem dX9_wet_34 : decode cX9_wet 34 = .ok (.aload_n 0, 1) := by decide +kernel
theorem dX9_wet_35 : decode cX9_wet 35 = .ok (.invokevirtual 247, 3) := by decide +kernel
theorem dX9_wet_38 : decode cX9_wet 38 = .ok (.lconst 0, 1) := by decide +kernel
theorem dX9_wet_39 : decode cX9_wet 39 = .ok (.lstore_n 3, 1) := by decide +kernel
theorem dX9_wet_40 : decode cX9_wet 40 = .ok (.sipush 300, 3) := by decide +kernel
theorem dX9_wet_43 : decode cX9_wet 43 = .ok (.aload_n 0, 1) := by decide +kernel
theorem dX9_wet_44 : decode cX9_wet 44 = .ok (.getfield 30, 3) := by decide +kernel
theorem dX9_wet_47 : decode cX9_wet 47 = .ok (.iconst 1, 1) := by decide +kernel
theorem dX9_wet_48 : decode cX9_wet 48 = .ok (.isub, 1) := by decide +kernel
theorem dX9_wet_49 : decode cX9_wet 49 = .ok (.imul, 1) := by decide +kernel
theorem dX9_wet_50 : decode cX9_wet 50 = .ok (.istore 5, 2) := by decide +kernel
theorem dX9_wet_52 : decode cX9_wet 52 = .ok (.iconst 0, 1) := by decide +kernel
theorem dX9_wet_53 : decode cX9_wet 53 = .ok (.istore 6, 2) := by decide +kernel
theorem dX9_wet_55 : decode cX9_wet 55 = .ok (.iload 6, 2) := by decide +kernel
theorem dX9_wet_57 : decode cX9_wet 57 = .ok (.aload_n 0, 1) := by decide +kernel
theorem dX9_wet_58 : decode cX9_wet 58 = .ok (.getfield 51, 3) := by decide +kernel
theorem dX9_wet_61 : decode cX9_wet 61 = .ok (.aload_n 0, 1) := by decide +kernel
theorem dX9_wet_62 : decode cX9_wet 62 = .ok (.getfield 30, 3) := by decide +kernel
theorem dX9_wet_65 : decode cX9_wet 65 = .ok (.iconst 1, 1) := by decide +kernel
theorem dX9_wet_66 : decode cX9_wet 66 = .ok (.isub, 1) := by decide +kernel
theorem dX9_wet_67 : decode cX9_wet 67 = .ok (.iaload, 1) := by decide +kernel
theorem dX9_wet_68 : decode cX9_wet 68 = .ok (.if_icmp .ge 59, 3) := by decide +kernel
theorem dX9_wet_71 : decode cX9_wet 71 = .ok (.lload_n 3, 1) := by decide +kernel
theorem dX9_wet_72 : decode cX9_wet 72 = .ok (.aload_n 0, 1) := by decide +kernel
theorem dX9_wet_73 : decode cX9_wet 73 = .ok (.aload_n 0, 1) := by decide +kernel
theorem dX9_wet_74 : decode cX9_wet 74 = .ok (.getfield 54, 3) := by decide +kernel
theorem dX9_wet_77 : decode cX9_wet 77 = .ok (.iload 5, 2) := by decide +kernel
theorem dX9_wet_79 : decode cX9_wet 79 = .ok (.iload 6, 2) := by decide +kernel
theorem dX9_wet_81 : decode cX9_wet 81 = .ok (.iadd, 1) := by decide +kernel
theorem dX9_wet_82 : decode cX9_wet 82 = .ok (.iaload, 1) := by decide +kernel
theorem dX9_wet_83 : decode cX9_wet 83 = .ok (.invokevirtual 244, 3) := by decide +kernel
theorem dX9_wet_86 : decode cX9_wet 86 = .ok (.iload_n 1, 1) := by decide +kernel
theorem dX9_wet_87 : decode cX9_wet 87 = .ok (.if_icmp .ne 31, 3) := by decide +kernel
theorem dX9_wet_90 : decode cX9_wet 90 = .ok (.iload_n 2, 1) := by decide +kernel
theorem dX9_wet_91 : decode cX9_wet 91 = .ok (.iconst 0, 1) := by decide +kernel
theorem dX9_wet_92 : decode cX9_wet 92 = .ok (.bipush 24, 2) := by decide +kernel
theorem dX9_wet_94 : decode cX9_wet 94 = .ok (.invokestatic 142, 3) := by decide +kernel
theorem dX9_wet_97 : decode cX9_wet 97 = .ok (.ifCond .eq 21, 3) := by decide +kernel
theorem dX9_wet_100 : decode cX9_wet 100 = .ok (.aload_n 0, 1) := by decide +kernel
theorem dX9_wet_101 : decode cX9_wet 101 = .ok (.getfield 58, 3) := by decide +kernel
theorem dX9_wet_104 : decode cX9_wet 104 = .ok (.bipush 25, 2) := by decide +kernel
theorem dX9_wet_106 : decode cX9_wet 106 = .ok (.iload 5, 2) := by decide +kernel
theorem dX9_wet_108 : decode cX9_wet 108 = .ok (.iload 6, 2) := by decide +kernel
theorem dX9_wet_110 : decode cX9_wet 110 = .ok (.iadd, 1) := by decide +kernel
theorem dX9_wet_111 : decode cX9_wet 111 = .ok (.imul, 1) := by decide +kernel
theorem dX9_wet_112 : decode cX9_wet 112 = .ok (.iload_n 2, 1) := by decide +kernel
theorem dX9_wet_113 : decode cX9_wet 113 = .ok (.iadd, 1) := by decide +kernel
theorem dX9_wet_114 : decode cX9_wet 114 = .ok (.laload, 1) := by decide +kernel
theorem dX9_wet_115 : decode cX9_wet 115 = .ok (.goto 4, 3) := by decide +kernel
theorem dX9_wet_118 : decode cX9_wet 118 = .ok (.lconst 0, 1) := by decide +kernel
theorem dX9_wet_119 : decode cX9_wet 119 = .ok (.ladd, 1) := by decide +kernel
theorem dX9_wet_120 : decode cX9_wet 120 = .ok (.lstore_n 3, 1) := by decide +kernel
theorem dX9_wet_121 : decode cX9_wet 121 = .ok (.iinc 6 1, 3) := by decide +kernel
theorem dX9_wet_124 : decode cX9_wet 124 = .ok (.goto (-69), 3) := by decide +kernel
theorem dX9_wet_127 : decode cX9_wet 127 = .ok (.lload_n 3, 1) := by decide +kernel
theorem dX9_wet_128 : decode cX9_wet 128 = .ok (.lreturn, 1) := by decide +kernel
theorem dX9_pair_0 : decode cX9_pair 0 = .ok (.aload_n 0, 1) := by decide +kernel
theorem dX9_pair_1 : decode cX9_pair 1 = .ok (.iload_n 1, 1) := by decide +kernel
theorem dX9_pair_2 : decode cX9_pair 2 = .ok (.iconst 0, 1) := by decide +kernel
theorem dX9_pair_3 : decode cX9_pair 3 = .ok (.aload_n 0, 1) := by decide +kernel
theorem dX9_pair_4 : decode cX9_pair 4 = .ok (.getfield 27, 3) := by decide +kernel
theorem dX9_pair_7 : decode cX9_pair 7 = .ok (.iconst 1, 1) := by decide +kernel
theorem dX9_pair_8 : decode cX9_pair 8 = .ok (.isub, 1) := by decide +kernel
theorem dX9_pair_9 : decode cX9_pair 9 = .ok (.invokestatic 142, 3) := by decide +kernel
theorem dX9_pair_12 : decode cX9_pair 12 = .ok (.ifCond .eq 21, 3) := by decide +kernel
theorem dX9_pair_15 : decode cX9_pair 15 = .ok (.iload_n 2, 1) := by decide +kernel
theorem dX9_pair_16 : decode cX9_pair 16 = .ok (.iconst 0, 1) := by decide +kernel
theorem dX9_pair_17 : decode cX9_pair 17 = .ok (.aload_n 0, 1) := by decide +kernel
theorem dX9_pair_18 : decode cX9_pair 18 = .ok (.getfield 27, 3) := by decide +kernel
theorem dX9_pair_21 : decode cX9_pair 21 = .ok (.iconst 1, 1) := by decide +kernel
theorem dX9_pair_22 : decode cX9_pair 22 = .ok (.isub, 1) := by decide +kernel
theorem dX9_pair_23 : decode cX9_pair 23 = .ok (.invokestatic 142, 3) := by decide +kernel
theorem dX9_pair_26 : decode cX9_pair 26 = .ok (.ifCond .eq 7, 3) := by decide +kernel
theorem dX9_pair_29 : decode cX9_pair 29 = .ok (.iconst 0, 1) := by decide +kernel
theorem dX9_pair_30 : decode cX9_pair 30 = .ok (.goto 4, 3) := by decide +kernel
theorem dX9_pair_33 : decode cX9_pair 33 = .ok (.iconst 1, 1) := by decide +kernel
theorem dX9_pair_34 : decode cX9_pair 34 = .ok (.putfield 103, 3) := by decide +kernel
theorem dX9_pair_37 : decode cX9_pair 37 = .ok (.aload_n 0, 1) := by decide +kernel
theorem dX9_pair_38 : decode cX9_pair 38 = .ok (.getfield 103, 3) := by decide +kernel
theorem dX9_pair_41 : decode cX9_pair 41 = .ok (.ifCond .le 5, 3) := by decide +kernel
theorem dX9_pair_44 : decode cX9_pair 44 = .ok (.lconst 0, 1) := by decide +kernel
theorem dX9_pair_45 : decode cX9_pair 45 = .ok (.lreturn, 1) := by decide +kernel
theorem dX9_pair_46 : decode cX9_pair 46 = .ok (.aload_n 0, 1) := by decide +kernel
theorem dX9_pair_47 : decode cX9_pair 47 = .ok (.invokevirtual 247, 3) := by decide +kernel
theorem dX9_pair_50 : decode cX9_pair 50 = .ok (.lconst 0, 1) := by decide +kernel
theorem dX9_pair_51 : decode cX9_pair 51 = .ok (.lstore 4, 2) := by decide +kernel
theorem dX9_pair_53 : decode cX9_pair 53 = .ok (.sipush 300, 3) := by decide +kernel
theorem dX9_pair_56 : decode cX9_pair 56 = .ok (.aload_n 0, 1) := by decide +kernel
theorem dX9_pair_57 : decode cX9_pair 57 = .ok (.getfield 30, 3) := by decide +kernel
theorem dX9_pair_60 : decode cX9_pair 60 = .ok (.iconst 1, 1) := by decide +kernel
theorem dX9_pair_61 : decode cX9_pair 61 = .ok (.isub, 1) := by decide +kernel
theorem dX9_pair_62 : decode cX9_pair 62 = .ok (.imul, 1) := by decide +kernel
theorem dX9_pair_63 : decode cX9_pair 63 = .ok (.istore 6, 2) := by decide +kernel
theorem dX9_pair_65 : decode cX9_pair 65 = .ok (.iconst 0, 1) := by decide +kernel
theorem dX9_pair_66 : decode cX9_pair 66 = .ok (.istore 7, 2) := by decide +kernel
theorem dX9_pair_68 : decode cX9_pair 68 = .ok (.iload 7, 2) := by decide +kernel
theorem dX9_pair_70 : decode cX9_pair 70 = .ok (.aload_n 0, 1) := by decide +kernel
theorem dX9_pair_71 : decode cX9_pair 71 = .ok (.getfield 51, 3) := by decide +kernel
theorem dX9_pair_74 : decode cX9_pair 74 = .ok (.aload_n 0, 1) := by decide +kernel
theorem dX9_pair_75 : decode cX9_pair 75 = .ok (.getfield 30, 3) := by decide +kernel
theorem dX9_pair_78 : decode cX9_pair 78 = .ok (.iconst 1, 1) := by decide +kernel
theorem dX9_pair_79 : decode cX9_pair 79 = .ok (.isub, 1) := by decide +kernel
theorem dX9_pair_80 : decode cX9_pair 80 = .ok (.iaload, 1) := by decide +kernel
theorem dX9_pair_81 : decode cX9_pair 81 = .ok (.if_icmp .ge 99, 3) := by decide +kernel
theorem dX9_pair_84 : decode cX9_pair 84 = .ok (.aload_n 0, 1) := by decide +kernel
theorem dX9_pair_85 : decode cX9_pair 85 = .ok (.aload_n 0, 1) := by decide +kernel
theorem dX9_pair_86 : decode cX9_pair 86 = .ok (.getfield 54, 3) := by decide +kernel
theorem dX9_pair_89 : decode cX9_pair 89 = .ok (.iload 6, 2) := by decide +kernel
theorem dX9_pair_91 : decode cX9_pair 91 = .ok (.iload 7, 2) := by decide +kernel
theorem dX9_pair_93 : decode cX9_pair 93 = .ok (.iadd, 1) := by decide +kernel
theorem dX9_pair_94 : decode cX9_pair 94 = .ok (.iaload, 1) := by decide +kernel
theorem dX9_pair_95 : decode cX9_pair 95 = .ok (.iload_n 1, 1) := by decide +kernel
theorem dX9_pair_96 : decode cX9_pair 96 = .ok (.invokevirtual 264, 3) := by decide +kernel
theorem dX9_pair_99 : decode cX9_pair 99 = .ok (.istore 8, 2) := by decide +kernel
theorem dX9_pair_101 : decode cX9_pair 101 = .ok (.iload 8, 2) := by decide +kernel
theorem dX9_pair_103 : decode cX9_pair 103 = .ok (.bipush 9, 2) := by decide +kernel
theorem dX9_pair_105 : decode cX9_pair 105 = .ok (.if_icmp .eq 27, 3) := by decide +kernel
theorem dX9_pair_108 : decode cX9_pair 108 = .ok (.iload 8, 2) := by decide +kernel
theorem dX9_pair_110 : decode cX9_pair 110 = .ok (.aload_n 0, 1) := by decide +kernel
theorem dX9_pair_111 : decode cX9_pair 111 = .ok (.aload_n 0, 1) := by decide +kernel
theorem dX9_pair_112 : decode cX9_pair 112 = .ok (.getfield 54, 3) := by decide +kernel
theorem dX9_pair_115 : decode cX9_pair 115 = .ok (.iload 6, 2) := by decide +kernel
theorem dX9_pair_117 : decode cX9_pair 117 = .ok (.iload 7, 2) := by decide +kernel
theorem dX9_pair_119 : decode cX9_pair 119 = .ok (.iadd, 1) := by decide +kernel
theorem dX9_pair_120 : decode cX9_pair 120 = .ok (.iaload, 1) := by decide +kernel
theorem dX9_pair_121 : decode cX9_pair 121 = .ok (.iload_n 2, 1) := by decide +kernel
theorem dX9_pair_122 : decode cX9_pair 122 = .ok (.invokevirtual 264, 3) := by decide +kernel
theorem dX9_pair_125 : decode cX9_pair 125 = .ok (.if_icmp .ne 7, 3) := by decide +kernel
theorem dX9_pair_128 : decode cX9_pair 128 = .ok (.iconst 1, 1) := by decide +kernel
theorem dX9_pair_129 : decode cX9_pair 129 = .ok (.goto 4, 3) := by decide +kernel
theorem dX9_pair_132 : decode cX9_pair 132 = .ok (.iconst 0, 1) := by decide +kernel
theorem dX9_pair_133 : decode cX9_pair 133 = .ok (.istore 9, 2) := by decide +kernel
theorem dX9_pair_135 : decode cX9_pair 135 = .ok (.lload 4, 2) := by decide +kernel
theorem dX9_pair_137 : decode cX9_pair 137 = .ok (.iload 9, 2) := by decide +kernel
theorem dX9_pair_139 : decode cX9_pair 139 = .ok (.ifCond .eq 31, 3) := by decide +kernel
theorem dX9_pair_142 : decode cX9_pair 142 = .ok (.iload_n 3, 1) := by decide +kernel
theorem dX9_pair_143 : decode cX9_pair 143 = .ok (.iconst 0, 1) := by decide +kernel
theorem dX9_pair_144 : decode cX9_pair 144 = .ok (.bipush 24, 2) := by decide +kernel
theorem dX9_pair_146 : decode cX9_pair 146 = .ok (.invokestatic 142, 3) := by decide +kernel
theorem dX9_pair_149 : decode cX9_pair 149 = .ok (.ifCond .eq 21, 3) := by decide +kernel
theorem dX9_pair_152 : decode cX9_pair 152 = .ok (.aload_n 0, 1) := by decide +kernel
theorem dX9_pair_153 : decode cX9_pair 153 = .ok (.getfield 58, 3) := by decide +kernel
theorem dX9_pair_156 : decode cX9_pair 156 = .ok (.bipush 25, 2) := by decide +kernel
theorem dX9_pair_158 : decode cX9_pair 158 = .ok (.iload 6, 2) := by decide +kernel
theorem dX9_pair_160 : decode cX9_pair 160 = .ok (.iload 7, 2) := by decide +kernel
theorem dX9_pair_162 : decode cX9_pair 162 = .ok (.iadd, 1) := by decide +kernel
theorem dX9_pair_163 : decode cX9_pair 163 = .ok (.imul, 1) := by decide +kernel
theorem dX9_pair_164 : decode cX9_pair 164 = .ok (.iload_n 3, 1) := by decide +kernel
theorem dX9_pair_165 : decode cX9_pair 165 = .ok (.iadd, 1) := by decide +kernel
theorem dX9_pair_166 : decode cX9_pair 166 = .ok (.laload, 1) := by decide +kernel
theorem dX9_pair_167 : decode cX9_pair 167 = .ok (.goto 4, 3) := by decide +kernel
theorem dX9_pair_170 : decode cX9_pair 170 = .ok (.lconst 0, 1) := by decide +kernel
theorem dX9_pair_171 : decode cX9_pair 171 = .ok (.ladd, 1) := by decide +kernel
theorem dX9_pair_172 : decode cX9_pair 172 = .ok (.lstore 4, 2) := by decide +kernel
theorem dX9_pair_174 : decode cX9_pair 174 = .ok (.iinc 7 1, 3) := by decide +kernel
theorem dX9_pair_177 : decode cX9_pair 177 = .ok (.goto (-109), 3) := by decide +kernel
theorem dX9_pair_180 : decode cX9_pair 180 = .ok (.lload 4, 2) := by decide +kernel
theorem dX9_pair_182 : decode cX9_pair 182 = .ok (.lreturn, 1) := by decide +kernel
theorem dX9_digitOf_0 : decode cX9_digitOf 0 = .ok (.iload_n 1, 1) := by decide +kernel
theorem dX9_digitOf_1 : decode cX9_digitOf 1 = .ok (.istore_n 3, 1) := by decide +kernel
theorem dX9_digitOf_2 : decode cX9_digitOf 2 = .ok (.aload_n 0, 1) := by decide +kernel
theorem dX9_digitOf_3 : decode cX9_digitOf 3 = .ok (.getfield 27, 3) := by decide +kernel
theorem dX9_digitOf_6 : decode cX9_digitOf 6 = .ok (.iconst 1, 1) := by decide +kernel
theorem dX9_digitOf_7 : decode cX9_digitOf 7 = .ok (.isub, 1) := by decide +kernel
theorem dX9_digitOf_8 : decode cX9_digitOf 8 = .ok (.istore 4, 2) := by decide +kernel
theorem dX9_digitOf_10 : decode cX9_digitOf 10 = .ok (.iload 4, 2) := by decide +kernel
theorem dX9_digitOf_12 : decode cX9_digitOf 12 = .ok (.iload_n 2, 1) := by decide +kernel
theorem dX9_digitOf_13 : decode cX9_digitOf 13 = .ok (.if_icmp .le 14, 3) := by decide +kernel
theorem dX9_digitOf_16 : decode cX9_digitOf 16 = .ok (.iload_n 3, 1) := by decide +kernel
theorem dX9_digitOf_17 : decode cX9_digitOf 17 = .ok (.bipush 10, 2) := by decide +kernel
theorem dX9_digitOf_19 : decode cX9_digitOf 19 = .ok (.idiv, 1) := by decide +kernel
theorem dX9_digitOf_20 : decode cX9_digitOf 20 = .ok (.istore_n 3, 1) := by decide +kernel
theorem dX9_digitOf_21 : decode cX9_digitOf 21 = .ok (.iinc 4 (-1), 3) := by decide +kernel
theorem dX9_digitOf_24 : decode cX9_digitOf 24 = .ok (.goto (-14), 3) := by decide +kernel
theorem dX9_digitOf_27 : decode cX9_digitOf 27 = .ok (.iload_n 3, 1) := by decide +kernel
theorem dX9_digitOf_28 : decode cX9_digitOf 28 = .ok (.bipush 10, 2) := by decide +kernel
theorem dX9_digitOf_30 : decode cX9_digitOf 30 = .ok (.irem, 1) := by decide +kernel
theorem dX9_digitOf_31 : decode cX9_digitOf 31 = .ok (.ireturn, 1) := by decide +kernel
theorem dX9_reaches_0 : decode cX9_reaches 0 = .ok (.aload_n 0, 1) := by decide +kernel
theorem dX9_reaches_1 : decode cX9_reaches 1 = .ok (.aload_n 0, 1) := by decide +kernel
theorem dX9_reaches_2 : decode cX9_reaches 2 = .ok (.iload_n 1, 1) := by decide +kernel
theorem dX9_reaches_3 : decode cX9_reaches 3 = .ok (.invokevirtual 261, 3) := by decide +kernel
theorem dX9_reaches_6 : decode cX9_reaches 6 = .ok (.ifCond .eq 7, 3) := by decide +kernel
theorem dX9_reaches_9 : decode cX9_reaches 9 = .ok (.iconst 0, 1) := by decide +kernel
theorem dX9_reaches_10 : decode cX9_reaches 10 = .ok (.goto 4, 3) := by decide +kernel
theorem dX9_reaches_13 : decode cX9_reaches 13 = .ok (.iconst 1, 1) := by decide +kernel
theorem dX9_reaches_14 : decode cX9_reaches 14 = .ok (.putfield 103, 3) := by decide +kernel
theorem dX9_reaches_17 : decode cX9_reaches 17 = .ok (.aload_n 0, 1) := by decide +kernel
theorem dX9_reaches_18 : decode cX9_reaches 18 = .ok (.getfield 103, 3) := by decide +kernel
theorem dX9_reaches_21 : decode cX9_reaches 21 = .ok (.ifCond .le 5, 3) := by decide +kernel
theorem dX9_reaches_24 : decode cX9_reaches 24 = .ok (.lconst 0, 1) := by decide +kernel
theorem dX9_reaches_25 : decode cX9_reaches 25 = .ok (.lreturn, 1) := by decide +kernel
theorem dX9_reaches_26 : decode cX9_reaches 26 = .ok (.aload_n 0, 1) := by decide +kernel
theorem dX9_reaches_27 : decode cX9_reaches 27 = .ok (.invokevirtual 247, 3) := by decide +kernel
theorem dX9_reaches_30 : decode cX9_reaches 30 = .ok (.lconst 0, 1) := by decide +kernel
theorem dX9_reaches_31 : decode cX9_reaches 31 = .ok (.lstore_n 3, 1) := by decide +kernel
theorem dX9_reaches_32 : decode cX9_reaches 32 = .ok (.iconst 0, 1) := by decide +kernel
theorem dX9_reaches_33 : decode cX9_reaches 33 = .ok (.istore 5, 2) := by decide +kernel
theorem dX9_reaches_35 : decode cX9_reaches 35 = .ok (.iload 5, 2) := by decide +kernel
theorem dX9_reaches_37 : decode cX9_reaches 37 = .ok (.aload_n 0, 1) := by decide +kernel
theorem dX9_reaches_38 : decode cX9_reaches 38 = .ok (.getfield 51, 3) := by decide +kernel
theorem dX9_reaches_41 : decode cX9_reaches 41 = .ok (.iload_n 1, 1) := by decide +kernel
theorem dX9_reaches_42 : decode cX9_reaches 42 = .ok (.iaload, 1) := by decide +kernel
theorem dX9_reaches_43 : decode cX9_reaches 43 = .ok (.if_icmp .ge 64, 3) := by decide +kernel
theorem dX9_reaches_46 : decode cX9_reaches 46 = .ok (.lload_n 3, 1) := by decide +kernel
theorem dX9_reaches_47 : decode cX9_reaches 47 = .ok (.aload_n 0, 1) := by decide +kernel
theorem dX9_reaches_48 : decode cX9_reaches 48 = .ok (.aload_n 0, 1) := by decide +kernel
theorem dX9_reaches_49 : decode cX9_reaches 49 = .ok (.getfield 54, 3) := by decide +kernel
theorem dX9_reaches_52 : decode cX9_reaches 52 = .ok (.sipush 300, 3) := by decide +kernel
theorem dX9_reaches_55 : decode cX9_reaches 55 = .ok (.iload_n 1, 1) := by decide +kernel
theorem dX9_reaches_56 : decode cX9_reaches 56 = .ok (.imul, 1) := by decide +kernel
theorem dX9_reaches_57 : decode cX9_reaches 57 = .ok (.iload 5, 2) := by decide +kernel
theorem dX9_reaches_59 : decode cX9_reaches 59 = .ok (.iadd, 1) := by decide +kernel
theorem dX9_reaches_60 : decode cX9_reaches 60 = .ok (.iaload, 1) := by decide +kernel
theorem dX9_reaches_61 : decode cX9_reaches 61 = .ok (.invokevirtual 244, 3) := by decide +kernel
theorem dX9_reaches_64 : decode cX9_reaches 64 = .ok (.ifCond .eq 34, 3) := by decide +kernel
theorem dX9_reaches_67 : decode cX9_reaches 67 = .ok (.iload_n 2, 1) := by decide +kernel
theorem dX9_reaches_68 : decode cX9_reaches 68 = .ok (.iconst 0, 1) := by decide +kernel
theorem dX9_reaches_69 : decode cX9_reaches 69 = .ok (.bipush 24, 2) := by decide +kernel
theorem dX9_reaches_71 : decode cX9_reaches 71 = .ok (.invokestatic 142, 3) := by decide +kernel
theorem dX9_reaches_74 : decode cX9_reaches 74 = .ok (.ifCond .eq 24, 3) := by decide +kernel
theorem dX9_reaches_77 : decode cX9_reaches 77 = .ok (.aload_n 0, 1) := by decide +kernel
theorem dX9_reaches_78 : decode cX9_reaches 78 = .ok (.getfield 58, 3) := by decide +kernel
theorem dX9_reaches_81 : decode cX9_reaches 81 = .ok (.bipush 25, 2) := by decide +kernel
theorem dX9_reaches_83 : decode cX9_reaches 83 = .ok (.sipush 300, 3) := by decide +kernel
theorem dX9_reaches_86 : decode cX9_reaches 86 = .ok (.iload_n 1, 1) := by decide +kernel
theorem dX9_reaches_87 : decode cX9_reaches 87 = .ok (.imul, 1) := by decide +kernel
theorem dX9_reaches_88 : decode cX9_reaches 88 = .ok (.iload 5, 2) := by decide +kernel
theorem dX9_reaches_90 : decode cX9_reaches 90 = .ok (.iadd, 1) := by decide +kernel
theorem dX9_reaches_91 : decode cX9_reaches 91 = .ok (.imul, 1) := by decide +kernel
theorem dX9_reaches_92 : decode cX9_reaches 92 = .ok (.iload_n 2, 1) := by decide +kernel
theorem dX9_reaches_93 : decode cX9_reaches 93 = .ok (.iadd, 1) := by decide +kernel
theorem dX9_reaches_94 : decode cX9_reaches 94 = .ok (.laload, 1) := by decide +kernel
theorem dX9_reaches_95 : decode cX9_reaches 95 = .ok (.goto 4, 3) := by decide +kernel
theorem dX9_reaches_98 : decode cX9_reaches 98 = .ok (.lconst 0, 1) := by decide +kernel
theorem dX9_reaches_99 : decode cX9_reaches 99 = .ok (.ladd, 1) := by decide +kernel
theorem dX9_reaches_100 : decode cX9_reaches 100 = .ok (.lstore_n 3, 1) := by decide +kernel
theorem dX9_reaches_101 : decode cX9_reaches 101 = .ok (.iinc 5 1, 3) := by decide +kernel
theorem dX9_reaches_104 : decode cX9_reaches 104 = .ok (.goto (-69), 3) := by decide +kernel
theorem dX9_reaches_107 : decode cX9_reaches 107 = .ok (.lload_n 3, 1) := by decide +kernel
theorem dX9_reaches_108 : decode cX9_reaches 108 = .ok (.lreturn, 1) := by decide +kernel
theorem dX9_allWays_0 : decode cX9_allWays 0 = .ok (.lconst 0, 1) := by decide +kernel
theorem dX9_allWays_1 : decode cX9_allWays 1 = .ok (.lstore_n 2, 1) := by decide +kernel
theorem dX9_allWays_2 : decode cX9_allWays 2 = .ok (.iconst 0, 1) := by decide +kernel
theorem dX9_allWays_3 : decode cX9_allWays 3 = .ok (.istore 4, 2) := by decide +kernel
theorem dX9_allWays_5 : decode cX9_allWays 5 = .ok (.iload 4, 2) := by decide +kernel
theorem dX9_allWays_7 : decode cX9_allWays 7 = .ok (.bipush 25, 2) := by decide +kernel
theorem dX9_allWays_9 : decode cX9_allWays 9 = .ok (.if_icmp .ge 24, 3) := by decide +kernel
theorem dX9_allWays_12 : decode cX9_allWays 12 = .ok (.lload_n 2, 1) := by decide +kernel
theorem dX9_allWays_13 : decode cX9_allWays 13 = .ok (.aload_n 0, 1) := by decide +kernel
theorem dX9_allWays_14 : decode cX9_allWays 14 = .ok (.getfield 58, 3) := by decide +kernel
theorem dX9_allWays_17 : decode cX9_allWays 17 = .ok (.bipush 25, 2) := by decide +kernel
theorem dX9_allWays_19 : decode cX9_allWays 19 = .ok (.iload_n 1, 1) := by decide +kernel
theorem dX9_allWays_20 : decode cX9_allWays 20 = .ok (.imul, 1) := by decide +kernel
theorem dX9_allWays_21 : decode cX9_allWays 21 = .ok (.iload 4, 2) := by decide +kernel
theorem dX9_allWays_23 : decode cX9_allWays 23 = .ok (.iadd, 1) := by decide +kernel
theorem dX9_allWays_24 : decode cX9_allWays 24 = .ok (.laload, 1) := by decide +kernel
theorem dX9_allWays_25 : decode cX9_allWays 25 = .ok (.ladd, 1) := by decide +kernel
theorem dX9_allWays_26 : decode cX9_allWays 26 = .ok (.lstore_n 2, 1) := by decide +kernel
theorem dX9_allWays_27 : decode cX9_allWays 27 = .ok (.iinc 4 1, 3) := by decide +kernel
theorem dX9_allWays_30 : decode cX9_allWays 30 = .ok (.goto (-25), 3) := by decide +kernel
theorem dX9_allWays_33 : decode cX9_allWays 33 = .ok (.lload_n 2, 1) := by decide +kernel
theorem dX9_allWays_34 : decode cX9_allWays 34 = .ok (.lreturn, 1) := by decide +kernel
theorem dX9_greatest_0 : decode cX9_greatest 0 = .ok (.iconst 0, 1) := by decide +kernel
theorem dX9_greatest_1 : decode cX9_greatest 1 = .ok (.istore_n 1, 1) := by decide +kernel
theorem dX9_greatest_2 : decode cX9_greatest 2 = .ok (.iload_n 0, 1) := by decide +kernel
theorem dX9_greatest_3 : decode cX9_greatest 3 = .ok (.istore_n 2, 1) := by decide +kernel
theorem dX9_greatest_4 : decode cX9_greatest 4 = .ok (.iload_n 2, 1) := by decide +kernel
theorem dX9_greatest_5 : decode cX9_greatest 5 = .ok (.ifCond .le 37, 3) := by decide +kernel
theorem dX9_greatest_8 : decode cX9_greatest 8 = .ok (.iload_n 2, 1) := by decide +kernel
theorem dX9_greatest_9 : decode cX9_greatest 9 = .ok (.bipush 10, 2) := by decide +kernel
theorem dX9_greatest_11 : decode cX9_greatest 11 = .ok (.irem, 1) := by decide +kernel
theorem dX9_greatest_12 : decode cX9_greatest 12 = .ok (.bipush 9, 2) := by decide +kernel
theorem dX9_greatest_14 : decode cX9_greatest 14 = .ok (.if_icmp .eq 18, 3) := by decide +kernel
theorem dX9_greatest_17 : decode cX9_greatest 17 = .ok (.iload_n 2, 1) := by decide +kernel
theorem dX9_greatest_18 : decode cX9_greatest 18 = .ok (.bipush 10, 2) := by decide +kernel
theorem dX9_greatest_20 : decode cX9_greatest 20 = .ok (.irem, 1) := by decide +kernel
theorem dX9_greatest_21 : decode cX9_greatest 21 = .ok (.iload_n 1, 1) := by decide +kernel
theorem dX9_greatest_22 : decode cX9_greatest 22 = .ok (.if_icmp .le 10, 3) := by decide +kernel
theorem dX9_greatest_25 : decode cX9_greatest 25 = .ok (.iload_n 2, 1) := by decide +kernel
theorem dX9_greatest_26 : decode cX9_greatest 26 = .ok (.bipush 10, 2) := by decide +kernel
theorem dX9_greatest_28 : decode cX9_greatest 28 = .ok (.irem, 1) := by decide +kernel
theorem dX9_greatest_29 : decode cX9_greatest 29 = .ok (.goto 4, 3) := by decide +kernel
theorem dX9_greatest_32 : decode cX9_greatest 32 = .ok (.iload_n 1, 1) := by decide +kernel
theorem dX9_greatest_33 : decode cX9_greatest 33 = .ok (.istore_n 1, 1) := by decide +kernel
theorem dX9_greatest_34 : decode cX9_greatest 34 = .ok (.iload_n 2, 1) := by decide +kernel
theorem dX9_greatest_35 : decode cX9_greatest 35 = .ok (.bipush 10, 2) := by decide +kernel
theorem dX9_greatest_37 : decode cX9_greatest 37 = .ok (.idiv, 1) := by decide +kernel
theorem dX9_greatest_38 : decode cX9_greatest 38 = .ok (.istore_n 2, 1) := by decide +kernel
theorem dX9_greatest_39 : decode cX9_greatest 39 = .ok (.goto (-35), 3) := by decide +kernel
theorem dX9_greatest_42 : decode cX9_greatest 42 = .ok (.iload_n 1, 1) := by decide +kernel
theorem dX9_greatest_43 : decode cX9_greatest 43 = .ok (.ireturn, 1) := by decide +kernel
theorem dX9_parted_0 : decode cX9_parted 0 = .ok (.aload_n 0, 1) := by decide +kernel
theorem dX9_parted_1 : decode cX9_parted 1 = .ok (.aload_n 0, 1) := by decide +kernel
theorem dX9_parted_2 : decode cX9_parted 2 = .ok (.iload_n 1, 1) := by decide +kernel
theorem dX9_parted_3 : decode cX9_parted 3 = .ok (.invokevirtual 261, 3) := by decide +kernel
theorem dX9_parted_6 : decode cX9_parted 6 = .ok (.ifCond .eq 7, 3) := by decide +kernel
theorem dX9_parted_9 : decode cX9_parted 9 = .ok (.iconst 0, 1) := by decide +kernel
theorem dX9_parted_10 : decode cX9_parted 10 = .ok (.goto 4, 3) := by decide +kernel
theorem dX9_parted_13 : decode cX9_parted 13 = .ok (.iconst 1, 1) := by decide +kernel
theorem dX9_parted_14 : decode cX9_parted 14 = .ok (.putfield 103, 3) := by decide +kernel
theorem dX9_parted_17 : decode cX9_parted 17 = .ok (.aload_n 0, 1) := by decide +kernel
theorem dX9_parted_18 : decode cX9_parted 18 = .ok (.getfield 103, 3) := by decide +kernel
theorem dX9_parted_21 : decode cX9_parted 21 = .ok (.ifCond .le 5, 3) := by decide +kernel
theorem dX9_parted_24 : decode cX9_parted 24 = .ok (.lconst 0, 1) := by decide +kernel
theorem dX9_parted_25 : decode cX9_parted 25 = .ok (.lreturn, 1) := by decide +kernel
theorem dX9_parted_26 : decode cX9_parted 26 = .ok (.aload_n 0, 1) := by decide +kernel
theorem dX9_parted_27 : decode cX9_parted 27 = .ok (.invokevirtual 247, 3) := by decide +kernel
theorem dX9_parted_30 : decode cX9_parted 30 = .ok (.lconst 0, 1) := by decide +kernel
theorem dX9_parted_31 : decode cX9_parted 31 = .ok (.lstore_n 3, 1) := by decide +kernel
theorem dX9_parted_32 : decode cX9_parted 32 = .ok (.iconst 0, 1) := by decide +kernel
theorem dX9_parted_33 : decode cX9_parted 33 = .ok (.istore 5, 2) := by decide +kernel
theorem dX9_parted_35 : decode cX9_parted 35 = .ok (.iload 5, 2) := by decide +kernel
theorem dX9_parted_37 : decode cX9_parted 37 = .ok (.aload_n 0, 1) := by decide +kernel
theorem dX9_parted_38 : decode cX9_parted 38 = .ok (.getfield 51, 3) := by decide +kernel
theorem dX9_parted_41 : decode cX9_parted 41 = .ok (.iload_n 1, 1) := by decide +kernel
theorem dX9_parted_42 : decode cX9_parted 42 = .ok (.iaload, 1) := by decide +kernel
theorem dX9_parted_43 : decode cX9_parted 43 = .ok (.if_icmp .ge 48, 3) := by decide +kernel
theorem dX9_parted_46 : decode cX9_parted 46 = .ok (.lload_n 3, 1) := by decide +kernel
theorem dX9_parted_47 : decode cX9_parted 47 = .ok (.aload_n 0, 1) := by decide +kernel
theorem dX9_parted_48 : decode cX9_parted 48 = .ok (.getfield 54, 3) := by decide +kernel
theorem dX9_parted_51 : decode cX9_parted 51 = .ok (.sipush 300, 3) := by decide +kernel
theorem dX9_parted_54 : decode cX9_parted 54 = .ok (.iload_n 1, 1) := by decide +kernel
theorem dX9_parted_55 : decode cX9_parted 55 = .ok (.imul, 1) := by decide +kernel
theorem dX9_parted_56 : decode cX9_parted 56 = .ok (.iload 5, 2) := by decide +kernel
theorem dX9_parted_58 : decode cX9_parted 58 = .ok (.iadd, 1) := by decide +kernel
theorem dX9_parted_59 : decode cX9_parted 59 = .ok (.iaload, 1) := by decide +kernel
theorem dX9_parted_60 : decode cX9_parted 60 = .ok (.invokestatic 267, 3) := by decide +kernel
theorem dX9_parted_63 : decode cX9_parted 63 = .ok (.iload_n 2, 1) := by decide +kernel
theorem dX9_parted_64 : decode cX9_parted 64 = .ok (.if_icmp .ne 18, 3) := by decide +kernel
theorem dX9_parted_67 : decode cX9_parted 67 = .ok (.aload_n 0, 1) := by decide +kernel
theorem dX9_parted_68 : decode cX9_parted 68 = .ok (.sipush 300, 3) := by decide +kernel
theorem dX9_parted_71 : decode cX9_parted 71 = .ok (.iload_n 1, 1) := by decide +kernel
theorem dX9_parted_72 : decode cX9_parted 72 = .ok (.imul, 1) := by decide +kernel
theorem dX9_parted_73 : decode cX9_parted 73 = .ok (.iload 5, 2) := by decide +kernel
theorem dX9_parted_75 : decode cX9_parted 75 = .ok (.iadd, 1) := by decide +kernel
theorem dX9_parted_76 : decode cX9_parted 76 = .ok (.invokevirtual 270, 3) := by decide +kernel
theorem dX9_parted_79 : decode cX9_parted 79 = .ok (.goto 4, 3) := by decide +kernel
theorem dX9_parted_82 : decode cX9_parted 82 = .ok (.lconst 0, 1) := by decide +kernel
theorem dX9_parted_83 : decode cX9_parted 83 = .ok (.ladd, 1) := by decide +kernel
theorem dX9_parted_84 : decode cX9_parted 84 = .ok (.lstore_n 3, 1) := by decide +kernel
theorem dX9_parted_85 : decode cX9_parted 85 = .ok (.iinc 5 1, 3) := by decide +kernel
theorem dX9_parted_88 : decode cX9_parted 88 = .ok (.goto (-53), 3) := by decide +kernel
theorem dX9_parted_91 : decode cX9_parted 91 = .ok (.lload_n 3, 1) := by decide +kernel
theorem dX9_parted_92 : decode cX9_parted 92 = .ok (.lreturn, 1) := by decide +kernel
theorem dX9_likeliest_0 : decode cX9_likeliest 0 = .ok (.aload_n 0, 1) := by decide +kernel
theorem dX9_likeliest_1 : decode cX9_likeliest 1 = .ok (.aload_n 0, 1) := by decide +kernel
theorem dX9_likeliest_2 : decode cX9_likeliest 2 = .ok (.iload_n 1, 1) := by decide +kernel
theorem dX9_likeliest_3 : decode cX9_likeliest 3 = .ok (.invokevirtual 261, 3) := by decide +kernel
theorem dX9_likeliest_6 : decode cX9_likeliest 6 = .ok (.ifCond .eq 7, 3) := by decide +kernel
theorem dX9_likeliest_9 : decode cX9_likeliest 9 = .ok (.iconst 0, 1) := by decide +kernel
theorem dX9_likeliest_10 : decode cX9_likeliest 10 = .ok (.goto 4, 3) := by decide +kernel
theorem dX9_likeliest_13 : decode cX9_likeliest 13 = .ok (.iconst 1, 1) := by decide +kernel
theorem dX9_likeliest_14 : decode cX9_likeliest 14 = .ok (.putfield 103, 3) := by decide +kernel
theorem dX9_likeliest_17 : decode cX9_likeliest 17 = .ok (.aload_n 0, 1) := by decide +kernel
theorem dX9_likeliest_18 : decode cX9_likeliest 18 = .ok (.getfield 103, 3) := by decide +kernel
theorem dX9_likeliest_21 : decode cX9_likeliest 21 = .ok (.ifCond .le 5, 3) := by decide +kernel
theorem dX9_likeliest_24 : decode cX9_likeliest 24 = .ok (.lconst 0, 1) := by decide +kernel
theorem dX9_likeliest_25 : decode cX9_likeliest 25 = .ok (.lreturn, 1) := by decide +kernel
theorem dX9_likeliest_26 : decode cX9_likeliest 26 = .ok (.aload_n 0, 1) := by decide +kernel
theorem dX9_likeliest_27 : decode cX9_likeliest 27 = .ok (.invokevirtual 247, 3) := by decide +kernel
theorem dX9_likeliest_30 : decode cX9_likeliest 30 = .ok (.iconst 0, 1) := by decide +kernel
theorem dX9_likeliest_31 : decode cX9_likeliest 31 = .ok (.istore_n 3, 1) := by decide +kernel
theorem dX9_likeliest_32 : decode cX9_likeliest 32 = .ok (.iconst 1, 1) := by decide +kernel
theorem dX9_likeliest_33 : decode cX9_likeliest 33 = .ok (.istore 4, 2) := by decide +kernel
theorem dX9_likeliest_35 : decode cX9_likeliest 35 = .ok (.iload 4, 2) := by decide +kernel
theorem dX9_likeliest_37 : decode cX9_likeliest 37 = .ok (.aload_n 0, 1) := by decide +kernel
theorem dX9_likeliest_38 : decode cX9_likeliest 38 = .ok (.getfield 51, 3) := by decide +kernel
theorem dX9_likeliest_41 : decode cX9_likeliest 41 = .ok (.iload_n 1, 1) := by decide +kernel
theorem dX9_likeliest_42 : decode cX9_likeliest 42 = .ok (.iaload, 1) := by decide +kernel
theorem dX9_likeliest_43 : decode cX9_likeliest 43 = .ok (.if_icmp .ge 39, 3) := by decide +kernel
theorem dX9_likeliest_46 : decode cX9_likeliest 46 = .ok (.aload_n 0, 1) := by decide +kernel
theorem dX9_likeliest_47 : decode cX9_likeliest 47 = .ok (.sipush 300, 3) := by decide +kernel
theorem dX9_likeliest_50 : decode cX9_likeliest 50 = .ok (.iload_n 1, 1) := by decide +kernel
theorem dX9_likeliest_51 : decode cX9_likeliest 51 = .ok (.imul, 1) := by decide +kernel
theorem dX9_likeliest_52 : decode cX9_likeliest 52 = .ok (.iload 4, 2) := by decide +kernel
theorem dX9_likeliest_54 : decode cX9_likeliest 54 = .ok (.iadd, 1) := by decide +kernel
theorem dX9_likeliest_55 : decode cX9_likeliest 55 = .ok (.invokevirtual 270, 3) := by decide +kernel
theorem dX9_likeliest_58 : decode cX9_likeliest 58 = .ok (.aload_n 0, 1) := by decide +kernel
theorem dX9_likeliest_59 : decode cX9_likeliest 59 = .ok (.sipush 300, 3) := by decide +kernel
theorem dX9_likeliest_62 : decode cX9_likeliest 62 = .ok (.iload_n 1, 1) := by decide +kernel
theorem dX9_likeliest_63 : decode cX9_likeliest 63 = .ok (.imul, 1) := by decide +kernel
theorem dX9_likeliest_64 : decode cX9_likeliest 64 = .ok (.iload_n 3, 1) := by decide +kernel
theorem dX9_likeliest_65 : decode cX9_likeliest 65 = .ok (.iadd, 1) := by decide +kernel
theorem dX9_likeliest_66 : decode cX9_likeliest 66 = .ok (.invokevirtual 270, 3) := by decide +kernel
theorem dX9_likeliest_69 : decode cX9_likeliest 69 = .ok (.lcmp, 1) := by decide +kernel
theorem dX9_likeliest_70 : decode cX9_likeliest 70 = .ok (.ifCond .le 6, 3) := by decide +kernel
theorem dX9_likeliest_73 : decode cX9_likeliest 73 = .ok (.iload 4, 2) := by decide +kernel
theorem dX9_likeliest_75 : decode cX9_likeliest 75 = .ok (.istore_n 3, 1) := by decide +kernel
theorem dX9_likeliest_76 : decode cX9_likeliest 76 = .ok (.iinc 4 1, 3) := by decide +kernel
theorem dX9_likeliest_79 : decode cX9_likeliest 79 = .ok (.goto (-44), 3) := by decide +kernel
theorem dX9_likeliest_82 : decode cX9_likeliest 82 = .ok (.iload_n 2, 1) := by decide +kernel
theorem dX9_likeliest_83 : decode cX9_likeliest 83 = .ok (.ifCond .eq 17, 3) := by decide +kernel
theorem dX9_likeliest_86 : decode cX9_likeliest 86 = .ok (.aload_n 0, 1) := by decide +kernel
theorem dX9_likeliest_87 : decode cX9_likeliest 87 = .ok (.sipush 300, 3) := by decide +kernel
theorem dX9_likeliest_90 : decode cX9_likeliest 90 = .ok (.iload_n 1, 1) := by decide +kernel
theorem dX9_likeliest_91 : decode cX9_likeliest 91 = .ok (.imul, 1) := by decide +kernel
theorem dX9_likeliest_92 : decode cX9_likeliest 92 = .ok (.iload_n 3, 1) := by decide +kernel
theorem dX9_likeliest_93 : decode cX9_likeliest 93 = .ok (.iadd, 1) := by decide +kernel
theorem dX9_likeliest_94 : decode cX9_likeliest 94 = .ok (.invokevirtual 270, 3) := by decide +kernel
theorem dX9_likeliest_97 : decode cX9_likeliest 97 = .ok (.goto 5, 3) := by decide +kernel
theorem dX9_likeliest_100 : decode cX9_likeliest 100 = .ok (.iload_n 3, 1) := by decide +kernel
theorem dX9_likeliest_101 : decode cX9_likeliest 101 = .ok (.i2l, 1) := by decide +kernel
theorem dX9_likeliest_102 : decode cX9_likeliest 102 = .ok (.lreturn, 1) := by decide +kernel
theorem dX9_between_0 : decode cX9_between 0 = .ok (.iload_n 1, 1) := by decide +kernel
theorem dX9_between_1 : decode cX9_between 1 = .ok (.iconst 0, 1) := by decide +kernel
theorem dX9_between_2 : decode cX9_between 2 = .ok (.aload_n 0, 1) := by decide +kernel
theorem dX9_between_3 : decode cX9_between 3 = .ok (.getfield 30, 3) := by decide +kernel
theorem dX9_between_6 : decode cX9_between 6 = .ok (.iconst 2, 1) := by decide +kernel
theorem dX9_between_7 : decode cX9_between 7 = .ok (.isub, 1) := by decide +kernel
theorem dX9_between_8 : decode cX9_between 8 = .ok (.invokestatic 142, 3) := by decide +kernel
theorem dX9_between_11 : decode cX9_between 11 = .ok (.ifCond .eq 44, 3) := by decide +kernel
theorem dX9_between_14 : decode cX9_between 14 = .ok (.iload_n 2, 1) := by decide +kernel
theorem dX9_between_15 : decode cX9_between 15 = .ok (.iconst 0, 1) := by decide +kernel
theorem dX9_between_16 : decode cX9_between 16 = .ok (.aload_n 0, 1) := by decide +kernel
theorem dX9_between_17 : decode cX9_between 17 = .ok (.getfield 27, 3) := by decide +kernel
theorem dX9_between_20 : decode cX9_between 20 = .ok (.invokestatic 142, 3) := by decide +kernel
theorem dX9_between_23 : decode cX9_between 23 = .ok (.ifCond .eq 32, 3) := by decide +kernel
theorem dX9_between_26 : decode cX9_between 26 = .ok (.iload_n 3, 1) := by decide +kernel
theorem dX9_between_27 : decode cX9_between 27 = .ok (.ifCond .eq 14, 3) := by decide +kernel
theorem dX9_between_30 : decode cX9_between 30 = .ok (.iload_n 2, 1) := by decide +kernel
theorem dX9_between_31 : decode cX9_between 31 = .ok (.aload_n 0, 1) := by decide +kernel
theorem dX9_between_32 : decode cX9_between 32 = .ok (.getfield 27, 3) := by decide +kernel
theorem dX9_between_35 : decode cX9_between 35 = .ok (.if_icmp .ge 20, 3) := by decide +kernel
theorem dX9_between_38 : decode cX9_between 38 = .ok (.goto 13, 3) := by decide +kernel
theorem dX9_between_41 : decode cX9_between 41 = .ok (.iload_n 1, 1) := by decide +kernel
theorem dX9_between_42 : decode cX9_between 42 = .ok (.aload_n 0, 1) := by decide +kernel
theorem dX9_between_43 : decode cX9_between 43 = .ok (.getfield 30, 3) := by decide +kernel
theorem dX9_between_46 : decode cX9_between 46 = .ok (.iconst 2, 1) := by decide +kernel
theorem dX9_between_47 : decode cX9_between 47 = .ok (.isub, 1) := by decide +kernel
theorem dX9_between_48 : decode cX9_between 48 = .ok (.if_icmp .ge 7, 3) := by decide +kernel
theorem dX9_between_51 : decode cX9_between 51 = .ok (.iconst 1, 1) := by decide +kernel
theorem dX9_between_52 : decode cX9_between 52 = .ok (.goto 4, 3) := by decide +kernel
theorem dX9_between_55 : decode cX9_between 55 = .ok (.iconst 0, 1) := by decide +kernel
theorem dX9_between_56 : decode cX9_between 56 = .ok (.istore 4, 2) := by decide +kernel
theorem dX9_between_58 : decode cX9_between 58 = .ok (.aload_n 0, 1) := by decide +kernel
theorem dX9_between_59 : decode cX9_between 59 = .ok (.iload 4, 2) := by decide +kernel
theorem dX9_between_61 : decode cX9_between 61 = .ok (.ifCond .eq 7, 3) := by decide +kernel
theorem dX9_between_64 : decode cX9_between 64 = .ok (.iconst 0, 1) := by decide +kernel
theorem dX9_between_65 : decode cX9_between 65 = .ok (.goto 4, 3) := by decide +kernel
theorem dX9_between_68 : decode cX9_between 68 = .ok (.iconst 1, 1) := by decide +kernel
theorem dX9_between_69 : decode cX9_between 69 = .ok (.putfield 103, 3) := by decide +kernel
theorem dX9_between_72 : decode cX9_between 72 = .ok (.aload_n 0, 1) := by decide +kernel
theorem dX9_between_73 : decode cX9_between 73 = .ok (.getfield 103, 3) := by decide +kernel
theorem dX9_between_76 : decode cX9_between 76 = .ok (.ifCond .le 5, 3) := by decide +kernel
theorem dX9_between_79 : decode cX9_between 79 = .ok (.iconst 0, 1) := by decide +kernel
theorem dX9_between_80 : decode cX9_between 80 = .ok (.ireturn, 1) := by decide +kernel
theorem dX9_between_81 : decode cX9_between 81 = .ok (.iload_n 3, 1) := by decide +kernel
theorem dX9_between_82 : decode cX9_between 82 = .ok (.ifCond .ne 17, 3) := by decide +kernel
theorem dX9_between_85 : decode cX9_between 85 = .ok (.iload_n 2, 1) := by decide +kernel
theorem dX9_between_86 : decode cX9_between 86 = .ok (.ifCond .eq 11, 3) := by decide +kernel
theorem dX9_between_89 : decode cX9_between 89 = .ok (.iload_n 2, 1) := by decide +kernel
theorem dX9_between_90 : decode cX9_between 90 = .ok (.aload_n 0, 1) := by decide +kernel
theorem dX9_between_91 : decode cX9_between 91 = .ok (.getfield 27, 3) := by decide +kernel
theorem dX9_between_94 : decode cX9_between 94 = .ok (.if_icmp .ne 5, 3) := by decide +kernel
theorem dX9_between_97 : decode cX9_between 97 = .ok (.iconst 2, 1) := by decide +kernel
theorem dX9_between_98 : decode cX9_between 98 = .ok (.ireturn, 1) := by decide +kernel
theorem dX9_between_99 : decode cX9_between 99 = .ok (.aload_n 0, 1) := by decide +kernel
theorem dX9_between_100 : decode cX9_between 100 = .ok (.iload_n 3, 1) := by decide +kernel
theorem dX9_between_101 : decode cX9_between 101 = .ok (.ifCond .eq 16, 3) := by decide +kernel
theorem dX9_between_104 : decode cX9_between 104 = .ok (.bipush 10, 2) := by decide +kernel
theorem dX9_between_106 : decode cX9_between 106 = .ok (.iload_n 1, 1) := by decide +kernel
theorem dX9_between_107 : decode cX9_between 107 = .ok (.imul, 1) := by decide +kernel
theorem dX9_between_108 : decode cX9_between 108 = .ok (.iconst 2, 1) := by decide +kernel
theorem dX9_between_109 : decode cX9_between 109 = .ok (.iload_n 2, 1) := by decide +kernel
theorem dX9_between_110 : decode cX9_between 110 = .ok (.imul, 1) := by decide +kernel
theorem dX9_between_111 : decode cX9_between 111 = .ok (.iadd, 1) := by decide +kernel
theorem dX9_between_112 : decode cX9_between 112 = .ok (.iconst 1, 1) := by decide +kernel
theorem dX9_between_113 : decode cX9_between 113 = .ok (.iadd, 1) := by decide +kernel
theorem dX9_between_114 : decode cX9_between 114 = .ok (.goto 15, 3) := by decide +kernel
theorem dX9_between_117 : decode cX9_between 117 = .ok (.bipush 10, 2) := by decide +kernel
theorem dX9_between_119 : decode cX9_between 119 = .ok (.iload_n 1, 1) := by decide +kernel
theorem dX9_between_120 : decode cX9_between 120 = .ok (.iconst 1, 1) := by decide +kernel
theorem dX9_between_121 : decode cX9_between 121 = .ok (.iadd, 1) := by decide +kernel
theorem dX9_between_122 : decode cX9_between 122 = .ok (.imul, 1) := by decide +kernel
theorem dX9_between_123 : decode cX9_between 123 = .ok (.iconst 2, 1) := by decide +kernel
theorem dX9_between_124 : decode cX9_between 124 = .ok (.iload_n 2, 1) := by decide +kernel
theorem dX9_between_125 : decode cX9_between 125 = .ok (.iconst 1, 1) := by decide +kernel
theorem dX9_between_126 : decode cX9_between 126 = .ok (.isub, 1) := by decide +kernel
theorem dX9_between_127 : decode cX9_between 127 = .ok (.imul, 1) := by decide +kernel
theorem dX9_between_128 : decode cX9_between 128 = .ok (.iadd, 1) := by decide +kernel
theorem dX9_between_129 : decode cX9_between 129 = .ok (.invokevirtual 215, 3) := by decide +kernel
theorem dX9_between_132 : decode cX9_between 132 = .ok (.istore 5, 2) := by decide +kernel
theorem dX9_between_134 : decode cX9_between 134 = .ok (.iload 5, 2) := by decide +kernel
theorem dX9_between_136 : decode cX9_between 136 = .ok (.ifCond .ne 7, 3) := by decide +kernel
theorem dX9_between_139 : decode cX9_between 139 = .ok (.iconst 0, 1) := by decide +kernel
theorem dX9_between_140 : decode cX9_between 140 = .ok (.goto 14, 3) := by decide +kernel
theorem dX9_between_143 : decode cX9_between 143 = .ok (.iload 5, 2) := by decide +kernel
theorem dX9_between_145 : decode cX9_between 145 = .ok (.iconst 2, 1) := by decide +kernel
theorem dX9_between_146 : decode cX9_between 146 = .ok (.if_icmp .ne 7, 3) := by decide +kernel
theorem dX9_between_149 : decode cX9_between 149 = .ok (.iconst 1, 1) := by decide +kernel
theorem dX9_between_150 : decode cX9_between 150 = .ok (.goto 4, 3) := by decide +kernel
theorem dX9_between_153 : decode cX9_between 153 = .ok (.iconst 2, 1) := by decide +kernel
theorem dX9_between_154 : decode cX9_between 154 = .ok (.ireturn, 1) := by decide +kernel
theorem dX9_alike_0 : decode cX9_alike 0 = .ok (.aload_n 0, 1) := by decide +kernel
theorem dX9_alike_1 : decode cX9_alike 1 = .ok (.iconst 0, 1) := by decide +kernel
theorem dX9_alike_2 : decode cX9_alike 2 = .ok (.putfield 103, 3) := by decide +kernel
theorem dX9_alike_5 : decode cX9_alike 5 = .ok (.iconst 0, 1) := by decide +kernel
theorem dX9_alike_6 : decode cX9_alike 6 = .ok (.istore_n 1, 1) := by decide +kernel
theorem dX9_alike_7 : decode cX9_alike 7 = .ok (.iload_n 1, 1) := by decide +kernel
theorem dX9_alike_8 : decode cX9_alike 8 = .ok (.aload_n 0, 1) := by decide +kernel
theorem dX9_alike_9 : decode cX9_alike 9 = .ok (.invokevirtual 187, 3) := by decide +kernel
theorem dX9_alike_12 : decode cX9_alike 12 = .ok (.if_icmp .gt 25, 3) := by decide +kernel
theorem dX9_alike_15 : decode cX9_alike 15 = .ok (.aload_n 0, 1) := by decide +kernel
theorem dX9_alike_16 : decode cX9_alike 16 = .ok (.iload_n 1, 1) := by decide +kernel
theorem dX9_alike_17 : decode cX9_alike 17 = .ok (.invokevirtual 254, 3) := by decide +kernel
theorem dX9_alike_20 : decode cX9_alike 20 = .ok (.aload_n 0, 1) := by decide +kernel
theorem dX9_alike_21 : decode cX9_alike 21 = .ok (.iload_n 1, 1) := by decide +kernel
theorem dX9_alike_22 : decode cX9_alike 22 = .ok (.invokevirtual 258, 3) := by decide +kernel
theorem dX9_alike_25 : decode cX9_alike 25 = .ok (.lcmp, 1) := by decide +kernel
theorem dX9_alike_26 : decode cX9_alike 26 = .ok (.ifCond .eq 5, 3) := by decide +kernel
theorem dX9_alike_29 : decode cX9_alike 29 = .ok (.iconst 0, 1) := by decide +kernel
theorem dX9_alike_30 : decode cX9_alike 30 = .ok (.ireturn, 1) := by decide +kernel
theorem dX9_alike_31 : decode cX9_alike 31 = .ok (.iinc 1 1, 3) := by decide +kernel
theorem dX9_alike_34 : decode cX9_alike 34 = .ok (.goto (-27), 3) := by decide +kernel
theorem dX9_alike_37 : decode cX9_alike 37 = .ok (.iconst 1, 1) := by decide +kernel
theorem dX9_alike_38 : decode cX9_alike 38 = .ok (.ireturn, 1) := by decide +kernel
theorem dX9_power_0 : decode cX9_power 0 = .ok (.lconst 1, 1) := by decide +kernel
theorem dX9_power_1 : decode cX9_power 1 = .ok (.lstore_n 3, 1) := by decide +kernel
theorem dX9_power_2 : decode cX9_power 2 = .ok (.iconst 0, 1) := by decide +kernel
theorem dX9_power_3 : decode cX9_power 3 = .ok (.istore 5, 2) := by decide +kernel
theorem dX9_power_5 : decode cX9_power 5 = .ok (.iload 5, 2) := by decide +kernel
theorem dX9_power_7 : decode cX9_power 7 = .ok (.iload_n 2, 1) := by decide +kernel
theorem dX9_power_8 : decode cX9_power 8 = .ok (.if_icmp .ge 13, 3) := by decide +kernel
theorem dX9_power_11 : decode cX9_power 11 = .ok (.lload_n 3, 1) := by decide +kernel
theorem dX9_power_12 : decode cX9_power 12 = .ok (.lload_n 0, 1) := by decide +kernel
theorem dX9_power_13 : decode cX9_power 13 = .ok (.lmul, 1) := by decide +kernel
theorem dX9_power_14 : decode cX9_power 14 = .ok (.lstore_n 3, 1) := by decide +kernel
theorem dX9_power_15 : decode cX9_power 15 = .ok (.iinc 5 1, 3) := by decide +kernel
theorem dX9_power_18 : decode cX9_power 18 = .ok (.goto (-13), 3) := by decide +kernel
theorem dX9_power_21 : decode cX9_power 21 = .ok (.lload_n 3, 1) := by decide +kernel
theorem dX9_power_22 : decode cX9_power 22 = .ok (.lreturn, 1) := by decide +kernel
theorem dX9_divisor_0 : decode cX9_divisor 0 = .ok (.lload_n 0, 1) := by decide +kernel
theorem dX9_divisor_1 : decode cX9_divisor 1 = .ok (.lstore 4, 2) := by decide +kernel
theorem dX9_divisor_3 : decode cX9_divisor 3 = .ok (.lload_n 2, 1) := by decide +kernel
theorem dX9_divisor_4 : decode cX9_divisor 4 = .ok (.lstore 6, 2) := by decide +kernel
theorem dX9_divisor_6 : decode cX9_divisor 6 = .ok (.lload 6, 2) := by decide +kernel
theorem dX9_divisor_8 : decode cX9_divisor 8 = .ok (.lconst 0, 1) := by decide +kernel
theorem dX9_divisor_9 : decode cX9_divisor 9 = .ok (.lcmp, 1) := by decide +kernel
theorem dX9_divisor_10 : decode cX9_divisor 10 = .ok (.ifCond .eq 21, 3) := by decide +kernel
theorem dX9_divisor_13 : decode cX9_divisor 13 = .ok (.lload 4, 2) := by decide +kernel
theorem dX9_divisor_15 : decode cX9_divisor 15 = .ok (.lload 6, 2) := by decide +kernel
theorem dX9_divisor_17 : decode cX9_divisor 17 = .ok (.lrem, 1) := by decide +kernel
theorem dX9_divisor_18 : decode cX9_divisor 18 = .ok (.lstore 8, 2) := by decide +kernel
theorem dX9_divisor_20 : decode cX9_divisor 20 = .ok (.lload 6, 2) := by decide +kernel
theorem dX9_divisor_22 : decode cX9_divisor 22 = .ok (.lstore 4, 2) := by decide +kernel
theorem dX9_divisor_24 : decode cX9_divisor 24 = .ok (.lload 8, 2) := by decide +kernel
theorem dX9_divisor_26 : decode cX9_divisor 26 = .ok (.lstore 6, 2) := by decide +kernel
theorem dX9_divisor_28 : decode cX9_divisor 28 = .ok (.goto (-22), 3) := by decide +kernel
theorem dX9_divisor_31 : decode cX9_divisor 31 = .ok (.lload 4, 2) := by decide +kernel
theorem dX9_divisor_33 : decode cX9_divisor 33 = .ok (.lreturn, 1) := by decide +kernel
theorem dX9_part_0 : decode cX9_part 0 = .ok (.iload 4, 2) := by decide +kernel
theorem dX9_part_2 : decode cX9_part 2 = .ok (.ifCond .eq 7, 3) := by decide +kernel
theorem dX9_part_5 : decode cX9_part 5 = .ok (.lload_n 2, 1) := by decide +kernel
theorem dX9_part_6 : decode cX9_part 6 = .ok (.goto 4, 3) := by decide +kernel
theorem dX9_part_9 : decode cX9_part 9 = .ok (.lload_n 0, 1) := by decide +kernel
theorem dX9_part_10 : decode cX9_part 10 = .ok (.lload_n 0, 1) := by decide +kernel
theorem dX9_part_11 : decode cX9_part 11 = .ok (.lload_n 2, 1) := by decide +kernel
theorem dX9_part_12 : decode cX9_part 12 = .ok (.invokestatic 273, 3) := by decide +kernel
theorem dX9_part_15 : decode cX9_part 15 = .ok (.ldiv, 1) := by decide +kernel
theorem dX9_part_16 : decode cX9_part 16 = .ok (.lreturn, 1) := by decide +kernel
theorem dX9_isChance_0 : decode cX9_isChance 0 = .ok (.iload_n 1, 1) := by decide +kernel
theorem dX9_isChance_1 : decode cX9_isChance 1 = .ok (.iconst 1, 1) := by decide +kernel
theorem dX9_isChance_2 : decode cX9_isChance 2 = .ok (.bipush 6, 2) := by decide +kernel
theorem dX9_isChance_4 : decode cX9_isChance 4 = .ok (.invokestatic 142, 3) := by decide +kernel
theorem dX9_isChance_7 : decode cX9_isChance 7 = .ok (.ifCond .eq 16, 3) := by decide +kernel
theorem dX9_isChance_10 : decode cX9_isChance 10 = .ok (.iload_n 0, 1) := by decide +kernel
theorem dX9_isChance_11 : decode cX9_isChance 11 = .ok (.iconst 0, 1) := by decide +kernel
theorem dX9_isChance_12 : decode cX9_isChance 12 = .ok (.iload_n 1, 1) := by decide +kernel
theorem dX9_isChance_13 : decode cX9_isChance 13 = .ok (.invokestatic 142, 3) := by decide +kernel
theorem dX9_isChance_16 : decode cX9_isChance 16 = .ok (.ifCond .eq 7, 3) := by decide +kernel
theorem dX9_isChance_19 : decode cX9_isChance 19 = .ok (.iconst 1, 1) := by decide +kernel
theorem dX9_isChance_20 : decode cX9_isChance 20 = .ok (.goto 4, 3) := by decide +kernel
theorem dX9_isChance_23 : decode cX9_isChance 23 = .ok (.iconst 0, 1) := by decide +kernel
theorem dX9_isChance_24 : decode cX9_isChance 24 = .ok (.ireturn, 1) := by decide +kernel
theorem dX9_upper_0 : decode cX9_upper 0 = .ok (.aload_n 0, 1) := by decide +kernel
theorem dX9_upper_1 : decode cX9_upper 1 = .ok (.invokevirtual 187, 3) := by decide +kernel
theorem dX9_upper_4 : decode cX9_upper 4 = .ok (.istore_n 3, 1) := by decide +kernel
theorem dX9_upper_5 : decode cX9_upper 5 = .ok (.lconst 0, 1) := by decide +kernel
theorem dX9_upper_6 : decode cX9_upper 6 = .ok (.lstore 4, 2) := by decide +kernel
theorem dX9_upper_8 : decode cX9_upper 8 = .ok (.iconst 0, 1) := by decide +kernel
theorem dX9_upper_9 : decode cX9_upper 9 = .ok (.istore 6, 2) := by decide +kernel
theorem dX9_upper_11 : decode cX9_upper 11 = .ok (.iload 6, 2) := by decide +kernel
theorem dX9_upper_13 : decode cX9_upper 13 = .ok (.iload_n 3, 1) := by decide +kernel
theorem dX9_upper_14 : decode cX9_upper 14 = .ok (.if_icmp .gt 40, 3) := by decide +kernel
theorem dX9_upper_17 : decode cX9_upper 17 = .ok (.lload 4, 2) := by decide +kernel
theorem dX9_upper_19 : decode cX9_upper 19 = .ok (.aload_n 0, 1) := by decide +kernel
theorem dX9_upper_20 : decode cX9_upper 20 = .ok (.iload 6, 2) := by decide +kernel
theorem dX9_upper_22 : decode cX9_upper 22 = .ok (.invokevirtual 254, 3) := by decide +kernel
theorem dX9_upper_25 : decode cX9_upper 25 = .ok (.iload_n 1, 1) := by decide +kernel
theorem dX9_upper_26 : decode cX9_upper 26 = .ok (.i2l, 1) := by decide +kernel
theorem dX9_upper_27 : decode cX9_upper 27 = .ok (.iload 6, 2) := by decide +kernel
theorem dX9_upper_29 : decode cX9_upper 29 = .ok (.invokestatic 277, 3) := by decide +kernel
theorem dX9_upper_32 : decode cX9_upper 32 = .ok (.lmul, 1) := by decide +kernel
theorem dX9_upper_33 : decode cX9_upper 33 = .ok (.iload_n 2, 1) := by decide +kernel
theorem dX9_upper_34 : decode cX9_upper 34 = .ok (.iload_n 1, 1) := by decide +kernel
theorem dX9_upper_35 : decode cX9_upper 35 = .ok (.isub, 1) := by decide +kernel
theorem dX9_upper_36 : decode cX9_upper 36 = .ok (.i2l, 1) := by decide +kernel
theorem dX9_upper_37 : decode cX9_upper 37 = .ok (.iload_n 3, 1) := by decide +kernel
theorem dX9_upper_38 : decode cX9_upper 38 = .ok (.iload 6, 2) := by decide +kernel
theorem dX9_upper_40 : decode cX9_upper 40 = .ok (.isub, 1) := by decide +kernel
theorem dX9_upper_41 : decode cX9_upper 41 = .ok (.invokestatic 277, 3) := by decide +kernel
theorem dX9_upper_44 : decode cX9_upper 44 = .ok (.lmul, 1) := by decide +kernel
theorem dX9_upper_45 : decode cX9_upper 45 = .ok (.ladd, 1) := by decide +kernel
theorem dX9_upper_46 : decode cX9_upper 46 = .ok (.lstore 4, 2) := by decide +kernel
theorem dX9_upper_48 : decode cX9_upper 48 = .ok (.iinc 6 1, 3) := by decide +kernel
theorem dX9_upper_51 : decode cX9_upper 51 = .ok (.goto (-40), 3) := by decide +kernel
theorem dX9_upper_54 : decode cX9_upper 54 = .ok (.lload 4, 2) := by decide +kernel
theorem dX9_upper_56 : decode cX9_upper 56 = .ok (.lreturn, 1) := by decide +kernel
theorem dX9_value_0 : decode cX9_value 0 = .ok (.aload_n 0, 1) := by decide +kernel
theorem dX9_value_1 : decode cX9_value 1 = .ok (.iload_n 1, 1) := by decide +kernel
theorem dX9_value_2 : decode cX9_value 2 = .ok (.iload_n 2, 1) := by decide +kernel
theorem dX9_value_3 : decode cX9_value 3 = .ok (.invokestatic 281, 3) := by decide +kernel
theorem dX9_value_6 : decode cX9_value 6 = .ok (.ifCond .eq 7, 3) := by decide +kernel
theorem dX9_value_9 : decode cX9_value 9 = .ok (.iconst 0, 1) := by decide +kernel
theorem dX9_value_10 : decode cX9_value 10 = .ok (.goto 4, 3) := by decide +kernel
theorem dX9_value_13 : decode cX9_value 13 = .ok (.iconst 1, 1) := by decide +kernel
theorem dX9_value_14 : decode cX9_value 14 = .ok (.putfield 103, 3) := by decide +kernel
theorem dX9_value_17 : decode cX9_value 17 = .ok (.aload_n 0, 1) := by decide +kernel
theorem dX9_value_18 : decode cX9_value 18 = .ok (.getfield 103, 3) := by decide +kernel
theorem dX9_value_21 : decode cX9_value 21 = .ok (.ifCond .le 7, 3) := by decide +kernel
theorem dX9_value_24 : decode cX9_value 24 = .ok (.lconst 0, 1) := by decide +kernel
theorem dX9_value_25 : decode cX9_value 25 = .ok (.goto 22, 3) := by decide +kernel
theorem dX9_value_28 : decode cX9_value 28 = .ok (.aload_n 0, 1) := by decide +kernel
theorem dX9_value_29 : decode cX9_value 29 = .ok (.iload_n 1, 1) := by decide +kernel
theorem dX9_value_30 : decode cX9_value 30 = .ok (.iload_n 2, 1) := by decide +kernel
theorem dX9_value_31 : decode cX9_value 31 = .ok (.invokevirtual 284, 3) := by decide +kernel
theorem dX9_value_34 : decode cX9_value 34 = .ok (.iload_n 2, 1) := by decide +kernel
theorem dX9_value_35 : decode cX9_value 35 = .ok (.i2l, 1) := by decide +kernel
theorem dX9_value_36 : decode cX9_value 36 = .ok (.aload_n 0, 1) := by decide +kernel
theorem dX9_value_37 : decode cX9_value 37 = .ok (.invokevirtual 187, 3) := by decide +kernel
theorem dX9_value_40 : decode cX9_value 40 = .ok (.invokestatic 277, 3) := by decide +kernel
theorem dX9_value_43 : decode cX9_value 43 = .ok (.iload_n 3, 1) := by decide +kernel
theorem dX9_value_44 : decode cX9_value 44 = .ok (.invokestatic 287, 3) := by decide +kernel
theorem dX9_value_47 : decode cX9_value 47 = .ok (.lreturn, 1) := by decide +kernel
theorem dX9_barred_0 : decode cX9_barred 0 = .ok (.aload_n 0, 1) := by decide +kernel
theorem dX9_barred_1 : decode cX9_barred 1 = .ok (.iload_n 1, 1) := by decide +kernel
theorem dX9_barred_2 : decode cX9_barred 2 = .ok (.iload_n 2, 1) := by decide +kernel
theorem dX9_barred_3 : decode cX9_barred 3 = .ok (.invokestatic 281, 3) := by decide +kernel
theorem dX9_barred_6 : decode cX9_barred 6 = .ok (.ifCond .eq 7, 3) := by decide +kernel
theorem dX9_barred_9 : decode cX9_barred 9 = .ok (.iconst 0, 1) := by decide +kernel
theorem dX9_barred_10 : decode cX9_barred 10 = .ok (.goto 4, 3) := by decide +kernel
theorem dX9_barred_13 : decode cX9_barred 13 = .ok (.iconst 1, 1) := by decide +kernel
theorem dX9_barred_14 : decode cX9_barred 14 = .ok (.putfield 103, 3) := by decide +kernel
theorem dX9_barred_17 : decode cX9_barred 17 = .ok (.aload_n 0, 1) := by decide +kernel
theorem dX9_barred_18 : decode cX9_barred 18 = .ok (.getfield 103, 3) := by decide +kernel
theorem dX9_barred_21 : decode cX9_barred 21 = .ok (.ifCond .le 5, 3) := by decide +kernel
theorem dX9_barred_24 : decode cX9_barred 24 = .ok (.lconst 0, 1) := by decide +kernel
theorem dX9_barred_25 : decode cX9_barred 25 = .ok (.lreturn, 1) := by decide +kernel
theorem dX9_barred_26 : decode cX9_barred 26 = .ok (.aload_n 0, 1) := by decide +kernel
theorem dX9_barred_27 : decode cX9_barred 27 = .ok (.invokevirtual 187, 3) := by decide +kernel
theorem dX9_barred_30 : decode cX9_barred 30 = .ok (.istore 4, 2) := by decide +kernel
theorem dX9_barred_32 : decode cX9_barred 32 = .ok (.lconst 0, 1) := by decide +kernel
theorem dX9_barred_33 : decode cX9_barred 33 = .ok (.lstore 5, 2) := by decide +kernel
theorem dX9_barred_35 : decode cX9_barred 35 = .ok (.iconst 0, 1) := by decide +kernel
theorem dX9_barred_36 : decode cX9_barred 36 = .ok (.istore 7, 2) := by decide +kernel
theorem dX9_barred_38 : decode cX9_barred 38 = .ok (.iload 7, 2) := by decide +kernel
theorem dX9_barred_40 : decode cX9_barred 40 = .ok (.iload 4, 2) := by decide +kernel
theorem dX9_barred_42 : decode cX9_barred 42 = .ok (.if_icmp .gt 41, 3) := by decide +kernel
theorem dX9_barred_45 : decode cX9_barred 45 = .ok (.lload 5, 2) := by decide +kernel
theorem dX9_barred_47 : decode cX9_barred 47 = .ok (.aload_n 0, 1) := by decide +kernel
theorem dX9_barred_48 : decode cX9_barred 48 = .ok (.iload 7, 2) := by decide +kernel
theorem dX9_barred_50 : decode cX9_barred 50 = .ok (.invokevirtual 258, 3) := by decide +kernel
theorem dX9_barred_53 : decode cX9_barred 53 = .ok (.iload_n 2, 1) := by decide +kernel
theorem dX9_barred_54 : decode cX9_barred 54 = .ok (.iload_n 1, 1) := by decide +kernel
theorem dX9_barred_55 : decode cX9_barred 55 = .ok (.isub, 1) := by decide +kernel
theorem dX9_barred_56 : decode cX9_barred 56 = .ok (.i2l, 1) := by decide +kernel
theorem dX9_barred_57 : decode cX9_barred 57 = .ok (.iload 7, 2) := by decide +kernel
theorem dX9_barred_59 : decode cX9_barred 59 = .ok (.invokestatic 277, 3) := by decide +kernel
theorem dX9_barred_62 : decode cX9_barred 62 = .ok (.lmul, 1) := by decide +kernel
theorem dX9_barred_63 : decode cX9_barred 63 = .ok (.iload_n 1, 1) := by decide +kernel
theorem dX9_barred_64 : decode cX9_barred 64 = .ok (.i2l, 1) := by decide +kernel
theorem dX9_barred_65 : decode cX9_barred 65 = .ok (.iload 4, 2) := by decide +kernel
theorem dX9_barred_67 : decode cX9_barred 67 = .ok (.iload 7, 2) := by decide +kernel
theorem dX9_barred_69 : decode cX9_barred 69 = .ok (.isub, 1) := by decide +kernel
theorem dX9_barred_70 : decode cX9_barred 70 = .ok (.invokestatic 277, 3) := by decide +kernel
theorem dX9_barred_73 : decode cX9_barred 73 = .ok (.lmul, 1) := by decide +kernel
theorem dX9_barred_74 : decode cX9_barred 74 = .ok (.ladd, 1) := by decide +kernel
theorem dX9_barred_75 : decode cX9_barred 75 = .ok (.lstore 5, 2) := by decide +kernel
theorem dX9_barred_77 : decode cX9_barred 77 = .ok (.iinc 7 1, 3) := by decide +kernel
theorem dX9_barred_80 : decode cX9_barred 80 = .ok (.goto (-42), 3) := by decide +kernel
theorem dX9_barred_83 : decode cX9_barred 83 = .ok (.lload 5, 2) := by decide +kernel
theorem dX9_barred_85 : decode cX9_barred 85 = .ok (.iload_n 2, 1) := by decide +kernel
theorem dX9_barred_86 : decode cX9_barred 86 = .ok (.i2l, 1) := by decide +kernel
theorem dX9_barred_87 : decode cX9_barred 87 = .ok (.iload 4, 2) := by decide +kernel
theorem dX9_barred_89 : decode cX9_barred 89 = .ok (.invokestatic 277, 3) := by decide +kernel
theorem dX9_barred_92 : decode cX9_barred 92 = .ok (.iload_n 3, 1) := by decide +kernel
theorem dX9_barred_93 : decode cX9_barred 93 = .ok (.invokestatic 287, 3) := by decide +kernel
theorem dX9_barred_96 : decode cX9_barred 96 = .ok (.lreturn, 1) := by decide +kernel
theorem dX9_would_0 : decode cX9_would 0 = .ok (.aload_n 0, 1) := by decide +kernel
theorem dX9_would_1 : decode cX9_would 1 = .ok (.iload_n 1, 1) := by decide +kernel
theorem dX9_would_2 : decode cX9_would 2 = .ok (.iload_n 2, 1) := by decide +kernel
theorem dX9_would_3 : decode cX9_would 3 = .ok (.iload_n 3, 1) := by decide +kernel
theorem dX9_would_4 : decode cX9_would 4 = .ok (.invokevirtual 211, 3) := by decide +kernel
theorem dX9_would_7 : decode cX9_would 7 = .ok (.istore 8, 2) := by decide +kernel
theorem dX9_would_9 : decode cX9_would 9 = .ok (.aload_n 0, 1) := by decide +kernel
theorem dX9_would_10 : decode cX9_would 10 = .ok (.iload 8, 2) := by decide +kernel
theorem dX9_would_12 : decode cX9_would 12 = .ok (.iconst (-1), 1) := by decide +kernel
theorem dX9_would_13 : decode cX9_would 13 = .ok (.if_icmp .ne 7, 3) := by decide +kernel
theorem dX9_would_16 : decode cX9_would 16 = .ok (.iconst 1, 1) := by decide +kernel
theorem dX9_would_17 : decode cX9_would 17 = .ok (.goto 41, 3) := by decide +kernel
theorem dX9_would_20 : decode cX9_would 20 = .ok (.iload 5, 2) := by decide +kernel
theorem dX9_would_22 : decode cX9_would 22 = .ok (.iload 6, 2) := by decide +kernel
theorem dX9_would_24 : decode cX9_would 24 = .ok (.invokestatic 281, 3) := by decide +kernel
theorem dX9_would_27 : decode cX9_would 27 = .ok (.ifCond .eq 13, 3) := by decide +kernel
theorem dX9_would_30 : decode cX9_would 30 = .ok (.iload 4, 2) := by decide +kernel
theorem dX9_would_32 : decode cX9_would 32 = .ok (.iconst 0, 1) := by decide +kernel
theorem dX9_would_33 : decode cX9_would 33 = .ok (.iconst 2, 1) := by decide +kernel
theorem dX9_would_34 : decode cX9_would 34 = .ok (.invokestatic 142, 3) := by decide +kernel
theorem dX9_would_37 : decode cX9_would 37 = .ok (.ifCond .ne 7, 3) := by decide +kernel
theorem dX9_would_40 : decode cX9_would 40 = .ok (.iconst 2, 1) := by decide +kernel
theorem dX9_would_41 : decode cX9_would 41 = .ok (.goto 17, 3) := by decide +kernel
theorem dX9_would_44 : decode cX9_would 44 = .ok (.aload_n 0, 1) := by decide +kernel
theorem dX9_would_45 : decode cX9_would 45 = .ok (.iload 8, 2) := by decide +kernel
theorem dX9_would_47 : decode cX9_would 47 = .ok (.invokevirtual 215, 3) := by decide +kernel
theorem dX9_would_50 : decode cX9_would 50 = .ok (.ifCond .eq 7, 3) := by decide +kernel
theorem dX9_would_53 : decode cX9_would 53 = .ok (.iconst 3, 1) := by decide +kernel
theorem dX9_would_54 : decode cX9_would 54 = .ok (.goto 4, 3) := by decide +kernel
theorem dX9_would_57 : decode cX9_would 57 = .ok (.iconst 0, 1) := by decide +kernel
theorem dX9_would_58 : decode cX9_would 58 = .ok (.putfield 103, 3) := by decide +kernel
theorem dX9_would_61 : decode cX9_would 61 = .ok (.aload_n 0, 1) := by decide +kernel
theorem dX9_would_62 : decode cX9_would 62 = .ok (.getfield 103, 3) := by decide +kernel
theorem dX9_would_65 : decode cX9_would 65 = .ok (.ifCond .le 5, 3) := by decide +kernel
theorem dX9_would_68 : decode cX9_would 68 = .ok (.lconst 0, 1) := by decide +kernel
theorem dX9_would_69 : decode cX9_would 69 = .ok (.lreturn, 1) := by decide +kernel
theorem dX9_would_70 : decode cX9_would 70 = .ok (.aload_n 0, 1) := by decide +kernel
theorem dX9_would_71 : decode cX9_would 71 = .ok (.getfield 33, 3) := by decide +kernel
theorem dX9_would_74 : decode cX9_would 74 = .ok (.iload 8, 2) := by decide +kernel
theorem dX9_would_76 : decode cX9_would 76 = .ok (.iload 4, 2) := by decide +kernel
theorem dX9_would_78 : decode cX9_would 78 = .ok (.iastore, 1) := by decide +kernel
theorem dX9_would_79 : decode cX9_would 79 = .ok (.aload_n 0, 1) := by decide +kernel
theorem dX9_would_80 : decode cX9_would 80 = .ok (.iconst 0, 1) := by decide +kernel
theorem dX9_would_81 : decode cX9_would 81 = .ok (.putfield 99, 3) := by decide +kernel
theorem dX9_would_84 : decode cX9_would 84 = .ok (.aload_n 0, 1) := by decide +kernel
theorem dX9_would_85 : decode cX9_would 85 = .ok (.iload 5, 2) := by decide +kernel
theorem dX9_would_87 : decode cX9_would 87 = .ok (.iload 6, 2) := by decide +kernel
theorem dX9_would_89 : decode cX9_would 89 = .ok (.invokevirtual 284, 3) := by decide +kernel
theorem dX9_would_92 : decode cX9_would 92 = .ok (.iload 6, 2) := by decide +kernel
theorem dX9_would_94 : decode cX9_would 94 = .ok (.i2l, 1) := by decide +kernel
theorem dX9_would_95 : decode cX9_would 95 = .ok (.aload_n 0, 1) := by decide +kernel
theorem dX9_would_96 : decode cX9_would 96 = .ok (.invokevirtual 187, 3) := by decide +kernel
theorem dX9_would_99 : decode cX9_would 99 = .ok (.invokestatic 277, 3) := by decide +kernel
theorem dX9_would_102 : decode cX9_would 102 = .ok (.iload 7, 2) := by decide +kernel
theorem dX9_would_104 : decode cX9_would 104 = .ok (.invokestatic 287, 3) := by decide +kernel
theorem dX9_would_107 : decode cX9_would 107 = .ok (.lstore 9, 2) := by decide +kernel
theorem dX9_would_109 : decode cX9_would 109 = .ok (.aload_n 0, 1) := by decide +kernel
theorem dX9_would_110 : decode cX9_would 110 = .ok (.getfield 33, 3) := by decide +kernel
theorem dX9_would_113 : decode cX9_would 113 = .ok (.iload 8, 2) := by decide +kernel
theorem dX9_would_115 : decode cX9_would 115 = .ok (.iconst 0, 1) := by decide +kernel
theorem dX9_would_116 : decode cX9_would 116 = .ok (.iastore, 1) := by decide +kernel
theorem dX9_would_117 : decode cX9_would 117 = .ok (.aload_n 0, 1) := by decide +kernel
theorem dX9_would_118 : decode cX9_would 118 = .ok (.iconst 0, 1) := by decide +kernel
theorem dX9_would_119 : decode cX9_would 119 = .ok (.putfield 99, 3) := by decide +kernel
theorem dX9_would_122 : decode cX9_would 122 = .ok (.lload 9, 2) := by decide +kernel
theorem dX9_would_124 : decode cX9_would 124 = .ok (.lreturn, 1) := by decide +kernel
theorem dX9_wetness_0 : decode cX9_wetness 0 = .ok (.aload_n 0, 1) := by decide +kernel
theorem dX9_wetness_1 : decode cX9_wetness 1 = .ok (.iload_n 1, 1) := by decide +kernel
theorem dX9_wetness_2 : decode cX9_wetness 2 = .ok (.iload_n 2, 1) := by decide +kernel
theorem dX9_wetness_3 : decode cX9_wetness 3 = .ok (.invokestatic 281, 3) := by decide +kernel
theorem dX9_wetness_6 : decode cX9_wetness 6 = .ok (.ifCond .eq 13, 3) := by decide +kernel
theorem dX9_wetness_9 : decode cX9_wetness 9 = .ok (.iload_n 2, 1) := by decide +kernel
theorem dX9_wetness_10 : decode cX9_wetness 10 = .ok (.bipush 6, 2) := by decide +kernel
theorem dX9_wetness_12 : decode cX9_wetness 12 = .ok (.if_icmp .ge 7, 3) := by decide +kernel
theorem dX9_wetness_15 : decode cX9_wetness 15 = .ok (.iconst 0, 1) := by decide +kernel
theorem dX9_wetness_16 : decode cX9_wetness 16 = .ok (.goto 4, 3) := by decide +kernel
theorem dX9_wetness_19 : decode cX9_wetness 19 = .ok (.iconst 1, 1) := by decide +kernel
theorem dX9_wetness_20 : decode cX9_wetness 20 = .ok (.putfield 103, 3) := by decide +kernel
theorem dX9_wetness_23 : decode cX9_wetness 23 = .ok (.aload_n 0, 1) := by decide +kernel
theorem dX9_wetness_24 : decode cX9_wetness 24 = .ok (.getfield 103, 3) := by decide +kernel
theorem dX9_wetness_27 : decode cX9_wetness 27 = .ok (.ifCond .le 5, 3) := by decide +kernel
theorem dX9_wetness_30 : decode cX9_wetness 30 = .ok (.lconst 0, 1) := by decide +kernel
theorem dX9_wetness_31 : decode cX9_wetness 31 = .ok (.lreturn, 1) := by decide +kernel
theorem dX9_wetness_32 : decode cX9_wetness 32 = .ok (.aload_n 0, 1) := by decide +kernel
theorem dX9_wetness_33 : decode cX9_wetness 33 = .ok (.invokevirtual 247, 3) := by decide +kernel
theorem dX9_wetness_36 : decode cX9_wetness 36 = .ok (.aload_n 0, 1) := by decide +kernel
theorem dX9_wetness_37 : decode cX9_wetness 37 = .ok (.invokevirtual 187, 3) := by decide +kernel
theorem dX9_wetness_40 : decode cX9_wetness 40 = .ok (.istore 4, 2) := by decide +kernel
theorem dX9_wetness_42 : decode cX9_wetness 42 = .ok (.iload_n 2, 1) := by decide +kernel
theorem dX9_wetness_43 : decode cX9_wetness 43 = .ok (.i2l, 1) := by decide +kernel
theorem dX9_wetness_44 : decode cX9_wetness 44 = .ok (.iload 4, 2) := by decide +kernel
theorem dX9_wetness_46 : decode cX9_wetness 46 = .ok (.invokestatic 277, 3) := by decide +kernel
theorem dX9_wetness_49 : decode cX9_wetness 49 = .ok (.lstore 5, 2) := by decide +kernel
theorem dX9_wetness_51 : decode cX9_wetness 51 = .ok (.lconst 0, 1) := by decide +kernel
theorem dX9_wetness_52 : decode cX9_wetness 52 = .ok (.lstore 7, 2) := by decide +kernel
theorem dX9_wetness_54 : decode cX9_wetness 54 = .ok (.lconst 0, 1) := by decide +kernel
theorem dX9_wetness_55 : decode cX9_wetness 55 = .ok (.lstore 9, 2) := by decide +kernel
theorem dX9_wetness_57 : decode cX9_wetness 57 = .ok (.sipush 300, 3) := by decide +kernel
theorem dX9_wetness_60 : decode cX9_wetness 60 = .ok (.aload_n 0, 1) := by decide +kernel
theorem dX9_wetness_61 : decode cX9_wetness 61 = .ok (.getfield 30, 3) := by decide +kernel
theorem dX9_wetness_64 : decode cX9_wetness 64 = .ok (.iconst 1, 1) := by decide +kernel
theorem dX9_wetness_65 : decode cX9_wetness 65 = .ok (.isub, 1) := by decide +kernel
theorem dX9_wetness_66 : decode cX9_wetness 66 = .ok (.imul, 1) := by decide +kernel
theorem dX9_wetness_67 : decode cX9_wetness 67 = .ok (.istore 11, 2) := by decide +kernel
theorem dX9_wetness_69 : decode cX9_wetness 69 = .ok (.iconst 0, 1) := by decide +kernel
theorem dX9_wetness_70 : decode cX9_wetness 70 = .ok (.istore 12, 2) := by decide +kernel
theorem dX9_wetness_72 : decode cX9_wetness 72 = .ok (.iload 12, 2) := by decide +kernel
theorem dX9_wetness_74 : decode cX9_wetness 74 = .ok (.aload_n 0, 1) := by decide +kernel
theorem dX9_wetness_75 : decode cX9_wetness 75 = .ok (.getfield 27, 3) := by decide +kernel
theorem dX9_wetness_78 : decode cX9_wetness 78 = .ok (.if_icmp .ge 157, 3) := by decide +kernel
theorem dX9_wetness_81 : decode cX9_wetness 81 = .ok (.lconst 0, 1) := by decide +kernel
theorem dX9_wetness_82 : decode cX9_wetness 82 = .ok (.lstore 13, 2) := by decide +kernel
theorem dX9_wetness_84 : decode cX9_wetness 84 = .ok (.iconst 0, 1) := by decide +kernel
theorem dX9_wetness_85 : decode cX9_wetness 85 = .ok (.istore 15, 2) := by decide +kernel
theorem dX9_wetness_87 : decode cX9_wetness 87 = .ok (.iload 15, 2) := by decide +kernel
theorem dX9_wetness_89 : decode cX9_wetness 89 = .ok (.aload_n 0, 1) := by decide +kernel
theorem dX9_wetness_90 : decode cX9_wetness 90 = .ok (.getfield 51, 3) := by decide +kernel
theorem dX9_wetness_93 : decode cX9_wetness 93 = .ok (.aload_n 0, 1) := by decide +kernel
theorem dX9_wetness_94 : decode cX9_wetness 94 = .ok (.getfield 30, 3) := by decide +kernel
theorem dX9_wetness_97 : decode cX9_wetness 97 = .ok (.iconst 1, 1) := by decide +kernel
theorem dX9_wetness_98 : decode cX9_wetness 98 = .ok (.isub, 1) := by decide +kernel
theorem dX9_wetness_99 : decode cX9_wetness 99 = .ok (.iaload, 1) := by decide +kernel
theorem dX9_wetness_100 : decode cX9_wetness 100 = .ok (.if_icmp .ge 92, 3) := by decide +kernel
theorem dX9_wetness_103 : decode cX9_wetness 103 = .ok (.aload_n 0, 1) := by decide +kernel
theorem dX9_wetness_104 : decode cX9_wetness 104 = .ok (.aload_n 0, 1) := by decide +kernel
theorem dX9_wetness_105 : decode cX9_wetness 105 = .ok (.getfield 54, 3) := by decide +kernel
theorem dX9_wetness_108 : decode cX9_wetness 108 = .ok (.iload 11, 2) := by decide +kernel
theorem dX9_wetness_110 : decode cX9_wetness 110 = .ok (.iload 15, 2) := by decide +kernel
theorem dX9_wetness_112 : decode cX9_wetness 112 = .ok (.iadd, 1) := by decide +kernel
theorem dX9_wetness_113 : decode cX9_wetness 113 = .ok (.iaload, 1) := by decide +kernel
theorem dX9_wetness_114 : decode cX9_wetness 114 = .ok (.invokevirtual 244, 3) := by decide +kernel
theorem dX9_wetness_117 : decode cX9_wetness 117 = .ok (.iload 12, 2) := by decide +kernel
theorem dX9_wetness_119 : decode cX9_wetness 119 = .ok (.ishr, 1) := by decide +kernel
theorem dX9_wetness_120 : decode cX9_wetness 120 = .ok (.iconst 1, 1) := by decide +kernel
theorem dX9_wetness_121 : decode cX9_wetness 121 = .ok (.iand, 1) := by decide +kernel
theorem dX9_wetness_122 : decode cX9_wetness 122 = .ok (.ifCond .ne 6, 3) := by decide +kernel
theorem dX9_wetness_125 : decode cX9_wetness 125 = .ok (.goto 61, 3) := by decide +kernel
theorem dX9_wetness_128 : decode cX9_wetness 128 = .ok (.iconst 0, 1) := by decide +kernel
theorem dX9_wetness_129 : decode cX9_wetness 129 = .ok (.istore 16, 2) := by decide +kernel
theorem dX9_wetness_131 : decode cX9_wetness 131 = .ok (.iload 16, 2) := by decide +kernel
theorem dX9_wetness_133 : decode cX9_wetness 133 = .ok (.iload 4, 2) := by decide +kernel
theorem dX9_wetness_135 : decode cX9_wetness 135 = .ok (.if_icmp .gt 51, 3) := by decide +kernel
theorem dX9_wetness_138 : decode cX9_wetness 138 = .ok (.lload 13, 2) := by decide +kernel
theorem dX9_wetness_140 : decode cX9_wetness 140 = .ok (.aload_n 0, 1) := by decide +kernel
theorem dX9_wetness_141 : decode cX9_wetness 141 = .ok (.getfield 58, 3) := by decide +kernel
theorem dX9_wetness_144 : decode cX9_wetness 144 = .ok (.bipush 25, 2) := by decide +kernel
theorem dX9_wetness_146 : decode cX9_wetness 146 = .ok (.iload 11, 2) := by decide +kernel
theorem dX9_wetness_148 : decode cX9_wetness 148 = .ok (.iload 15, 2) := by decide +kernel
theorem dX9_wetness_150 : decode cX9_wetness 150 = .ok (.iadd, 1) := by decide +kernel
theorem dX9_wetness_151 : decode cX9_wetness 151 = .ok (.imul, 1) := by decide +kernel
theorem dX9_wetness_152 : decode cX9_wetness 152 = .ok (.iload 16, 2) := by decide +kernel
theorem dX9_wetness_154 : decode cX9_wetness 154 = .ok (.iadd, 1) := by decide +kernel
theorem dX9_wetness_155 : decode cX9_wetness 155 = .ok (.laload, 1) := by decide +kernel
theorem dX9_wetness_156 : decode cX9_wetness 156 = .ok (.iload_n 1, 1) := by decide +kernel
theorem dX9_wetness_157 : decode cX9_wetness 157 = .ok (.i2l, 1) := by decide +kernel
theorem dX9_wetness_158 : decode cX9_wetness 158 = .ok (.iload 16, 2) := by decide +kernel
theorem dX9_wetness_160 : decode cX9_wetness 160 = .ok (.invokestatic 277, 3) := by decide +kernel
theorem dX9_wetness_163 : decode cX9_wetness 163 = .ok (.lmul, 1) := by decide +kernel
theorem dX9_wetness_164 : decode cX9_wetness 164 = .ok (.iload_n 2, 1) := by decide +kernel
theorem dX9_wetness_165 : decode cX9_wetness 165 = .ok (.iload_n 1, 1) := by decide +kernel
theorem dX9_wetness_166 : decode cX9_wetness 166 = .ok (.isub, 1) := by decide +kernel
theorem dX9_wetness_167 : decode cX9_wetness 167 = .ok (.i2l, 1) := by decide +kernel
theorem dX9_wetness_168 : decode cX9_wetness 168 = .ok (.iload 4, 2) := by decide +kernel
theorem dX9_wetness_170 : decode cX9_wetness 170 = .ok (.iload 16, 2) := by decide +kernel
theorem dX9_wetness_172 : decode cX9_wetness 172 = .ok (.isub, 1) := by decide +kernel
theorem dX9_wetness_173 : decode cX9_wetness 173 = .ok (.invokestatic 277, 3) := by decide +kernel
theorem dX9_wetness_176 : decode cX9_wetness 176 = .ok (.lmul, 1) := by decide +kernel
theorem dX9_wetness_177 : decode cX9_wetness 177 = .ok (.ladd, 1) := by decide +kernel
theorem dX9_wetness_178 : decode cX9_wetness 178 = .ok (.lstore 13, 2) := by decide +kernel
theorem dX9_wetness_180 : decode cX9_wetness 180 = .ok (.iinc 16 1, 3) := by decide +kernel
theorem dX9_wetness_183 : decode cX9_wetness 183 = .ok (.goto (-52), 3) := by decide +kernel
theorem dX9_wetness_186 : decode cX9_wetness 186 = .ok (.iinc 15 1, 3) := by decide +kernel
theorem dX9_wetness_189 : decode cX9_wetness 189 = .ok (.goto (-102), 3) := by decide +kernel
theorem dX9_wetness_192 : decode cX9_wetness 192 = .ok (.lload 9, 2) := by decide +kernel
theorem dX9_wetness_194 : decode cX9_wetness 194 = .ok (.lload 5, 2) := by decide +kernel
theorem dX9_wetness_196 : decode cX9_wetness 196 = .ok (.lload 13, 2) := by decide +kernel
theorem dX9_wetness_198 : decode cX9_wetness 198 = .ok (.lsub, 1) := by decide +kernel
theorem dX9_wetness_199 : decode cX9_wetness 199 = .ok (.lcmp, 1) := by decide +kernel
theorem dX9_wetness_200 : decode cX9_wetness 200 = .ok (.ifCond .lt 22, 3) := by decide +kernel
theorem dX9_wetness_203 : decode cX9_wetness 203 = .ok (.lload 9, 2) := by decide +kernel
theorem dX9_wetness_205 : decode cX9_wetness 205 = .ok (.lload 5, 2) := by decide +kernel
theorem dX9_wetness_207 : decode cX9_wetness 207 = .ok (.lload 13, 2) := by decide +kernel
theorem dX9_wetness_209 : decode cX9_wetness 209 = .ok (.lsub, 1) := by decide +kernel
theorem dX9_wetness_210 : decode cX9_wetness 210 = .ok (.lsub, 1) := by decide +kernel
theorem dX9_wetness_211 : decode cX9_wetness 211 = .ok (.lstore 9, 2) := by decide +kernel
theorem dX9_wetness_213 : decode cX9_wetness 213 = .ok (.lload 7, 2) := by decide +kernel
theorem dX9_wetness_215 : decode cX9_wetness 215 = .ok (.lconst 1, 1) := by decide +kernel
theorem dX9_wetness_216 : decode cX9_wetness 216 = .ok (.ladd, 1) := by decide +kernel
theorem dX9_wetness_217 : decode cX9_wetness 217 = .ok (.lstore 7, 2) := by decide +kernel
theorem dX9_wetness_219 : decode cX9_wetness 219 = .ok (.goto 10, 3) := by decide +kernel
theorem dX9_wetness_222 : decode cX9_wetness 222 = .ok (.lload 9, 2) := by decide +kernel
theorem dX9_wetness_224 : decode cX9_wetness 224 = .ok (.lload 13, 2) := by decide +kernel
theorem dX9_wetness_226 : decode cX9_wetness 226 = .ok (.ladd, 1) := by decide +kernel
theorem dX9_wetness_227 : decode cX9_wetness 227 = .ok (.lstore 9, 2) := by decide +kernel
theorem dX9_wetness_229 : decode cX9_wetness 229 = .ok (.iinc 12 1, 3) := by decide +kernel
theorem dX9_wetness_232 : decode cX9_wetness 232 = .ok (.goto (-160), 3) := by decide +kernel
theorem dX9_wetness_235 : decode cX9_wetness 235 = .ok (.lload 5, 2) := by decide +kernel
theorem dX9_wetness_237 : decode cX9_wetness 237 = .ok (.lload 9, 2) := by decide +kernel
theorem dX9_wetness_239 : decode cX9_wetness 239 = .ok (.invokestatic 273, 3) := by decide +kernel
theorem dX9_wetness_242 : decode cX9_wetness 242 = .ok (.lstore 12, 2) := by decide +kernel
theorem dX9_wetness_244 : decode cX9_wetness 244 = .ok (.iload_n 3, 1) := by decide +kernel
theorem dX9_wetness_245 : decode cX9_wetness 245 = .ok (.ifCond .eq 11, 3) := by decide +kernel
theorem dX9_wetness_248 : decode cX9_wetness 248 = .ok (.lload 5, 2) := by decide +kernel
theorem dX9_wetness_250 : decode cX9_wetness 250 = .ok (.lload 12, 2) := by decide +kernel
theorem dX9_wetness_252 : decode cX9_wetness 252 = .ok (.ldiv, 1) := by decide +kernel
theorem dX9_wetness_253 : decode cX9_wetness 253 = .ok (.goto 17, 3) := by decide +kernel
theorem dX9_wetness_256 : decode cX9_wetness 256 = .ok (.lload 7, 2) := by decide +kernel
theorem dX9_wetness_258 : decode cX9_wetness 258 = .ok (.lload 5, 2) := by decide +kernel
theorem dX9_wetness_260 : decode cX9_wetness 260 = .ok (.lload 12, 2) := by decide +kernel
theorem dX9_wetness_262 : decode cX9_wetness 262 = .ok (.ldiv, 1) := by decide +kernel
theorem dX9_wetness_263 : decode cX9_wetness 263 = .ok (.lmul, 1) := by decide +kernel
theorem dX9_wetness_264 : decode cX9_wetness 264 = .ok (.lload 9, 2) := by decide +kernel
theorem dX9_wetness_266 : decode cX9_wetness 266 = .ok (.lload 12, 2) := by decide +kernel
theorem dX9_wetness_268 : decode cX9_wetness 268 = .ok (.ldiv, 1) := by decide +kernel
theorem dX9_wetness_269 : decode cX9_wetness 269 = .ok (.ladd, 1) := by decide +kernel
theorem dX9_wetness_270 : decode cX9_wetness 270 = .ok (.lreturn, 1) := by decide +kernel
theorem dX9_freeTo_0 : decode cX9_freeTo 0 = .ok (.iconst 0, 1) := by decide +kernel
theorem dX9_freeTo_1 : decode cX9_freeTo 1 = .ok (.istore_n 2, 1) := by decide +kernel
theorem dX9_freeTo_2 : decode cX9_freeTo 2 = .ok (.iconst 0, 1) := by decide +kernel
theorem dX9_freeTo_3 : decode cX9_freeTo 3 = .ok (.istore_n 3, 1) := by decide +kernel
theorem dX9_freeTo_4 : decode cX9_freeTo 4 = .ok (.iload_n 3, 1) := by decide +kernel
theorem dX9_freeTo_5 : decode cX9_freeTo 5 = .ok (.bipush 50, 2) := by decide +kernel
theorem dX9_freeTo_7 : decode cX9_freeTo 7 = .ok (.if_icmp .ge 45, 3) := by decide +kernel
theorem dX9_freeTo_10 : decode cX9_freeTo 10 = .ok (.iload_n 2, 1) := by decide +kernel
theorem dX9_freeTo_11 : decode cX9_freeTo 11 = .ok (.aload_n 0, 1) := by decide +kernel
theorem dX9_freeTo_12 : decode cX9_freeTo 12 = .ok (.iload_n 3, 1) := by decide +kernel
theorem dX9_freeTo_13 : decode cX9_freeTo 13 = .ok (.invokevirtual 208, 3) := by decide +kernel
theorem dX9_freeTo_16 : decode cX9_freeTo 16 = .ok (.ifCond .eq 27, 3) := by decide +kernel
theorem dX9_freeTo_19 : decode cX9_freeTo 19 = .ok (.aload_n 0, 1) := by decide +kernel
theorem dX9_freeTo_20 : decode cX9_freeTo 20 = .ok (.iload_n 3, 1) := by decide +kernel
theorem dX9_freeTo_21 : decode cX9_freeTo 21 = .ok (.invokevirtual 215, 3) := by decide +kernel
theorem dX9_freeTo_24 : decode cX9_freeTo 24 = .ok (.ifCond .ne 19, 3) := by decide +kernel
theorem dX9_freeTo_27 : decode cX9_freeTo 27 = .ok (.iload_n 3, 1) := by decide +kernel
theorem dX9_freeTo_28 : decode cX9_freeTo 28 = .ok (.bipush 10, 2) := by decide +kernel
theorem dX9_freeTo_30 : decode cX9_freeTo 30 = .ok (.idiv, 1) := by decide +kernel
theorem dX9_freeTo_31 : decode cX9_freeTo 31 = .ok (.iload_n 3, 1) := by decide +kernel
theorem dX9_freeTo_32 : decode cX9_freeTo 32 = .ok (.iconst 2, 1) := by decide +kernel
theorem dX9_freeTo_33 : decode cX9_freeTo 33 = .ok (.irem, 1) := by decide +kernel
theorem dX9_freeTo_34 : decode cX9_freeTo 34 = .ok (.iadd, 1) := by decide +kernel
theorem dX9_freeTo_35 : decode cX9_freeTo 35 = .ok (.iload_n 1, 1) := by decide +kernel
theorem dX9_freeTo_36 : decode cX9_freeTo 36 = .ok (.if_icmp .gt 7, 3) := by decide +kernel
theorem dX9_freeTo_39 : decode cX9_freeTo 39 = .ok (.iconst 1, 1) := by decide +kernel
theorem dX9_freeTo_40 : decode cX9_freeTo 40 = .ok (.goto 4, 3) := by decide +kernel
theorem dX9_freeTo_43 : decode cX9_freeTo 43 = .ok (.iconst 0, 1) := by decide +kernel
theorem dX9_freeTo_44 : decode cX9_freeTo 44 = .ok (.iadd, 1) := by decide +kernel
theorem dX9_freeTo_45 : decode cX9_freeTo 45 = .ok (.istore_n 2, 1) := by decide +kernel
theorem dX9_freeTo_46 : decode cX9_freeTo 46 = .ok (.iinc 3 1, 3) := by decide +kernel
theorem dX9_freeTo_49 : decode cX9_freeTo 49 = .ok (.goto (-45), 3) := by decide +kernel
theorem dX9_freeTo_52 : decode cX9_freeTo 52 = .ok (.iload_n 2, 1) := by decide +kernel
theorem dX9_freeTo_53 : decode cX9_freeTo 53 = .ok (.ireturn, 1) := by decide +kernel
theorem dX9_depth_0 : decode cX9_depth 0 = .ok (.aload_n 0, 1) := by decide +kernel
theorem dX9_depth_1 : decode cX9_depth 1 = .ok (.iload_n 1, 1) := by decide +kernel
theorem dX9_depth_2 : decode cX9_depth 2 = .ok (.iload_n 2, 1) := by decide +kernel
theorem dX9_depth_3 : decode cX9_depth 3 = .ok (.invokestatic 281, 3) := by decide +kernel
theorem dX9_depth_6 : decode cX9_depth 6 = .ok (.ifCond .eq 13, 3) := by decide +kernel
theorem dX9_depth_9 : decode cX9_depth 9 = .ok (.iload_n 2, 1) := by decide +kernel
theorem dX9_depth_10 : decode cX9_depth 10 = .ok (.bipush 6, 2) := by decide +kernel
theorem dX9_depth_12 : decode cX9_depth 12 = .ok (.if_icmp .ge 7, 3) := by decide +kernel
theorem dX9_depth_15 : decode cX9_depth 15 = .ok (.iconst 0, 1) := by decide +kernel
theorem dX9_depth_16 : decode cX9_depth 16 = .ok (.goto 4, 3) := by decide +kernel
theorem dX9_depth_19 : decode cX9_depth 19 = .ok (.iconst 1, 1) := by decide +kernel
theorem dX9_depth_20 : decode cX9_depth 20 = .ok (.putfield 103, 3) := by decide +kernel
theorem dX9_depth_23 : decode cX9_depth 23 = .ok (.aload_n 0, 1) := by decide +kernel
theorem dX9_depth_24 : decode cX9_depth 24 = .ok (.getfield 103, 3) := by decide +kernel
theorem dX9_depth_27 : decode cX9_depth 27 = .ok (.ifCond .le 5, 3) := by decide +kernel
theorem dX9_depth_30 : decode cX9_depth 30 = .ok (.lconst 0, 1) := by decide +kernel
theorem dX9_depth_31 : decode cX9_depth 31 = .ok (.lreturn, 1) := by decide +kernel
theorem dX9_depth_32 : decode cX9_depth 32 = .ok (.aload_n 0, 1) := by decide +kernel
theorem dX9_depth_33 : decode cX9_depth 33 = .ok (.invokevirtual 247, 3) := by decide +kernel
theorem dX9_depth_36 : decode cX9_depth 36 = .ok (.aload_n 0, 1) := by decide +kernel
theorem dX9_depth_37 : decode cX9_depth 37 = .ok (.invokevirtual 187, 3) := by decide +kernel
theorem dX9_depth_40 : decode cX9_depth 40 = .ok (.istore 4, 2) := by decide +kernel
theorem dX9_depth_42 : decode cX9_depth 42 = .ok (.lconst 0, 1) := by decide +kernel
theorem dX9_depth_43 : decode cX9_depth 43 = .ok (.lstore 5, 2) := by decide +kernel
theorem dX9_depth_45 : decode cX9_depth 45 = .ok (.iconst 0, 1) := by decide +kernel
theorem dX9_depth_46 : decode cX9_depth 46 = .ok (.istore 7, 2) := by decide +kernel
theorem dX9_depth_48 : decode cX9_depth 48 = .ok (.iload 7, 2) := by decide +kernel
theorem dX9_depth_50 : decode cX9_depth 50 = .ok (.aload_n 0, 1) := by decide +kernel
theorem dX9_depth_51 : decode cX9_depth 51 = .ok (.getfield 30, 3) := by decide +kernel
theorem dX9_depth_54 : decode cX9_depth 54 = .ok (.if_icmp .ge 145, 3) := by decide +kernel
theorem dX9_depth_57 : decode cX9_depth 57 = .ok (.aload_n 0, 1) := by decide +kernel
theorem dX9_depth_58 : decode cX9_depth 58 = .ok (.iload 7, 2) := by decide +kernel
theorem dX9_depth_60 : decode cX9_depth 60 = .ok (.invokevirtual 291, 3) := by decide +kernel
theorem dX9_depth_63 : decode cX9_depth 63 = .ok (.istore 8, 2) := by decide +kernel
theorem dX9_depth_65 : decode cX9_depth 65 = .ok (.lconst 0, 1) := by decide +kernel
theorem dX9_depth_66 : decode cX9_depth 66 = .ok (.lstore 9, 2) := by decide +kernel
theorem dX9_depth_68 : decode cX9_depth 68 = .ok (.iconst 0, 1) := by decide +kernel
theorem dX9_depth_69 : decode cX9_depth 69 = .ok (.istore 11, 2) := by decide +kernel
theorem dX9_depth_71 : decode cX9_depth 71 = .ok (.iload 11, 2) := by decide +kernel
theorem dX9_depth_73 : decode cX9_depth 73 = .ok (.aload_n 0, 1) := by decide +kernel
theorem dX9_depth_74 : decode cX9_depth 74 = .ok (.getfield 51, 3) := by decide +kernel
theorem dX9_depth_77 : decode cX9_depth 77 = .ok (.iload 7, 2) := by decide +kernel
theorem dX9_depth_79 : decode cX9_depth 79 = .ok (.iaload, 1) := by decide +kernel
theorem dX9_depth_80 : decode cX9_depth 80 = .ok (.if_icmp .ge 95, 3) := by decide +kernel
theorem dX9_depth_83 : decode cX9_depth 83 = .ok (.aload_n 0, 1) := by decide +kernel
theorem dX9_depth_84 : decode cX9_depth 84 = .ok (.aload_n 0, 1) := by decide +kernel
theorem dX9_depth_85 : decode cX9_depth 85 = .ok (.getfield 54, 3) := by decide +kernel
theorem dX9_depth_88 : decode cX9_depth 88 = .ok (.sipush 300, 3) := by decide +kernel
theorem dX9_depth_91 : decode cX9_depth 91 = .ok (.iload 7, 2) := by decide +kernel
theorem dX9_depth_93 : decode cX9_depth 93 = .ok (.imul, 1) := by decide +kernel
theorem dX9_depth_94 : decode cX9_depth 94 = .ok (.iload 11, 2) := by decide +kernel
theorem dX9_depth_96 : decode cX9_depth 96 = .ok (.iadd, 1) := by decide +kernel
theorem dX9_depth_97 : decode cX9_depth 97 = .ok (.iaload, 1) := by decide +kernel
theorem dX9_depth_98 : decode cX9_depth 98 = .ok (.invokevirtual 244, 3) := by decide +kernel
theorem dX9_depth_101 : decode cX9_depth 101 = .ok (.ifCond .ne 6, 3) := by decide +kernel
theorem dX9_depth_104 : decode cX9_depth 104 = .ok (.goto 65, 3) := by decide +kernel
theorem dX9_depth_107 : decode cX9_depth 107 = .ok (.iconst 0, 1) := by decide +kernel
theorem dX9_depth_108 : decode cX9_depth 108 = .ok (.istore 12, 2) := by decide +kernel
theorem dX9_depth_110 : decode cX9_depth 110 = .ok (.iload 12, 2) := by decide +kernel
theorem dX9_depth_112 : decode cX9_depth 112 = .ok (.iload 8, 2) := by decide +kernel
theorem dX9_depth_114 : decode cX9_depth 114 = .ok (.if_icmp .gt 55, 3) := by decide +kernel
theorem dX9_depth_117 : decode cX9_depth 117 = .ok (.lload 9, 2) := by decide +kernel
theorem dX9_depth_119 : decode cX9_depth 119 = .ok (.aload_n 0, 1) := by decide +kernel
theorem dX9_depth_120 : decode cX9_depth 120 = .ok (.getfield 58, 3) := by decide +kernel
theorem dX9_depth_123 : decode cX9_depth 123 = .ok (.bipush 25, 2) := by decide +kernel
theorem dX9_depth_125 : decode cX9_depth 125 = .ok (.sipush 300, 3) := by decide +kernel
theorem dX9_depth_128 : decode cX9_depth 128 = .ok (.iload 7, 2) := by decide +kernel
theorem dX9_depth_130 : decode cX9_depth 130 = .ok (.imul, 1) := by decide +kernel
theorem dX9_depth_131 : decode cX9_depth 131 = .ok (.iload 11, 2) := by decide +kernel
theorem dX9_depth_133 : decode cX9_depth 133 = .ok (.iadd, 1) := by decide +kernel
theorem dX9_depth_134 : decode cX9_depth 134 = .ok (.imul, 1) := by decide +kernel
theorem dX9_depth_135 : decode cX9_depth 135 = .ok (.iload 12, 2) := by decide +kernel
theorem dX9_depth_137 : decode cX9_depth 137 = .ok (.iadd, 1) := by decide +kernel
theorem dX9_depth_138 : decode cX9_depth 138 = .ok (.laload, 1) := by decide +kernel
theorem dX9_depth_139 : decode cX9_depth 139 = .ok (.iload_n 1, 1) := by decide +kernel
theorem dX9_depth_140 : decode cX9_depth 140 = .ok (.i2l, 1) := by decide +kernel
theorem dX9_depth_141 : decode cX9_depth 141 = .ok (.iload 12, 2) := by decide +kernel
theorem dX9_depth_143 : decode cX9_depth 143 = .ok (.invokestatic 277, 3) := by decide +kernel
theorem dX9_depth_146 : decode cX9_depth 146 = .ok (.lmul, 1) := by decide +kernel
theorem dX9_depth_147 : decode cX9_depth 147 = .ok (.iload_n 2, 1) := by decide +kernel
theorem dX9_depth_148 : decode cX9_depth 148 = .ok (.iload_n 1, 1) := by decide +kernel
theorem dX9_depth_149 : decode cX9_depth 149 = .ok (.isub, 1) := by decide +kernel
theorem dX9_depth_150 : decode cX9_depth 150 = .ok (.i2l, 1) := by decide +kernel
theorem dX9_depth_151 : decode cX9_depth 151 = .ok (.iload 8, 2) := by decide +kernel
theorem dX9_depth_153 : decode cX9_depth 153 = .ok (.iload 12, 2) := by decide +kernel
theorem dX9_depth_155 : decode cX9_depth 155 = .ok (.isub, 1) := by decide +kernel
theorem dX9_depth_156 : decode cX9_depth 156 = .ok (.invokestatic 277, 3) := by decide +kernel
theorem dX9_depth_159 : decode cX9_depth 159 = .ok (.lmul, 1) := by decide +kernel
theorem dX9_depth_160 : decode cX9_depth 160 = .ok (.ladd, 1) := by decide +kernel
theorem dX9_depth_161 : decode cX9_depth 161 = .ok (.lstore 9, 2) := by decide +kernel
theorem dX9_depth_163 : decode cX9_depth 163 = .ok (.iinc 12 1, 3) := by decide +kernel
theorem dX9_depth_166 : decode cX9_depth 166 = .ok (.goto (-56), 3) := by decide +kernel
theorem dX9_depth_169 : decode cX9_depth 169 = .ok (.iinc 11 1, 3) := by decide +kernel
theorem dX9_depth_172 : decode cX9_depth 172 = .ok (.goto (-101), 3) := by decide +kernel
theorem dX9_depth_175 : decode cX9_depth 175 = .ok (.lload 5, 2) := by decide +kernel
theorem dX9_depth_177 : decode cX9_depth 177 = .ok (.lload 9, 2) := by decide +kernel
theorem dX9_depth_179 : decode cX9_depth 179 = .ok (.iload_n 2, 1) := by decide +kernel
theorem dX9_depth_180 : decode cX9_depth 180 = .ok (.i2l, 1) := by decide +kernel
theorem dX9_depth_181 : decode cX9_depth 181 = .ok (.iload 4, 2) := by decide +kernel
theorem dX9_depth_183 : decode cX9_depth 183 = .ok (.iload 8, 2) := by decide +kernel
theorem dX9_depth_185 : decode cX9_depth 185 = .ok (.isub, 1) := by decide +kernel
theorem dX9_depth_186 : decode cX9_depth 186 = .ok (.invokestatic 277, 3) := by decide +kernel
theorem dX9_depth_189 : decode cX9_depth 189 = .ok (.lmul, 1) := by decide +kernel
theorem dX9_depth_190 : decode cX9_depth 190 = .ok (.ladd, 1) := by decide +kernel
theorem dX9_depth_191 : decode cX9_depth 191 = .ok (.lstore 5, 2) := by decide +kernel
theorem dX9_depth_193 : decode cX9_depth 193 = .ok (.iinc 7 1, 3) := by decide +kernel
theorem dX9_depth_196 : decode cX9_depth 196 = .ok (.goto (-148), 3) := by decide +kernel
theorem dX9_depth_199 : decode cX9_depth 199 = .ok (.lload 5, 2) := by decide +kernel
theorem dX9_depth_201 : decode cX9_depth 201 = .ok (.iload_n 2, 1) := by decide +kernel
theorem dX9_depth_202 : decode cX9_depth 202 = .ok (.i2l, 1) := by decide +kernel
theorem dX9_depth_203 : decode cX9_depth 203 = .ok (.iload 4, 2) := by decide +kernel
theorem dX9_depth_205 : decode cX9_depth 205 = .ok (.invokestatic 277, 3) := by decide +kernel
theorem dX9_depth_208 : decode cX9_depth 208 = .ok (.iload_n 3, 1) := by decide +kernel
theorem dX9_depth_209 : decode cX9_depth 209 = .ok (.invokestatic 287, 3) := by decide +kernel
theorem dX9_depth_212 : decode cX9_depth 212 = .ok (.lreturn, 1) := by decide +kernel
theorem dX9_leastBy_0 : decode cX9_leastBy 0 = .ok (.iconst 0, 1) := by decide +kernel
theorem dX9_leastBy_1 : decode cX9_leastBy 1 = .ok (.istore_n 3, 1) := by decide +kernel
theorem dX9_leastBy_2 : decode cX9_leastBy 2 = .ok (.iload_n 3, 1) := by decide +kernel
theorem dX9_leastBy_3 : decode cX9_leastBy 3 = .ok (.aload_n 0, 1) := by decide +kernel
theorem dX9_leastBy_4 : decode cX9_leastBy 4 = .ok (.invokevirtual 187, 3) := by decide +kernel
theorem dX9_leastBy_7 : decode cX9_leastBy 7 = .ok (.if_icmp .gt 34, 3) := by decide +kernel
theorem dX9_leastBy_10 : decode cX9_leastBy 10 = .ok (.aload_n 0, 1) := by decide +kernel
theorem dX9_leastBy_11 : decode cX9_leastBy 11 = .ok (.iload_n 3, 1) := by decide +kernel
theorem dX9_leastBy_12 : decode cX9_leastBy 12 = .ok (.invokevirtual 254, 3) := by decide +kernel
theorem dX9_leastBy_15 : decode cX9_leastBy 15 = .ok (.iload_n 2, 1) := by decide +kernel
theorem dX9_leastBy_16 : decode cX9_leastBy 16 = .ok (.i2l, 1) := by decide +kernel
theorem dX9_leastBy_17 : decode cX9_leastBy 17 = .ok (.lmul, 1) := by decide +kernel
theorem dX9_leastBy_18 : decode cX9_leastBy 18 = .ok (.iload_n 1, 1) := by decide +kernel
theorem dX9_leastBy_19 : decode cX9_leastBy 19 = .ok (.i2l, 1) := by decide +kernel
theorem dX9_leastBy_20 : decode cX9_leastBy 20 = .ok (.aload_n 0, 1) := by decide +kernel
theorem dX9_leastBy_21 : decode cX9_leastBy 21 = .ok (.invokevirtual 187, 3) := by decide +kernel
theorem dX9_leastBy_24 : decode cX9_leastBy 24 = .ok (.iload_n 3, 1) := by decide +kernel
theorem dX9_leastBy_25 : decode cX9_leastBy 25 = .ok (.invokestatic 250, 3) := by decide +kernel
theorem dX9_leastBy_28 : decode cX9_leastBy 28 = .ok (.lmul, 1) := by decide +kernel
theorem dX9_leastBy_29 : decode cX9_leastBy 29 = .ok (.lcmp, 1) := by decide +kernel
theorem dX9_leastBy_30 : decode cX9_leastBy 30 = .ok (.ifCond .lt 5, 3) := by decide +kernel
theorem dX9_leastBy_33 : decode cX9_leastBy 33 = .ok (.iload_n 3, 1) := by decide +kernel
theorem dX9_leastBy_34 : decode cX9_leastBy 34 = .ok (.ireturn, 1) := by decide +kernel
theorem dX9_leastBy_35 : decode cX9_leastBy 35 = .ok (.iinc 3 1, 3) := by decide +kernel
theorem dX9_leastBy_38 : decode cX9_leastBy 38 = .ok (.goto (-36), 3) := by decide +kernel
theorem dX9_leastBy_41 : decode cX9_leastBy 41 = .ok (.iconst (-1), 1) := by decide +kernel
theorem dX9_leastBy_42 : decode cX9_leastBy 42 = .ok (.ireturn, 1) := by decide +kernel
theorem dX9_least_0 : decode cX9_least 0 = .ok (.aload_n 0, 1) := by decide +kernel
theorem dX9_least_1 : decode cX9_least 1 = .ok (.iload_n 2, 1) := by decide +kernel
theorem dX9_least_2 : decode cX9_least 2 = .ok (.iconst 1, 1) := by decide +kernel
theorem dX9_least_3 : decode cX9_least 3 = .ok (.bipush 100, 2) := by decide +kernel
theorem dX9_least_5 : decode cX9_least 5 = .ok (.invokestatic 142, 3) := by decide +kernel
theorem dX9_least_8 : decode cX9_least 8 = .ok (.ifCond .eq 16, 3) := by decide +kernel
theorem dX9_least_11 : decode cX9_least 11 = .ok (.iload_n 1, 1) := by decide +kernel
theorem dX9_least_12 : decode cX9_least 12 = .ok (.iconst 0, 1) := by decide +kernel
theorem dX9_least_13 : decode cX9_least 13 = .ok (.iload_n 2, 1) := by decide +kernel
theorem dX9_least_14 : decode cX9_least 14 = .ok (.invokestatic 142, 3) := by decide +kernel
theorem dX9_least_17 : decode cX9_least 17 = .ok (.ifCond .eq 7, 3) := by decide +kernel
theorem dX9_least_20 : decode cX9_least 20 = .ok (.iconst 0, 1) := by decide +kernel
theorem dX9_least_21 : decode cX9_least 21 = .ok (.goto 4, 3) := by decide +kernel
theorem dX9_least_24 : decode cX9_least 24 = .ok (.iconst 1, 1) := by decide +kernel
theorem dX9_least_25 : decode cX9_least 25 = .ok (.putfield 103, 3) := by decide +kernel
theorem dX9_least_28 : decode cX9_least 28 = .ok (.aload_n 0, 1) := by decide +kernel
theorem dX9_least_29 : decode cX9_least 29 = .ok (.getfield 103, 3) := by decide +kernel
theorem dX9_least_32 : decode cX9_least 32 = .ok (.ifCond .le 7, 3) := by decide +kernel
theorem dX9_least_35 : decode cX9_least 35 = .ok (.iconst 0, 1) := by decide +kernel
theorem dX9_least_36 : decode cX9_least 36 = .ok (.goto 9, 3) := by decide +kernel
theorem dX9_least_39 : decode cX9_least 39 = .ok (.aload_n 0, 1) := by decide +kernel
theorem dX9_least_40 : decode cX9_least 40 = .ok (.iload_n 1, 1) := by decide +kernel
theorem dX9_least_41 : decode cX9_least 41 = .ok (.iload_n 2, 1) := by decide +kernel
theorem dX9_least_42 : decode cX9_least 42 = .ok (.invokevirtual 294, 3) := by decide +kernel
theorem dX9_least_45 : decode cX9_least 45 = .ok (.ireturn, 1) := by decide +kernel
theorem dX9_mean_0 : decode cX9_mean 0 = .ok (.aload_n 0, 1) := by decide +kernel
theorem dX9_mean_1 : decode cX9_mean 1 = .ok (.iconst 0, 1) := by decide +kernel
theorem dX9_mean_2 : decode cX9_mean 2 = .ok (.putfield 103, 3) := by decide +kernel
theorem dX9_mean_5 : decode cX9_mean 5 = .ok (.aload_n 0, 1) := by decide +kernel
theorem dX9_mean_6 : decode cX9_mean 6 = .ok (.invokevirtual 187, 3) := by decide +kernel
theorem dX9_mean_9 : decode cX9_mean 9 = .ok (.istore_n 2, 1) := by decide +kernel
theorem dX9_mean_10 : decode cX9_mean 10 = .ok (.aload_n 0, 1) := by decide +kernel
theorem dX9_mean_11 : decode cX9_mean 11 = .ok (.iload_n 2, 1) := by decide +kernel
theorem dX9_mean_12 : decode cX9_mean 12 = .ok (.invokevirtual 254, 3) := by decide +kernel
theorem dX9_mean_15 : decode cX9_mean 15 = .ok (.lconst 0, 1) := by decide +kernel
theorem dX9_mean_16 : decode cX9_mean 16 = .ok (.lcmp, 1) := by decide +kernel
theorem dX9_mean_17 : decode cX9_mean 17 = .ok (.ifCond .ne 7, 3) := by decide +kernel
theorem dX9_mean_20 : decode cX9_mean 20 = .ok (.ldc2_w 297, 3) := by decide +kernel
theorem dX9_mean_23 : decode cX9_mean 23 = .ok (.lreturn, 1) := by decide +kernel
theorem dX9_mean_24 : decode cX9_mean 24 = .ok (.lconst 0, 1) := by decide +kernel
theorem dX9_mean_25 : decode cX9_mean 25 = .ok (.lstore_n 3, 1) := by decide +kernel
theorem dX9_mean_26 : decode cX9_mean 26 = .ok (.lconst 1, 1) := by decide +kernel
theorem dX9_mean_27 : decode cX9_mean 27 = .ok (.lstore 5, 2) := by decide +kernel
theorem dX9_mean_29 : decode cX9_mean 29 = .ok (.iconst 0, 1) := by decide +kernel
theorem dX9_mean_30 : decode cX9_mean 30 = .ok (.istore 7, 2) := by decide +kernel
theorem dX9_mean_32 : decode cX9_mean 32 = .ok (.iload 7, 2) := by decide +kernel
theorem dX9_mean_34 : decode cX9_mean 34 = .ok (.iload_n 2, 1) := by decide +kernel
theorem dX9_mean_35 : decode cX9_mean 35 = .ok (.if_icmp .ge 107, 3) := by decide +kernel
theorem dX9_mean_38 : decode cX9_mean 38 = .ok (.iload_n 2, 1) := by decide +kernel
theorem dX9_mean_39 : decode cX9_mean 39 = .ok (.iload 7, 2) := by decide +kernel
theorem dX9_mean_41 : decode cX9_mean 41 = .ok (.invokestatic 250, 3) := by decide +kernel
theorem dX9_mean_44 : decode cX9_mean 44 = .ok (.lstore 8, 2) := by decide +kernel
theorem dX9_mean_46 : decode cX9_mean 46 = .ok (.lload 8, 2) := by decide +kernel
theorem dX9_mean_48 : decode cX9_mean 48 = .ok (.aload_n 0, 1) := by decide +kernel
theorem dX9_mean_49 : decode cX9_mean 49 = .ok (.iload 7, 2) := by decide +kernel
theorem dX9_mean_51 : decode cX9_mean 51 = .ok (.invokevirtual 254, 3) := by decide +kernel
theorem dX9_mean_54 : decode cX9_mean 54 = .ok (.lsub, 1) := by decide +kernel
theorem dX9_mean_55 : decode cX9_mean 55 = .ok (.lstore 10, 2) := by decide +kernel
theorem dX9_mean_57 : decode cX9_mean 57 = .ok (.lload 8, 2) := by decide +kernel
theorem dX9_mean_59 : decode cX9_mean 59 = .ok (.lload 10, 2) := by decide +kernel
theorem dX9_mean_61 : decode cX9_mean 61 = .ok (.invokestatic 273, 3) := by decide +kernel
theorem dX9_mean_64 : decode cX9_mean 64 = .ok (.lstore 12, 2) := by decide +kernel
theorem dX9_mean_66 : decode cX9_mean 66 = .ok (.lload 10, 2) := by decide +kernel
theorem dX9_mean_68 : decode cX9_mean 68 = .ok (.lload 12, 2) := by decide +kernel
theorem dX9_mean_70 : decode cX9_mean 70 = .ok (.ldiv, 1) := by decide +kernel
theorem dX9_mean_71 : decode cX9_mean 71 = .ok (.lstore 10, 2) := by decide +kernel
theorem dX9_mean_73 : decode cX9_mean 73 = .ok (.lload 8, 2) := by decide +kernel
theorem dX9_mean_75 : decode cX9_mean 75 = .ok (.lload 12, 2) := by decide +kernel
theorem dX9_mean_77 : decode cX9_mean 77 = .ok (.ldiv, 1) := by decide +kernel
theorem dX9_mean_78 : decode cX9_mean 78 = .ok (.lstore 8, 2) := by decide +kernel
theorem dX9_mean_80 : decode cX9_mean 80 = .ok (.lload 5, 2) := by decide +kernel
theorem dX9_mean_82 : decode cX9_mean 82 = .ok (.lload 8, 2) := by decide +kernel
theorem dX9_mean_84 : decode cX9_mean 84 = .ok (.invokestatic 273, 3) := by decide +kernel
theorem dX9_mean_87 : decode cX9_mean 87 = .ok (.lstore 14, 2) := by decide +kernel
theorem dX9_mean_89 : decode cX9_mean 89 = .ok (.lload_n 3, 1) := by decide +kernel
theorem dX9_mean_90 : decode cX9_mean 90 = .ok (.lload 8, 2) := by decide +kernel
theorem dX9_mean_92 : decode cX9_mean 92 = .ok (.lload 14, 2) := by decide +kernel
theorem dX9_mean_94 : decode cX9_mean 94 = .ok (.ldiv, 1) := by decide +kernel
theorem dX9_mean_95 : decode cX9_mean 95 = .ok (.lmul, 1) := by decide +kernel
theorem dX9_mean_96 : decode cX9_mean 96 = .ok (.lload 10, 2) := by decide +kernel
theorem dX9_mean_98 : decode cX9_mean 98 = .ok (.lload 5, 2) := by decide +kernel
theorem dX9_mean_100 : decode cX9_mean 100 = .ok (.lload 14, 2) := by decide +kernel
theorem dX9_mean_102 : decode cX9_mean 102 = .ok (.ldiv, 1) := by decide +kernel
theorem dX9_mean_103 : decode cX9_mean 103 = .ok (.lmul, 1) := by decide +kernel
theorem dX9_mean_104 : decode cX9_mean 104 = .ok (.ladd, 1) := by decide +kernel
theorem dX9_mean_105 : decode cX9_mean 105 = .ok (.lstore_n 3, 1) := by decide +kernel
theorem dX9_mean_106 : decode cX9_mean 106 = .ok (.lload 5, 2) := by decide +kernel
theorem dX9_mean_108 : decode cX9_mean 108 = .ok (.lload 14, 2) := by decide +kernel
theorem dX9_mean_110 : decode cX9_mean 110 = .ok (.ldiv, 1) := by decide +kernel
theorem dX9_mean_111 : decode cX9_mean 111 = .ok (.lload 8, 2) := by decide +kernel
theorem dX9_mean_113 : decode cX9_mean 113 = .ok (.lmul, 1) := by decide +kernel
theorem dX9_mean_114 : decode cX9_mean 114 = .ok (.lstore 5, 2) := by decide +kernel
theorem dX9_mean_116 : decode cX9_mean 116 = .ok (.lload 5, 2) := by decide +kernel
theorem dX9_mean_118 : decode cX9_mean 118 = .ok (.lload_n 3, 1) := by decide +kernel
theorem dX9_mean_119 : decode cX9_mean 119 = .ok (.invokestatic 273, 3) := by decide +kernel
theorem dX9_mean_122 : decode cX9_mean 122 = .ok (.lstore 12, 2) := by decide +kernel
theorem dX9_mean_124 : decode cX9_mean 124 = .ok (.lload_n 3, 1) := by decide +kernel
theorem dX9_mean_125 : decode cX9_mean 125 = .ok (.lload 12, 2) := by decide +kernel
theorem dX9_mean_127 : decode cX9_mean 127 = .ok (.ldiv, 1) := by decide +kernel
theorem dX9_mean_128 : decode cX9_mean 128 = .ok (.lstore_n 3, 1) := by decide +kernel
theorem dX9_mean_129 : decode cX9_mean 129 = .ok (.lload 5, 2) := by decide +kernel
theorem dX9_mean_131 : decode cX9_mean 131 = .ok (.lload 12, 2) := by decide +kernel
theorem dX9_mean_133 : decode cX9_mean 133 = .ok (.ldiv, 1) := by decide +kernel
theorem dX9_mean_134 : decode cX9_mean 134 = .ok (.lstore 5, 2) := by decide +kernel
theorem dX9_mean_136 : decode cX9_mean 136 = .ok (.iinc 7 1, 3) := by decide +kernel
theorem dX9_mean_139 : decode cX9_mean 139 = .ok (.goto (-107), 3) := by decide +kernel
theorem dX9_mean_142 : decode cX9_mean 142 = .ok (.iload_n 1, 1) := by decide +kernel
theorem dX9_mean_143 : decode cX9_mean 143 = .ok (.ifCond .eq 8, 3) := by decide +kernel
theorem dX9_mean_146 : decode cX9_mean 146 = .ok (.lload 5, 2) := by decide +kernel
theorem dX9_mean_148 : decode cX9_mean 148 = .ok (.goto 4, 3) := by decide +kernel
theorem dX9_mean_151 : decode cX9_mean 151 = .ok (.lload_n 3, 1) := by decide +kernel
theorem dX9_mean_152 : decode cX9_mean 152 = .ok (.lreturn, 1) := by decide +kernel
theorem dX9_half_0 : decode cX9_half 0 = .ok (.aload_n 0, 1) := by decide +kernel
theorem dX9_half_1 : decode cX9_half 1 = .ok (.iconst 0, 1) := by decide +kernel
theorem dX9_half_2 : decode cX9_half 2 = .ok (.putfield 103, 3) := by decide +kernel
theorem dX9_half_5 : decode cX9_half 5 = .ok (.aload_n 0, 1) := by decide +kernel
theorem dX9_half_6 : decode cX9_half 6 = .ok (.iconst 1, 1) := by decide +kernel
theorem dX9_half_7 : decode cX9_half 7 = .ok (.iconst 2, 1) := by decide +kernel
theorem dX9_half_8 : decode cX9_half 8 = .ok (.invokevirtual 294, 3) := by decide +kernel
theorem dX9_half_11 : decode cX9_half 11 = .ok (.ireturn, 1) := by decide +kernel
theorem dX9_laysDecides_0 : decode cX9_laysDecides 0 = .ok (.iconst 0, 1) := by decide +kernel
theorem dX9_laysDecides_1 : decode cX9_laysDecides 1 = .ok (.istore_n 2, 1) := by decide +kernel
theorem dX9_laysDecides_2 : decode cX9_laysDecides 2 = .ok (.iload_n 2, 1) := by decide +kernel
theorem dX9_laysDecides_3 : decode cX9_laysDecides 3 = .ok (.iconst 2, 1) := by decide +kernel
theorem dX9_laysDecides_4 : decode cX9_laysDecides 4 = .ok (.if_icmp .ge 73, 3) := by decide +kernel
theorem dX9_laysDecides_7 : decode cX9_laysDecides 7 = .ok (.aload_n 0, 1) := by decide +kernel
theorem dX9_laysDecides_8 : decode cX9_laysDecides 8 = .ok (.getfield 33, 3) := by decide +kernel
theorem dX9_laysDecides_11 : decode cX9_laysDecides 11 = .ok (.iload_n 1, 1) := by decide +kernel
theorem dX9_laysDecides_12 : decode cX9_laysDecides 12 = .ok (.iload_n 2, 1) := by decide +kernel
theorem dX9_laysDecides_13 : decode cX9_laysDecides 13 = .ok (.ifCond .ne 7, 3) := by decide +kernel
theorem dX9_laysDecides_16 : decode cX9_laysDecides 16 = .ok (.iconst 1, 1) := by decide +kernel
theorem dX9_laysDecides_17 : decode cX9_laysDecides 17 = .ok (.goto 4, 3) := by decide +kernel
theorem dX9_laysDecides_20 : decode cX9_laysDecides 20 = .ok (.iconst 2, 1) := by decide +kernel
theorem dX9_laysDecides_21 : decode cX9_laysDecides 21 = .ok (.iastore, 1) := by decide +kernel
theorem dX9_laysDecides_22 : decode cX9_laysDecides 22 = .ok (.aload_n 0, 1) := by decide +kernel
theorem dX9_laysDecides_23 : decode cX9_laysDecides 23 = .ok (.iconst 0, 1) := by decide +kernel
theorem dX9_laysDecides_24 : decode cX9_laysDecides 24 = .ok (.putfield 99, 3) := by decide +kernel
theorem dX9_laysDecides_27 : decode cX9_laysDecides 27 = .ok (.iconst 0, 1) := by decide +kernel
theorem dX9_laysDecides_28 : decode cX9_laysDecides 28 = .ok (.istore_n 3, 1) := by decide +kernel
theorem dX9_laysDecides_29 : decode cX9_laysDecides 29 = .ok (.iload_n 3, 1) := by decide +kernel
theorem dX9_laysDecides_30 : decode cX9_laysDecides 30 = .ok (.bipush 25, 2) := by decide +kernel
theorem dX9_laysDecides_32 : decode cX9_laysDecides 32 = .ok (.if_icmp .ge 39, 3) := by decide +kernel
theorem dX9_laysDecides_35 : decode cX9_laysDecides 35 = .ok (.aload_n 0, 1) := by decide +kernel
theorem dX9_laysDecides_36 : decode cX9_laysDecides 36 = .ok (.getfield 84, 3) := by decide +kernel
theorem dX9_laysDecides_39 : decode cX9_laysDecides 39 = .ok (.iload_n 3, 1) := by decide +kernel
theorem dX9_laysDecides_40 : decode cX9_laysDecides 40 = .ok (.iload_n 2, 1) := by decide +kernel
theorem dX9_laysDecides_41 : decode cX9_laysDecides 41 = .ok (.ifCond .ne 11, 3) := by decide +kernel
theorem dX9_laysDecides_44 : decode cX9_laysDecides 44 = .ok (.aload_n 0, 1) := by decide +kernel
theorem dX9_laysDecides_45 : decode cX9_laysDecides 45 = .ok (.iload_n 3, 1) := by decide +kernel
theorem dX9_laysDecides_46 : decode cX9_laysDecides 46 = .ok (.invokevirtual 254, 3) := by decide +kernel
theorem dX9_laysDecides_49 : decode cX9_laysDecides 49 = .ok (.goto 15, 3) := by decide +kernel
theorem dX9_laysDecides_52 : decode cX9_laysDecides 52 = .ok (.aload_n 0, 1) := by decide +kernel
theorem dX9_laysDecides_53 : decode cX9_laysDecides 53 = .ok (.getfield 84, 3) := by decide +kernel
theorem dX9_laysDecides_56 : decode cX9_laysDecides 56 = .ok (.iload_n 3, 1) := by decide +kernel
theorem dX9_laysDecides_57 : decode cX9_laysDecides 57 = .ok (.laload, 1) := by decide +kernel
theorem dX9_laysDecides_58 : decode cX9_laysDecides 58 = .ok (.aload_n 0, 1) := by decide +kernel
theorem dX9_laysDecides_59 : decode cX9_laysDecides 59 = .ok (.iload_n 3, 1) := by decide +kernel
theorem dX9_laysDecides_60 : decode cX9_laysDecides 60 = .ok (.invokevirtual 254, 3) := by decide +kernel
theorem dX9_laysDecides_63 : decode cX9_laysDecides 63 = .ok (.lsub, 1) := by decide +kernel
theorem dX9_laysDecides_64 : decode cX9_laysDecides 64 = .ok (.lastore, 1) := by decide +kernel
theorem dX9_laysDecides_65 : decode cX9_laysDecides 65 = .ok (.iinc 3 1, 3) := by decide +kernel
theorem dX9_laysDecides_68 : decode cX9_laysDecides 68 = .ok (.goto (-39), 3) := by decide +kernel
theorem dX9_laysDecides_71 : decode cX9_laysDecides 71 = .ok (.iinc 2 1, 3) := by decide +kernel
theorem dX9_laysDecides_74 : decode cX9_laysDecides 74 = .ok (.goto (-72), 3) := by decide +kernel
theorem dX9_laysDecides_77 : decode cX9_laysDecides 77 = .ok (.aload_n 0, 1) := by decide +kernel
theorem dX9_laysDecides_78 : decode cX9_laysDecides 78 = .ok (.getfield 33, 3) := by decide +kernel
theorem dX9_laysDecides_81 : decode cX9_laysDecides 81 = .ok (.iload_n 1, 1) := by decide +kernel
theorem dX9_laysDecides_82 : decode cX9_laysDecides 82 = .ok (.iconst 0, 1) := by decide +kernel
theorem dX9_laysDecides_83 : decode cX9_laysDecides 83 = .ok (.iastore, 1) := by decide +kernel
theorem dX9_laysDecides_84 : decode cX9_laysDecides 84 = .ok (.aload_n 0, 1) := by decide +kernel
theorem dX9_laysDecides_85 : decode cX9_laysDecides 85 = .ok (.iconst 0, 1) := by decide +kernel
theorem dX9_laysDecides_86 : decode cX9_laysDecides 86 = .ok (.putfield 99, 3) := by decide +kernel
theorem dX9_laysDecides_89 : decode cX9_laysDecides 89 = .ok (.return_, 1) := by decide +kernel
theorem dX9_decides_0 : decode cX9_decides 0 = .ok (.aload_n 0, 1) := by decide +kernel
theorem dX9_decides_1 : decode cX9_decides 1 = .ok (.iload_n 1, 1) := by decide +kernel
theorem dX9_decides_2 : decode cX9_decides 2 = .ok (.iload_n 2, 1) := by decide +kernel
theorem dX9_decides_3 : decode cX9_decides 3 = .ok (.iload_n 3, 1) := by decide +kernel
theorem dX9_decides_4 : decode cX9_decides 4 = .ok (.invokevirtual 211, 3) := by decide +kernel
theorem dX9_decides_7 : decode cX9_decides 7 = .ok (.istore 5, 2) := by decide +kernel
theorem dX9_decides_9 : decode cX9_decides 9 = .ok (.aload_n 0, 1) := by decide +kernel
theorem dX9_decides_10 : decode cX9_decides 10 = .ok (.iload 5, 2) := by decide +kernel
theorem dX9_decides_12 : decode cX9_decides 12 = .ok (.iconst (-1), 1) := by decide +kernel
theorem dX9_decides_13 : decode cX9_decides 13 = .ok (.if_icmp .ne 7, 3) := by decide +kernel
theorem dX9_decides_16 : decode cX9_decides 16 = .ok (.iconst 1, 1) := by decide +kernel
theorem dX9_decides_17 : decode cX9_decides 17 = .ok (.goto 17, 3) := by decide +kernel
theorem dX9_decides_20 : decode cX9_decides 20 = .ok (.aload_n 0, 1) := by decide +kernel
theorem dX9_decides_21 : decode cX9_decides 21 = .ok (.iload 5, 2) := by decide +kernel
theorem dX9_decides_23 : decode cX9_decides 23 = .ok (.invokevirtual 215, 3) := by decide +kernel
theorem dX9_decides_26 : decode cX9_decides 26 = .ok (.ifCond .eq 7, 3) := by decide +kernel
theorem dX9_decides_29 : decode cX9_decides 29 = .ok (.iconst 2, 1) := by decide +kernel
theorem dX9_decides_30 : decode cX9_decides 30 = .ok (.goto 4, 3) := by decide +kernel
theorem dX9_decides_33 : decode cX9_decides 33 = .ok (.iconst 0, 1) := by decide +kernel
theorem dX9_decides_34 : decode cX9_decides 34 = .ok (.putfield 103, 3) := by decide +kernel
theorem dX9_decides_37 : decode cX9_decides 37 = .ok (.aload_n 0, 1) := by decide +kernel
theorem dX9_decides_38 : decode cX9_decides 38 = .ok (.getfield 103, 3) := by decide +kernel
theorem dX9_decides_41 : decode cX9_decides 41 = .ok (.ifCond .le 5, 3) := by decide +kernel
theorem dX9_decides_44 : decode cX9_decides 44 = .ok (.lconst 0, 1) := by decide +kernel
theorem dX9_decides_45 : decode cX9_decides 45 = .ok (.lreturn, 1) := by decide +kernel
theorem dX9_decides_46 : decode cX9_decides 46 = .ok (.aload_n 0, 1) := by decide +kernel
theorem dX9_decides_47 : decode cX9_decides 47 = .ok (.iload 5, 2) := by decide +kernel
theorem dX9_decides_49 : decode cX9_decides 49 = .ok (.invokevirtual 299, 3) := by decide +kernel
theorem dX9_decides_52 : decode cX9_decides 52 = .ok (.iload 4, 2) := by decide +kernel
theorem dX9_decides_54 : decode cX9_decides 54 = .ok (.iconst 0, 1) := by decide +kernel
theorem dX9_decides_55 : decode cX9_decides 55 = .ok (.bipush 24, 2) := by decide +kernel
theorem dX9_decides_57 : decode cX9_decides 57 = .ok (.invokestatic 142, 3) := by decide +kernel
theorem dX9_decides_60 : decode cX9_decides 60 = .ok (.ifCond .eq 13, 3) := by decide +kernel
theorem dX9_decides_63 : decode cX9_decides 63 = .ok (.aload_n 0, 1) := by decide +kernel
theorem dX9_decides_64 : decode cX9_decides 64 = .ok (.getfield 84, 3) := by decide +kernel
theorem dX9_decides_67 : decode cX9_decides 67 = .ok (.iload 4, 2) := by decide +kernel
theorem dX9_decides_69 : decode cX9_decides 69 = .ok (.laload, 1) := by decide +kernel
theorem dX9_decides_70 : decode cX9_decides 70 = .ok (.goto 4, 3) := by decide +kernel
theorem dX9_decides_73 : decode cX9_decides 73 = .ok (.lconst 0, 1) := by decide +kernel
theorem dX9_decides_74 : decode cX9_decides 74 = .ok (.lreturn, 1) := by decide +kernel
theorem dX9_chanceOf_0 : decode cX9_chanceOf 0 = .ok (.aload_n 0, 1) := by decide +kernel
theorem dX9_chanceOf_1 : decode cX9_chanceOf 1 = .ok (.invokevirtual 187, 3) := by decide +kernel
theorem dX9_chanceOf_4 : decode cX9_chanceOf 4 = .ok (.iconst 1, 1) := by decide +kernel
theorem dX9_chanceOf_5 : decode cX9_chanceOf 5 = .ok (.isub, 1) := by decide +kernel
theorem dX9_chanceOf_6 : decode cX9_chanceOf 6 = .ok (.istore 4, 2) := by decide +kernel
theorem dX9_chanceOf_8 : decode cX9_chanceOf 8 = .ok (.aload_n 0, 1) := by decide +kernel
theorem dX9_chanceOf_9 : decode cX9_chanceOf 9 = .ok (.iload_n 1, 1) := by decide +kernel
theorem dX9_chanceOf_10 : decode cX9_chanceOf 10 = .ok (.invokevirtual 299, 3) := by decide +kernel
theorem dX9_chanceOf_13 : decode cX9_chanceOf 13 = .ok (.lconst 0, 1) := by decide +kernel
theorem dX9_chanceOf_14 : decode cX9_chanceOf 14 = .ok (.lstore 5, 2) := by decide +kernel
theorem dX9_chanceOf_16 : decode cX9_chanceOf 16 = .ok (.iconst 0, 1) := by decide +kernel
theorem dX9_chanceOf_17 : decode cX9_chanceOf 17 = .ok (.istore 7, 2) := by decide +kernel
theorem dX9_chanceOf_19 : decode cX9_chanceOf 19 = .ok (.iload 7, 2) := by decide +kernel
theorem dX9_chanceOf_21 : decode cX9_chanceOf 21 = .ok (.iload 4, 2) := by decide +kernel
theorem dX9_chanceOf_23 : decode cX9_chanceOf 23 = .ok (.if_icmp .gt 42, 3) := by decide +kernel
theorem dX9_chanceOf_26 : decode cX9_chanceOf 26 = .ok (.lload 5, 2) := by decide +kernel
theorem dX9_chanceOf_28 : decode cX9_chanceOf 28 = .ok (.aload_n 0, 1) := by decide +kernel
theorem dX9_chanceOf_29 : decode cX9_chanceOf 29 = .ok (.getfield 84, 3) := by decide +kernel
theorem dX9_chanceOf_32 : decode cX9_chanceOf 32 = .ok (.iload 7, 2) := by decide +kernel
theorem dX9_chanceOf_34 : decode cX9_chanceOf 34 = .ok (.laload, 1) := by decide +kernel
theorem dX9_chanceOf_35 : decode cX9_chanceOf 35 = .ok (.iload_n 2, 1) := by decide +kernel
theorem dX9_chanceOf_36 : decode cX9_chanceOf 36 = .ok (.i2l, 1) := by decide +kernel
theorem dX9_chanceOf_37 : decode cX9_chanceOf 37 = .ok (.iload 7, 2) := by decide +kernel
theorem dX9_chanceOf_39 : decode cX9_chanceOf 39 = .ok (.invokestatic 277, 3) := by decide +kernel
theorem dX9_chanceOf_42 : decode cX9_chanceOf 42 = .ok (.lmul, 1) := by decide +kernel
theorem dX9_chanceOf_43 : decode cX9_chanceOf 43 = .ok (.iload_n 3, 1) := by decide +kernel
theorem dX9_chanceOf_44 : decode cX9_chanceOf 44 = .ok (.iload_n 2, 1) := by decide +kernel
theorem dX9_chanceOf_45 : decode cX9_chanceOf 45 = .ok (.isub, 1) := by decide +kernel
theorem dX9_chanceOf_46 : decode cX9_chanceOf 46 = .ok (.i2l, 1) := by decide +kernel
theorem dX9_chanceOf_47 : decode cX9_chanceOf 47 = .ok (.iload 4, 2) := by decide +kernel
theorem dX9_chanceOf_49 : decode cX9_chanceOf 49 = .ok (.iload 7, 2) := by decide +kernel
theorem dX9_chanceOf_51 : decode cX9_chanceOf 51 = .ok (.isub, 1) := by decide +kernel
theorem dX9_chanceOf_52 : decode cX9_chanceOf 52 = .ok (.invokestatic 277, 3) := by decide +kernel
theorem dX9_chanceOf_55 : decode cX9_chanceOf 55 = .ok (.lmul, 1) := by decide +kernel
theorem dX9_chanceOf_56 : decode cX9_chanceOf 56 = .ok (.ladd, 1) := by decide +kernel
theorem dX9_chanceOf_57 : decode cX9_chanceOf 57 = .ok (.lstore 5, 2) := by decide +kernel
theorem dX9_chanceOf_59 : decode cX9_chanceOf 59 = .ok (.iinc 7 1, 3) := by decide +kernel
theorem dX9_chanceOf_62 : decode cX9_chanceOf 62 = .ok (.goto (-43), 3) := by decide +kernel
theorem dX9_chanceOf_65 : decode cX9_chanceOf 65 = .ok (.lload 5, 2) := by decide +kernel
theorem dX9_chanceOf_67 : decode cX9_chanceOf 67 = .ok (.lreturn, 1) := by decide +kernel
theorem dX9_leader_0 : decode cX9_leader 0 = .ok (.aload_n 0, 1) := by decide +kernel
theorem dX9_leader_1 : decode cX9_leader 1 = .ok (.iload_n 1, 1) := by decide +kernel
theorem dX9_leader_2 : decode cX9_leader 2 = .ok (.iload_n 2, 1) := by decide +kernel
theorem dX9_leader_3 : decode cX9_leader 3 = .ok (.invokestatic 281, 3) := by decide +kernel
theorem dX9_leader_6 : decode cX9_leader 6 = .ok (.ifCond .eq 7, 3) := by decide +kernel
theorem dX9_leader_9 : decode cX9_leader 9 = .ok (.iconst 0, 1) := by decide +kernel
theorem dX9_leader_10 : decode cX9_leader 10 = .ok (.goto 4, 3) := by decide +kernel
theorem dX9_leader_13 : decode cX9_leader 13 = .ok (.iconst 1, 1) := by decide +kernel
theorem dX9_leader_14 : decode cX9_leader 14 = .ok (.putfield 103, 3) := by decide +kernel
theorem dX9_leader_17 : decode cX9_leader 17 = .ok (.aload_n 0, 1) := by decide +kernel
theorem dX9_leader_18 : decode cX9_leader 18 = .ok (.getfield 103, 3) := by decide +kernel
theorem dX9_leader_21 : decode cX9_leader 21 = .ok (.ifCond .le 5, 3) := by decide +kernel
theorem dX9_leader_24 : decode cX9_leader 24 = .ok (.iconst 0, 1) := by decide +kernel
theorem dX9_leader_25 : decode cX9_leader 25 = .ok (.ireturn, 1) := by decide +kernel
theorem dX9_leader_26 : decode cX9_leader 26 = .ok (.iconst (-1), 1) := by decide +kernel
theorem dX9_leader_27 : decode cX9_leader 27 = .ok (.istore_n 3, 1) := by decide +kernel
theorem dX9_leader_28 : decode cX9_leader 28 = .ok (.ldc2_w 297, 3) := by decide +kernel
theorem dX9_leader_31 : decode cX9_leader 31 = .ok (.lstore 4, 2) := by decide +kernel
theorem dX9_leader_33 : decode cX9_leader 33 = .ok (.iconst 0, 1) := by decide +kernel
theorem dX9_leader_34 : decode cX9_leader 34 = .ok (.istore 6, 2) := by decide +kernel
theorem dX9_leader_36 : decode cX9_leader 36 = .ok (.iload 6, 2) := by decide +kernel
theorem dX9_leader_38 : decode cX9_leader 38 = .ok (.bipush 50, 2) := by decide +kernel
theorem dX9_leader_40 : decode cX9_leader 40 = .ok (.if_icmp .ge 58, 3) := by decide +kernel
theorem dX9_leader_43 : decode cX9_leader 43 = .ok (.aload_n 0, 1) := by decide +kernel
theorem dX9_leader_44 : decode cX9_leader 44 = .ok (.iload 6, 2) := by decide +kernel
theorem dX9_leader_46 : decode cX9_leader 46 = .ok (.invokevirtual 208, 3) := by decide +kernel
theorem dX9_leader_49 : decode cX9_leader 49 = .ok (.ifCond .eq 43, 3) := by decide +kernel
theorem dX9_leader_52 : decode cX9_leader 52 = .ok (.aload_n 0, 1) := by decide +kernel
theorem dX9_leader_53 : decode cX9_leader 53 = .ok (.iload 6, 2) := by decide +kernel
theorem dX9_leader_55 : decode cX9_leader 55 = .ok (.invokevirtual 215, 3) := by decide +kernel
theorem dX9_leader_58 : decode cX9_leader 58 = .ok (.ifCond .eq 6, 3) := by decide +kernel
theorem dX9_leader_61 : decode cX9_leader 61 = .ok (.goto 31, 3) := by decide +kernel
theorem dX9_leader_64 : decode cX9_leader 64 = .ok (.aload_n 0, 1) := by decide +kernel
theorem dX9_leader_65 : decode cX9_leader 65 = .ok (.iload 6, 2) := by decide +kernel
theorem dX9_leader_67 : decode cX9_leader 67 = .ok (.iload_n 1, 1) := by decide +kernel
theorem dX9_leader_68 : decode cX9_leader 68 = .ok (.iload_n 2, 1) := by decide +kernel
theorem dX9_leader_69 : decode cX9_leader 69 = .ok (.invokevirtual 302, 3) := by decide +kernel
theorem dX9_leader_72 : decode cX9_leader 72 = .ok (.lstore 7, 2) := by decide +kernel
theorem dX9_leader_74 : decode cX9_leader 74 = .ok (.lload 7, 2) := by decide +kernel
theorem dX9_leader_76 : decode cX9_leader 76 = .ok (.lload 4, 2) := by decide +kernel
theorem dX9_leader_78 : decode cX9_leader 78 = .ok (.lcmp, 1) := by decide +kernel
theorem dX9_leader_79 : decode cX9_leader 79 = .ok (.ifCond .gt 6, 3) := by decide +kernel
theorem dX9_leader_82 : decode cX9_leader 82 = .ok (.goto 10, 3) := by decide +kernel
theorem dX9_leader_85 : decode cX9_leader 85 = .ok (.lload 7, 2) := by decide +kernel
theorem dX9_leader_87 : decode cX9_leader 87 = .ok (.lstore 4, 2) := by decide +kernel
theorem dX9_leader_89 : decode cX9_leader 89 = .ok (.iload 6, 2) := by decide +kernel
theorem dX9_leader_91 : decode cX9_leader 91 = .ok (.istore_n 3, 1) := by decide +kernel
theorem dX9_leader_92 : decode cX9_leader 92 = .ok (.iinc 6 1, 3) := by decide +kernel
theorem dX9_leader_95 : decode cX9_leader 95 = .ok (.goto (-59), 3) := by decide +kernel
theorem dX9_leader_98 : decode cX9_leader 98 = .ok (.iload_n 3, 1) := by decide +kernel
theorem dX9_leader_99 : decode cX9_leader 99 = .ok (.ireturn, 1) := by decide +kernel
theorem dX9_rank_0 : decode cX9_rank 0 = .ok (.aload_n 0, 1) := by decide +kernel
theorem dX9_rank_1 : decode cX9_rank 1 = .ok (.iload_n 1, 1) := by decide +kernel
theorem dX9_rank_2 : decode cX9_rank 2 = .ok (.iload_n 2, 1) := by decide +kernel
theorem dX9_rank_3 : decode cX9_rank 3 = .ok (.iload_n 3, 1) := by decide +kernel
theorem dX9_rank_4 : decode cX9_rank 4 = .ok (.invokevirtual 211, 3) := by decide +kernel
theorem dX9_rank_7 : decode cX9_rank 7 = .ok (.istore 6, 2) := by decide +kernel
theorem dX9_rank_9 : decode cX9_rank 9 = .ok (.aload_n 0, 1) := by decide +kernel
theorem dX9_rank_10 : decode cX9_rank 10 = .ok (.iload 6, 2) := by decide +kernel
theorem dX9_rank_12 : decode cX9_rank 12 = .ok (.iconst (-1), 1) := by decide +kernel
theorem dX9_rank_13 : decode cX9_rank 13 = .ok (.if_icmp .ne 7, 3) := by decide +kernel
theorem dX9_rank_16 : decode cX9_rank 16 = .ok (.iconst 1, 1) := by decide +kernel
theorem dX9_rank_17 : decode cX9_rank 17 = .ok (.goto 31, 3) := by decide +kernel
theorem dX9_rank_20 : decode cX9_rank 20 = .ok (.iload 4, 2) := by decide +kernel
theorem dX9_rank_22 : decode cX9_rank 22 = .ok (.iload 5, 2) := by decide +kernel
theorem dX9_rank_24 : decode cX9_rank 24 = .ok (.invokestatic 281, 3) := by decide +kernel
theorem dX9_rank_27 : decode cX9_rank 27 = .ok (.ifCond .ne 7, 3) := by decide +kernel
theorem dX9_rank_30 : decode cX9_rank 30 = .ok (.iconst 2, 1) := by decide +kernel
theorem dX9_rank_31 : decode cX9_rank 31 = .ok (.goto 17, 3) := by decide +kernel
theorem dX9_rank_34 : decode cX9_rank 34 = .ok (.aload_n 0, 1) := by decide +kernel
theorem dX9_rank_35 : decode cX9_rank 35 = .ok (.iload 6, 2) := by decide +kernel
theorem dX9_rank_37 : decode cX9_rank 37 = .ok (.invokevirtual 215, 3) := by decide +kernel
theorem dX9_rank_40 : decode cX9_rank 40 = .ok (.ifCond .eq 7, 3) := by decide +kernel
theorem dX9_rank_43 : decode cX9_rank 43 = .ok (.iconst 3, 1) := by decide +kernel
theorem dX9_rank_44 : decode cX9_rank 44 = .ok (.goto 4, 3) := by decide +kernel
theorem dX9_rank_47 : decode cX9_rank 47 = .ok (.iconst 0, 1) := by decide +kernel
theorem dX9_rank_48 : decode cX9_rank 48 = .ok (.putfield 103, 3) := by decide +kernel
theorem dX9_rank_51 : decode cX9_rank 51 = .ok (.aload_n 0, 1) := by decide +kernel
theorem dX9_rank_52 : decode cX9_rank 52 = .ok (.getfield 103, 3) := by decide +kernel
theorem dX9_rank_55 : decode cX9_rank 55 = .ok (.ifCond .le 5, 3) := by decide +kernel
theorem dX9_rank_58 : decode cX9_rank 58 = .ok (.iconst 0, 1) := by decide +kernel
theorem dX9_rank_59 : decode cX9_rank 59 = .ok (.ireturn, 1) := by decide +kernel
theorem dX9_rank_60 : decode cX9_rank 60 = .ok (.aload_n 0, 1) := by decide +kernel
theorem dX9_rank_61 : decode cX9_rank 61 = .ok (.iload 6, 2) := by decide +kernel
theorem dX9_rank_63 : decode cX9_rank 63 = .ok (.iload 4, 2) := by decide +kernel
theorem dX9_rank_65 : decode cX9_rank 65 = .ok (.iload 5, 2) := by decide +kernel
theorem dX9_rank_67 : decode cX9_rank 67 = .ok (.invokevirtual 302, 3) := by decide +kernel
theorem dX9_rank_70 : decode cX9_rank 70 = .ok (.lstore 7, 2) := by decide +kernel
theorem dX9_rank_72 : decode cX9_rank 72 = .ok (.iconst 0, 1) := by decide +kernel
theorem dX9_rank_73 : decode cX9_rank 73 = .ok (.istore 9, 2) := by decide +kernel
theorem dX9_rank_75 : decode cX9_rank 75 = .ok (.iconst 0, 1) := by decide +kernel
theorem dX9_rank_76 : decode cX9_rank 76 = .ok (.istore 10, 2) := by decide +kernel
theorem dX9_rank_78 : decode cX9_rank 78 = .ok (.iload 10, 2) := by decide +kernel
theorem dX9_rank_80 : decode cX9_rank 80 = .ok (.bipush 50, 2) := by decide +kernel
theorem dX9_rank_82 : decode cX9_rank 82 = .ok (.if_icmp .ge 53, 3) := by decide +kernel
theorem dX9_rank_85 : decode cX9_rank 85 = .ok (.aload_n 0, 1) := by decide +kernel
theorem dX9_rank_86 : decode cX9_rank 86 = .ok (.iload 10, 2) := by decide +kernel
theorem dX9_rank_88 : decode cX9_rank 88 = .ok (.invokevirtual 208, 3) := by decide +kernel
theorem dX9_rank_91 : decode cX9_rank 91 = .ok (.ifCond .eq 38, 3) := by decide +kernel
theorem dX9_rank_94 : decode cX9_rank 94 = .ok (.aload_n 0, 1) := by decide +kernel
theorem dX9_rank_95 : decode cX9_rank 95 = .ok (.iload 10, 2) := by decide +kernel
theorem dX9_rank_97 : decode cX9_rank 97 = .ok (.invokevirtual 215, 3) := by decide +kernel
theorem dX9_rank_100 : decode cX9_rank 100 = .ok (.ifCond .ne 29, 3) := by decide +kernel
theorem dX9_rank_103 : decode cX9_rank 103 = .ok (.iload 9, 2) := by decide +kernel
theorem dX9_rank_105 : decode cX9_rank 105 = .ok (.aload_n 0, 1) := by decide +kernel
theorem dX9_rank_106 : decode cX9_rank 106 = .ok (.iload 10, 2) := by decide +kernel
theorem dX9_rank_108 : decode cX9_rank 108 = .ok (.iload 4, 2) := by decide +kernel
theorem dX9_rank_110 : decode cX9_rank 110 = .ok (.iload 5, 2) := by decide +kernel
theorem dX9_rank_112 : decode cX9_rank 112 = .ok (.invokevirtual 302, 3) := by decide +kernel
theorem dX9_rank_115 : decode cX9_rank 115 = .ok (.lload 7, 2) := by decide +kernel
theorem dX9_rank_117 : decode cX9_rank 117 = .ok (.lcmp, 1) := by decide +kernel
theorem dX9_rank_118 : decode cX9_rank 118 = .ok (.ifCond .le 7, 3) := by decide +kernel
theorem dX9_rank_121 : decode cX9_rank 121 = .ok (.iconst 1, 1) := by decide +kernel
theorem dX9_rank_122 : decode cX9_rank 122 = .ok (.goto 4, 3) := by decide +kernel
theorem dX9_rank_125 : decode cX9_rank 125 = .ok (.iconst 0, 1) := by decide +kernel
theorem dX9_rank_126 : decode cX9_rank 126 = .ok (.iadd, 1) := by decide +kernel
theorem dX9_rank_127 : decode cX9_rank 127 = .ok (.istore 9, 2) := by decide +kernel
theorem dX9_rank_129 : decode cX9_rank 129 = .ok (.iinc 10 1, 3) := by decide +kernel
theorem dX9_rank_132 : decode cX9_rank 132 = .ok (.goto (-54), 3) := by decide +kernel
theorem dX9_rank_135 : decode cX9_rank 135 = .ok (.iload 9, 2) := by decide +kernel
theorem dX9_rank_137 : decode cX9_rank 137 = .ok (.ireturn, 1) := by decide +kernel
theorem dX9_toOpen_0 : decode cX9_toOpen 0 = .ok (.aload_n 0, 1) := by decide +kernel
theorem dX9_toOpen_1 : decode cX9_toOpen 1 = .ok (.iconst 0, 1) := by decide +kernel
theorem dX9_toOpen_2 : decode cX9_toOpen 2 = .ok (.putfield 103, 3) := by decide +kernel
theorem dX9_toOpen_5 : decode cX9_toOpen 5 = .ok (.iconst 0, 1) := by decide +kernel
theorem dX9_toOpen_6 : decode cX9_toOpen 6 = .ok (.istore_n 1, 1) := by decide +kernel
theorem dX9_toOpen_7 : decode cX9_toOpen 7 = .ok (.iload_n 1, 1) := by decide +kernel
theorem dX9_toOpen_8 : decode cX9_toOpen 8 = .ok (.aload_n 0, 1) := by decide +kernel
theorem dX9_toOpen_9 : decode cX9_toOpen 9 = .ok (.invokevirtual 187, 3) := by decide +kernel
theorem dX9_toOpen_12 : decode cX9_toOpen 12 = .ok (.if_icmp .gt 21, 3) := by decide +kernel
theorem dX9_toOpen_15 : decode cX9_toOpen 15 = .ok (.aload_n 0, 1) := by decide +kernel
theorem dX9_toOpen_16 : decode cX9_toOpen 16 = .ok (.iload_n 1, 1) := by decide +kernel
theorem dX9_toOpen_17 : decode cX9_toOpen 17 = .ok (.invokevirtual 254, 3) := by decide +kernel
theorem dX9_toOpen_20 : decode cX9_toOpen 20 = .ok (.lconst 0, 1) := by decide +kernel
theorem dX9_toOpen_21 : decode cX9_toOpen 21 = .ok (.lcmp, 1) := by decide +kernel
theorem dX9_toOpen_22 : decode cX9_toOpen 22 = .ok (.ifCond .le 5, 3) := by decide +kernel
theorem dX9_toOpen_25 : decode cX9_toOpen 25 = .ok (.iload_n 1, 1) := by decide +kernel
theorem dX9_toOpen_26 : decode cX9_toOpen 26 = .ok (.ireturn, 1) := by decide +kernel
theorem dX9_toOpen_27 : decode cX9_toOpen 27 = .ok (.iinc 1 1, 3) := by decide +kernel
theorem dX9_toOpen_30 : decode cX9_toOpen 30 = .ok (.goto (-23), 3) := by decide +kernel
theorem dX9_toOpen_33 : decode cX9_toOpen 33 = .ok (.iconst (-1), 1) := by decide +kernel
theorem dX9_toOpen_34 : decode cX9_toOpen 34 = .ok (.ireturn, 1) := by decide +kernel
theorem dX9_toShut_0 : decode cX9_toShut 0 = .ok (.aload_n 0, 1) := by decide +kernel
theorem dX9_toShut_1 : decode cX9_toShut 1 = .ok (.iconst 0, 1) := by decide +kernel
theorem dX9_toShut_2 : decode cX9_toShut 2 = .ok (.putfield 103, 3) := by decide +kernel
theorem dX9_toShut_5 : decode cX9_toShut 5 = .ok (.aload_n 0, 1) := by decide +kernel
theorem dX9_toShut_6 : decode cX9_toShut 6 = .ok (.invokevirtual 187, 3) := by decide +kernel
theorem dX9_toShut_9 : decode cX9_toShut 9 = .ok (.istore_n 1, 1) := by decide +kernel
theorem dX9_toShut_10 : decode cX9_toShut 10 = .ok (.iconst 0, 1) := by decide +kernel
theorem dX9_toShut_11 : decode cX9_toShut 11 = .ok (.istore_n 2, 1) := by decide +kernel
theorem dX9_toShut_12 : decode cX9_toShut 12 = .ok (.iload_n 2, 1) := by decide +kernel
theorem dX9_toShut_13 : decode cX9_toShut 13 = .ok (.iload_n 1, 1) := by decide +kernel
theorem dX9_toShut_14 : decode cX9_toShut 14 = .ok (.if_icmp .gt 27, 3) := by decide +kernel
theorem dX9_toShut_17 : decode cX9_toShut 17 = .ok (.aload_n 0, 1) := by decide +kernel
theorem dX9_toShut_18 : decode cX9_toShut 18 = .ok (.iload_n 1, 1) := by decide +kernel
theorem dX9_toShut_19 : decode cX9_toShut 19 = .ok (.iload_n 2, 1) := by decide +kernel
theorem dX9_toShut_20 : decode cX9_toShut 20 = .ok (.isub, 1) := by decide +kernel
theorem dX9_toShut_21 : decode cX9_toShut 21 = .ok (.invokevirtual 254, 3) := by decide +kernel
theorem dX9_toShut_24 : decode cX9_toShut 24 = .ok (.iload_n 1, 1) := by decide +kernel
theorem dX9_toShut_25 : decode cX9_toShut 25 = .ok (.iload_n 2, 1) := by decide +kernel
theorem dX9_toShut_26 : decode cX9_toShut 26 = .ok (.invokestatic 250, 3) := by decide +kernel
theorem dX9_toShut_29 : decode cX9_toShut 29 = .ok (.lcmp, 1) := by decide +kernel
theorem dX9_toShut_30 : decode cX9_toShut 30 = .ok (.ifCond .ge 5, 3) := by decide +kernel
theorem dX9_toShut_33 : decode cX9_toShut 33 = .ok (.iload_n 2, 1) := by decide +kernel
theorem dX9_toShut_34 : decode cX9_toShut 34 = .ok (.ireturn, 1) := by decide +kernel
theorem dX9_toShut_35 : decode cX9_toShut 35 = .ok (.iinc 2 1, 3) := by decide +kernel
theorem dX9_toShut_38 : decode cX9_toShut 38 = .ok (.goto (-26), 3) := by decide +kernel
theorem dX9_toShut_41 : decode cX9_toShut 41 = .ok (.iconst (-1), 1) := by decide +kernel
theorem dX9_toShut_42 : decode cX9_toShut 42 = .ok (.ireturn, 1) := by decide +kernel
theorem dX9_laysWet_0 : decode cX9_laysWet 0 = .ok (.iconst 0, 1) := by decide +kernel
theorem dX9_laysWet_1 : decode cX9_laysWet 1 = .ok (.istore_n 1, 1) := by decide +kernel
theorem dX9_laysWet_2 : decode cX9_laysWet 2 = .ok (.iload_n 1, 1) := by decide +kernel
theorem dX9_laysWet_3 : decode cX9_laysWet 3 = .ok (.bipush 25, 2) := by decide +kernel
theorem dX9_laysWet_5 : decode cX9_laysWet 5 = .ok (.if_icmp .ge 37, 3) := by decide +kernel
theorem dX9_laysWet_8 : decode cX9_laysWet 8 = .ok (.aload_n 0, 1) := by decide +kernel
theorem dX9_laysWet_9 : decode cX9_laysWet 9 = .ok (.getfield 87, 3) := by decide +kernel
theorem dX9_laysWet_12 : decode cX9_laysWet 12 = .ok (.iload_n 1, 1) := by decide +kernel
theorem dX9_laysWet_13 : decode cX9_laysWet 13 = .ok (.iload_n 1, 1) := by decide +kernel
theorem dX9_laysWet_14 : decode cX9_laysWet 14 = .ok (.aload_n 0, 1) := by decide +kernel
theorem dX9_laysWet_15 : decode cX9_laysWet 15 = .ok (.getfield 27, 3) := by decide +kernel
theorem dX9_laysWet_18 : decode cX9_laysWet 18 = .ok (.if_icmp .ge 16, 3) := by decide +kernel
theorem dX9_laysWet_21 : decode cX9_laysWet 21 = .ok (.aload_n 0, 1) := by decide +kernel
theorem dX9_laysWet_22 : decode cX9_laysWet 22 = .ok (.getfield 36, 3) := by decide +kernel
theorem dX9_laysWet_25 : decode cX9_laysWet 25 = .ok (.iload_n 1, 1) := by decide +kernel
theorem dX9_laysWet_26 : decode cX9_laysWet 26 = .ok (.baload, 1) := by decide +kernel
theorem dX9_laysWet_27 : decode cX9_laysWet 27 = .ok (.ifCond .ne 7, 3) := by decide +kernel
theorem dX9_laysWet_30 : decode cX9_laysWet 30 = .ok (.iconst 1, 1) := by decide +kernel
theorem dX9_laysWet_31 : decode cX9_laysWet 31 = .ok (.goto 4, 3) := by decide +kernel
theorem dX9_laysWet_34 : decode cX9_laysWet 34 = .ok (.iconst 0, 1) := by decide +kernel
theorem dX9_laysWet_35 : decode cX9_laysWet 35 = .ok (.bastore, 1) := by decide +kernel
theorem dX9_laysWet_36 : decode cX9_laysWet 36 = .ok (.iinc 1 1, 3) := by decide +kernel
theorem dX9_laysWet_39 : decode cX9_laysWet 39 = .ok (.goto (-37), 3) := by decide +kernel
theorem dX9_laysWet_42 : decode cX9_laysWet 42 = .ok (.iconst 1, 1) := by decide +kernel
theorem dX9_laysWet_43 : decode cX9_laysWet 43 = .ok (.istore_n 1, 1) := by decide +kernel
theorem dX9_laysWet_44 : decode cX9_laysWet 44 = .ok (.iload_n 1, 1) := by decide +kernel
theorem dX9_laysWet_45 : decode cX9_laysWet 45 = .ok (.ifCond .eq 85, 3) := by decide +kernel
theorem dX9_laysWet_48 : decode cX9_laysWet 48 = .ok (.iconst 0, 1) := by decide +kernel
theorem dX9_laysWet_49 : decode cX9_laysWet 49 = .ok (.istore_n 1, 1) := by decide +kernel
theorem dX9_laysWet_50 : decode cX9_laysWet 50 = .ok (.iconst 0, 1) := by decide +kernel
theorem dX9_laysWet_51 : decode cX9_laysWet 51 = .ok (.istore_n 2, 1) := by decide +kernel
theorem dX9_laysWet_52 : decode cX9_laysWet 52 = .ok (.iload_n 2, 1) := by decide +kernel
theorem dX9_laysWet_53 : decode cX9_laysWet 53 = .ok (.bipush 50, 2) := by decide +kernel
theorem dX9_laysWet_55 : decode cX9_laysWet 55 = .ok (.if_icmp .ge 72, 3) := by decide +kernel
theorem dX9_laysWet_58 : decode cX9_laysWet 58 = .ok (.aload_n 0, 1) := by decide +kernel
theorem dX9_laysWet_59 : decode cX9_laysWet 59 = .ok (.iload_n 2, 1) := by decide +kernel
theorem dX9_laysWet_60 : decode cX9_laysWet 60 = .ok (.invokevirtual 208, 3) := by decide +kernel
theorem dX9_laysWet_63 : decode cX9_laysWet 63 = .ok (.ifCond .eq 58, 3) := by decide +kernel
theorem dX9_laysWet_66 : decode cX9_laysWet 66 = .ok (.aload_n 0, 1) := by decide +kernel
theorem dX9_laysWet_67 : decode cX9_laysWet 67 = .ok (.getfield 72, 3) := by decide +kernel
theorem dX9_laysWet_70 : decode cX9_laysWet 70 = .ok (.iload_n 2, 1) := by decide +kernel
theorem dX9_laysWet_71 : decode cX9_laysWet 71 = .ok (.baload, 1) := by decide +kernel
theorem dX9_laysWet_72 : decode cX9_laysWet 72 = .ok (.ifCond .eq 49, 3) := by decide +kernel
theorem dX9_laysWet_75 : decode cX9_laysWet 75 = .ok (.aload_n 0, 1) := by decide +kernel
theorem dX9_laysWet_76 : decode cX9_laysWet 76 = .ok (.getfield 87, 3) := by decide +kernel
theorem dX9_laysWet_79 : decode cX9_laysWet 79 = .ok (.iload_n 2, 1) := by decide +kernel
theorem dX9_laysWet_80 : decode cX9_laysWet 80 = .ok (.invokestatic 190, 3) := by decide +kernel
theorem dX9_laysWet_83 : decode cX9_laysWet 83 = .ok (.baload, 1) := by decide +kernel
theorem dX9_laysWet_84 : decode cX9_laysWet 84 = .ok (.aload_n 0, 1) := by decide +kernel
theorem dX9_laysWet_85 : decode cX9_laysWet 85 = .ok (.getfield 87, 3) := by decide +kernel
theorem dX9_laysWet_88 : decode cX9_laysWet 88 = .ok (.iload_n 2, 1) := by decide +kernel
theorem dX9_laysWet_89 : decode cX9_laysWet 89 = .ok (.invokestatic 194, 3) := by decide +kernel
theorem dX9_laysWet_92 : decode cX9_laysWet 92 = .ok (.baload, 1) := by decide +kernel
theorem dX9_laysWet_93 : decode cX9_laysWet 93 = .ok (.if_icmp .ne 6, 3) := by decide +kernel
theorem dX9_laysWet_96 : decode cX9_laysWet 96 = .ok (.goto 25, 3) := by decide +kernel
theorem dX9_laysWet_99 : decode cX9_laysWet 99 = .ok (.aload_n 0, 1) := by decide +kernel
theorem dX9_laysWet_100 : decode cX9_laysWet 100 = .ok (.getfield 87, 3) := by decide +kernel
theorem dX9_laysWet_103 : decode cX9_laysWet 103 = .ok (.iload_n 2, 1) := by decide +kernel
theorem dX9_laysWet_104 : decode cX9_laysWet 104 = .ok (.invokestatic 190, 3) := by decide +kernel
theorem dX9_laysWet_107 : decode cX9_laysWet 107 = .ok (.iconst 1, 1) := by decide +kernel
theorem dX9_laysWet_108 : decode cX9_laysWet 108 = .ok (.bastore, 1) := by decide +kernel
theorem dX9_laysWet_109 : decode cX9_laysWet 109 = .ok (.aload_n 0, 1) := by decide +kernel
theorem dX9_laysWet_110 : decode cX9_laysWet 110 = .ok (.getfield 87, 3) := by decide +kernel
theorem dX9_laysWet_113 : decode cX9_laysWet 113 = .ok (.iload_n 2, 1) := by decide +kernel
theorem dX9_laysWet_114 : decode cX9_laysWet 114 = .ok (.invokestatic 194, 3) := by decide +kernel
theorem dX9_laysWet_117 : decode cX9_laysWet 117 = .ok (.iconst 1, 1) := by decide +kernel
theorem dX9_laysWet_118 : decode cX9_laysWet 118 = .ok (.bastore, 1) := by decide +kernel
theorem dX9_laysWet_119 : decode cX9_laysWet 119 = .ok (.iconst 1, 1) := by decide +kernel
theorem dX9_laysWet_120 : decode cX9_laysWet 120 = .ok (.istore_n 1, 1) := by decide +kernel
theorem dX9_laysWet_121 : decode cX9_laysWet 121 = .ok (.iinc 2 1, 3) := by decide +kernel
theorem dX9_laysWet_124 : decode cX9_laysWet 124 = .ok (.goto (-72), 3) := by decide +kernel
theorem dX9_laysWet_127 : decode cX9_laysWet 127 = .ok (.goto (-83), 3) := by decide +kernel
theorem dX9_laysWet_130 : decode cX9_laysWet 130 = .ok (.return_, 1) := by decide +kernel
theorem dX9_doesJoin_0 : decode cX9_doesJoin 0 = .ok (.aload_n 0, 1) := by decide +kernel
theorem dX9_doesJoin_1 : decode cX9_doesJoin 1 = .ok (.invokevirtual 306, 3) := by decide +kernel
theorem dX9_doesJoin_4 : decode cX9_doesJoin 4 = .ok (.iconst 0, 1) := by decide +kernel
theorem dX9_doesJoin_5 : decode cX9_doesJoin 5 = .ok (.istore_n 1, 1) := by decide +kernel
theorem dX9_doesJoin_6 : decode cX9_doesJoin 6 = .ok (.iload_n 1, 1) := by decide +kernel
theorem dX9_doesJoin_7 : decode cX9_doesJoin 7 = .ok (.aload_n 0, 1) := by decide +kernel
theorem dX9_doesJoin_8 : decode cX9_doesJoin 8 = .ok (.getfield 27, 3) := by decide +kernel
theorem dX9_doesJoin_11 : decode cX9_doesJoin 11 = .ok (.if_icmp .ge 29, 3) := by decide +kernel
theorem dX9_doesJoin_14 : decode cX9_doesJoin 14 = .ok (.aload_n 0, 1) := by decide +kernel
theorem dX9_doesJoin_15 : decode cX9_doesJoin 15 = .ok (.getfield 87, 3) := by decide +kernel
theorem dX9_doesJoin_18 : decode cX9_doesJoin 18 = .ok (.iconst 5, 1) := by decide +kernel
theorem dX9_doesJoin_19 : decode cX9_doesJoin 19 = .ok (.aload_n 0, 1) := by decide +kernel
theorem dX9_doesJoin_20 : decode cX9_doesJoin 20 = .ok (.getfield 30, 3) := by decide +kernel
theorem dX9_doesJoin_23 : decode cX9_doesJoin 23 = .ok (.iconst 1, 1) := by decide +kernel
theorem dX9_doesJoin_24 : decode cX9_doesJoin 24 = .ok (.isub, 1) := by decide +kernel
theorem dX9_doesJoin_25 : decode cX9_doesJoin 25 = .ok (.imul, 1) := by decide +kernel
theorem dX9_doesJoin_26 : decode cX9_doesJoin 26 = .ok (.iload_n 1, 1) := by decide +kernel
theorem dX9_doesJoin_27 : decode cX9_doesJoin 27 = .ok (.iadd, 1) := by decide +kernel
theorem dX9_doesJoin_28 : decode cX9_doesJoin 28 = .ok (.baload, 1) := by decide +kernel
theorem dX9_doesJoin_29 : decode cX9_doesJoin 29 = .ok (.ifCond .eq 5, 3) := by decide +kernel
theorem dX9_doesJoin_32 : decode cX9_doesJoin 32 = .ok (.iconst 1, 1) := by decide +kernel
theorem dX9_doesJoin_33 : decode cX9_doesJoin 33 = .ok (.ireturn, 1) := by decide +kernel
theorem dX9_doesJoin_34 : decode cX9_doesJoin 34 = .ok (.iinc 1 1, 3) := by decide +kernel
theorem dX9_doesJoin_37 : decode cX9_doesJoin 37 = .ok (.goto (-31), 3) := by decide +kernel
theorem dX9_doesJoin_40 : decode cX9_doesJoin 40 = .ok (.iconst 0, 1) := by decide +kernel
theorem dX9_doesJoin_41 : decode cX9_doesJoin 41 = .ok (.ireturn, 1) := by decide +kernel
theorem dX9_draws_0 : decode cX9_draws 0 = .ok (.aload_n 0, 1) := by decide +kernel
theorem dX9_draws_1 : decode cX9_draws 1 = .ok (.aload_n 0, 1) := by decide +kernel
theorem dX9_draws_2 : decode cX9_draws 2 = .ok (.getfield 309, 3) := by decide +kernel
theorem dX9_draws_5 : decode cX9_draws 5 = .ok (.ldc_w 312, 3) := by decide +kernel
theorem dX9_draws_8 : decode cX9_draws 8 = .ok (.imul, 1) := by decide +kernel
theorem dX9_draws_9 : decode cX9_draws 9 = .ok (.sipush 12345, 3) := by decide +kernel
theorem dX9_draws_12 : decode cX9_draws 12 = .ok (.iadd, 1) := by decide +kernel
theorem dX9_draws_13 : decode cX9_draws 13 = .ok (.putfield 309, 3) := by decide +kernel
theorem dX9_draws_16 : decode cX9_draws 16 = .ok (.aload_n 0, 1) := by decide +kernel
theorem dX9_draws_17 : decode cX9_draws 17 = .ok (.getfield 309, 3) := by decide +kernel
theorem dX9_draws_20 : decode cX9_draws 20 = .ok (.bipush 16, 2) := by decide +kernel
theorem dX9_draws_22 : decode cX9_draws 22 = .ok (.iushr, 1) := by decide +kernel
theorem dX9_draws_23 : decode cX9_draws 23 = .ok (.sipush 32767, 3) := by decide +kernel
theorem dX9_draws_26 : decode cX9_draws 26 = .ok (.iand, 1) := by decide +kernel
theorem dX9_draws_27 : decode cX9_draws 27 = .ok (.iload_n 1, 1) := by decide +kernel
theorem dX9_draws_28 : decode cX9_draws 28 = .ok (.irem, 1) := by decide +kernel
theorem dX9_draws_29 : decode cX9_draws 29 = .ok (.ireturn, 1) := by decide +kernel
theorem dX9_drawn_0 : decode cX9_drawn 0 = .ok (.aload_n 0, 1) := by decide +kernel
theorem dX9_drawn_1 : decode cX9_drawn 1 = .ok (.iload_n 2, 1) := by decide +kernel
theorem dX9_drawn_2 : decode cX9_drawn 2 = .ok (.iload_n 3, 1) := by decide +kernel
theorem dX9_drawn_3 : decode cX9_drawn 3 = .ok (.invokestatic 281, 3) := by decide +kernel
theorem dX9_drawn_6 : decode cX9_drawn 6 = .ok (.ifCond .ne 7, 3) := by decide +kernel
theorem dX9_drawn_9 : decode cX9_drawn 9 = .ok (.iconst 1, 1) := by decide +kernel
theorem dX9_drawn_10 : decode cX9_drawn 10 = .ok (.goto 18, 3) := by decide +kernel
theorem dX9_drawn_13 : decode cX9_drawn 13 = .ok (.iload 4, 2) := by decide +kernel
theorem dX9_drawn_15 : decode cX9_drawn 15 = .ok (.iconst 0, 1) := by decide +kernel
theorem dX9_drawn_16 : decode cX9_drawn 16 = .ok (.iconst 3, 1) := by decide +kernel
theorem dX9_drawn_17 : decode cX9_drawn 17 = .ok (.invokestatic 142, 3) := by decide +kernel
theorem dX9_drawn_20 : decode cX9_drawn 20 = .ok (.ifCond .ne 7, 3) := by decide +kernel
theorem dX9_drawn_23 : decode cX9_drawn 23 = .ok (.iconst 2, 1) := by decide +kernel
theorem dX9_drawn_24 : decode cX9_drawn 24 = .ok (.goto 4, 3) := by decide +kernel
theorem dX9_drawn_27 : decode cX9_drawn 27 = .ok (.iconst 0, 1) := by decide +kernel
theorem dX9_drawn_28 : decode cX9_drawn 28 = .ok (.putfield 103, 3) := by decide +kernel
theorem dX9_drawn_31 : decode cX9_drawn 31 = .ok (.aload_n 0, 1) := by decide +kernel
theorem dX9_drawn_32 : decode cX9_drawn 32 = .ok (.getfield 103, 3) := by decide +kernel
theorem dX9_drawn_35 : decode cX9_drawn 35 = .ok (.ifCond .le 5, 3) := by decide +kernel
theorem dX9_drawn_38 : decode cX9_drawn 38 = .ok (.iconst 0, 1) := by decide +kernel
theorem dX9_drawn_39 : decode cX9_drawn 39 = .ok (.ireturn, 1) := by decide +kernel
theorem dX9_drawn_40 : decode cX9_drawn 40 = .ok (.aload_n 0, 1) := by decide +kernel
theorem dX9_drawn_41 : decode cX9_drawn 41 = .ok (.iload_n 1, 1) := by decide +kernel
theorem dX9_drawn_42 : decode cX9_drawn 42 = .ok (.putfield 309, 3) := by decide +kernel
theorem dX9_drawn_45 : decode cX9_drawn 45 = .ok (.iconst 0, 1) := by decide +kernel
theorem dX9_drawn_46 : decode cX9_drawn 46 = .ok (.istore 5, 2) := by decide +kernel
theorem dX9_drawn_48 : decode cX9_drawn 48 = .ok (.iconst 0, 1) := by decide +kernel
theorem dX9_drawn_49 : decode cX9_drawn 49 = .ok (.istore 6, 2) := by decide +kernel
theorem dX9_drawn_51 : decode cX9_drawn 51 = .ok (.iload 6, 2) := by decide +kernel
theorem dX9_drawn_53 : decode cX9_drawn 53 = .ok (.bipush 50, 2) := by decide +kernel
theorem dX9_drawn_55 : decode cX9_drawn 55 = .ok (.if_icmp .ge 98, 3) := by decide +kernel
theorem dX9_drawn_58 : decode cX9_drawn 58 = .ok (.aload_n 0, 1) := by decide +kernel
theorem dX9_drawn_59 : decode cX9_drawn 59 = .ok (.iload 6, 2) := by decide +kernel
theorem dX9_drawn_61 : decode cX9_drawn 61 = .ok (.invokevirtual 208, 3) := by decide +kernel
theorem dX9_drawn_64 : decode cX9_drawn 64 = .ok (.ifCond .ne 6, 3) := by decide +kernel
theorem dX9_drawn_67 : decode cX9_drawn 67 = .ok (.goto 80, 3) := by decide +kernel
theorem dX9_drawn_70 : decode cX9_drawn 70 = .ok (.aload_n 0, 1) := by decide +kernel
theorem dX9_drawn_71 : decode cX9_drawn 71 = .ok (.getfield 72, 3) := by decide +kernel
theorem dX9_drawn_74 : decode cX9_drawn 74 = .ok (.iload 6, 2) := by decide +kernel
theorem dX9_drawn_76 : decode cX9_drawn 76 = .ok (.aload_n 0, 1) := by decide +kernel
theorem dX9_drawn_77 : decode cX9_drawn 77 = .ok (.iload 6, 2) := by decide +kernel
theorem dX9_drawn_79 : decode cX9_drawn 79 = .ok (.invokevirtual 215, 3) := by decide +kernel
theorem dX9_drawn_82 : decode cX9_drawn 82 = .ok (.ifCond .ne 20, 3) := by decide +kernel
theorem dX9_drawn_85 : decode cX9_drawn 85 = .ok (.aload_n 0, 1) := by decide +kernel
theorem dX9_drawn_86 : decode cX9_drawn 86 = .ok (.iload_n 3, 1) := by decide +kernel
theorem dX9_drawn_87 : decode cX9_drawn 87 = .ok (.invokevirtual 313, 3) := by decide +kernel
theorem dX9_drawn_90 : decode cX9_drawn 90 = .ok (.iload_n 2, 1) := by decide +kernel
theorem dX9_drawn_91 : decode cX9_drawn 91 = .ok (.if_icmp .ge 7, 3) := by decide +kernel
theorem dX9_drawn_94 : decode cX9_drawn 94 = .ok (.iconst 1, 1) := by decide +kernel
theorem dX9_drawn_95 : decode cX9_drawn 95 = .ok (.goto 22, 3) := by decide +kernel
theorem dX9_drawn_98 : decode cX9_drawn 98 = .ok (.iconst 0, 1) := by decide +kernel
theorem dX9_drawn_99 : decode cX9_drawn 99 = .ok (.goto 18, 3) := by decide +kernel
theorem dX9_drawn_102 : decode cX9_drawn 102 = .ok (.aload_n 0, 1) := by decide +kernel
theorem dX9_drawn_103 : decode cX9_drawn 103 = .ok (.iload 6, 2) := by decide +kernel
theorem dX9_drawn_105 : decode cX9_drawn 105 = .ok (.invokevirtual 215, 3) := by decide +kernel
theorem dX9_drawn_108 : decode cX9_drawn 108 = .ok (.iconst 1, 1) := by decide +kernel
theorem dX9_drawn_109 : decode cX9_drawn 109 = .ok (.if_icmp .ne 7, 3) := by decide +kernel
theorem dX9_drawn_112 : decode cX9_drawn 112 = .ok (.iconst 1, 1) := by decide +kernel
theorem dX9_drawn_113 : decode cX9_drawn 113 = .ok (.goto 4, 3) := by decide +kernel
theorem dX9_drawn_116 : decode cX9_drawn 116 = .ok (.iconst 0, 1) := by decide +kernel
theorem dX9_drawn_117 : decode cX9_drawn 117 = .ok (.bastore, 1) := by decide +kernel
theorem dX9_drawn_118 : decode cX9_drawn 118 = .ok (.iload 5, 2) := by decide +kernel
theorem dX9_drawn_120 : decode cX9_drawn 120 = .ok (.aload_n 0, 1) := by decide +kernel
theorem dX9_drawn_121 : decode cX9_drawn 121 = .ok (.iload 6, 2) := by decide +kernel
theorem dX9_drawn_123 : decode cX9_drawn 123 = .ok (.invokevirtual 215, 3) := by decide +kernel
theorem dX9_drawn_126 : decode cX9_drawn 126 = .ok (.ifCond .ne 17, 3) := by decide +kernel
theorem dX9_drawn_129 : decode cX9_drawn 129 = .ok (.aload_n 0, 1) := by decide +kernel
theorem dX9_drawn_130 : decode cX9_drawn 130 = .ok (.getfield 72, 3) := by decide +kernel
theorem dX9_drawn_133 : decode cX9_drawn 133 = .ok (.iload 6, 2) := by decide +kernel
theorem dX9_drawn_135 : decode cX9_drawn 135 = .ok (.baload, 1) := by decide +kernel
theorem dX9_drawn_136 : decode cX9_drawn 136 = .ok (.ifCond .eq 7, 3) := by decide +kernel
theorem dX9_drawn_139 : decode cX9_drawn 139 = .ok (.iconst 1, 1) := by decide +kernel
theorem dX9_drawn_140 : decode cX9_drawn 140 = .ok (.goto 4, 3) := by decide +kernel
theorem dX9_drawn_143 : decode cX9_drawn 143 = .ok (.iconst 0, 1) := by decide +kernel
theorem dX9_drawn_144 : decode cX9_drawn 144 = .ok (.iadd, 1) := by decide +kernel
theorem dX9_drawn_145 : decode cX9_drawn 145 = .ok (.istore 5, 2) := by decide +kernel
theorem dX9_drawn_147 : decode cX9_drawn 147 = .ok (.iinc 6 1, 3) := by decide +kernel
theorem dX9_drawn_150 : decode cX9_drawn 150 = .ok (.goto (-99), 3) := by decide +kernel
theorem dX9_drawn_153 : decode cX9_drawn 153 = .ok (.aload_n 0, 1) := by decide +kernel
theorem dX9_drawn_154 : decode cX9_drawn 154 = .ok (.invokevirtual 316, 3) := by decide +kernel
theorem dX9_drawn_157 : decode cX9_drawn 157 = .ok (.istore 6, 2) := by decide +kernel
theorem dX9_drawn_159 : decode cX9_drawn 159 = .ok (.iconst 0, 1) := by decide +kernel
theorem dX9_drawn_160 : decode cX9_drawn 160 = .ok (.istore 7, 2) := by decide +kernel
theorem dX9_drawn_162 : decode cX9_drawn 162 = .ok (.iconst (-1), 1) := by decide +kernel
theorem dX9_drawn_163 : decode cX9_drawn 163 = .ok (.istore 8, 2) := by decide +kernel
theorem dX9_drawn_165 : decode cX9_drawn 165 = .ok (.iconst 0, 1) := by decide +kernel
theorem dX9_drawn_166 : decode cX9_drawn 166 = .ok (.istore 9, 2) := by decide +kernel
theorem dX9_drawn_168 : decode cX9_drawn 168 = .ok (.iload 9, 2) := by decide +kernel
theorem dX9_drawn_170 : decode cX9_drawn 170 = .ok (.bipush 25, 2) := by decide +kernel
theorem dX9_drawn_172 : decode cX9_drawn 172 = .ok (.if_icmp .ge 50, 3) := by decide +kernel
theorem dX9_drawn_175 : decode cX9_drawn 175 = .ok (.iload 7, 2) := by decide +kernel
theorem dX9_drawn_177 : decode cX9_drawn 177 = .ok (.aload_n 0, 1) := by decide +kernel
theorem dX9_drawn_178 : decode cX9_drawn 178 = .ok (.getfield 87, 3) := by decide +kernel
theorem dX9_drawn_181 : decode cX9_drawn 181 = .ok (.iload 9, 2) := by decide +kernel
theorem dX9_drawn_183 : decode cX9_drawn 183 = .ok (.baload, 1) := by decide +kernel
theorem dX9_drawn_184 : decode cX9_drawn 184 = .ok (.ifCond .eq 7, 3) := by decide +kernel
theorem dX9_drawn_187 : decode cX9_drawn 187 = .ok (.iconst 1, 1) := by decide +kernel
theorem dX9_drawn_188 : decode cX9_drawn 188 = .ok (.goto 4, 3) := by decide +kernel
theorem dX9_drawn_191 : decode cX9_drawn 191 = .ok (.iconst 0, 1) := by decide +kernel
theorem dX9_drawn_192 : decode cX9_drawn 192 = .ok (.iadd, 1) := by decide +kernel
theorem dX9_drawn_193 : decode cX9_drawn 193 = .ok (.istore 7, 2) := by decide +kernel
theorem dX9_drawn_195 : decode cX9_drawn 195 = .ok (.aload_n 0, 1) := by decide +kernel
theorem dX9_drawn_196 : decode cX9_drawn 196 = .ok (.getfield 87, 3) := by decide +kernel
theorem dX9_drawn_199 : decode cX9_drawn 199 = .ok (.iload 9, 2) := by decide +kernel
theorem dX9_drawn_201 : decode cX9_drawn 201 = .ok (.baload, 1) := by decide +kernel
theorem dX9_drawn_202 : decode cX9_drawn 202 = .ok (.ifCond .eq 10, 3) := by decide +kernel
theorem dX9_drawn_205 : decode cX9_drawn 205 = .ok (.iload 9, 2) := by decide +kernel
theorem dX9_drawn_207 : decode cX9_drawn 207 = .ok (.iconst 5, 1) := by decide +kernel
theorem dX9_drawn_208 : decode cX9_drawn 208 = .ok (.idiv, 1) := by decide +kernel
theorem dX9_drawn_209 : decode cX9_drawn 209 = .ok (.goto 5, 3) := by decide +kernel
theorem dX9_drawn_212 : decode cX9_drawn 212 = .ok (.iload 8, 2) := by decide +kernel
theorem dX9_drawn_214 : decode cX9_drawn 214 = .ok (.istore 8, 2) := by decide +kernel
theorem dX9_drawn_216 : decode cX9_drawn 216 = .ok (.iinc 9 1, 3) := by decide +kernel
theorem dX9_drawn_219 : decode cX9_drawn 219 = .ok (.goto (-51), 3) := by decide +kernel
theorem dX9_drawn_222 : decode cX9_drawn 222 = .ok (.iload 4, 2) := by decide +kernel
theorem dX9_drawn_224 : decode cX9_drawn 224 = .ok (.ifCond .ne 16, 3) := by decide +kernel
theorem dX9_drawn_227 : decode cX9_drawn 227 = .ok (.iload 6, 2) := by decide +kernel
theorem dX9_drawn_229 : decode cX9_drawn 229 = .ok (.ifCond .eq 7, 3) := by decide +kernel
theorem dX9_drawn_232 : decode cX9_drawn 232 = .ok (.iconst 1, 1) := by decide +kernel
theorem dX9_drawn_233 : decode cX9_drawn 233 = .ok (.goto 31, 3) := by decide +kernel
theorem dX9_drawn_236 : decode cX9_drawn 236 = .ok (.iconst 0, 1) := by decide +kernel
theorem dX9_drawn_237 : decode cX9_drawn 237 = .ok (.goto 27, 3) := by decide +kernel
theorem dX9_drawn_240 : decode cX9_drawn 240 = .ok (.iload 4, 2) := by decide +kernel
theorem dX9_drawn_242 : decode cX9_drawn 242 = .ok (.iconst 1, 1) := by decide +kernel
theorem dX9_drawn_243 : decode cX9_drawn 243 = .ok (.if_icmp .ne 8, 3) := by decide +kernel
theorem dX9_drawn_246 : decode cX9_drawn 246 = .ok (.iload 7, 2) := by decide +kernel
theorem dX9_drawn_248 : decode cX9_drawn 248 = .ok (.goto 16, 3) := by decide +kernel
theorem dX9_drawn_251 : decode cX9_drawn 251 = .ok (.iload 4, 2) := by decide +kernel
theorem dX9_drawn_253 : decode cX9_drawn 253 = .ok (.iconst 2, 1) := by decide +kernel
theorem dX9_drawn_254 : decode cX9_drawn 254 = .ok (.if_icmp .ne 8, 3) := by decide +kernel
theorem dX9_drawn_257 : decode cX9_drawn 257 = .ok (.iload 5, 2) := by decide +kernel
theorem dX9_drawn_259 : decode cX9_drawn 259 = .ok (.goto 5, 3) := by decide +kernel
theorem dX9_drawn_262 : decode cX9_drawn 262 = .ok (.iload 8, 2) := by decide +kernel
theorem dX9_drawn_264 : decode cX9_drawn 264 = .ok (.ireturn, 1) := by decide +kernel
theorem dX9_drain_0 : decode cX9_drain 0 = .ok (.aload_n 0, 1) := by decide +kernel
theorem dX9_drain_1 : decode cX9_drain 1 = .ok (.iload_n 2, 1) := by decide +kernel
theorem dX9_drain_2 : decode cX9_drain 2 = .ok (.iload_n 3, 1) := by decide +kernel
theorem dX9_drain_3 : decode cX9_drain 3 = .ok (.invokestatic 281, 3) := by decide +kernel
theorem dX9_drain_6 : decode cX9_drain 6 = .ok (.ifCond .eq 7, 3) := by decide +kernel
theorem dX9_drain_9 : decode cX9_drain 9 = .ok (.iconst 0, 1) := by decide +kernel
theorem dX9_drain_10 : decode cX9_drain 10 = .ok (.goto 4, 3) := by decide +kernel
theorem dX9_drain_13 : decode cX9_drain 13 = .ok (.iconst 1, 1) := by decide +kernel
theorem dX9_drain_14 : decode cX9_drain 14 = .ok (.putfield 103, 3) := by decide +kernel
theorem dX9_drain_17 : decode cX9_drain 17 = .ok (.aload_n 0, 1) := by decide +kernel
theorem dX9_drain_18 : decode cX9_drain 18 = .ok (.getfield 103, 3) := by decide +kernel
theorem dX9_drain_21 : decode cX9_drain 21 = .ok (.ifCond .le 5, 3) := by decide +kernel
theorem dX9_drain_24 : decode cX9_drain 24 = .ok (.iconst 0, 1) := by decide +kernel
theorem dX9_drain_25 : decode cX9_drain 25 = .ok (.ireturn, 1) := by decide +kernel
theorem dX9_drain_26 : decode cX9_drain 26 = .ok (.aload_n 0, 1) := by decide +kernel
theorem dX9_drain_27 : decode cX9_drain 27 = .ok (.invokevirtual 218, 3) := by decide +kernel
theorem dX9_drain_30 : decode cX9_drain 30 = .ok (.aload_n 0, 1) := by decide +kernel
theorem dX9_drain_31 : decode cX9_drain 31 = .ok (.iload_n 1, 1) := by decide +kernel
theorem dX9_drain_32 : decode cX9_drain 32 = .ok (.putfield 309, 3) := by decide +kernel
theorem dX9_drain_35 : decode cX9_drain 35 = .ok (.iconst 0, 1) := by decide +kernel
theorem dX9_drain_36 : decode cX9_drain 36 = .ok (.istore 4, 2) := by decide +kernel
theorem dX9_drain_38 : decode cX9_drain 38 = .ok (.iload 4, 2) := by decide +kernel
theorem dX9_drain_40 : decode cX9_drain 40 = .ok (.bipush 50, 2) := by decide +kernel
theorem dX9_drain_42 : decode cX9_drain 42 = .ok (.if_icmp .ge 73, 3) := by decide +kernel
theorem dX9_drain_45 : decode cX9_drain 45 = .ok (.aload_n 0, 1) := by decide +kernel
theorem dX9_drain_46 : decode cX9_drain 46 = .ok (.iload 4, 2) := by decide +kernel
theorem dX9_drain_48 : decode cX9_drain 48 = .ok (.invokevirtual 208, 3) := by decide +kernel
theorem dX9_drain_51 : decode cX9_drain 51 = .ok (.ifCond .ne 6, 3) := by decide +kernel
theorem dX9_drain_54 : decode cX9_drain 54 = .ok (.goto 55, 3) := by decide +kernel
theorem dX9_drain_57 : decode cX9_drain 57 = .ok (.aload_n 0, 1) := by decide +kernel
theorem dX9_drain_58 : decode cX9_drain 58 = .ok (.iload 4, 2) := by decide +kernel
theorem dX9_drain_60 : decode cX9_drain 60 = .ok (.invokevirtual 215, 3) := by decide +kernel
theorem dX9_drain_63 : decode cX9_drain 63 = .ok (.ifCond .ne 24, 3) := by decide +kernel
theorem dX9_drain_66 : decode cX9_drain 66 = .ok (.aload_n 0, 1) := by decide +kernel
theorem dX9_drain_67 : decode cX9_drain 67 = .ok (.getfield 33, 3) := by decide +kernel
theorem dX9_drain_70 : decode cX9_drain 70 = .ok (.iload 4, 2) := by decide +kernel
theorem dX9_drain_72 : decode cX9_drain 72 = .ok (.aload_n 0, 1) := by decide +kernel
theorem dX9_drain_73 : decode cX9_drain 73 = .ok (.iload_n 3, 1) := by decide +kernel
theorem dX9_drain_74 : decode cX9_drain 74 = .ok (.invokevirtual 313, 3) := by decide +kernel
theorem dX9_drain_77 : decode cX9_drain 77 = .ok (.iload_n 2, 1) := by decide +kernel
theorem dX9_drain_78 : decode cX9_drain 78 = .ok (.if_icmp .ge 7, 3) := by decide +kernel
theorem dX9_drain_81 : decode cX9_drain 81 = .ok (.iconst 1, 1) := by decide +kernel
theorem dX9_drain_82 : decode cX9_drain 82 = .ok (.goto 4, 3) := by decide +kernel
theorem dX9_drain_85 : decode cX9_drain 85 = .ok (.iconst 2, 1) := by decide +kernel
theorem dX9_drain_86 : decode cX9_drain 86 = .ok (.iastore, 1) := by decide +kernel
theorem dX9_drain_87 : decode cX9_drain 87 = .ok (.aload_n 0, 1) := by decide +kernel
theorem dX9_drain_88 : decode cX9_drain 88 = .ok (.getfield 72, 3) := by decide +kernel
theorem dX9_drain_91 : decode cX9_drain 91 = .ok (.iload 4, 2) := by decide +kernel
theorem dX9_drain_93 : decode cX9_drain 93 = .ok (.aload_n 0, 1) := by decide +kernel
theorem dX9_drain_94 : decode cX9_drain 94 = .ok (.iload 4, 2) := by decide +kernel
theorem dX9_drain_96 : decode cX9_drain 96 = .ok (.invokevirtual 215, 3) := by decide +kernel
theorem dX9_drain_99 : decode cX9_drain 99 = .ok (.iconst 1, 1) := by decide +kernel
theorem dX9_drain_100 : decode cX9_drain 100 = .ok (.if_icmp .ne 7, 3) := by decide +kernel
theorem dX9_drain_103 : decode cX9_drain 103 = .ok (.iconst 1, 1) := by decide +kernel
theorem dX9_drain_104 : decode cX9_drain 104 = .ok (.goto 4, 3) := by decide +kernel
theorem dX9_drain_107 : decode cX9_drain 107 = .ok (.iconst 0, 1) := by decide +kernel
theorem dX9_drain_108 : decode cX9_drain 108 = .ok (.bastore, 1) := by decide +kernel
theorem dX9_drain_109 : decode cX9_drain 109 = .ok (.iinc 4 1, 3) := by decide +kernel
theorem dX9_drain_112 : decode cX9_drain 112 = .ok (.goto (-74), 3) := by decide +kernel
theorem dX9_drain_115 : decode cX9_drain 115 = .ok (.aload_n 0, 1) := by decide +kernel
theorem dX9_drain_116 : decode cX9_drain 116 = .ok (.invokevirtual 316, 3) := by decide +kernel
theorem dX9_drain_119 : decode cX9_drain 119 = .ok (.ireturn, 1) := by decide +kernel
theorem dX9_laysFree_0 : decode cX9_laysFree 0 = .ok (.aload_n 0, 1) := by decide +kernel
theorem dX9_laysFree_1 : decode cX9_laysFree 1 = .ok (.iconst 0, 1) := by decide +kernel
theorem dX9_laysFree_2 : decode cX9_laysFree 2 = .ok (.putfield 320, 3) := by decide +kernel
theorem dX9_laysFree_5 : decode cX9_laysFree 5 = .ok (.iconst 0, 1) := by decide +kernel
theorem dX9_laysFree_6 : decode cX9_laysFree 6 = .ok (.istore_n 1, 1) := by decide +kernel
theorem dX9_laysFree_7 : decode cX9_laysFree 7 = .ok (.iload_n 1, 1) := by decide +kernel
theorem dX9_laysFree_8 : decode cX9_laysFree 8 = .ok (.bipush 50, 2) := by decide +kernel
theorem dX9_laysFree_10 : decode cX9_laysFree 10 = .ok (.if_icmp .ge 71, 3) := by decide +kernel
theorem dX9_laysFree_13 : decode cX9_laysFree 13 = .ok (.aload_n 0, 1) := by decide +kernel
theorem dX9_laysFree_14 : decode cX9_laysFree 14 = .ok (.iload_n 1, 1) := by decide +kernel
