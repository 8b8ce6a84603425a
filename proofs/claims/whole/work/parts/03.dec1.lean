theorem dX4_makeMoves_62 : decode cX4_makeMoves 62 = .ok (.imul, 1) := by decide +kernel
theorem dX4_makeMoves_63 : decode cX4_makeMoves 63 = .ok (.iload_n 1, 1) := by decide +kernel
theorem dX4_makeMoves_64 : decode cX4_makeMoves 64 = .ok (.iadd, 1) := by decide +kernel
theorem dX4_makeMoves_65 : decode cX4_makeMoves 65 = .ok (.aload_n 0, 1) := by decide +kernel
theorem dX4_makeMoves_66 : decode cX4_makeMoves 66 = .ok (.aload_n 0, 1) := by decide +kernel
theorem dX4_makeMoves_67 : decode cX4_makeMoves 67 = .ok (.aload_n 0, 1) := by decide +kernel
theorem dX4_makeMoves_68 : decode cX4_makeMoves 68 = .ok (.getfield 9, 3) := by decide +kernel
theorem dX4_makeMoves_71 : decode cX4_makeMoves 71 = .ok (.iload_n 1, 1) := by decide +kernel
theorem dX4_makeMoves_72 : decode cX4_makeMoves 72 = .ok (.iaload, 1) := by decide +kernel
theorem dX4_makeMoves_73 : decode cX4_makeMoves 73 = .ok (.iload_n 2, 1) := by decide +kernel
theorem dX4_makeMoves_74 : decode cX4_makeMoves 74 = .ok (.invokevirtual 89, 3) := by decide +kernel
theorem dX4_makeMoves_77 : decode cX4_makeMoves 77 = .ok (.invokevirtual 83, 3) := by decide +kernel
theorem dX4_makeMoves_80 : decode cX4_makeMoves 80 = .ok (.iastore, 1) := by decide +kernel
theorem dX4_makeMoves_81 : decode cX4_makeMoves 81 = .ok (.iinc 2 1, 3) := by decide +kernel
theorem dX4_makeMoves_84 : decode cX4_makeMoves 84 = .ok (.goto (-72), 3) := by decide +kernel
theorem dX4_makeMoves_87 : decode cX4_makeMoves 87 = .ok (.iinc 1 1, 3) := by decide +kernel
theorem dX4_makeMoves_90 : decode cX4_makeMoves 90 = .ok (.goto (-88), 3) := by decide +kernel
theorem dX4_makeMoves_93 : decode cX4_makeMoves 93 = .ok (.return_, 1) := by decide +kernel
theorem dX4_rightSlot_0 : decode cX4_rightSlot 0 = .ok (.iconst 4, 1) := by decide +kernel
theorem dX4_rightSlot_1 : decode cX4_rightSlot 1 = .ok (.iload_n 0, 1) := by decide +kernel
theorem dX4_rightSlot_2 : decode cX4_rightSlot 2 = .ok (.iadd, 1) := by decide +kernel
theorem dX4_rightSlot_3 : decode cX4_rightSlot 3 = .ok (.ireturn, 1) := by decide +kernel
theorem dX4_cutOff_0 : decode cX4_cutOff 0 = .ok (.aload_n 0, 1) := by decide +kernel
theorem dX4_cutOff_1 : decode cX4_cutOff 1 = .ok (.iload_n 1, 1) := by decide +kernel
theorem dX4_cutOff_2 : decode cX4_cutOff 2 = .ok (.bipush 7, 2) := by decide +kernel
theorem dX4_cutOff_4 : decode cX4_cutOff 4 = .ok (.iload_n 2, 1) := by decide +kernel
theorem dX4_cutOff_5 : decode cX4_cutOff 5 = .ok (.invokestatic 67, 3) := by decide +kernel
theorem dX4_cutOff_8 : decode cX4_cutOff 8 = .ok (.ishl, 1) := by decide +kernel
theorem dX4_cutOff_9 : decode cX4_cutOff 9 = .ok (.ior, 1) := by decide +kernel
theorem dX4_cutOff_10 : decode cX4_cutOff 10 = .ok (.invokevirtual 92, 3) := by decide +kernel
theorem dX4_cutOff_13 : decode cX4_cutOff 13 = .ok (.ireturn, 1) := by decide +kernel
theorem dX4_joined_0 : decode cX4_joined 0 = .ok (.iload_n 1, 1) := by decide +kernel
theorem dX4_joined_1 : decode cX4_joined 1 = .ok (.iload_n 2, 1) := by decide +kernel
theorem dX4_joined_2 : decode cX4_joined 2 = .ok (.iconst 1, 1) := by decide +kernel
theorem dX4_joined_3 : decode cX4_joined 3 = .ok (.isub, 1) := by decide +kernel
theorem dX4_joined_4 : decode cX4_joined 4 = .ok (.invokestatic 77, 3) := by decide +kernel
theorem dX4_joined_7 : decode cX4_joined 7 = .ok (.istore_n 3, 1) := by decide +kernel
theorem dX4_joined_8 : decode cX4_joined 8 = .ok (.iload_n 1, 1) := by decide +kernel
theorem dX4_joined_9 : decode cX4_joined 9 = .ok (.iload_n 2, 1) := by decide +kernel
theorem dX4_joined_10 : decode cX4_joined 10 = .ok (.invokestatic 77, 3) := by decide +kernel
theorem dX4_joined_13 : decode cX4_joined 13 = .ok (.istore 4, 2) := by decide +kernel
theorem dX4_joined_15 : decode cX4_joined 15 = .ok (.iload_n 3, 1) := by decide +kernel
theorem dX4_joined_16 : decode cX4_joined 16 = .ok (.iload 4, 2) := by decide +kernel
theorem dX4_joined_18 : decode cX4_joined 18 = .ok (.invokestatic 95, 3) := by decide +kernel
theorem dX4_joined_21 : decode cX4_joined 21 = .ok (.istore 5, 2) := by decide +kernel
theorem dX4_joined_23 : decode cX4_joined 23 = .ok (.iload_n 3, 1) := by decide +kernel
theorem dX4_joined_24 : decode cX4_joined 24 = .ok (.iload 4, 2) := by decide +kernel
theorem dX4_joined_26 : decode cX4_joined 26 = .ok (.invokestatic 100, 3) := by decide +kernel
theorem dX4_joined_29 : decode cX4_joined 29 = .ok (.istore 6, 2) := by decide +kernel
theorem dX4_joined_31 : decode cX4_joined 31 = .ok (.iconst 0, 1) := by decide +kernel
theorem dX4_joined_32 : decode cX4_joined 32 = .ok (.istore 7, 2) := by decide +kernel
theorem dX4_joined_34 : decode cX4_joined 34 = .ok (.iconst 0, 1) := by decide +kernel
theorem dX4_joined_35 : decode cX4_joined 35 = .ok (.istore 8, 2) := by decide +kernel
theorem dX4_joined_37 : decode cX4_joined 37 = .ok (.iload 8, 2) := by decide +kernel
theorem dX4_joined_39 : decode cX4_joined 39 = .ok (.aload_n 0, 1) := by decide +kernel
theorem dX4_joined_40 : decode cX4_joined 40 = .ok (.getfield 33, 3) := by decide +kernel
theorem dX4_joined_43 : decode cX4_joined 43 = .ok (.if_icmp .ge 42, 3) := by decide +kernel
theorem dX4_joined_46 : decode cX4_joined 46 = .ok (.iload_n 1, 1) := by decide +kernel
theorem dX4_joined_47 : decode cX4_joined 47 = .ok (.iload 8, 2) := by decide +kernel
theorem dX4_joined_49 : decode cX4_joined 49 = .ok (.invokestatic 77, 3) := by decide +kernel
theorem dX4_joined_52 : decode cX4_joined 52 = .ok (.istore 9, 2) := by decide +kernel
theorem dX4_joined_54 : decode cX4_joined 54 = .ok (.iload 7, 2) := by decide +kernel
theorem dX4_joined_56 : decode cX4_joined 56 = .ok (.iload 9, 2) := by decide +kernel
theorem dX4_joined_58 : decode cX4_joined 58 = .ok (.iload 6, 2) := by decide +kernel
theorem dX4_joined_60 : decode cX4_joined 60 = .ok (.if_icmp .ne 8, 3) := by decide +kernel
theorem dX4_joined_63 : decode cX4_joined 63 = .ok (.iload 5, 2) := by decide +kernel
theorem dX4_joined_65 : decode cX4_joined 65 = .ok (.goto 5, 3) := by decide +kernel
theorem dX4_joined_68 : decode cX4_joined 68 = .ok (.iload 9, 2) := by decide +kernel
theorem dX4_joined_70 : decode cX4_joined 70 = .ok (.iload 8, 2) := by decide +kernel
theorem dX4_joined_72 : decode cX4_joined 72 = .ok (.invokestatic 67, 3) := by decide +kernel
theorem dX4_joined_75 : decode cX4_joined 75 = .ok (.ishl, 1) := by decide +kernel
theorem dX4_joined_76 : decode cX4_joined 76 = .ok (.ior, 1) := by decide +kernel
theorem dX4_joined_77 : decode cX4_joined 77 = .ok (.istore 7, 2) := by decide +kernel
theorem dX4_joined_79 : decode cX4_joined 79 = .ok (.iinc 8 1, 3) := by decide +kernel
theorem dX4_joined_82 : decode cX4_joined 82 = .ok (.goto (-45), 3) := by decide +kernel
theorem dX4_joined_85 : decode cX4_joined 85 = .ok (.aload_n 0, 1) := by decide +kernel
theorem dX4_joined_86 : decode cX4_joined 86 = .ok (.iload 7, 2) := by decide +kernel
theorem dX4_joined_88 : decode cX4_joined 88 = .ok (.invokevirtual 92, 3) := by decide +kernel
theorem dX4_joined_91 : decode cX4_joined 91 = .ok (.ireturn, 1) := by decide +kernel
theorem dX4_renumbered_0 : decode cX4_renumbered 0 = .ok (.iconst 0, 1) := by decide +kernel
theorem dX4_renumbered_1 : decode cX4_renumbered 1 = .ok (.istore_n 2, 1) := by decide +kernel
theorem dX4_renumbered_2 : decode cX4_renumbered 2 = .ok (.iconst 1, 1) := by decide +kernel
theorem dX4_renumbered_3 : decode cX4_renumbered 3 = .ok (.istore_n 3, 1) := by decide +kernel
theorem dX4_renumbered_4 : decode cX4_renumbered 4 = .ok (.iconst 0, 1) := by decide +kernel
theorem dX4_renumbered_5 : decode cX4_renumbered 5 = .ok (.istore 4, 2) := by decide +kernel
theorem dX4_renumbered_7 : decode cX4_renumbered 7 = .ok (.iconst 0, 1) := by decide +kernel
theorem dX4_renumbered_8 : decode cX4_renumbered 8 = .ok (.istore 5, 2) := by decide +kernel
theorem dX4_renumbered_10 : decode cX4_renumbered 10 = .ok (.iload 5, 2) := by decide +kernel
theorem dX4_renumbered_12 : decode cX4_renumbered 12 = .ok (.aload_n 0, 1) := by decide +kernel
theorem dX4_renumbered_13 : decode cX4_renumbered 13 = .ok (.getfield 33, 3) := by decide +kernel
theorem dX4_renumbered_16 : decode cX4_renumbered 16 = .ok (.if_icmp .ge 74, 3) := by decide +kernel
theorem dX4_renumbered_19 : decode cX4_renumbered 19 = .ok (.iconst 3, 1) := by decide +kernel
theorem dX4_renumbered_20 : decode cX4_renumbered 20 = .ok (.iconst 4, 1) := by decide +kernel
theorem dX4_renumbered_21 : decode cX4_renumbered 21 = .ok (.iload 5, 2) := by decide +kernel
theorem dX4_renumbered_23 : decode cX4_renumbered 23 = .ok (.isub, 1) := by decide +kernel
theorem dX4_renumbered_24 : decode cX4_renumbered 24 = .ok (.imul, 1) := by decide +kernel
theorem dX4_renumbered_25 : decode cX4_renumbered 25 = .ok (.istore 6, 2) := by decide +kernel
theorem dX4_renumbered_27 : decode cX4_renumbered 27 = .ok (.iload_n 1, 1) := by decide +kernel
theorem dX4_renumbered_28 : decode cX4_renumbered 28 = .ok (.iload 6, 2) := by decide +kernel
theorem dX4_renumbered_30 : decode cX4_renumbered 30 = .ok (.iushr, 1) := by decide +kernel
theorem dX4_renumbered_31 : decode cX4_renumbered 31 = .ok (.bipush 7, 2) := by decide +kernel
theorem dX4_renumbered_33 : decode cX4_renumbered 33 = .ok (.iand, 1) := by decide +kernel
theorem dX4_renumbered_34 : decode cX4_renumbered 34 = .ok (.istore 7, 2) := by decide +kernel
theorem dX4_renumbered_36 : decode cX4_renumbered 36 = .ok (.iload 7, 2) := by decide +kernel
theorem dX4_renumbered_38 : decode cX4_renumbered 38 = .ok (.ifCond .eq 46, 3) := by decide +kernel
theorem dX4_renumbered_41 : decode cX4_renumbered 41 = .ok (.iload 4, 2) := by decide +kernel
theorem dX4_renumbered_43 : decode cX4_renumbered 43 = .ok (.iconst 4, 1) := by decide +kernel
theorem dX4_renumbered_44 : decode cX4_renumbered 44 = .ok (.iload 7, 2) := by decide +kernel
theorem dX4_renumbered_46 : decode cX4_renumbered 46 = .ok (.imul, 1) := by decide +kernel
theorem dX4_renumbered_47 : decode cX4_renumbered 47 = .ok (.iushr, 1) := by decide +kernel
theorem dX4_renumbered_48 : decode cX4_renumbered 48 = .ok (.bipush 15, 2) := by decide +kernel
theorem dX4_renumbered_50 : decode cX4_renumbered 50 = .ok (.iand, 1) := by decide +kernel
theorem dX4_renumbered_51 : decode cX4_renumbered 51 = .ok (.ifCond .ne 17, 3) := by decide +kernel
theorem dX4_renumbered_54 : decode cX4_renumbered 54 = .ok (.iload 4, 2) := by decide +kernel
theorem dX4_renumbered_56 : decode cX4_renumbered 56 = .ok (.iload_n 3, 1) := by decide +kernel
theorem dX4_renumbered_57 : decode cX4_renumbered 57 = .ok (.iconst 4, 1) := by decide +kernel
theorem dX4_renumbered_58 : decode cX4_renumbered 58 = .ok (.iload 7, 2) := by decide +kernel
theorem dX4_renumbered_60 : decode cX4_renumbered 60 = .ok (.imul, 1) := by decide +kernel
theorem dX4_renumbered_61 : decode cX4_renumbered 61 = .ok (.ishl, 1) := by decide +kernel
theorem dX4_renumbered_62 : decode cX4_renumbered 62 = .ok (.ior, 1) := by decide +kernel
theorem dX4_renumbered_63 : decode cX4_renumbered 63 = .ok (.istore 4, 2) := by decide +kernel
theorem dX4_renumbered_65 : decode cX4_renumbered 65 = .ok (.iinc 3 1, 3) := by decide +kernel
theorem dX4_renumbered_68 : decode cX4_renumbered 68 = .ok (.iload_n 2, 1) := by decide +kernel
theorem dX4_renumbered_69 : decode cX4_renumbered 69 = .ok (.iload 4, 2) := by decide +kernel
theorem dX4_renumbered_71 : decode cX4_renumbered 71 = .ok (.iconst 4, 1) := by decide +kernel
theorem dX4_renumbered_72 : decode cX4_renumbered 72 = .ok (.iload 7, 2) := by decide +kernel
theorem dX4_renumbered_74 : decode cX4_renumbered 74 = .ok (.imul, 1) := by decide +kernel
theorem dX4_renumbered_75 : decode cX4_renumbered 75 = .ok (.iushr, 1) := by decide +kernel
theorem dX4_renumbered_76 : decode cX4_renumbered 76 = .ok (.bipush 15, 2) := by decide +kernel
theorem dX4_renumbered_78 : decode cX4_renumbered 78 = .ok (.iand, 1) := by decide +kernel
theorem dX4_renumbered_79 : decode cX4_renumbered 79 = .ok (.iload 6, 2) := by decide +kernel
theorem dX4_renumbered_81 : decode cX4_renumbered 81 = .ok (.ishl, 1) := by decide +kernel
theorem dX4_renumbered_82 : decode cX4_renumbered 82 = .ok (.ior, 1) := by decide +kernel
theorem dX4_renumbered_83 : decode cX4_renumbered 83 = .ok (.istore_n 2, 1) := by decide +kernel
theorem dX4_renumbered_84 : decode cX4_renumbered 84 = .ok (.iinc 5 1, 3) := by decide +kernel
theorem dX4_renumbered_87 : decode cX4_renumbered 87 = .ok (.goto (-77), 3) := by decide +kernel
theorem dX4_renumbered_90 : decode cX4_renumbered 90 = .ok (.iload_n 2, 1) := by decide +kernel
theorem dX4_renumbered_91 : decode cX4_renumbered 91 = .ok (.ireturn, 1) := by decide +kernel
theorem dX4_indexOf_0 : decode cX4_indexOf 0 = .ok (.iconst 0, 1) := by decide +kernel
theorem dX4_indexOf_1 : decode cX4_indexOf 1 = .ok (.istore_n 2, 1) := by decide +kernel
theorem dX4_indexOf_2 : decode cX4_indexOf 2 = .ok (.aload_n 0, 1) := by decide +kernel
theorem dX4_indexOf_3 : decode cX4_indexOf 3 = .ok (.getfield 40, 3) := by decide +kernel
theorem dX4_indexOf_6 : decode cX4_indexOf 6 = .ok (.iconst 1, 1) := by decide +kernel
theorem dX4_indexOf_7 : decode cX4_indexOf 7 = .ok (.isub, 1) := by decide +kernel
theorem dX4_indexOf_8 : decode cX4_indexOf 8 = .ok (.istore_n 3, 1) := by decide +kernel
theorem dX4_indexOf_9 : decode cX4_indexOf 9 = .ok (.iconst 0, 1) := by decide +kernel
theorem dX4_indexOf_10 : decode cX4_indexOf 10 = .ok (.istore 4, 2) := by decide +kernel
theorem dX4_indexOf_12 : decode cX4_indexOf 12 = .ok (.iload 4, 2) := by decide +kernel
theorem dX4_indexOf_14 : decode cX4_indexOf 14 = .ok (.bipush 8, 2) := by decide +kernel
theorem dX4_indexOf_16 : decode cX4_indexOf 16 = .ok (.if_icmp .ge 43, 3) := by decide +kernel
theorem dX4_indexOf_19 : decode cX4_indexOf 19 = .ok (.iload_n 2, 1) := by decide +kernel
theorem dX4_indexOf_20 : decode cX4_indexOf 20 = .ok (.iload_n 3, 1) := by decide +kernel
theorem dX4_indexOf_21 : decode cX4_indexOf 21 = .ok (.if_icmp .ge 38, 3) := by decide +kernel
theorem dX4_indexOf_24 : decode cX4_indexOf 24 = .ok (.iload_n 2, 1) := by decide +kernel
theorem dX4_indexOf_25 : decode cX4_indexOf 25 = .ok (.iload_n 3, 1) := by decide +kernel
theorem dX4_indexOf_26 : decode cX4_indexOf 26 = .ok (.iadd, 1) := by decide +kernel
theorem dX4_indexOf_27 : decode cX4_indexOf 27 = .ok (.iconst 2, 1) := by decide +kernel
theorem dX4_indexOf_28 : decode cX4_indexOf 28 = .ok (.idiv, 1) := by decide +kernel
theorem dX4_indexOf_29 : decode cX4_indexOf 29 = .ok (.istore 5, 2) := by decide +kernel
theorem dX4_indexOf_31 : decode cX4_indexOf 31 = .ok (.aload_n 0, 1) := by decide +kernel
theorem dX4_indexOf_32 : decode cX4_indexOf 32 = .ok (.getfield 9, 3) := by decide +kernel
theorem dX4_indexOf_35 : decode cX4_indexOf 35 = .ok (.iload 5, 2) := by decide +kernel
theorem dX4_indexOf_37 : decode cX4_indexOf 37 = .ok (.iaload, 1) := by decide +kernel
theorem dX4_indexOf_38 : decode cX4_indexOf 38 = .ok (.iload_n 1, 1) := by decide +kernel
theorem dX4_indexOf_39 : decode cX4_indexOf 39 = .ok (.if_icmp .ge 11, 3) := by decide +kernel
theorem dX4_indexOf_42 : decode cX4_indexOf 42 = .ok (.iload 5, 2) := by decide +kernel
theorem dX4_indexOf_44 : decode cX4_indexOf 44 = .ok (.iconst 1, 1) := by decide +kernel
theorem dX4_indexOf_45 : decode cX4_indexOf 45 = .ok (.iadd, 1) := by decide +kernel
theorem dX4_indexOf_46 : decode cX4_indexOf 46 = .ok (.istore_n 2, 1) := by decide +kernel
theorem dX4_indexOf_47 : decode cX4_indexOf 47 = .ok (.goto 6, 3) := by decide +kernel
theorem dX4_indexOf_50 : decode cX4_indexOf 50 = .ok (.iload 5, 2) := by decide +kernel
theorem dX4_indexOf_52 : decode cX4_indexOf 52 = .ok (.istore_n 3, 1) := by decide +kernel
theorem dX4_indexOf_53 : decode cX4_indexOf 53 = .ok (.iinc 4 1, 3) := by decide +kernel
theorem dX4_indexOf_56 : decode cX4_indexOf 56 = .ok (.goto (-44), 3) := by decide +kernel
theorem dX4_indexOf_59 : decode cX4_indexOf 59 = .ok (.iload_n 2, 1) := by decide +kernel
theorem dX4_indexOf_60 : decode cX4_indexOf 60 = .ok (.ireturn, 1) := by decide +kernel
theorem dX4_makeSteps_0 : decode cX4_makeSteps 0 = .ok (.aload_n 0, 1) := by decide +kernel
theorem dX4_makeSteps_1 : decode cX4_makeSteps 1 = .ok (.iconst 0, 1) := by decide +kernel
theorem dX4_makeSteps_2 : decode cX4_makeSteps 2 = .ok (.putfield 103, 3) := by decide +kernel
theorem dX4_makeSteps_5 : decode cX4_makeSteps 5 = .ok (.iconst 0, 1) := by decide +kernel
theorem dX4_makeSteps_6 : decode cX4_makeSteps 6 = .ok (.istore_n 1, 1) := by decide +kernel
theorem dX4_makeSteps_7 : decode cX4_makeSteps 7 = .ok (.iload_n 1, 1) := by decide +kernel
theorem dX4_makeSteps_8 : decode cX4_makeSteps 8 = .ok (.aload_n 0, 1) := by decide +kernel
theorem dX4_makeSteps_9 : decode cX4_makeSteps 9 = .ok (.getfield 37, 3) := by decide +kernel
theorem dX4_makeSteps_12 : decode cX4_makeSteps 12 = .ok (.if_icmp .ge 72, 3) := by decide +kernel
theorem dX4_makeSteps_15 : decode cX4_makeSteps 15 = .ok (.aload_n 0, 1) := by decide +kernel
theorem dX4_makeSteps_16 : decode cX4_makeSteps 16 = .ok (.getfield 27, 3) := by decide +kernel
theorem dX4_makeSteps_19 : decode cX4_makeSteps 19 = .ok (.iload_n 1, 1) := by decide +kernel
theorem dX4_makeSteps_20 : decode cX4_makeSteps 20 = .ok (.aload_n 0, 1) := by decide +kernel
theorem dX4_makeSteps_21 : decode cX4_makeSteps 21 = .ok (.getfield 103, 3) := by decide +kernel
theorem dX4_makeSteps_24 : decode cX4_makeSteps 24 = .ok (.iastore, 1) := by decide +kernel
theorem dX4_makeSteps_25 : decode cX4_makeSteps 25 = .ok (.iconst 0, 1) := by decide +kernel
theorem dX4_makeSteps_26 : decode cX4_makeSteps 26 = .ok (.istore_n 2, 1) := by decide +kernel
theorem dX4_makeSteps_27 : decode cX4_makeSteps 27 = .ok (.iload_n 2, 1) := by decide +kernel
theorem dX4_makeSteps_28 : decode cX4_makeSteps 28 = .ok (.aload_n 0, 1) := by decide +kernel
theorem dX4_makeSteps_29 : decode cX4_makeSteps 29 = .ok (.getfield 33, 3) := by decide +kernel
theorem dX4_makeSteps_32 : decode cX4_makeSteps 32 = .ok (.if_icmp .ge 46, 3) := by decide +kernel
theorem dX4_makeSteps_35 : decode cX4_makeSteps 35 = .ok (.iload_n 1, 1) := by decide +kernel
theorem dX4_makeSteps_36 : decode cX4_makeSteps 36 = .ok (.ifCond .le 16, 3) := by decide +kernel
theorem dX4_makeSteps_39 : decode cX4_makeSteps 39 = .ok (.aload_n 0, 1) := by decide +kernel
theorem dX4_makeSteps_40 : decode cX4_makeSteps 40 = .ok (.iload_n 2, 1) := by decide +kernel
theorem dX4_makeSteps_41 : decode cX4_makeSteps 41 = .ok (.iload_n 1, 1) := by decide +kernel
theorem dX4_makeSteps_42 : decode cX4_makeSteps 42 = .ok (.iconst 1, 1) := by decide +kernel
theorem dX4_makeSteps_43 : decode cX4_makeSteps 43 = .ok (.isub, 1) := by decide +kernel
theorem dX4_makeSteps_44 : decode cX4_makeSteps 44 = .ok (.iconst 1, 1) := by decide +kernel
theorem dX4_makeSteps_45 : decode cX4_makeSteps 45 = .ok (.invokestatic 106, 3) := by decide +kernel
theorem dX4_makeSteps_48 : decode cX4_makeSteps 48 = .ok (.iload_n 2, 1) := by decide +kernel
theorem dX4_makeSteps_49 : decode cX4_makeSteps 49 = .ok (.invokevirtual 112, 3) := by decide +kernel
theorem dX4_makeSteps_52 : decode cX4_makeSteps 52 = .ok (.iload_n 2, 1) := by decide +kernel
theorem dX4_makeSteps_53 : decode cX4_makeSteps 53 = .ok (.ifCond .le 19, 3) := by decide +kernel
theorem dX4_makeSteps_56 : decode cX4_makeSteps 56 = .ok (.aload_n 0, 1) := by decide +kernel
theorem dX4_makeSteps_57 : decode cX4_makeSteps 57 = .ok (.iload_n 2, 1) := by decide +kernel
theorem dX4_makeSteps_58 : decode cX4_makeSteps 58 = .ok (.iconst 1, 1) := by decide +kernel
theorem dX4_makeSteps_59 : decode cX4_makeSteps 59 = .ok (.isub, 1) := by decide +kernel
theorem dX4_makeSteps_60 : decode cX4_makeSteps 60 = .ok (.iload_n 1, 1) := by decide +kernel
theorem dX4_makeSteps_61 : decode cX4_makeSteps 61 = .ok (.iconst 0, 1) := by decide +kernel
theorem dX4_makeSteps_62 : decode cX4_makeSteps 62 = .ok (.invokestatic 106, 3) := by decide +kernel
theorem dX4_makeSteps_65 : decode cX4_makeSteps 65 = .ok (.iload_n 2, 1) := by decide +kernel
theorem dX4_makeSteps_66 : decode cX4_makeSteps 66 = .ok (.invokestatic 86, 3) := by decide +kernel
theorem dX4_makeSteps_69 : decode cX4_makeSteps 69 = .ok (.invokevirtual 112, 3) := by decide +kernel
theorem dX4_makeSteps_72 : decode cX4_makeSteps 72 = .ok (.iinc 2 1, 3) := by decide +kernel
theorem dX4_makeSteps_75 : decode cX4_makeSteps 75 = .ok (.goto (-48), 3) := by decide +kernel
theorem dX4_makeSteps_78 : decode cX4_makeSteps 78 = .ok (.iinc 1 1, 3) := by decide +kernel
theorem dX4_makeSteps_81 : decode cX4_makeSteps 81 = .ok (.goto (-74), 3) := by decide +kernel
theorem dX4_makeSteps_84 : decode cX4_makeSteps 84 = .ok (.aload_n 0, 1) := by decide +kernel
theorem dX4_makeSteps_85 : decode cX4_makeSteps 85 = .ok (.getfield 27, 3) := by decide +kernel
theorem dX4_makeSteps_88 : decode cX4_makeSteps 88 = .ok (.aload_n 0, 1) := by decide +kernel
theorem dX4_makeSteps_89 : decode cX4_makeSteps 89 = .ok (.getfield 37, 3) := by decide +kernel
theorem dX4_makeSteps_92 : decode cX4_makeSteps 92 = .ok (.aload_n 0, 1) := by decide +kernel
theorem dX4_makeSteps_93 : decode cX4_makeSteps 93 = .ok (.getfield 103, 3) := by decide +kernel
theorem dX4_makeSteps_96 : decode cX4_makeSteps 96 = .ok (.iastore, 1) := by decide +kernel
theorem dX4_makeSteps_97 : decode cX4_makeSteps 97 = .ok (.return_, 1) := by decide +kernel
theorem dX4_addStep_0 : decode cX4_addStep 0 = .ok (.aload_n 0, 1) := by decide +kernel
theorem dX4_addStep_1 : decode cX4_addStep 1 = .ok (.getfield 103, 3) := by decide +kernel
theorem dX4_addStep_4 : decode cX4_addStep 4 = .ok (.bipush 40, 2) := by decide +kernel
theorem dX4_addStep_6 : decode cX4_addStep 6 = .ok (.if_icmp .ge 33, 3) := by decide +kernel
theorem dX4_addStep_9 : decode cX4_addStep 9 = .ok (.aload_n 0, 1) := by decide +kernel
theorem dX4_addStep_10 : decode cX4_addStep 10 = .ok (.getfield 21, 3) := by decide +kernel
theorem dX4_addStep_13 : decode cX4_addStep 13 = .ok (.aload_n 0, 1) := by decide +kernel
theorem dX4_addStep_14 : decode cX4_addStep 14 = .ok (.getfield 103, 3) := by decide +kernel
theorem dX4_addStep_17 : decode cX4_addStep 17 = .ok (.iload_n 1, 1) := by decide +kernel
theorem dX4_addStep_18 : decode cX4_addStep 18 = .ok (.iastore, 1) := by decide +kernel
theorem dX4_addStep_19 : decode cX4_addStep 19 = .ok (.aload_n 0, 1) := by decide +kernel
theorem dX4_addStep_20 : decode cX4_addStep 20 = .ok (.getfield 24, 3) := by decide +kernel
theorem dX4_addStep_23 : decode cX4_addStep 23 = .ok (.aload_n 0, 1) := by decide +kernel
theorem dX4_addStep_24 : decode cX4_addStep 24 = .ok (.getfield 103, 3) := by decide +kernel
theorem dX4_addStep_27 : decode cX4_addStep 27 = .ok (.iload_n 2, 1) := by decide +kernel
theorem dX4_addStep_28 : decode cX4_addStep 28 = .ok (.iastore, 1) := by decide +kernel
theorem dX4_addStep_29 : decode cX4_addStep 29 = .ok (.aload_n 0, 1) := by decide +kernel
theorem dX4_addStep_30 : decode cX4_addStep 30 = .ok (.dup, 1) := by decide +kernel
theorem dX4_addStep_31 : decode cX4_addStep 31 = .ok (.getfield 103, 3) := by decide +kernel
theorem dX4_addStep_34 : decode cX4_addStep 34 = .ok (.iconst 1, 1) := by decide +kernel
theorem dX4_addStep_35 : decode cX4_addStep 35 = .ok (.iadd, 1) := by decide +kernel
theorem dX4_addStep_36 : decode cX4_addStep 36 = .ok (.putfield 103, 3) := by decide +kernel
theorem dX4_addStep_39 : decode cX4_addStep 39 = .ok (.return_, 1) := by decide +kernel
theorem dX4_start_0 : decode cX4_start 0 = .ok (.iconst 0, 1) := by decide +kernel
theorem dX4_start_1 : decode cX4_start 1 = .ok (.istore_n 2, 1) := by decide +kernel
theorem dX4_start_2 : decode cX4_start 2 = .ok (.iconst 1, 1) := by decide +kernel
theorem dX4_start_3 : decode cX4_start 3 = .ok (.istore_n 3, 1) := by decide +kernel
theorem dX4_start_4 : decode cX4_start 4 = .ok (.iconst 0, 1) := by decide +kernel
theorem dX4_start_5 : decode cX4_start 5 = .ok (.istore 4, 2) := by decide +kernel
theorem dX4_start_7 : decode cX4_start 7 = .ok (.iload 4, 2) := by decide +kernel
theorem dX4_start_9 : decode cX4_start 9 = .ok (.aload_n 0, 1) := by decide +kernel
theorem dX4_start_10 : decode cX4_start 10 = .ok (.getfield 33, 3) := by decide +kernel
theorem dX4_start_13 : decode cX4_start 13 = .ok (.if_icmp .ge 36, 3) := by decide +kernel
theorem dX4_start_16 : decode cX4_start 16 = .ok (.aload_n 1, 1) := by decide +kernel
theorem dX4_start_17 : decode cX4_start 17 = .ok (.iload 4, 2) := by decide +kernel
theorem dX4_start_19 : decode cX4_start 19 = .ok (.iconst 0, 1) := by decide +kernel
theorem dX4_start_20 : decode cX4_start 20 = .ok (.iconst 0, 1) := by decide +kernel
theorem dX4_start_21 : decode cX4_start 21 = .ok (.invokestatic 106, 3) := by decide +kernel
theorem dX4_start_24 : decode cX4_start 24 = .ok (.invokevirtual 116, 3) := by decide +kernel
theorem dX4_start_27 : decode cX4_start 27 = .ok (.ifCond .eq 16, 3) := by decide +kernel
theorem dX4_start_30 : decode cX4_start 30 = .ok (.iload_n 2, 1) := by decide +kernel
theorem dX4_start_31 : decode cX4_start 31 = .ok (.iload_n 3, 1) := by decide +kernel
theorem dX4_start_32 : decode cX4_start 32 = .ok (.iload 4, 2) := by decide +kernel
theorem dX4_start_34 : decode cX4_start 34 = .ok (.invokestatic 67, 3) := by decide +kernel
theorem dX4_start_37 : decode cX4_start 37 = .ok (.ishl, 1) := by decide +kernel
theorem dX4_start_38 : decode cX4_start 38 = .ok (.ior, 1) := by decide +kernel
theorem dX4_start_39 : decode cX4_start 39 = .ok (.istore_n 2, 1) := by decide +kernel
theorem dX4_start_40 : decode cX4_start 40 = .ok (.iinc 3 1, 3) := by decide +kernel
theorem dX4_start_43 : decode cX4_start 43 = .ok (.iinc 4 1, 3) := by decide +kernel
theorem dX4_start_46 : decode cX4_start 46 = .ok (.goto (-39), 3) := by decide +kernel
theorem dX4_start_49 : decode cX4_start 49 = .ok (.aload_n 0, 1) := by decide +kernel
theorem dX4_start_50 : decode cX4_start 50 = .ok (.iload_n 2, 1) := by decide +kernel
theorem dX4_start_51 : decode cX4_start 51 = .ok (.invokevirtual 83, 3) := by decide +kernel
theorem dX4_start_54 : decode cX4_start 54 = .ok (.ireturn, 1) := by decide +kernel
theorem dX4_movesOpen_0 : decode cX4_movesOpen 0 = .ok (.iload_n 0, 1) := by decide +kernel
theorem dX4_movesOpen_1 : decode cX4_movesOpen 1 = .ok (.iconst 2, 1) := by decide +kernel
theorem dX4_movesOpen_2 : decode cX4_movesOpen 2 = .ok (.irem, 1) := by decide +kernel
theorem dX4_movesOpen_3 : decode cX4_movesOpen 3 = .ok (.ifCond .ne 7, 3) := by decide +kernel
theorem dX4_movesOpen_6 : decode cX4_movesOpen 6 = .ok (.iconst 1, 1) := by decide +kernel
theorem dX4_movesOpen_7 : decode cX4_movesOpen 7 = .ok (.goto 4, 3) := by decide +kernel
theorem dX4_movesOpen_10 : decode cX4_movesOpen 10 = .ok (.iconst 0, 1) := by decide +kernel
theorem dX4_movesOpen_11 : decode cX4_movesOpen 11 = .ok (.ireturn, 1) := by decide +kernel
theorem dX4_movesAll_0 : decode cX4_movesAll 0 = .ok (.iload_n 1, 1) := by decide +kernel
theorem dX4_movesAll_1 : decode cX4_movesAll 1 = .ok (.iload_n 0, 1) := by decide +kernel
theorem dX4_movesAll_2 : decode cX4_movesAll 2 = .ok (.invokestatic 120, 3) := by decide +kernel
theorem dX4_movesAll_5 : decode cX4_movesAll 5 = .ok (.ifCond .eq 7, 3) := by decide +kernel
theorem dX4_movesAll_8 : decode cX4_movesAll 8 = .ok (.iconst 1, 1) := by decide +kernel
theorem dX4_movesAll_9 : decode cX4_movesAll 9 = .ok (.goto 4, 3) := by decide +kernel
theorem dX4_movesAll_12 : decode cX4_movesAll 12 = .ok (.iconst 2, 1) := by decide +kernel
theorem dX4_movesAll_13 : decode cX4_movesAll 13 = .ok (.if_icmp .ne 7, 3) := by decide +kernel
theorem dX4_movesAll_16 : decode cX4_movesAll 16 = .ok (.iconst 1, 1) := by decide +kernel
theorem dX4_movesAll_17 : decode cX4_movesAll 17 = .ok (.goto 4, 3) := by decide +kernel
theorem dX4_movesAll_20 : decode cX4_movesAll 20 = .ok (.iconst 0, 1) := by decide +kernel
theorem dX4_movesAll_21 : decode cX4_movesAll 21 = .ok (.ireturn, 1) := by decide +kernel
theorem dX4_moved_0 : decode cX4_moved 0 = .ok (.aload_n 0, 1) := by decide +kernel
theorem dX4_moved_1 : decode cX4_moved 1 = .ok (.getfield 18, 3) := by decide +kernel
theorem dX4_moved_4 : decode cX4_moved 4 = .ok (.iload_n 1, 1) := by decide +kernel
theorem dX4_moved_5 : decode cX4_moved 5 = .ok (.sipush 132, 3) := by decide +kernel
theorem dX4_moved_8 : decode cX4_moved 8 = .ok (.imul, 1) := by decide +kernel
theorem dX4_moved_9 : decode cX4_moved 9 = .ok (.iload_n 2, 1) := by decide +kernel
theorem dX4_moved_10 : decode cX4_moved 10 = .ok (.iadd, 1) := by decide +kernel
theorem dX4_moved_11 : decode cX4_moved 11 = .ok (.iaload, 1) := by decide +kernel
theorem dX4_moved_12 : decode cX4_moved 12 = .ok (.ireturn, 1) := by decide +kernel
theorem dX4_label_0 : decode cX4_label 0 = .ok (.aload_n 0, 1) := by decide +kernel
theorem dX4_label_1 : decode cX4_label 1 = .ok (.getfield 9, 3) := by decide +kernel
theorem dX4_label_4 : decode cX4_label 4 = .ok (.iload_n 1, 1) := by decide +kernel
theorem dX4_label_5 : decode cX4_label 5 = .ok (.iaload, 1) := by decide +kernel
theorem dX4_label_6 : decode cX4_label 6 = .ok (.iload_n 2, 1) := by decide +kernel
theorem dX4_label_7 : decode cX4_label 7 = .ok (.invokestatic 77, 3) := by decide +kernel
theorem dX4_label_10 : decode cX4_label 10 = .ok (.ireturn, 1) := by decide +kernel
theorem dX4_greatest_0 : decode cX4_greatest 0 = .ok (.aload_n 0, 1) := by decide +kernel
theorem dX4_greatest_1 : decode cX4_greatest 1 = .ok (.getfield 9, 3) := by decide +kernel
theorem dX4_greatest_4 : decode cX4_greatest 4 = .ok (.iload_n 1, 1) := by decide +kernel
theorem dX4_greatest_5 : decode cX4_greatest 5 = .ok (.iaload, 1) := by decide +kernel
theorem dX4_greatest_6 : decode cX4_greatest 6 = .ok (.aload_n 0, 1) := by decide +kernel
theorem dX4_greatest_7 : decode cX4_greatest 7 = .ok (.getfield 33, 3) := by decide +kernel
theorem dX4_greatest_10 : decode cX4_greatest 10 = .ok (.invokestatic 60, 3) := by decide +kernel
theorem dX4_greatest_13 : decode cX4_greatest 13 = .ok (.ireturn, 1) := by decide +kernel
theorem dX4_greatestBefore_0 : decode cX4_greatestBefore 0 = .ok (.iconst 0, 1) := by decide +kernel
theorem dX4_greatestBefore_1 : decode cX4_greatestBefore 1 = .ok (.istore_n 2, 1) := by decide +kernel
theorem dX4_greatestBefore_2 : decode cX4_greatestBefore 2 = .ok (.iconst 0, 1) := by decide +kernel
theorem dX4_greatestBefore_3 : decode cX4_greatestBefore 3 = .ok (.istore_n 3, 1) := by decide +kernel
theorem dX4_greatestBefore_4 : decode cX4_greatestBefore 4 = .ok (.iload_n 3, 1) := by decide +kernel
theorem dX4_greatestBefore_5 : decode cX4_greatestBefore 5 = .ok (.iload_n 1, 1) := by decide +kernel
theorem dX4_greatestBefore_6 : decode cX4_greatestBefore 6 = .ok (.if_icmp .ge 19, 3) := by decide +kernel
theorem dX4_greatestBefore_9 : decode cX4_greatestBefore 9 = .ok (.iload_n 2, 1) := by decide +kernel
theorem dX4_greatestBefore_10 : decode cX4_greatestBefore 10 = .ok (.iload_n 0, 1) := by decide +kernel
theorem dX4_greatestBefore_11 : decode cX4_greatestBefore 11 = .ok (.iload_n 3, 1) := by decide +kernel
theorem dX4_greatestBefore_12 : decode cX4_greatestBefore 12 = .ok (.invokestatic 77, 3) := by decide +kernel
theorem dX4_greatestBefore_15 : decode cX4_greatestBefore 15 = .ok (.invokestatic 100, 3) := by decide +kernel
theorem dX4_greatestBefore_18 : decode cX4_greatestBefore 18 = .ok (.istore_n 2, 1) := by decide +kernel
theorem dX4_greatestBefore_19 : decode cX4_greatestBefore 19 = .ok (.iinc 3 1, 3) := by decide +kernel
theorem dX4_greatestBefore_22 : decode cX4_greatestBefore 22 = .ok (.goto (-18), 3) := by decide +kernel
theorem dX4_greatestBefore_25 : decode cX4_greatestBefore 25 = .ok (.iload_n 2, 1) := by decide +kernel
theorem dX4_greatestBefore_26 : decode cX4_greatestBefore 26 = .ok (.ireturn, 1) := by decide +kernel
theorem dX4_shiftOf_0 : decode cX4_shiftOf 0 = .ok (.iconst 3, 1) := by decide +kernel
theorem dX4_shiftOf_1 : decode cX4_shiftOf 1 = .ok (.iconst 4, 1) := by decide +kernel
theorem dX4_shiftOf_2 : decode cX4_shiftOf 2 = .ok (.iload_n 0, 1) := by decide +kernel
theorem dX4_shiftOf_3 : decode cX4_shiftOf 3 = .ok (.isub, 1) := by decide +kernel
theorem dX4_shiftOf_4 : decode cX4_shiftOf 4 = .ok (.imul, 1) := by decide +kernel
theorem dX4_shiftOf_5 : decode cX4_shiftOf 5 = .ok (.ireturn, 1) := by decide +kernel
theorem dX4_labelIn_0 : decode cX4_labelIn 0 = .ok (.iload_n 0, 1) := by decide +kernel
theorem dX4_labelIn_1 : decode cX4_labelIn 1 = .ok (.iconst 3, 1) := by decide +kernel
theorem dX4_labelIn_2 : decode cX4_labelIn 2 = .ok (.iconst 4, 1) := by decide +kernel
theorem dX4_labelIn_3 : decode cX4_labelIn 3 = .ok (.iload_n 1, 1) := by decide +kernel
theorem dX4_labelIn_4 : decode cX4_labelIn 4 = .ok (.isub, 1) := by decide +kernel
theorem dX4_labelIn_5 : decode cX4_labelIn 5 = .ok (.imul, 1) := by decide +kernel
theorem dX4_labelIn_6 : decode cX4_labelIn 6 = .ok (.iushr, 1) := by decide +kernel
theorem dX4_labelIn_7 : decode cX4_labelIn 7 = .ok (.bipush 7, 2) := by decide +kernel
theorem dX4_labelIn_9 : decode cX4_labelIn 9 = .ok (.iand, 1) := by decide +kernel
theorem dX4_labelIn_10 : decode cX4_labelIn 10 = .ok (.ireturn, 1) := by decide +kernel
theorem dX5_init_0 : decode cX5_init 0 = .ok (.aload_n 0, 1) := by decide +kernel
theorem dX5_init_1 : decode cX5_init 1 = .ok (.invokespecial 3, 3) := by decide +kernel
theorem dX5_init_4 : decode cX5_init 4 = .ok (.aload_n 0, 1) := by decide +kernel
theorem dX5_init_5 : decode cX5_init 5 = .ok (.aload_n 1, 1) := by decide +kernel
theorem dX5_init_6 : decode cX5_init 6 = .ok (.putfield 9, 3) := by decide +kernel
theorem dX5_init_9 : decode cX5_init 9 = .ok (.return_, 1) := by decide +kernel
theorem dX5_parse_0 : decode cX5_parse 0 = .ok (.aload_n 0, 1) := by decide +kernel
theorem dX5_parse_1 : decode cX5_parse 1 = .ok (.getfield 9, 3) := by decide +kernel
theorem dX5_parse_4 : decode cX5_parse 4 = .ok (.invokevirtual 15, 3) := by decide +kernel
theorem dX5_parse_7 : decode cX5_parse 7 = .ok (.aload_n 0, 1) := by decide +kernel
theorem dX5_parse_8 : decode cX5_parse 8 = .ok (.invokevirtual 20, 3) := by decide +kernel
theorem dX5_parse_11 : decode cX5_parse 11 = .ok (.istore_n 1, 1) := by decide +kernel
theorem dX5_parse_12 : decode cX5_parse 12 = .ok (.iconst 0, 1) := by decide +kernel
theorem dX5_parse_13 : decode cX5_parse 13 = .ok (.istore_n 2, 1) := by decide +kernel
theorem dX5_parse_14 : decode cX5_parse 14 = .ok (.iload_n 2, 1) := by decide +kernel
theorem dX5_parse_15 : decode cX5_parse 15 = .ok (.sipush 400, 3) := by decide +kernel
theorem dX5_parse_18 : decode cX5_parse 18 = .ok (.if_icmp .ge 46, 3) := by decide +kernel
theorem dX5_parse_21 : decode cX5_parse 21 = .ok (.iload_n 1, 1) := by decide +kernel
theorem dX5_parse_22 : decode cX5_parse 22 = .ok (.ifCond .eq 42, 3) := by decide +kernel
theorem dX5_parse_25 : decode cX5_parse 25 = .ok (.aload_n 0, 1) := by decide +kernel
theorem dX5_parse_26 : decode cX5_parse 26 = .ok (.getfield 9, 3) := by decide +kernel
theorem dX5_parse_29 : decode cX5_parse 29 = .ok (.invokevirtual 24, 3) := by decide +kernel
theorem dX5_parse_32 : decode cX5_parse 32 = .ok (.ifCond .ne 32, 3) := by decide +kernel
theorem dX5_parse_35 : decode cX5_parse 35 = .ok (.aload_n 0, 1) := by decide +kernel
theorem dX5_parse_36 : decode cX5_parse 36 = .ok (.invokevirtual 27, 3) := by decide +kernel
theorem dX5_parse_39 : decode cX5_parse 39 = .ok (.ifCond .eq 17, 3) := by decide +kernel
theorem dX5_parse_42 : decode cX5_parse 42 = .ok (.aload_n 0, 1) := by decide +kernel
theorem dX5_parse_43 : decode cX5_parse 43 = .ok (.getfield 9, 3) := by decide +kernel
theorem dX5_parse_46 : decode cX5_parse 46 = .ok (.invokevirtual 30, 3) := by decide +kernel
theorem dX5_parse_49 : decode cX5_parse 49 = .ok (.ifCond .eq 7, 3) := by decide +kernel
theorem dX5_parse_52 : decode cX5_parse 52 = .ok (.iconst 1, 1) := by decide +kernel
theorem dX5_parse_53 : decode cX5_parse 53 = .ok (.goto 4, 3) := by decide +kernel
theorem dX5_parse_56 : decode cX5_parse 56 = .ok (.iconst 0, 1) := by decide +kernel
theorem dX5_parse_57 : decode cX5_parse 57 = .ok (.istore_n 1, 1) := by decide +kernel
theorem dX5_parse_58 : decode cX5_parse 58 = .ok (.iinc 2 1, 3) := by decide +kernel
theorem dX5_parse_61 : decode cX5_parse 61 = .ok (.goto (-47), 3) := by decide +kernel
theorem dX5_parse_64 : decode cX5_parse 64 = .ok (.iload_n 1, 1) := by decide +kernel
theorem dX5_parse_65 : decode cX5_parse 65 = .ok (.ifCond .ne 5, 3) := by decide +kernel
theorem dX5_parse_68 : decode cX5_parse 68 = .ok (.aconst_null, 1) := by decide +kernel
theorem dX5_parse_69 : decode cX5_parse 69 = .ok (.areturn, 1) := by decide +kernel
theorem dX5_parse_70 : decode cX5_parse 70 = .ok (.new 33, 3) := by decide +kernel
theorem dX5_parse_73 : decode cX5_parse 73 = .ok (.dup, 1) := by decide +kernel
theorem dX5_parse_74 : decode cX5_parse 74 = .ok (.aload_n 0, 1) := by decide +kernel
theorem dX5_parse_75 : decode cX5_parse 75 = .ok (.getfield 35, 3) := by decide +kernel
theorem dX5_parse_78 : decode cX5_parse 78 = .ok (.aload_n 0, 1) := by decide +kernel
theorem dX5_parse_79 : decode cX5_parse 79 = .ok (.getfield 39, 3) := by decide +kernel
theorem dX5_parse_82 : decode cX5_parse 82 = .ok (.aload_n 0, 1) := by decide +kernel
theorem dX5_parse_83 : decode cX5_parse 83 = .ok (.getfield 42, 3) := by decide +kernel
theorem dX5_parse_86 : decode cX5_parse 86 = .ok (.aload_n 0, 1) := by decide +kernel
theorem dX5_parse_87 : decode cX5_parse 87 = .ok (.getfield 46, 3) := by decide +kernel
theorem dX5_parse_90 : decode cX5_parse 90 = .ok (.aload_n 0, 1) := by decide +kernel
theorem dX5_parse_91 : decode cX5_parse 91 = .ok (.getfield 49, 3) := by decide +kernel
theorem dX5_parse_94 : decode cX5_parse 94 = .ok (.invokespecial 52, 3) := by decide +kernel
theorem dX5_parse_97 : decode cX5_parse 97 = .ok (.astore_n 2, 1) := by decide +kernel
theorem dX5_parse_98 : decode cX5_parse 98 = .ok (.aload_n 2, 1) := by decide +kernel
theorem dX5_parse_99 : decode cX5_parse 99 = .ok (.invokevirtual 55, 3) := by decide +kernel
theorem dX5_parse_102 : decode cX5_parse 102 = .ok (.bipush 24, 2) := by decide +kernel
theorem dX5_parse_104 : decode cX5_parse 104 = .ok (.if_icmp .le 19, 3) := by decide +kernel
theorem dX5_parse_107 : decode cX5_parse 107 = .ok (.aload_n 0, 1) := by decide +kernel
theorem dX5_parse_108 : decode cX5_parse 108 = .ok (.getfield 9, 3) := by decide +kernel
theorem dX5_parse_111 : decode cX5_parse 111 = .ok (.aload_n 0, 1) := by decide +kernel
theorem dX5_parse_112 : decode cX5_parse 112 = .ok (.getfield 9, 3) := by decide +kernel
theorem dX5_parse_115 : decode cX5_parse 115 = .ok (.getfield 59, 3) := by decide +kernel
theorem dX5_parse_118 : decode cX5_parse 118 = .ok (.putfield 62, 3) := by decide +kernel
theorem dX5_parse_121 : decode cX5_parse 121 = .ok (.aconst_null, 1) := by decide +kernel
theorem dX5_parse_122 : decode cX5_parse 122 = .ok (.areturn, 1) := by decide +kernel
theorem dX5_parse_123 : decode cX5_parse 123 = .ok (.aload_n 2, 1) := by decide +kernel
theorem dX5_parse_124 : decode cX5_parse 124 = .ok (.areturn, 1) := by decide +kernel
theorem dX5_takeSize_0 : decode cX5_takeSize 0 = .ok (.aload_n 0, 1) := by decide +kernel
theorem dX5_takeSize_1 : decode cX5_takeSize 1 = .ok (.getfield 9, 3) := by decide +kernel
theorem dX5_takeSize_4 : decode cX5_takeSize 4 = .ok (.invokevirtual 65, 3) := by decide +kernel
theorem dX5_takeSize_7 : decode cX5_takeSize 7 = .ok (.aload_n 0, 1) := by decide +kernel
theorem dX5_takeSize_8 : decode cX5_takeSize 8 = .ok (.getfield 9, 3) := by decide +kernel
theorem dX5_takeSize_11 : decode cX5_takeSize 11 = .ok (.ldc 68, 2) := by decide +kernel
theorem dX5_takeSize_13 : decode cX5_takeSize 13 = .ok (.invokevirtual 70, 3) := by decide +kernel
theorem dX5_takeSize_16 : decode cX5_takeSize 16 = .ok (.ifCond .ne 11, 3) := by decide +kernel
theorem dX5_takeSize_19 : decode cX5_takeSize 19 = .ok (.aload_n 0, 1) := by decide +kernel
theorem dX5_takeSize_20 : decode cX5_takeSize 20 = .ok (.getfield 9, 3) := by decide +kernel
theorem dX5_takeSize_23 : decode cX5_takeSize 23 = .ok (.invokevirtual 74, 3) := by decide +kernel
theorem dX5_takeSize_26 : decode cX5_takeSize 26 = .ok (.ireturn, 1) := by decide +kernel
theorem dX5_takeSize_27 : decode cX5_takeSize 27 = .ok (.aload_n 0, 1) := by decide +kernel
theorem dX5_takeSize_28 : decode cX5_takeSize 28 = .ok (.aload_n 0, 1) := by decide +kernel
theorem dX5_takeSize_29 : decode cX5_takeSize 29 = .ok (.getfield 9, 3) := by decide +kernel
theorem dX5_takeSize_32 : decode cX5_takeSize 32 = .ok (.iconst 1, 1) := by decide +kernel
theorem dX5_takeSize_33 : decode cX5_takeSize 33 = .ok (.iconst 5, 1) := by decide +kernel
theorem dX5_takeSize_34 : decode cX5_takeSize 34 = .ok (.invokevirtual 77, 3) := by decide +kernel
theorem dX5_takeSize_37 : decode cX5_takeSize 37 = .ok (.putfield 35, 3) := by decide +kernel
theorem dX5_takeSize_40 : decode cX5_takeSize 40 = .ok (.aload_n 0, 1) := by decide +kernel
theorem dX5_takeSize_41 : decode cX5_takeSize 41 = .ok (.getfield 35, 3) := by decide +kernel
theorem dX5_takeSize_44 : decode cX5_takeSize 44 = .ok (.iconst (-1), 1) := by decide +kernel
theorem dX5_takeSize_45 : decode cX5_takeSize 45 = .ok (.if_icmp .ne 5, 3) := by decide +kernel
theorem dX5_takeSize_48 : decode cX5_takeSize 48 = .ok (.iconst 0, 1) := by decide +kernel
theorem dX5_takeSize_49 : decode cX5_takeSize 49 = .ok (.ireturn, 1) := by decide +kernel
theorem dX5_takeSize_50 : decode cX5_takeSize 50 = .ok (.aload_n 0, 1) := by decide +kernel
theorem dX5_takeSize_51 : decode cX5_takeSize 51 = .ok (.aload_n 0, 1) := by decide +kernel
theorem dX5_takeSize_52 : decode cX5_takeSize 52 = .ok (.getfield 9, 3) := by decide +kernel
theorem dX5_takeSize_55 : decode cX5_takeSize 55 = .ok (.iconst 1, 1) := by decide +kernel
theorem dX5_takeSize_56 : decode cX5_takeSize 56 = .ok (.iconst 5, 1) := by decide +kernel
theorem dX5_takeSize_57 : decode cX5_takeSize 57 = .ok (.invokevirtual 77, 3) := by decide +kernel
theorem dX5_takeSize_60 : decode cX5_takeSize 60 = .ok (.putfield 39, 3) := by decide +kernel
theorem dX5_takeSize_63 : decode cX5_takeSize 63 = .ok (.aload_n 0, 1) := by decide +kernel
theorem dX5_takeSize_64 : decode cX5_takeSize 64 = .ok (.getfield 39, 3) := by decide +kernel
theorem dX5_takeSize_67 : decode cX5_takeSize 67 = .ok (.iconst (-1), 1) := by decide +kernel
theorem dX5_takeSize_68 : decode cX5_takeSize 68 = .ok (.if_icmp .eq 17, 3) := by decide +kernel
theorem dX5_takeSize_71 : decode cX5_takeSize 71 = .ok (.aload_n 0, 1) := by decide +kernel
theorem dX5_takeSize_72 : decode cX5_takeSize 72 = .ok (.getfield 9, 3) := by decide +kernel
theorem dX5_takeSize_75 : decode cX5_takeSize 75 = .ok (.invokevirtual 30, 3) := by decide +kernel
theorem dX5_takeSize_78 : decode cX5_takeSize 78 = .ok (.ifCond .eq 7, 3) := by decide +kernel
theorem dX5_takeSize_81 : decode cX5_takeSize 81 = .ok (.iconst 1, 1) := by decide +kernel
theorem dX5_takeSize_82 : decode cX5_takeSize 82 = .ok (.goto 4, 3) := by decide +kernel
theorem dX5_takeSize_85 : decode cX5_takeSize 85 = .ok (.iconst 0, 1) := by decide +kernel
theorem dX5_takeSize_86 : decode cX5_takeSize 86 = .ok (.ireturn, 1) := by decide +kernel
theorem dX5_takeLine_0 : decode cX5_takeLine 0 = .ok (.aload_n 0, 1) := by decide +kernel
theorem dX5_takeLine_1 : decode cX5_takeLine 1 = .ok (.getfield 9, 3) := by decide +kernel
theorem dX5_takeLine_4 : decode cX5_takeLine 4 = .ok (.invokevirtual 65, 3) := by decide +kernel
theorem dX5_takeLine_7 : decode cX5_takeLine 7 = .ok (.aload_n 0, 1) := by decide +kernel
theorem dX5_takeLine_8 : decode cX5_takeLine 8 = .ok (.getfield 9, 3) := by decide +kernel
theorem dX5_takeLine_11 : decode cX5_takeLine 11 = .ok (.ldc 81, 2) := by decide +kernel
theorem dX5_takeLine_13 : decode cX5_takeLine 13 = .ok (.invokevirtual 70, 3) := by decide +kernel
theorem dX5_takeLine_16 : decode cX5_takeLine 16 = .ok (.istore_n 1, 1) := by decide +kernel
theorem dX5_takeLine_17 : decode cX5_takeLine 17 = .ok (.aload_n 0, 1) := by decide +kernel
theorem dX5_takeLine_18 : decode cX5_takeLine 18 = .ok (.getfield 9, 3) := by decide +kernel
theorem dX5_takeLine_21 : decode cX5_takeLine 21 = .ok (.ldc 83, 2) := by decide +kernel
theorem dX5_takeLine_23 : decode cX5_takeLine 23 = .ok (.invokevirtual 70, 3) := by decide +kernel
theorem dX5_takeLine_26 : decode cX5_takeLine 26 = .ok (.istore_n 2, 1) := by decide +kernel
theorem dX5_takeLine_27 : decode cX5_takeLine 27 = .ok (.iload_n 1, 1) := by decide +kernel
theorem dX5_takeLine_28 : decode cX5_takeLine 28 = .ok (.ifCond .ne 27, 3) := by decide +kernel
theorem dX5_takeLine_31 : decode cX5_takeLine 31 = .ok (.iload_n 2, 1) := by decide +kernel
theorem dX5_takeLine_32 : decode cX5_takeLine 32 = .ok (.ifCond .ne 23, 3) := by decide +kernel
theorem dX5_takeLine_35 : decode cX5_takeLine 35 = .ok (.aload_n 0, 1) := by decide +kernel
theorem dX5_takeLine_36 : decode cX5_takeLine 36 = .ok (.getfield 9, 3) := by decide +kernel
theorem dX5_takeLine_39 : decode cX5_takeLine 39 = .ok (.ldc 85, 2) := by decide +kernel
theorem dX5_takeLine_41 : decode cX5_takeLine 41 = .ok (.invokevirtual 70, 3) := by decide +kernel
theorem dX5_takeLine_44 : decode cX5_takeLine 44 = .ok (.ifCond .ne 11, 3) := by decide +kernel
theorem dX5_takeLine_47 : decode cX5_takeLine 47 = .ok (.aload_n 0, 1) := by decide +kernel
theorem dX5_takeLine_48 : decode cX5_takeLine 48 = .ok (.getfield 9, 3) := by decide +kernel
theorem dX5_takeLine_51 : decode cX5_takeLine 51 = .ok (.invokevirtual 74, 3) := by decide +kernel
theorem dX5_takeLine_54 : decode cX5_takeLine 54 = .ok (.ireturn, 1) := by decide +kernel
theorem dX5_takeLine_55 : decode cX5_takeLine 55 = .ok (.aload_n 0, 1) := by decide +kernel
theorem dX5_takeLine_56 : decode cX5_takeLine 56 = .ok (.getfield 9, 3) := by decide +kernel
theorem dX5_takeLine_59 : decode cX5_takeLine 59 = .ok (.iconst 0, 1) := by decide +kernel
theorem dX5_takeLine_60 : decode cX5_takeLine 60 = .ok (.aload_n 0, 1) := by decide +kernel
theorem dX5_takeLine_61 : decode cX5_takeLine 61 = .ok (.getfield 35, 3) := by decide +kernel
theorem dX5_takeLine_64 : decode cX5_takeLine 64 = .ok (.iconst 1, 1) := by decide +kernel
theorem dX5_takeLine_65 : decode cX5_takeLine 65 = .ok (.isub, 1) := by decide +kernel
theorem dX5_takeLine_66 : decode cX5_takeLine 66 = .ok (.invokevirtual 77, 3) := by decide +kernel
theorem dX5_takeLine_69 : decode cX5_takeLine 69 = .ok (.istore_n 3, 1) := by decide +kernel
theorem dX5_takeLine_70 : decode cX5_takeLine 70 = .ok (.iload_n 3, 1) := by decide +kernel
theorem dX5_takeLine_71 : decode cX5_takeLine 71 = .ok (.iconst (-1), 1) := by decide +kernel
theorem dX5_takeLine_72 : decode cX5_takeLine 72 = .ok (.if_icmp .ne 5, 3) := by decide +kernel
theorem dX5_takeLine_75 : decode cX5_takeLine 75 = .ok (.iconst 0, 1) := by decide +kernel
theorem dX5_takeLine_76 : decode cX5_takeLine 76 = .ok (.ireturn, 1) := by decide +kernel
theorem dX5_takeLine_77 : decode cX5_takeLine 77 = .ok (.aload_n 0, 1) := by decide +kernel
theorem dX5_takeLine_78 : decode cX5_takeLine 78 = .ok (.getfield 9, 3) := by decide +kernel
theorem dX5_takeLine_81 : decode cX5_takeLine 81 = .ok (.iconst 0, 1) := by decide +kernel
theorem dX5_takeLine_82 : decode cX5_takeLine 82 = .ok (.aload_n 0, 1) := by decide +kernel
theorem dX5_takeLine_83 : decode cX5_takeLine 83 = .ok (.getfield 39, 3) := by decide +kernel
theorem dX5_takeLine_86 : decode cX5_takeLine 86 = .ok (.iconst 1, 1) := by decide +kernel
theorem dX5_takeLine_87 : decode cX5_takeLine 87 = .ok (.isub, 1) := by decide +kernel
theorem dX5_takeLine_88 : decode cX5_takeLine 88 = .ok (.invokevirtual 77, 3) := by decide +kernel
theorem dX5_takeLine_91 : decode cX5_takeLine 91 = .ok (.istore 4, 2) := by decide +kernel
theorem dX5_takeLine_93 : decode cX5_takeLine 93 = .ok (.iload 4, 2) := by decide +kernel
theorem dX5_takeLine_95 : decode cX5_takeLine 95 = .ok (.iconst (-1), 1) := by decide +kernel
theorem dX5_takeLine_96 : decode cX5_takeLine 96 = .ok (.if_icmp .ne 5, 3) := by decide +kernel
theorem dX5_takeLine_99 : decode cX5_takeLine 99 = .ok (.iconst 0, 1) := by decide +kernel
theorem dX5_takeLine_100 : decode cX5_takeLine 100 = .ok (.ireturn, 1) := by decide +kernel
theorem dX5_takeLine_101 : decode cX5_takeLine 101 = .ok (.iload_n 2, 1) := by decide +kernel
theorem dX5_takeLine_102 : decode cX5_takeLine 102 = .ok (.ifCond .eq 13, 3) := by decide +kernel
theorem dX5_takeLine_105 : decode cX5_takeLine 105 = .ok (.aload_n 0, 1) := by decide +kernel
theorem dX5_takeLine_106 : decode cX5_takeLine 106 = .ok (.iload_n 3, 1) := by decide +kernel
theorem dX5_takeLine_107 : decode cX5_takeLine 107 = .ok (.iload 4, 2) := by decide +kernel
theorem dX5_takeLine_109 : decode cX5_takeLine 109 = .ok (.invokevirtual 87, 3) := by decide +kernel
theorem dX5_takeLine_112 : decode cX5_takeLine 112 = .ok (.goto 11, 3) := by decide +kernel
theorem dX5_takeLine_115 : decode cX5_takeLine 115 = .ok (.aload_n 0, 1) := by decide +kernel
theorem dX5_takeLine_116 : decode cX5_takeLine 116 = .ok (.iload_n 3, 1) := by decide +kernel
theorem dX5_takeLine_117 : decode cX5_takeLine 117 = .ok (.iload 4, 2) := by decide +kernel
theorem dX5_takeLine_119 : decode cX5_takeLine 119 = .ok (.iload_n 1, 1) := by decide +kernel
theorem dX5_takeLine_120 : decode cX5_takeLine 120 = .ok (.invokevirtual 91, 3) := by decide +kernel
theorem dX5_takeLine_123 : decode cX5_takeLine 123 = .ok (.ireturn, 1) := by decide +kernel
theorem dX5_takeStone_0 : decode cX5_takeStone 0 = .ok (.lconst 1, 1) := by decide +kernel
theorem dX5_takeStone_1 : decode cX5_takeStone 1 = .ok (.iload_n 1, 1) := by decide +kernel
theorem dX5_takeStone_2 : decode cX5_takeStone 2 = .ok (.iload_n 2, 1) := by decide +kernel
theorem dX5_takeStone_3 : decode cX5_takeStone 3 = .ok (.iconst 0, 1) := by decide +kernel
theorem dX5_takeStone_4 : decode cX5_takeStone 4 = .ok (.invokestatic 95, 3) := by decide +kernel
theorem dX5_takeStone_7 : decode cX5_takeStone 7 = .ok (.lshl, 1) := by decide +kernel
theorem dX5_takeStone_8 : decode cX5_takeStone 8 = .ok (.lstore_n 3, 1) := by decide +kernel
theorem dX5_takeStone_9 : decode cX5_takeStone 9 = .ok (.aload_n 0, 1) := by decide +kernel
theorem dX5_takeStone_10 : decode cX5_takeStone 10 = .ok (.getfield 49, 3) := by decide +kernel
theorem dX5_takeStone_13 : decode cX5_takeStone 13 = .ok (.lload_n 3, 1) := by decide +kernel
theorem dX5_takeStone_14 : decode cX5_takeStone 14 = .ok (.land, 1) := by decide +kernel
theorem dX5_takeStone_15 : decode cX5_takeStone 15 = .ok (.lconst 0, 1) := by decide +kernel
theorem dX5_takeStone_16 : decode cX5_takeStone 16 = .ok (.lcmp, 1) := by decide +kernel
theorem dX5_takeStone_17 : decode cX5_takeStone 17 = .ok (.ifCond .eq 11, 3) := by decide +kernel
theorem dX5_takeStone_20 : decode cX5_takeStone 20 = .ok (.aload_n 0, 1) := by decide +kernel
theorem dX5_takeStone_21 : decode cX5_takeStone 21 = .ok (.getfield 9, 3) := by decide +kernel
theorem dX5_takeStone_24 : decode cX5_takeStone 24 = .ok (.invokevirtual 74, 3) := by decide +kernel
theorem dX5_takeStone_27 : decode cX5_takeStone 27 = .ok (.ireturn, 1) := by decide +kernel
theorem dX5_takeStone_28 : decode cX5_takeStone 28 = .ok (.aload_n 0, 1) := by decide +kernel
theorem dX5_takeStone_29 : decode cX5_takeStone 29 = .ok (.dup, 1) := by decide +kernel
theorem dX5_takeStone_30 : decode cX5_takeStone 30 = .ok (.getfield 49, 3) := by decide +kernel
theorem dX5_takeStone_33 : decode cX5_takeStone 33 = .ok (.lload_n 3, 1) := by decide +kernel
theorem dX5_takeStone_34 : decode cX5_takeStone 34 = .ok (.lor, 1) := by decide +kernel
theorem dX5_takeStone_35 : decode cX5_takeStone 35 = .ok (.putfield 49, 3) := by decide +kernel
theorem dX5_takeStone_38 : decode cX5_takeStone 38 = .ok (.iconst 1, 1) := by decide +kernel
theorem dX5_takeStone_39 : decode cX5_takeStone 39 = .ok (.ireturn, 1) := by decide +kernel
theorem dX5_takePipe_0 : decode cX5_takePipe 0 = .ok (.aload_n 0, 1) := by decide +kernel
theorem dX5_takePipe_1 : decode cX5_takePipe 1 = .ok (.getfield 9, 3) := by decide +kernel
theorem dX5_takePipe_4 : decode cX5_takePipe 4 = .ok (.invokevirtual 65, 3) := by decide +kernel
theorem dX5_takePipe_7 : decode cX5_takePipe 7 = .ok (.aload_n 0, 1) := by decide +kernel
theorem dX5_takePipe_8 : decode cX5_takePipe 8 = .ok (.getfield 9, 3) := by decide +kernel
theorem dX5_takePipe_11 : decode cX5_takePipe 11 = .ok (.ldc 99, 2) := by decide +kernel
theorem dX5_takePipe_13 : decode cX5_takePipe 13 = .ok (.invokevirtual 70, 3) := by decide +kernel
theorem dX5_takePipe_16 : decode cX5_takePipe 16 = .ok (.istore 4, 2) := by decide +kernel
theorem dX5_takePipe_18 : decode cX5_takePipe 18 = .ok (.iload 4, 2) := by decide +kernel
theorem dX5_takePipe_20 : decode cX5_takePipe 20 = .ok (.ifCond .ne 15, 3) := by decide +kernel
theorem dX5_takePipe_23 : decode cX5_takePipe 23 = .ok (.aload_n 0, 1) := by decide +kernel
theorem dX5_takePipe_24 : decode cX5_takePipe 24 = .ok (.getfield 9, 3) := by decide +kernel
theorem dX5_takePipe_27 : decode cX5_takePipe 27 = .ok (.ldc 101, 2) := by decide +kernel
theorem dX5_takePipe_29 : decode cX5_takePipe 29 = .ok (.invokevirtual 70, 3) := by decide +kernel
theorem dX5_takePipe_32 : decode cX5_takePipe 32 = .ok (.ifCond .eq 21, 3) := by decide +kernel
theorem dX5_takePipe_35 : decode cX5_takePipe 35 = .ok (.iload_n 1, 1) := by decide +kernel
theorem dX5_takePipe_36 : decode cX5_takePipe 36 = .ok (.iload_n 2, 1) := by decide +kernel
theorem dX5_takePipe_37 : decode cX5_takePipe 37 = .ok (.iload 4, 2) := by decide +kernel
theorem dX5_takePipe_39 : decode cX5_takePipe 39 = .ok (.aload_n 0, 1) := by decide +kernel
theorem dX5_takePipe_40 : decode cX5_takePipe 40 = .ok (.getfield 35, 3) := by decide +kernel
theorem dX5_takePipe_43 : decode cX5_takePipe 43 = .ok (.aload_n 0, 1) := by decide +kernel
theorem dX5_takePipe_44 : decode cX5_takePipe 44 = .ok (.getfield 39, 3) := by decide +kernel
theorem dX5_takePipe_47 : decode cX5_takePipe 47 = .ok (.invokestatic 103, 3) := by decide +kernel
theorem dX5_takePipe_50 : decode cX5_takePipe 50 = .ok (.ifCond .ne 11, 3) := by decide +kernel
theorem dX5_takePipe_53 : decode cX5_takePipe 53 = .ok (.aload_n 0, 1) := by decide +kernel
theorem dX5_takePipe_54 : decode cX5_takePipe 54 = .ok (.getfield 9, 3) := by decide +kernel
theorem dX5_takePipe_57 : decode cX5_takePipe 57 = .ok (.invokevirtual 74, 3) := by decide +kernel
theorem dX5_takePipe_60 : decode cX5_takePipe 60 = .ok (.ireturn, 1) := by decide +kernel
theorem dX5_takePipe_61 : decode cX5_takePipe 61 = .ok (.lconst 1, 1) := by decide +kernel
theorem dX5_takePipe_62 : decode cX5_takePipe 62 = .ok (.iload_n 1, 1) := by decide +kernel
theorem dX5_takePipe_63 : decode cX5_takePipe 63 = .ok (.iload_n 2, 1) := by decide +kernel
theorem dX5_takePipe_64 : decode cX5_takePipe 64 = .ok (.iload 4, 2) := by decide +kernel
theorem dX5_takePipe_66 : decode cX5_takePipe 66 = .ok (.invokestatic 95, 3) := by decide +kernel
theorem dX5_takePipe_69 : decode cX5_takePipe 69 = .ok (.lshl, 1) := by decide +kernel
theorem dX5_takePipe_70 : decode cX5_takePipe 70 = .ok (.lstore 5, 2) := by decide +kernel
theorem dX5_takePipe_72 : decode cX5_takePipe 72 = .ok (.aload_n 0, 1) := by decide +kernel
theorem dX5_takePipe_73 : decode cX5_takePipe 73 = .ok (.getfield 42, 3) := by decide +kernel
theorem dX5_takePipe_76 : decode cX5_takePipe 76 = .ok (.aload_n 0, 1) := by decide +kernel
theorem dX5_takePipe_77 : decode cX5_takePipe 77 = .ok (.getfield 46, 3) := by decide +kernel
theorem dX5_takePipe_80 : decode cX5_takePipe 80 = .ok (.lor, 1) := by decide +kernel
theorem dX5_takePipe_81 : decode cX5_takePipe 81 = .ok (.lload 5, 2) := by decide +kernel
theorem dX5_takePipe_83 : decode cX5_takePipe 83 = .ok (.land, 1) := by decide +kernel
theorem dX5_takePipe_84 : decode cX5_takePipe 84 = .ok (.lconst 0, 1) := by decide +kernel
theorem dX5_takePipe_85 : decode cX5_takePipe 85 = .ok (.lcmp, 1) := by decide +kernel
theorem dX5_takePipe_86 : decode cX5_takePipe 86 = .ok (.ifCond .eq 11, 3) := by decide +kernel
theorem dX5_takePipe_89 : decode cX5_takePipe 89 = .ok (.aload_n 0, 1) := by decide +kernel
theorem dX5_takePipe_90 : decode cX5_takePipe 90 = .ok (.getfield 9, 3) := by decide +kernel
theorem dX5_takePipe_93 : decode cX5_takePipe 93 = .ok (.invokevirtual 74, 3) := by decide +kernel
theorem dX5_takePipe_96 : decode cX5_takePipe 96 = .ok (.ireturn, 1) := by decide +kernel
theorem dX5_takePipe_97 : decode cX5_takePipe 97 = .ok (.iload_n 3, 1) := by decide +kernel
theorem dX5_takePipe_98 : decode cX5_takePipe 98 = .ok (.ifCond .eq 17, 3) := by decide +kernel
theorem dX5_takePipe_101 : decode cX5_takePipe 101 = .ok (.aload_n 0, 1) := by decide +kernel
theorem dX5_takePipe_102 : decode cX5_takePipe 102 = .ok (.dup, 1) := by decide +kernel
theorem dX5_takePipe_103 : decode cX5_takePipe 103 = .ok (.getfield 42, 3) := by decide +kernel
theorem dX5_takePipe_106 : decode cX5_takePipe 106 = .ok (.lload 5, 2) := by decide +kernel
theorem dX5_takePipe_108 : decode cX5_takePipe 108 = .ok (.lor, 1) := by decide +kernel
theorem dX5_takePipe_109 : decode cX5_takePipe 109 = .ok (.putfield 42, 3) := by decide +kernel
theorem dX5_takePipe_112 : decode cX5_takePipe 112 = .ok (.goto 14, 3) := by decide +kernel
theorem dX5_takePipe_115 : decode cX5_takePipe 115 = .ok (.aload_n 0, 1) := by decide +kernel
theorem dX5_takePipe_116 : decode cX5_takePipe 116 = .ok (.dup, 1) := by decide +kernel
theorem dX5_takePipe_117 : decode cX5_takePipe 117 = .ok (.getfield 46, 3) := by decide +kernel
theorem dX5_takePipe_120 : decode cX5_takePipe 120 = .ok (.lload 5, 2) := by decide +kernel
theorem dX5_takePipe_122 : decode cX5_takePipe 122 = .ok (.lor, 1) := by decide +kernel
theorem dX5_takePipe_123 : decode cX5_takePipe 123 = .ok (.putfield 46, 3) := by decide +kernel
theorem dX5_takePipe_126 : decode cX5_takePipe 126 = .ok (.iconst 1, 1) := by decide +kernel
theorem dX5_takePipe_127 : decode cX5_takePipe 127 = .ok (.ireturn, 1) := by decide +kernel
theorem dX6_init_0 : decode cX6_init 0 = .ok (.aload_n 0, 1) := by decide +kernel
theorem dX6_init_1 : decode cX6_init 1 = .ok (.invokespecial 3, 3) := by decide +kernel
theorem dX6_init_4 : decode cX6_init 4 = .ok (.aload_n 0, 1) := by decide +kernel
theorem dX6_init_5 : decode cX6_init 5 = .ok (.sipush 400, 3) := by decide +kernel
theorem dX6_init_8 : decode cX6_init 8 = .ok (.newarray .int, 2) := by decide +kernel
theorem dX6_init_10 : decode cX6_init 10 = .ok (.putfield 9, 3) := by decide +kernel
theorem dX6_init_13 : decode cX6_init 13 = .ok (.aload_n 0, 1) := by decide +kernel
theorem dX6_init_14 : decode cX6_init 14 = .ok (.iconst (-1), 1) := by decide +kernel
theorem dX6_init_15 : decode cX6_init 15 = .ok (.putfield 15, 3) := by decide +kernel
theorem dX6_init_18 : decode cX6_init 18 = .ok (.return_, 1) := by decide +kernel
theorem dX6_append_0 : decode cX6_append 0 = .ok (.bipush 24, 2) := by decide +kernel
theorem dX6_append_2 : decode cX6_append 2 = .ok (.istore_n 2, 1) := by decide +kernel
theorem dX6_append_3 : decode cX6_append 3 = .ok (.iload_n 2, 1) := by decide +kernel
theorem dX6_append_4 : decode cX6_append 4 = .ok (.ifCond .lt 47, 3) := by decide +kernel
theorem dX6_append_7 : decode cX6_append 7 = .ok (.aload_n 0, 1) := by decide +kernel
theorem dX6_append_8 : decode cX6_append 8 = .ok (.getfield 19, 3) := by decide +kernel
theorem dX6_append_11 : decode cX6_append 11 = .ok (.aload_n 0, 1) := by decide +kernel
theorem dX6_append_12 : decode cX6_append 12 = .ok (.getfield 9, 3) := by decide +kernel
theorem dX6_append_15 : decode cX6_append 15 = .ok (.arraylength, 1) := by decide +kernel
theorem dX6_append_16 : decode cX6_append 16 = .ok (.if_icmp .ge 29, 3) := by decide +kernel
theorem dX6_append_19 : decode cX6_append 19 = .ok (.aload_n 0, 1) := by decide +kernel
theorem dX6_append_20 : decode cX6_append 20 = .ok (.getfield 9, 3) := by decide +kernel
theorem dX6_append_23 : decode cX6_append 23 = .ok (.aload_n 0, 1) := by decide +kernel
theorem dX6_append_24 : decode cX6_append 24 = .ok (.getfield 19, 3) := by decide +kernel
theorem dX6_append_27 : decode cX6_append 27 = .ok (.iload_n 1, 1) := by decide +kernel
theorem dX6_append_28 : decode cX6_append 28 = .ok (.iload_n 2, 1) := by decide +kernel
theorem dX6_append_29 : decode cX6_append 29 = .ok (.iushr, 1) := by decide +kernel
theorem dX6_append_30 : decode cX6_append 30 = .ok (.sipush 255, 3) := by decide +kernel
theorem dX6_append_33 : decode cX6_append 33 = .ok (.iand, 1) := by decide +kernel
theorem dX6_append_34 : decode cX6_append 34 = .ok (.iastore, 1) := by decide +kernel
theorem dX6_append_35 : decode cX6_append 35 = .ok (.aload_n 0, 1) := by decide +kernel
theorem dX6_append_36 : decode cX6_append 36 = .ok (.dup, 1) := by decide +kernel
theorem dX6_append_37 : decode cX6_append 37 = .ok (.getfield 19, 3) := by decide +kernel
theorem dX6_append_40 : decode cX6_append 40 = .ok (.iconst 1, 1) := by decide +kernel
theorem dX6_append_41 : decode cX6_append 41 = .ok (.iadd, 1) := by decide +kernel
theorem dX6_append_42 : decode cX6_append 42 = .ok (.putfield 19, 3) := by decide +kernel
theorem dX6_append_45 : decode cX6_append 45 = .ok (.iinc 2 (-8), 3) := by decide +kernel
theorem dX6_append_48 : decode cX6_append 48 = .ok (.goto (-45), 3) := by decide +kernel
theorem dX6_append_51 : decode cX6_append 51 = .ok (.return_, 1) := by decide +kernel
theorem dX6_restart_0 : decode cX6_restart 0 = .ok (.aload_n 0, 1) := by decide +kernel
theorem dX6_restart_1 : decode cX6_restart 1 = .ok (.iconst 0, 1) := by decide +kernel
theorem dX6_restart_2 : decode cX6_restart 2 = .ok (.putfield 22, 3) := by decide +kernel
theorem dX6_restart_5 : decode cX6_restart 5 = .ok (.aload_n 0, 1) := by decide +kernel
theorem dX6_restart_6 : decode cX6_restart 6 = .ok (.iconst 0, 1) := by decide +kernel
theorem dX6_restart_7 : decode cX6_restart 7 = .ok (.putfield 25, 3) := by decide +kernel
theorem dX6_restart_10 : decode cX6_restart 10 = .ok (.aload_n 0, 1) := by decide +kernel
theorem dX6_restart_11 : decode cX6_restart 11 = .ok (.iconst (-1), 1) := by decide +kernel
theorem dX6_restart_12 : decode cX6_restart 12 = .ok (.putfield 15, 3) := by decide +kernel
theorem dX6_restart_15 : decode cX6_restart 15 = .ok (.return_, 1) := by decide +kernel
theorem dX6_skipBlanks_0 : decode cX6_skipBlanks 0 = .ok (.aload_n 0, 1) := by decide +kernel
theorem dX6_skipBlanks_1 : decode cX6_skipBlanks 1 = .ok (.getfield 22, 3) := by decide +kernel
theorem dX6_skipBlanks_4 : decode cX6_skipBlanks 4 = .ok (.istore_n 1, 1) := by decide +kernel
theorem dX6_skipBlanks_5 : decode cX6_skipBlanks 5 = .ok (.iload_n 1, 1) := by decide +kernel
theorem dX6_skipBlanks_6 : decode cX6_skipBlanks 6 = .ok (.aload_n 0, 1) := by decide +kernel
theorem dX6_skipBlanks_7 : decode cX6_skipBlanks 7 = .ok (.getfield 19, 3) := by decide +kernel
theorem dX6_skipBlanks_10 : decode cX6_skipBlanks 10 = .ok (.if_icmp .ge 52, 3) := by decide +kernel
theorem dX6_skipBlanks_13 : decode cX6_skipBlanks 13 = .ok (.aload_n 0, 1) := by decide +kernel
theorem dX6_skipBlanks_14 : decode cX6_skipBlanks 14 = .ok (.getfield 9, 3) := by decide +kernel
theorem dX6_skipBlanks_17 : decode cX6_skipBlanks 17 = .ok (.iload_n 1, 1) := by decide +kernel
theorem dX6_skipBlanks_18 : decode cX6_skipBlanks 18 = .ok (.iaload, 1) := by decide +kernel
theorem dX6_skipBlanks_19 : decode cX6_skipBlanks 19 = .ok (.bipush 9, 2) := by decide +kernel
theorem dX6_skipBlanks_21 : decode cX6_skipBlanks 21 = .ok (.if_icmp .eq 28, 3) := by decide +kernel
theorem dX6_skipBlanks_24 : decode cX6_skipBlanks 24 = .ok (.aload_n 0, 1) := by decide +kernel
theorem dX6_skipBlanks_25 : decode cX6_skipBlanks 25 = .ok (.getfield 9, 3) := by decide +kernel
theorem dX6_skipBlanks_28 : decode cX6_skipBlanks 28 = .ok (.iload_n 1, 1) := by decide +kernel
theorem dX6_skipBlanks_29 : decode cX6_skipBlanks 29 = .ok (.iaload, 1) := by decide +kernel
theorem dX6_skipBlanks_30 : decode cX6_skipBlanks 30 = .ok (.bipush 10, 2) := by decide +kernel
theorem dX6_skipBlanks_32 : decode cX6_skipBlanks 32 = .ok (.if_icmp .eq 17, 3) := by decide +kernel
theorem dX6_skipBlanks_35 : decode cX6_skipBlanks 35 = .ok (.aload_n 0, 1) := by decide +kernel
theorem dX6_skipBlanks_36 : decode cX6_skipBlanks 36 = .ok (.getfield 9, 3) := by decide +kernel
theorem dX6_skipBlanks_39 : decode cX6_skipBlanks 39 = .ok (.iload_n 1, 1) := by decide +kernel
theorem dX6_skipBlanks_40 : decode cX6_skipBlanks 40 = .ok (.iaload, 1) := by decide +kernel
theorem dX6_skipBlanks_41 : decode cX6_skipBlanks 41 = .ok (.bipush 32, 2) := by decide +kernel
theorem dX6_skipBlanks_43 : decode cX6_skipBlanks 43 = .ok (.if_icmp .eq 6, 3) := by decide +kernel
theorem dX6_skipBlanks_46 : decode cX6_skipBlanks 46 = .ok (.goto 16, 3) := by decide +kernel
theorem dX6_skipBlanks_49 : decode cX6_skipBlanks 49 = .ok (.aload_n 0, 1) := by decide +kernel
theorem dX6_skipBlanks_50 : decode cX6_skipBlanks 50 = .ok (.iload_n 1, 1) := by decide +kernel
theorem dX6_skipBlanks_51 : decode cX6_skipBlanks 51 = .ok (.iconst 1, 1) := by decide +kernel
theorem dX6_skipBlanks_52 : decode cX6_skipBlanks 52 = .ok (.iadd, 1) := by decide +kernel
theorem dX6_skipBlanks_53 : decode cX6_skipBlanks 53 = .ok (.putfield 22, 3) := by decide +kernel
theorem dX6_skipBlanks_56 : decode cX6_skipBlanks 56 = .ok (.iinc 1 1, 3) := by decide +kernel
theorem dX6_skipBlanks_59 : decode cX6_skipBlanks 59 = .ok (.goto (-54), 3) := by decide +kernel
theorem dX6_skipBlanks_62 : decode cX6_skipBlanks 62 = .ok (.return_, 1) := by decide +kernel
theorem dX6_isAtEnd_0 : decode cX6_isAtEnd 0 = .ok (.aload_n 0, 1) := by decide +kernel
theorem dX6_isAtEnd_1 : decode cX6_isAtEnd 1 = .ok (.invokevirtual 28, 3) := by decide +kernel
theorem dX6_isAtEnd_4 : decode cX6_isAtEnd 4 = .ok (.aload_n 0, 1) := by decide +kernel
theorem dX6_isAtEnd_5 : decode cX6_isAtEnd 5 = .ok (.getfield 22, 3) := by decide +kernel
theorem dX6_isAtEnd_8 : decode cX6_isAtEnd 8 = .ok (.aload_n 0, 1) := by decide +kernel
theorem dX6_isAtEnd_9 : decode cX6_isAtEnd 9 = .ok (.getfield 19, 3) := by decide +kernel
theorem dX6_isAtEnd_12 : decode cX6_isAtEnd 12 = .ok (.if_icmp .lt 7, 3) := by decide +kernel
theorem dX6_isAtEnd_15 : decode cX6_isAtEnd 15 = .ok (.iconst 1, 1) := by decide +kernel
theorem dX6_isAtEnd_16 : decode cX6_isAtEnd 16 = .ok (.goto 4, 3) := by decide +kernel
theorem dX6_isAtEnd_19 : decode cX6_isAtEnd 19 = .ok (.iconst 0, 1) := by decide +kernel
theorem dX6_isAtEnd_20 : decode cX6_isAtEnd 20 = .ok (.ireturn, 1) := by decide +kernel
theorem dX6_takeSpan_0 : decode cX6_takeSpan 0 = .ok (.aload_n 0, 1) := by decide +kernel
theorem dX6_takeSpan_1 : decode cX6_takeSpan 1 = .ok (.invokevirtual 28, 3) := by decide +kernel
theorem dX6_takeSpan_4 : decode cX6_takeSpan 4 = .ok (.aload_n 0, 1) := by decide +kernel
theorem dX6_takeSpan_5 : decode cX6_takeSpan 5 = .ok (.aload_n 0, 1) := by decide +kernel
theorem dX6_takeSpan_6 : decode cX6_takeSpan 6 = .ok (.getfield 22, 3) := by decide +kernel
theorem dX6_takeSpan_9 : decode cX6_takeSpan 9 = .ok (.putfield 25, 3) := by decide +kernel
theorem dX6_takeSpan_12 : decode cX6_takeSpan 12 = .ok (.aload_n 0, 1) := by decide +kernel
theorem dX6_takeSpan_13 : decode cX6_takeSpan 13 = .ok (.getfield 22, 3) := by decide +kernel
theorem dX6_takeSpan_16 : decode cX6_takeSpan 16 = .ok (.istore_n 3, 1) := by decide +kernel
theorem dX6_takeSpan_17 : decode cX6_takeSpan 17 = .ok (.iload_n 3, 1) := by decide +kernel
theorem dX6_takeSpan_18 : decode cX6_takeSpan 18 = .ok (.aload_n 0, 1) := by decide +kernel
theorem dX6_takeSpan_19 : decode cX6_takeSpan 19 = .ok (.getfield 19, 3) := by decide +kernel
theorem dX6_takeSpan_22 : decode cX6_takeSpan 22 = .ok (.if_icmp .ge 39, 3) := by decide +kernel
theorem dX6_takeSpan_25 : decode cX6_takeSpan 25 = .ok (.aload_n 0, 1) := by decide +kernel
theorem dX6_takeSpan_26 : decode cX6_takeSpan 26 = .ok (.getfield 9, 3) := by decide +kernel
theorem dX6_takeSpan_29 : decode cX6_takeSpan 29 = .ok (.iload_n 3, 1) := by decide +kernel
theorem dX6_takeSpan_30 : decode cX6_takeSpan 30 = .ok (.iaload, 1) := by decide +kernel
theorem dX6_takeSpan_31 : decode cX6_takeSpan 31 = .ok (.iload_n 1, 1) := by decide +kernel
theorem dX6_takeSpan_32 : decode cX6_takeSpan 32 = .ok (.if_icmp .lt 29, 3) := by decide +kernel
theorem dX6_takeSpan_35 : decode cX6_takeSpan 35 = .ok (.aload_n 0, 1) := by decide +kernel
theorem dX6_takeSpan_36 : decode cX6_takeSpan 36 = .ok (.getfield 9, 3) := by decide +kernel
theorem dX6_takeSpan_39 : decode cX6_takeSpan 39 = .ok (.iload_n 3, 1) := by decide +kernel
theorem dX6_takeSpan_40 : decode cX6_takeSpan 40 = .ok (.iaload, 1) := by decide +kernel
theorem dX6_takeSpan_41 : decode cX6_takeSpan 41 = .ok (.iload_n 2, 1) := by decide +kernel
theorem dX6_takeSpan_42 : decode cX6_takeSpan 42 = .ok (.if_icmp .le 6, 3) := by decide +kernel
theorem dX6_takeSpan_45 : decode cX6_takeSpan 45 = .ok (.goto 16, 3) := by decide +kernel
theorem dX6_takeSpan_48 : decode cX6_takeSpan 48 = .ok (.aload_n 0, 1) := by decide +kernel
theorem dX6_takeSpan_49 : decode cX6_takeSpan 49 = .ok (.iload_n 3, 1) := by decide +kernel
theorem dX6_takeSpan_50 : decode cX6_takeSpan 50 = .ok (.iconst 1, 1) := by decide +kernel
theorem dX6_takeSpan_51 : decode cX6_takeSpan 51 = .ok (.iadd, 1) := by decide +kernel
theorem dX6_takeSpan_52 : decode cX6_takeSpan 52 = .ok (.putfield 22, 3) := by decide +kernel
theorem dX6_takeSpan_55 : decode cX6_takeSpan 55 = .ok (.iinc 3 1, 3) := by decide +kernel
theorem dX6_takeSpan_58 : decode cX6_takeSpan 58 = .ok (.goto (-41), 3) := by decide +kernel
theorem dX6_takeSpan_61 : decode cX6_takeSpan 61 = .ok (.aload_n 0, 1) := by decide +kernel
theorem dX6_takeSpan_62 : decode cX6_takeSpan 62 = .ok (.getfield 22, 3) := by decide +kernel
theorem dX6_takeSpan_65 : decode cX6_takeSpan 65 = .ok (.aload_n 0, 1) := by decide +kernel
theorem dX6_takeSpan_66 : decode cX6_takeSpan 66 = .ok (.getfield 25, 3) := by decide +kernel
theorem dX6_takeSpan_69 : decode cX6_takeSpan 69 = .ok (.isub, 1) := by decide +kernel
theorem dX6_takeSpan_70 : decode cX6_takeSpan 70 = .ok (.ireturn, 1) := by decide +kernel
theorem dX6_takeNumber_0 : decode cX6_takeNumber 0 = .ok (.aload_n 0, 1) := by decide +kernel
theorem dX6_takeNumber_1 : decode cX6_takeNumber 1 = .ok (.bipush 48, 2) := by decide +kernel
theorem dX6_takeNumber_3 : decode cX6_takeNumber 3 = .ok (.bipush 57, 2) := by decide +kernel
theorem dX6_takeNumber_5 : decode cX6_takeNumber 5 = .ok (.invokevirtual 31, 3) := by decide +kernel
theorem dX6_takeNumber_8 : decode cX6_takeNumber 8 = .ok (.iconst 1, 1) := by decide +kernel
theorem dX6_takeNumber_9 : decode cX6_takeNumber 9 = .ok (.if_icmp .ne 28, 3) := by decide +kernel
theorem dX6_takeNumber_12 : decode cX6_takeNumber 12 = .ok (.aload_n 0, 1) := by decide +kernel
theorem dX6_takeNumber_13 : decode cX6_takeNumber 13 = .ok (.getfield 9, 3) := by decide +kernel
theorem dX6_takeNumber_16 : decode cX6_takeNumber 16 = .ok (.aload_n 0, 1) := by decide +kernel
theorem dX6_takeNumber_17 : decode cX6_takeNumber 17 = .ok (.getfield 25, 3) := by decide +kernel
theorem dX6_takeNumber_20 : decode cX6_takeNumber 20 = .ok (.iaload, 1) := by decide +kernel
theorem dX6_takeNumber_21 : decode cX6_takeNumber 21 = .ok (.bipush 48, 2) := by decide +kernel
theorem dX6_takeNumber_23 : decode cX6_takeNumber 23 = .ok (.isub, 1) := by decide +kernel
theorem dX6_takeNumber_24 : decode cX6_takeNumber 24 = .ok (.istore_n 3, 1) := by decide +kernel
theorem dX6_takeNumber_25 : decode cX6_takeNumber 25 = .ok (.iload_n 3, 1) := by decide +kernel
theorem dX6_takeNumber_26 : decode cX6_takeNumber 26 = .ok (.iload_n 1, 1) := by decide +kernel
theorem dX6_takeNumber_27 : decode cX6_takeNumber 27 = .ok (.if_icmp .lt 10, 3) := by decide +kernel
theorem dX6_takeNumber_30 : decode cX6_takeNumber 30 = .ok (.iload_n 3, 1) := by decide +kernel
theorem dX6_takeNumber_31 : decode cX6_takeNumber 31 = .ok (.iload_n 2, 1) := by decide +kernel
theorem dX6_takeNumber_32 : decode cX6_takeNumber 32 = .ok (.if_icmp .gt 5, 3) := by decide +kernel
theorem dX6_takeNumber_35 : decode cX6_takeNumber 35 = .ok (.iload_n 3, 1) := by decide +kernel
theorem dX6_takeNumber_36 : decode cX6_takeNumber 36 = .ok (.ireturn, 1) := by decide +kernel
theorem dX6_takeNumber_37 : decode cX6_takeNumber 37 = .ok (.aload_n 0, 1) := by decide +kernel
theorem dX6_takeNumber_38 : decode cX6_takeNumber 38 = .ok (.invokevirtual 35, 3) := by decide +kernel
theorem dX6_takeNumber_41 : decode cX6_takeNumber 41 = .ok (.pop, 1) := by decide +kernel
theorem dX6_takeNumber_42 : decode cX6_takeNumber 42 = .ok (.iconst (-1), 1) := by decide +kernel
theorem dX6_takeNumber_43 : decode cX6_takeNumber 43 = .ok (.ireturn, 1) := by decide +kernel
theorem dX6_takeWord_0 : decode cX6_takeWord 0 = .ok (.aload_n 0, 1) := by decide +kernel
theorem dX6_takeWord_1 : decode cX6_takeWord 1 = .ok (.bipush 97, 2) := by decide +kernel
theorem dX6_takeWord_3 : decode cX6_takeWord 3 = .ok (.bipush 122, 2) := by decide +kernel
theorem dX6_takeWord_5 : decode cX6_takeWord 5 = .ok (.invokevirtual 31, 3) := by decide +kernel
theorem dX6_takeWord_8 : decode cX6_takeWord 8 = .ok (.pop, 1) := by decide +kernel
theorem dX6_takeWord_9 : decode cX6_takeWord 9 = .ok (.return_, 1) := by decide +kernel
theorem dX6_isWord_0 : decode cX6_isWord 0 = .ok (.aload_n 1, 1) := by decide +kernel
theorem dX6_isWord_1 : decode cX6_isWord 1 = .ok (.invokevirtual 39, 3) := by decide +kernel
theorem dX6_isWord_4 : decode cX6_isWord 4 = .ok (.aload_n 0, 1) := by decide +kernel
theorem dX6_isWord_5 : decode cX6_isWord 5 = .ok (.getfield 22, 3) := by decide +kernel
theorem dX6_isWord_8 : decode cX6_isWord 8 = .ok (.aload_n 0, 1) := by decide +kernel
theorem dX6_isWord_9 : decode cX6_isWord 9 = .ok (.getfield 25, 3) := by decide +kernel
theorem dX6_isWord_12 : decode cX6_isWord 12 = .ok (.isub, 1) := by decide +kernel
theorem dX6_isWord_13 : decode cX6_isWord 13 = .ok (.if_icmp .eq 5, 3) := by decide +kernel
theorem dX6_isWord_16 : decode cX6_isWord 16 = .ok (.iconst 0, 1) := by decide +kernel
theorem dX6_isWord_17 : decode cX6_isWord 17 = .ok (.ireturn, 1) := by decide +kernel
theorem dX6_isWord_18 : decode cX6_isWord 18 = .ok (.iconst 0, 1) := by decide +kernel
theorem dX6_isWord_19 : decode cX6_isWord 19 = .ok (.istore_n 2, 1) := by decide +kernel
theorem dX6_isWord_20 : decode cX6_isWord 20 = .ok (.iload_n 2, 1) := by decide +kernel
theorem dX6_isWord_21 : decode cX6_isWord 21 = .ok (.aload_n 1, 1) := by decide +kernel
theorem dX6_isWord_22 : decode cX6_isWord 22 = .ok (.invokevirtual 39, 3) := by decide +kernel
theorem dX6_isWord_25 : decode cX6_isWord 25 = .ok (.if_icmp .ge 30, 3) := by decide +kernel
theorem dX6_isWord_28 : decode cX6_isWord 28 = .ok (.aload_n 0, 1) := by decide +kernel
theorem dX6_isWord_29 : decode cX6_isWord 29 = .ok (.getfield 9, 3) := by decide +kernel
theorem dX6_isWord_32 : decode cX6_isWord 32 = .ok (.aload_n 0, 1) := by decide +kernel
theorem dX6_isWord_33 : decode cX6_isWord 33 = .ok (.getfield 25, 3) := by decide +kernel
theorem dX6_isWord_36 : decode cX6_isWord 36 = .ok (.iload_n 2, 1) := by decide +kernel
theorem dX6_isWord_37 : decode cX6_isWord 37 = .ok (.iadd, 1) := by decide +kernel
theorem dX6_isWord_38 : decode cX6_isWord 38 = .ok (.iaload, 1) := by decide +kernel
theorem dX6_isWord_39 : decode cX6_isWord 39 = .ok (.aload_n 1, 1) := by decide +kernel
theorem dX6_isWord_40 : decode cX6_isWord 40 = .ok (.iload_n 2, 1) := by decide +kernel
theorem dX6_isWord_41 : decode cX6_isWord 41 = .ok (.invokevirtual 44, 3) := by decide +kernel
theorem dX6_isWord_44 : decode cX6_isWord 44 = .ok (.if_icmp .eq 5, 3) := by decide +kernel
theorem dX6_isWord_47 : decode cX6_isWord 47 = .ok (.iconst 0, 1) := by decide +kernel
theorem dX6_isWord_48 : decode cX6_isWord 48 = .ok (.ireturn, 1) := by decide +kernel
theorem dX6_isWord_49 : decode cX6_isWord 49 = .ok (.iinc 2 1, 3) := by decide +kernel
theorem dX6_isWord_52 : decode cX6_isWord 52 = .ok (.goto (-32), 3) := by decide +kernel
theorem dX6_isWord_55 : decode cX6_isWord 55 = .ok (.iconst 1, 1) := by decide +kernel
theorem dX6_isWord_56 : decode cX6_isWord 56 = .ok (.ireturn, 1) := by decide +kernel
theorem dX6_takeMark_0 : decode cX6_takeMark 0 = .ok (.aload_n 0, 1) := by decide +kernel
theorem dX6_takeMark_1 : decode cX6_takeMark 1 = .ok (.invokevirtual 48, 3) := by decide +kernel
theorem dX6_takeMark_4 : decode cX6_takeMark 4 = .ok (.istore_n 1, 1) := by decide +kernel
theorem dX6_takeMark_5 : decode cX6_takeMark 5 = .ok (.aload_n 0, 1) := by decide +kernel
theorem dX6_takeMark_6 : decode cX6_takeMark 6 = .ok (.aload_n 0, 1) := by decide +kernel
theorem dX6_takeMark_7 : decode cX6_takeMark 7 = .ok (.getfield 22, 3) := by decide +kernel
theorem dX6_takeMark_10 : decode cX6_takeMark 10 = .ok (.putfield 25, 3) := by decide +kernel
theorem dX6_takeMark_13 : decode cX6_takeMark 13 = .ok (.iload_n 1, 1) := by decide +kernel
theorem dX6_takeMark_14 : decode cX6_takeMark 14 = .ok (.ifCond .ne 17, 3) := by decide +kernel
theorem dX6_takeMark_17 : decode cX6_takeMark 17 = .ok (.aload_n 0, 1) := by decide +kernel
theorem dX6_takeMark_18 : decode cX6_takeMark 18 = .ok (.getfield 9, 3) := by decide +kernel
theorem dX6_takeMark_21 : decode cX6_takeMark 21 = .ok (.aload_n 0, 1) := by decide +kernel
theorem dX6_takeMark_22 : decode cX6_takeMark 22 = .ok (.getfield 22, 3) := by decide +kernel
theorem dX6_takeMark_25 : decode cX6_takeMark 25 = .ok (.iaload, 1) := by decide +kernel
theorem dX6_takeMark_26 : decode cX6_takeMark 26 = .ok (.bipush 59, 2) := by decide +kernel
theorem dX6_takeMark_28 : decode cX6_takeMark 28 = .ok (.if_icmp .eq 8, 3) := by decide +kernel
theorem dX6_takeMark_31 : decode cX6_takeMark 31 = .ok (.aload_n 0, 1) := by decide +kernel
theorem dX6_takeMark_32 : decode cX6_takeMark 32 = .ok (.invokevirtual 35, 3) := by decide +kernel
theorem dX6_takeMark_35 : decode cX6_takeMark 35 = .ok (.ireturn, 1) := by decide +kernel
theorem dX6_takeMark_36 : decode cX6_takeMark 36 = .ok (.aload_n 0, 1) := by decide +kernel
theorem dX6_takeMark_37 : decode cX6_takeMark 37 = .ok (.dup, 1) := by decide +kernel
theorem dX6_takeMark_38 : decode cX6_takeMark 38 = .ok (.getfield 22, 3) := by decide +kernel
theorem dX6_takeMark_41 : decode cX6_takeMark 41 = .ok (.iconst 1, 1) := by decide +kernel
theorem dX6_takeMark_42 : decode cX6_takeMark 42 = .ok (.iadd, 1) := by decide +kernel
theorem dX6_takeMark_43 : decode cX6_takeMark 43 = .ok (.putfield 22, 3) := by decide +kernel
theorem dX6_takeMark_46 : decode cX6_takeMark 46 = .ok (.iconst 1, 1) := by decide +kernel
theorem dX6_takeMark_47 : decode cX6_takeMark 47 = .ok (.ireturn, 1) := by decide +kernel
theorem dX6_refuse_0 : decode cX6_refuse 0 = .ok (.aload_n 0, 1) := by decide +kernel
theorem dX6_refuse_1 : decode cX6_refuse 1 = .ok (.aload_n 0, 1) := by decide +kernel
theorem dX6_refuse_2 : decode cX6_refuse 2 = .ok (.getfield 25, 3) := by decide +kernel
theorem dX6_refuse_5 : decode cX6_refuse 5 = .ok (.putfield 15, 3) := by decide +kernel
theorem dX6_refuse_8 : decode cX6_refuse 8 = .ok (.iconst 0, 1) := by decide +kernel
theorem dX6_refuse_9 : decode cX6_refuse 9 = .ok (.ireturn, 1) := by decide +kernel
theorem dX7_init_0 : decode cX7_init 0 = .ok (.aload_n 0, 1) := by decide +kernel
theorem dX7_init_1 : decode cX7_init 1 = .ok (.invokespecial 3, 3) := by decide +kernel
theorem dX7_init_4 : decode cX7_init 4 = .ok (.aload_n 0, 1) := by decide +kernel
theorem dX7_init_5 : decode cX7_init 5 = .ok (.sipush 4096, 3) := by decide +kernel
theorem dX7_init_8 : decode cX7_init 8 = .ok (.newarray .int, 2) := by decide +kernel
theorem dX7_init_10 : decode cX7_init 10 = .ok (.putfield 9, 3) := by decide +kernel
theorem dX7_init_13 : decode cX7_init 13 = .ok (.aload_n 0, 1) := by decide +kernel
theorem dX7_init_14 : decode cX7_init 14 = .ok (.aload_n 1, 1) := by decide +kernel
theorem dX7_init_15 : decode cX7_init 15 = .ok (.putfield 15, 3) := by decide +kernel
theorem dX7_init_18 : decode cX7_init 18 = .ok (.return_, 1) := by decide +kernel
theorem dX7_follow_0 : decode cX7_follow 0 = .ok (.aload_n 0, 1) := by decide +kernel
theorem dX7_follow_1 : decode cX7_follow 1 = .ok (.getfield 19, 3) := by decide +kernel
theorem dX7_follow_4 : decode cX7_follow 4 = .ok (.aload_n 1, 1) := by decide +kernel
theorem dX7_follow_5 : decode cX7_follow 5 = .ok (.if_acmp .ne 4, 3) := by decide +kernel
theorem dX7_follow_8 : decode cX7_follow 8 = .ok (.return_, 1) := by decide +kernel
theorem dX7_follow_9 : decode cX7_follow 9 = .ok (.aload_n 0, 1) := by decide +kernel
theorem dX7_follow_10 : decode cX7_follow 10 = .ok (.aload_n 1, 1) := by decide +kernel
theorem dX7_follow_11 : decode cX7_follow 11 = .ok (.putfield 19, 3) := by decide +kernel
theorem dX7_follow_14 : decode cX7_follow 14 = .ok (.aload_n 0, 1) := by decide +kernel
theorem dX7_follow_15 : decode cX7_follow 15 = .ok (.invokevirtual 23, 3) := by decide +kernel
theorem dX7_follow_18 : decode cX7_follow 18 = .ok (.iconst 0, 1) := by decide +kernel
theorem dX7_follow_19 : decode cX7_follow 19 = .ok (.istore_n 2, 1) := by decide +kernel
theorem dX7_follow_20 : decode cX7_follow 20 = .ok (.iload_n 2, 1) := by decide +kernel
theorem dX7_follow_21 : decode cX7_follow 21 = .ok (.aload_n 0, 1) := by decide +kernel
theorem dX7_follow_22 : decode cX7_follow 22 = .ok (.getfield 26, 3) := by decide +kernel
theorem dX7_follow_25 : decode cX7_follow 25 = .ok (.if_icmp .ge 37, 3) := by decide +kernel
theorem dX7_follow_28 : decode cX7_follow 28 = .ok (.aload_n 0, 1) := by decide +kernel
theorem dX7_follow_29 : decode cX7_follow 29 = .ok (.getfield 9, 3) := by decide +kernel
theorem dX7_follow_32 : decode cX7_follow 32 = .ok (.iload_n 2, 1) := by decide +kernel
theorem dX7_follow_33 : decode cX7_follow 33 = .ok (.aload_n 0, 1) := by decide +kernel
theorem dX7_follow_34 : decode cX7_follow 34 = .ok (.getfield 15, 3) := by decide +kernel
theorem dX7_follow_37 : decode cX7_follow 37 = .ok (.getfield 30, 3) := by decide +kernel
theorem dX7_follow_40 : decode cX7_follow 40 = .ok (.aload_n 0, 1) := by decide +kernel
theorem dX7_follow_41 : decode cX7_follow 41 = .ok (.getfield 9, 3) := by decide +kernel
theorem dX7_follow_44 : decode cX7_follow 44 = .ok (.iload_n 2, 1) := by decide +kernel
theorem dX7_follow_45 : decode cX7_follow 45 = .ok (.iaload, 1) := by decide +kernel
theorem dX7_follow_46 : decode cX7_follow 46 = .ok (.iaload, 1) := by decide +kernel
theorem dX7_follow_47 : decode cX7_follow 47 = .ok (.ifCond .eq 7, 3) := by decide +kernel
theorem dX7_follow_50 : decode cX7_follow 50 = .ok (.iconst 1, 1) := by decide +kernel
theorem dX7_follow_51 : decode cX7_follow 51 = .ok (.goto 4, 3) := by decide +kernel
theorem dX7_follow_54 : decode cX7_follow 54 = .ok (.iconst 0, 1) := by decide +kernel
theorem dX7_follow_55 : decode cX7_follow 55 = .ok (.iastore, 1) := by decide +kernel
theorem dX7_follow_56 : decode cX7_follow 56 = .ok (.iinc 2 1, 3) := by decide +kernel
theorem dX7_follow_59 : decode cX7_follow 59 = .ok (.goto (-39), 3) := by decide +kernel
theorem dX7_follow_62 : decode cX7_follow 62 = .ok (.iconst 0, 1) := by decide +kernel
theorem dX7_follow_63 : decode cX7_follow 63 = .ok (.istore_n 2, 1) := by decide +kernel
theorem dX7_follow_64 : decode cX7_follow 64 = .ok (.iload_n 2, 1) := by decide +kernel
theorem dX7_follow_65 : decode cX7_follow 65 = .ok (.aload_n 0, 1) := by decide +kernel
theorem dX7_follow_66 : decode cX7_follow 66 = .ok (.getfield 26, 3) := by decide +kernel
theorem dX7_follow_69 : decode cX7_follow 69 = .ok (.if_icmp .ge 33, 3) := by decide +kernel
theorem dX7_follow_72 : decode cX7_follow 72 = .ok (.aload_n 0, 1) := by decide +kernel
theorem dX7_follow_73 : decode cX7_follow 73 = .ok (.getfield 9, 3) := by decide +kernel
theorem dX7_follow_76 : decode cX7_follow 76 = .ok (.iload_n 2, 1) := by decide +kernel
theorem dX7_follow_77 : decode cX7_follow 77 = .ok (.iaload, 1) := by decide +kernel
theorem dX7_follow_78 : decode cX7_follow 78 = .ok (.ifCond .eq 18, 3) := by decide +kernel
theorem dX7_follow_81 : decode cX7_follow 81 = .ok (.aload_n 0, 1) := by decide +kernel
theorem dX7_follow_82 : decode cX7_follow 82 = .ok (.iload_n 2, 1) := by decide +kernel
theorem dX7_follow_83 : decode cX7_follow 83 = .ok (.invokevirtual 35, 3) := by decide +kernel
theorem dX7_follow_86 : decode cX7_follow 86 = .ok (.ifCond .eq 10, 3) := by decide +kernel
theorem dX7_follow_89 : decode cX7_follow 89 = .ok (.aload_n 0, 1) := by decide +kernel
theorem dX7_follow_90 : decode cX7_follow 90 = .ok (.getfield 9, 3) := by decide +kernel
theorem dX7_follow_93 : decode cX7_follow 93 = .ok (.iload_n 2, 1) := by decide +kernel
theorem dX7_follow_94 : decode cX7_follow 94 = .ok (.iconst 2, 1) := by decide +kernel
theorem dX7_follow_95 : decode cX7_follow 95 = .ok (.iastore, 1) := by decide +kernel
theorem dX7_follow_96 : decode cX7_follow 96 = .ok (.iinc 2 1, 3) := by decide +kernel
theorem dX7_follow_99 : decode cX7_follow 99 = .ok (.goto (-35), 3) := by decide +kernel
theorem dX7_follow_102 : decode cX7_follow 102 = .ok (.return_, 1) := by decide +kernel
theorem dX7_findStates_0 : decode cX7_findStates 0 = .ok (.aload_n 0, 1) := by decide +kernel
theorem dX7_findStates_1 : decode cX7_findStates 1 = .ok (.getfield 9, 3) := by decide +kernel
theorem dX7_findStates_4 : decode cX7_findStates 4 = .ok (.iconst 0, 1) := by decide +kernel
theorem dX7_findStates_5 : decode cX7_findStates 5 = .ok (.aload_n 0, 1) := by decide +kernel
theorem dX7_findStates_6 : decode cX7_findStates 6 = .ok (.getfield 15, 3) := by decide +kernel
theorem dX7_findStates_9 : decode cX7_findStates 9 = .ok (.aload_n 0, 1) := by decide +kernel
theorem dX7_findStates_10 : decode cX7_findStates 10 = .ok (.getfield 19, 3) := by decide +kernel
theorem dX7_findStates_13 : decode cX7_findStates 13 = .ok (.invokevirtual 39, 3) := by decide +kernel
theorem dX7_findStates_16 : decode cX7_findStates 16 = .ok (.iastore, 1) := by decide +kernel
theorem dX7_findStates_17 : decode cX7_findStates 17 = .ok (.aload_n 0, 1) := by decide +kernel
theorem dX7_findStates_18 : decode cX7_findStates 18 = .ok (.iconst 1, 1) := by decide +kernel
theorem dX7_findStates_19 : decode cX7_findStates 19 = .ok (.putfield 26, 3) := by decide +kernel
theorem dX7_findStates_22 : decode cX7_findStates 22 = .ok (.iconst 0, 1) := by decide +kernel
theorem dX7_findStates_23 : decode cX7_findStates 23 = .ok (.istore_n 1, 1) := by decide +kernel
theorem dX7_findStates_24 : decode cX7_findStates 24 = .ok (.iconst 0, 1) := by decide +kernel
theorem dX7_findStates_25 : decode cX7_findStates 25 = .ok (.istore_n 2, 1) := by decide +kernel
theorem dX7_findStates_26 : decode cX7_findStates 26 = .ok (.iload_n 2, 1) := by decide +kernel
theorem dX7_findStates_27 : decode cX7_findStates 27 = .ok (.aload_n 0, 1) := by decide +kernel
theorem dX7_findStates_28 : decode cX7_findStates 28 = .ok (.getfield 15, 3) := by decide +kernel
theorem dX7_findStates_31 : decode cX7_findStates 31 = .ok (.getfield 43, 3) := by decide +kernel
theorem dX7_findStates_34 : decode cX7_findStates 34 = .ok (.if_icmp .ge 91, 3) := by decide +kernel
theorem dX7_findStates_37 : decode cX7_findStates 37 = .ok (.aload_n 0, 1) := by decide +kernel
theorem dX7_findStates_38 : decode cX7_findStates 38 = .ok (.getfield 15, 3) := by decide +kernel
theorem dX7_findStates_41 : decode cX7_findStates 41 = .ok (.getfield 46, 3) := by decide +kernel
theorem dX7_findStates_44 : decode cX7_findStates 44 = .ok (.iload_n 2, 1) := by decide +kernel
theorem dX7_findStates_45 : decode cX7_findStates 45 = .ok (.iaload, 1) := by decide +kernel
theorem dX7_findStates_46 : decode cX7_findStates 46 = .ok (.istore_n 3, 1) := by decide +kernel
theorem dX7_findStates_47 : decode cX7_findStates 47 = .ok (.aload_n 0, 1) := by decide +kernel
theorem dX7_findStates_48 : decode cX7_findStates 48 = .ok (.getfield 15, 3) := by decide +kernel
theorem dX7_findStates_51 : decode cX7_findStates 51 = .ok (.getfield 49, 3) := by decide +kernel
theorem dX7_findStates_54 : decode cX7_findStates 54 = .ok (.iload_n 2, 1) := by decide +kernel
theorem dX7_findStates_55 : decode cX7_findStates 55 = .ok (.iaload, 1) := by decide +kernel
theorem dX7_findStates_56 : decode cX7_findStates 56 = .ok (.istore 4, 2) := by decide +kernel
theorem dX7_findStates_58 : decode cX7_findStates 58 = .ok (.aload_n 0, 1) := by decide +kernel
theorem dX7_findStates_59 : decode cX7_findStates 59 = .ok (.getfield 19, 3) := by decide +kernel
theorem dX7_findStates_62 : decode cX7_findStates 62 = .ok (.iload_n 3, 1) := by decide +kernel
theorem dX7_findStates_63 : decode cX7_findStates 63 = .ok (.invokevirtual 52, 3) := by decide +kernel
theorem dX7_findStates_66 : decode cX7_findStates 66 = .ok (.ifCond .eq 31, 3) := by decide +kernel
theorem dX7_findStates_69 : decode cX7_findStates 69 = .ok (.aload_n 0, 1) := by decide +kernel
theorem dX7_findStates_70 : decode cX7_findStates 70 = .ok (.iload_n 3, 1) := by decide +kernel
theorem dX7_findStates_71 : decode cX7_findStates 71 = .ok (.invokevirtual 57, 3) := by decide +kernel
theorem dX7_findStates_74 : decode cX7_findStates 74 = .ok (.istore 5, 2) := by decide +kernel
theorem dX7_findStates_76 : decode cX7_findStates 76 = .ok (.aload_n 0, 1) := by decide +kernel
theorem dX7_findStates_77 : decode cX7_findStates 77 = .ok (.iload_n 1, 1) := by decide +kernel
theorem dX7_findStates_78 : decode cX7_findStates 78 = .ok (.iload 5, 2) := by decide +kernel
theorem dX7_findStates_80 : decode cX7_findStates 80 = .ok (.iload 4, 2) := by decide +kernel
theorem dX7_findStates_82 : decode cX7_findStates 82 = .ok (.iload_n 3, 1) := by decide +kernel
theorem dX7_findStates_83 : decode cX7_findStates 83 = .ok (.invokestatic 61, 3) := by decide +kernel
theorem dX7_findStates_86 : decode cX7_findStates 86 = .ok (.invokevirtual 64, 3) := by decide +kernel
theorem dX7_findStates_89 : decode cX7_findStates 89 = .ok (.iload_n 1, 1) := by decide +kernel
theorem dX7_findStates_90 : decode cX7_findStates 90 = .ok (.iload 5, 2) := by decide +kernel
theorem dX7_findStates_92 : decode cX7_findStates 92 = .ok (.ior, 1) := by decide +kernel
theorem dX7_findStates_93 : decode cX7_findStates 93 = .ok (.istore_n 1, 1) := by decide +kernel
theorem dX7_findStates_94 : decode cX7_findStates 94 = .ok (.goto 25, 3) := by decide +kernel
theorem dX7_findStates_97 : decode cX7_findStates 97 = .ok (.iload_n 3, 1) := by decide +kernel
theorem dX7_findStates_98 : decode cX7_findStates 98 = .ok (.aload_n 0, 1) := by decide +kernel
theorem dX7_findStates_99 : decode cX7_findStates 99 = .ok (.getfield 19, 3) := by decide +kernel
theorem dX7_findStates_102 : decode cX7_findStates 102 = .ok (.iload_n 3, 1) := by decide +kernel
theorem dX7_findStates_103 : decode cX7_findStates 103 = .ok (.invokevirtual 68, 3) := by decide +kernel
theorem dX7_findStates_106 : decode cX7_findStates 106 = .ok (.invokestatic 71, 3) := by decide +kernel
theorem dX7_findStates_109 : decode cX7_findStates 109 = .ok (.ifCond .eq 10, 3) := by decide +kernel
theorem dX7_findStates_112 : decode cX7_findStates 112 = .ok (.aload_n 0, 1) := by decide +kernel
theorem dX7_findStates_113 : decode cX7_findStates 113 = .ok (.iload_n 1, 1) := by decide +kernel
theorem dX7_findStates_114 : decode cX7_findStates 114 = .ok (.iload 4, 2) := by decide +kernel
theorem dX7_findStates_116 : decode cX7_findStates 116 = .ok (.invokevirtual 75, 3) := by decide +kernel
theorem dX7_findStates_119 : decode cX7_findStates 119 = .ok (.iinc 2 1, 3) := by decide +kernel
theorem dX7_findStates_122 : decode cX7_findStates 122 = .ok (.goto (-96), 3) := by decide +kernel
theorem dX7_findStates_125 : decode cX7_findStates 125 = .ok (.return_, 1) := by decide +kernel
theorem dX7_bitOf_0 : decode cX7_bitOf 0 = .ok (.iconst 1, 1) := by decide +kernel
theorem dX7_bitOf_1 : decode cX7_bitOf 1 = .ok (.aload_n 0, 1) := by decide +kernel
theorem dX7_bitOf_2 : decode cX7_bitOf 2 = .ok (.getfield 19, 3) := by decide +kernel
theorem dX7_bitOf_5 : decode cX7_bitOf 5 = .ok (.getfield 79, 3) := by decide +kernel
theorem dX7_bitOf_8 : decode cX7_bitOf 8 = .ok (.lconst 1, 1) := by decide +kernel
theorem dX7_bitOf_9 : decode cX7_bitOf 9 = .ok (.iload_n 1, 1) := by decide +kernel
theorem dX7_bitOf_10 : decode cX7_bitOf 10 = .ok (.lshl, 1) := by decide +kernel
theorem dX7_bitOf_11 : decode cX7_bitOf 11 = .ok (.lconst 1, 1) := by decide +kernel
theorem dX7_bitOf_12 : decode cX7_bitOf 12 = .ok (.lsub, 1) := by decide +kernel
theorem dX7_bitOf_13 : decode cX7_bitOf 13 = .ok (.land, 1) := by decide +kernel
theorem dX7_bitOf_14 : decode cX7_bitOf 14 = .ok (.invokestatic 83, 3) := by decide +kernel
theorem dX7_bitOf_17 : decode cX7_bitOf 17 = .ok (.ishl, 1) := by decide +kernel
theorem dX7_bitOf_18 : decode cX7_bitOf 18 = .ok (.ireturn, 1) := by decide +kernel
theorem dX7_divide_0 : decode cX7_divide 0 = .ok (.aload_n 0, 1) := by decide +kernel
theorem dX7_divide_1 : decode cX7_divide 1 = .ok (.getfield 26, 3) := by decide +kernel
theorem dX7_divide_4 : decode cX7_divide 4 = .ok (.iconst 2, 1) := by decide +kernel
theorem dX7_divide_5 : decode cX7_divide 5 = .ok (.imul, 1) := by decide +kernel
theorem dX7_divide_6 : decode cX7_divide 6 = .ok (.aload_n 0, 1) := by decide +kernel
theorem dX7_divide_7 : decode cX7_divide 7 = .ok (.getfield 9, 3) := by decide +kernel
theorem dX7_divide_10 : decode cX7_divide 10 = .ok (.arraylength, 1) := by decide +kernel
theorem dX7_divide_11 : decode cX7_divide 11 = .ok (.if_icmp .le 4, 3) := by decide +kernel
theorem dX7_divide_14 : decode cX7_divide 14 = .ok (.return_, 1) := by decide +kernel
theorem dX7_divide_15 : decode cX7_divide 15 = .ok (.iconst 0, 1) := by decide +kernel
theorem dX7_divide_16 : decode cX7_divide 16 = .ok (.istore 5, 2) := by decide +kernel
theorem dX7_divide_18 : decode cX7_divide 18 = .ok (.iconst 0, 1) := by decide +kernel
theorem dX7_divide_19 : decode cX7_divide 19 = .ok (.istore 6, 2) := by decide +kernel
theorem dX7_divide_21 : decode cX7_divide 21 = .ok (.iload 6, 2) := by decide +kernel
theorem dX7_divide_23 : decode cX7_divide 23 = .ok (.aload_n 0, 1) := by decide +kernel
theorem dX7_divide_24 : decode cX7_divide 24 = .ok (.getfield 26, 3) := by decide +kernel
theorem dX7_divide_27 : decode cX7_divide 27 = .ok (.if_icmp .ge 78, 3) := by decide +kernel
theorem dX7_divide_30 : decode cX7_divide 30 = .ok (.aload_n 0, 1) := by decide +kernel
theorem dX7_divide_31 : decode cX7_divide 31 = .ok (.getfield 9, 3) := by decide +kernel
theorem dX7_divide_34 : decode cX7_divide 34 = .ok (.iload 5, 2) := by decide +kernel
theorem dX7_divide_36 : decode cX7_divide 36 = .ok (.iaload, 1) := by decide +kernel
theorem dX7_divide_37 : decode cX7_divide 37 = .ok (.istore 7, 2) := by decide +kernel
theorem dX7_divide_39 : decode cX7_divide 39 = .ok (.aload_n 0, 1) := by decide +kernel
theorem dX7_divide_40 : decode cX7_divide 40 = .ok (.getfield 15, 3) := by decide +kernel
theorem dX7_divide_43 : decode cX7_divide 43 = .ok (.iload_n 3, 1) := by decide +kernel
theorem dX7_divide_44 : decode cX7_divide 44 = .ok (.iload 7, 2) := by decide +kernel
theorem dX7_divide_46 : decode cX7_divide 46 = .ok (.invokevirtual 89, 3) := by decide +kernel
theorem dX7_divide_49 : decode cX7_divide 49 = .ok (.istore 8, 2) := by decide +kernel
theorem dX7_divide_51 : decode cX7_divide 51 = .ok (.aload_n 0, 1) := by decide +kernel
theorem dX7_divide_52 : decode cX7_divide 52 = .ok (.getfield 9, 3) := by decide +kernel
theorem dX7_divide_55 : decode cX7_divide 55 = .ok (.iload 5, 2) := by decide +kernel
theorem dX7_divide_57 : decode cX7_divide 57 = .ok (.iload 4, 2) := by decide +kernel
theorem dX7_divide_59 : decode cX7_divide 59 = .ok (.ifCond .eq 8, 3) := by decide +kernel
theorem dX7_divide_62 : decode cX7_divide 62 = .ok (.iload 7, 2) := by decide +kernel
theorem dX7_divide_64 : decode cX7_divide 64 = .ok (.goto 5, 3) := by decide +kernel
theorem dX7_divide_67 : decode cX7_divide 67 = .ok (.iload 8, 2) := by decide +kernel
theorem dX7_divide_69 : decode cX7_divide 69 = .ok (.iastore, 1) := by decide +kernel
theorem dX7_divide_70 : decode cX7_divide 70 = .ok (.aload_n 0, 1) := by decide +kernel
theorem dX7_divide_71 : decode cX7_divide 71 = .ok (.getfield 9, 3) := by decide +kernel
theorem dX7_divide_74 : decode cX7_divide 74 = .ok (.iload 5, 2) := by decide +kernel
theorem dX7_divide_76 : decode cX7_divide 76 = .ok (.iload_n 2, 1) := by decide +kernel
theorem dX7_divide_77 : decode cX7_divide 77 = .ok (.ior, 1) := by decide +kernel
theorem dX7_divide_78 : decode cX7_divide 78 = .ok (.iload 4, 2) := by decide +kernel
theorem dX7_divide_80 : decode cX7_divide 80 = .ok (.ifCond .eq 8, 3) := by decide +kernel
theorem dX7_divide_83 : decode cX7_divide 83 = .ok (.iload 8, 2) := by decide +kernel
theorem dX7_divide_85 : decode cX7_divide 85 = .ok (.goto 5, 3) := by decide +kernel
theorem dX7_divide_88 : decode cX7_divide 88 = .ok (.iload 7, 2) := by decide +kernel
theorem dX7_divide_90 : decode cX7_divide 90 = .ok (.iastore, 1) := by decide +kernel
theorem dX7_divide_91 : decode cX7_divide 91 = .ok (.iload 5, 2) := by decide +kernel
theorem dX7_divide_93 : decode cX7_divide 93 = .ok (.iload_n 1, 1) := by decide +kernel
theorem dX7_divide_94 : decode cX7_divide 94 = .ok (.isub, 1) := by decide +kernel
theorem dX7_divide_95 : decode cX7_divide 95 = .ok (.iload_n 1, 1) := by decide +kernel
theorem dX7_divide_96 : decode cX7_divide 96 = .ok (.iand, 1) := by decide +kernel
theorem dX7_divide_97 : decode cX7_divide 97 = .ok (.istore 5, 2) := by decide +kernel
theorem dX7_divide_99 : decode cX7_divide 99 = .ok (.iinc 6 1, 3) := by decide +kernel
theorem dX7_divide_102 : decode cX7_divide 102 = .ok (.goto (-81), 3) := by decide +kernel
theorem dX7_divide_105 : decode cX7_divide 105 = .ok (.aload_n 0, 1) := by decide +kernel
theorem dX7_divide_106 : decode cX7_divide 106 = .ok (.dup, 1) := by decide +kernel
theorem dX7_divide_107 : decode cX7_divide 107 = .ok (.getfield 26, 3) := by decide +kernel
theorem dX7_divide_110 : decode cX7_divide 110 = .ok (.iconst 2, 1) := by decide +kernel
theorem dX7_divide_111 : decode cX7_divide 111 = .ok (.imul, 1) := by decide +kernel
theorem dX7_divide_112 : decode cX7_divide 112 = .ok (.putfield 26, 3) := by decide +kernel
theorem dX7_divide_115 : decode cX7_divide 115 = .ok (.return_, 1) := by decide +kernel
theorem dX7_moveAll_0 : decode cX7_moveAll 0 = .ok (.iconst 0, 1) := by decide +kernel
theorem dX7_moveAll_1 : decode cX7_moveAll 1 = .ok (.istore_n 3, 1) := by decide +kernel
theorem dX7_moveAll_2 : decode cX7_moveAll 2 = .ok (.iconst 0, 1) := by decide +kernel
theorem dX7_moveAll_3 : decode cX7_moveAll 3 = .ok (.istore 4, 2) := by decide +kernel
theorem dX7_moveAll_5 : decode cX7_moveAll 5 = .ok (.iload 4, 2) := by decide +kernel
theorem dX7_moveAll_7 : decode cX7_moveAll 7 = .ok (.aload_n 0, 1) := by decide +kernel
theorem dX7_moveAll_8 : decode cX7_moveAll 8 = .ok (.getfield 26, 3) := by decide +kernel
theorem dX7_moveAll_11 : decode cX7_moveAll 11 = .ok (.if_icmp .ge 35, 3) := by decide +kernel
theorem dX7_moveAll_14 : decode cX7_moveAll 14 = .ok (.aload_n 0, 1) := by decide +kernel
theorem dX7_moveAll_15 : decode cX7_moveAll 15 = .ok (.getfield 9, 3) := by decide +kernel
theorem dX7_moveAll_18 : decode cX7_moveAll 18 = .ok (.iload_n 3, 1) := by decide +kernel
theorem dX7_moveAll_19 : decode cX7_moveAll 19 = .ok (.aload_n 0, 1) := by decide +kernel
theorem dX7_moveAll_20 : decode cX7_moveAll 20 = .ok (.getfield 15, 3) := by decide +kernel
theorem dX7_moveAll_23 : decode cX7_moveAll 23 = .ok (.iload_n 2, 1) := by decide +kernel
theorem dX7_moveAll_24 : decode cX7_moveAll 24 = .ok (.aload_n 0, 1) := by decide +kernel
theorem dX7_moveAll_25 : decode cX7_moveAll 25 = .ok (.getfield 9, 3) := by decide +kernel
theorem dX7_moveAll_28 : decode cX7_moveAll 28 = .ok (.iload_n 3, 1) := by decide +kernel
theorem dX7_moveAll_29 : decode cX7_moveAll 29 = .ok (.iaload, 1) := by decide +kernel
theorem dX7_moveAll_30 : decode cX7_moveAll 30 = .ok (.invokevirtual 89, 3) := by decide +kernel
theorem dX7_moveAll_33 : decode cX7_moveAll 33 = .ok (.iastore, 1) := by decide +kernel
theorem dX7_moveAll_34 : decode cX7_moveAll 34 = .ok (.iload_n 3, 1) := by decide +kernel
theorem dX7_moveAll_35 : decode cX7_moveAll 35 = .ok (.iload_n 1, 1) := by decide +kernel
theorem dX7_moveAll_36 : decode cX7_moveAll 36 = .ok (.isub, 1) := by decide +kernel
theorem dX7_moveAll_37 : decode cX7_moveAll 37 = .ok (.iload_n 1, 1) := by decide +kernel
theorem dX7_moveAll_38 : decode cX7_moveAll 38 = .ok (.iand, 1) := by decide +kernel
theorem dX7_moveAll_39 : decode cX7_moveAll 39 = .ok (.istore_n 3, 1) := by decide +kernel
theorem dX7_moveAll_40 : decode cX7_moveAll 40 = .ok (.iinc 4 1, 3) := by decide +kernel
theorem dX7_moveAll_43 : decode cX7_moveAll 43 = .ok (.goto (-38), 3) := by decide +kernel
theorem dX7_moveAll_46 : decode cX7_moveAll 46 = .ok (.return_, 1) := by decide +kernel
theorem dX7_needsAll_0 : decode cX7_needsAll 0 = .ok (.iconst 0, 1) := by decide +kernel
theorem dX7_needsAll_1 : decode cX7_needsAll 1 = .ok (.istore_n 2, 1) := by decide +kernel
theorem dX7_needsAll_2 : decode cX7_needsAll 2 = .ok (.iload_n 2, 1) := by decide +kernel
theorem dX7_needsAll_3 : decode cX7_needsAll 3 = .ok (.bipush 12, 2) := by decide +kernel
theorem dX7_needsAll_5 : decode cX7_needsAll 5 = .ok (.if_icmp .ge 32, 3) := by decide +kernel
theorem dX7_needsAll_8 : decode cX7_needsAll 8 = .ok (.iconst 1, 1) := by decide +kernel
theorem dX7_needsAll_9 : decode cX7_needsAll 9 = .ok (.iload_n 2, 1) := by decide +kernel
theorem dX7_needsAll_10 : decode cX7_needsAll 10 = .ok (.ishl, 1) := by decide +kernel
theorem dX7_needsAll_11 : decode cX7_needsAll 11 = .ok (.istore_n 3, 1) := by decide +kernel
theorem dX7_needsAll_12 : decode cX7_needsAll 12 = .ok (.iload_n 1, 1) := by decide +kernel
theorem dX7_needsAll_13 : decode cX7_needsAll 13 = .ok (.iload_n 3, 1) := by decide +kernel
theorem dX7_needsAll_14 : decode cX7_needsAll 14 = .ok (.iand, 1) := by decide +kernel
theorem dX7_needsAll_15 : decode cX7_needsAll 15 = .ok (.ifCond .eq 16, 3) := by decide +kernel
theorem dX7_needsAll_18 : decode cX7_needsAll 18 = .ok (.aload_n 0, 1) := by decide +kernel
theorem dX7_needsAll_19 : decode cX7_needsAll 19 = .ok (.getfield 9, 3) := by decide +kernel
theorem dX7_needsAll_22 : decode cX7_needsAll 22 = .ok (.iload_n 1, 1) := by decide +kernel
theorem dX7_needsAll_23 : decode cX7_needsAll 23 = .ok (.iload_n 3, 1) := by decide +kernel
theorem dX7_needsAll_24 : decode cX7_needsAll 24 = .ok (.ixor, 1) := by decide +kernel
theorem dX7_needsAll_25 : decode cX7_needsAll 25 = .ok (.iaload, 1) := by decide +kernel
theorem dX7_needsAll_26 : decode cX7_needsAll 26 = .ok (.ifCond .eq 5, 3) := by decide +kernel
theorem dX7_needsAll_29 : decode cX7_needsAll 29 = .ok (.iconst 0, 1) := by decide +kernel
theorem dX7_needsAll_30 : decode cX7_needsAll 30 = .ok (.ireturn, 1) := by decide +kernel
theorem dX7_needsAll_31 : decode cX7_needsAll 31 = .ok (.iinc 2 1, 3) := by decide +kernel
theorem dX7_needsAll_34 : decode cX7_needsAll 34 = .ok (.goto (-32), 3) := by decide +kernel
theorem dX7_needsAll_37 : decode cX7_needsAll 37 = .ok (.iconst 1, 1) := by decide +kernel
theorem dX7_needsAll_38 : decode cX7_needsAll 38 = .ok (.ireturn, 1) := by decide +kernel
theorem dX7_joiningAt_0 : decode cX7_joiningAt 0 = .ok (.iconst 0, 1) := by decide +kernel
theorem dX7_joiningAt_1 : decode cX7_joiningAt 1 = .ok (.istore_n 3, 1) := by decide +kernel
theorem dX7_joiningAt_2 : decode cX7_joiningAt 2 = .ok (.iconst 0, 1) := by decide +kernel
theorem dX7_joiningAt_3 : decode cX7_joiningAt 3 = .ok (.istore 4, 2) := by decide +kernel
theorem dX7_joiningAt_5 : decode cX7_joiningAt 5 = .ok (.iload 4, 2) := by decide +kernel
theorem dX7_joiningAt_7 : decode cX7_joiningAt 7 = .ok (.aload_n 0, 1) := by decide +kernel
theorem dX7_joiningAt_8 : decode cX7_joiningAt 8 = .ok (.getfield 26, 3) := by decide +kernel
theorem dX7_joiningAt_11 : decode cX7_joiningAt 11 = .ok (.if_icmp .ge 39, 3) := by decide +kernel
theorem dX7_joiningAt_14 : decode cX7_joiningAt 14 = .ok (.aload_n 0, 1) := by decide +kernel
theorem dX7_joiningAt_15 : decode cX7_joiningAt 15 = .ok (.getfield 9, 3) := by decide +kernel
theorem dX7_joiningAt_18 : decode cX7_joiningAt 18 = .ok (.iload 4, 2) := by decide +kernel
theorem dX7_joiningAt_20 : decode cX7_joiningAt 20 = .ok (.iaload, 1) := by decide +kernel
theorem dX7_joiningAt_21 : decode cX7_joiningAt 21 = .ok (.ifCond .eq 23, 3) := by decide +kernel
theorem dX7_joiningAt_24 : decode cX7_joiningAt 24 = .ok (.iload 4, 2) := by decide +kernel
theorem dX7_joiningAt_26 : decode cX7_joiningAt 26 = .ok (.invokestatic 93, 3) := by decide +kernel
theorem dX7_joiningAt_29 : decode cX7_joiningAt 29 = .ok (.iload_n 1, 1) := by decide +kernel
theorem dX7_joiningAt_30 : decode cX7_joiningAt 30 = .ok (.if_icmp .ne 14, 3) := by decide +kernel
theorem dX7_joiningAt_33 : decode cX7_joiningAt 33 = .ok (.iload_n 3, 1) := by decide +kernel
theorem dX7_joiningAt_34 : decode cX7_joiningAt 34 = .ok (.iload_n 2, 1) := by decide +kernel
theorem dX7_joiningAt_35 : decode cX7_joiningAt 35 = .ok (.if_icmp .ne 6, 3) := by decide +kernel
theorem dX7_joiningAt_38 : decode cX7_joiningAt 38 = .ok (.iload 4, 2) := by decide +kernel
theorem dX7_joiningAt_40 : decode cX7_joiningAt 40 = .ok (.ireturn, 1) := by decide +kernel
theorem dX7_joiningAt_41 : decode cX7_joiningAt 41 = .ok (.iinc 3 1, 3) := by decide +kernel
theorem dX7_joiningAt_44 : decode cX7_joiningAt 44 = .ok (.iinc 4 1, 3) := by decide +kernel
theorem dX7_joiningAt_47 : decode cX7_joiningAt 47 = .ok (.goto (-42), 3) := by decide +kernel
theorem dX7_joiningAt_50 : decode cX7_joiningAt 50 = .ok (.iconst (-1), 1) := by decide +kernel
theorem dX7_joiningAt_51 : decode cX7_joiningAt 51 = .ok (.ireturn, 1) := by decide +kernel
theorem dX7_leastCount_0 : decode cX7_leastCount 0 = .ok (.iconst 0, 1) := by decide +kernel
theorem dX7_leastCount_1 : decode cX7_leastCount 1 = .ok (.istore_n 1, 1) := by decide +kernel
theorem dX7_leastCount_2 : decode cX7_leastCount 2 = .ok (.iconst 0, 1) := by decide +kernel
theorem dX7_leastCount_3 : decode cX7_leastCount 3 = .ok (.istore_n 2, 1) := by decide +kernel
theorem dX7_leastCount_4 : decode cX7_leastCount 4 = .ok (.iload_n 2, 1) := by decide +kernel
theorem dX7_leastCount_5 : decode cX7_leastCount 5 = .ok (.aload_n 0, 1) := by decide +kernel
theorem dX7_leastCount_6 : decode cX7_leastCount 6 = .ok (.getfield 26, 3) := by decide +kernel
theorem dX7_leastCount_9 : decode cX7_leastCount 9 = .ok (.if_icmp .ge 22, 3) := by decide +kernel
theorem dX7_leastCount_12 : decode cX7_leastCount 12 = .ok (.aload_n 0, 1) := by decide +kernel
theorem dX7_leastCount_13 : decode cX7_leastCount 13 = .ok (.getfield 9, 3) := by decide +kernel
theorem dX7_leastCount_16 : decode cX7_leastCount 16 = .ok (.iload_n 2, 1) := by decide +kernel
theorem dX7_leastCount_17 : decode cX7_leastCount 17 = .ok (.iaload, 1) := by decide +kernel
theorem dX7_leastCount_18 : decode cX7_leastCount 18 = .ok (.iconst 2, 1) := by decide +kernel
theorem dX7_leastCount_19 : decode cX7_leastCount 19 = .ok (.if_icmp .ne 6, 3) := by decide +kernel
theorem dX7_leastCount_22 : decode cX7_leastCount 22 = .ok (.iinc 1 1, 3) := by decide +kernel
theorem dX7_leastCount_25 : decode cX7_leastCount 25 = .ok (.iinc 2 1, 3) := by decide +kernel
theorem dX7_leastCount_28 : decode cX7_leastCount 28 = .ok (.goto (-24), 3) := by decide +kernel
theorem dX7_leastCount_31 : decode cX7_leastCount 31 = .ok (.iload_n 1, 1) := by decide +kernel
theorem dX7_leastCount_32 : decode cX7_leastCount 32 = .ok (.ireturn, 1) := by decide +kernel
theorem dX7_leastAt_0 : decode cX7_leastAt 0 = .ok (.iconst 0, 1) := by decide +kernel
theorem dX7_leastAt_1 : decode cX7_leastAt 1 = .ok (.istore_n 2, 1) := by decide +kernel
theorem dX7_leastAt_2 : decode cX7_leastAt 2 = .ok (.iconst 0, 1) := by decide +kernel
theorem dX7_leastAt_3 : decode cX7_leastAt 3 = .ok (.istore_n 3, 1) := by decide +kernel
theorem dX7_leastAt_4 : decode cX7_leastAt 4 = .ok (.iload_n 3, 1) := by decide +kernel
theorem dX7_leastAt_5 : decode cX7_leastAt 5 = .ok (.aload_n 0, 1) := by decide +kernel
theorem dX7_leastAt_6 : decode cX7_leastAt 6 = .ok (.getfield 26, 3) := by decide +kernel
theorem dX7_leastAt_9 : decode cX7_leastAt 9 = .ok (.if_icmp .ge 29, 3) := by decide +kernel
theorem dX7_leastAt_12 : decode cX7_leastAt 12 = .ok (.aload_n 0, 1) := by decide +kernel
theorem dX7_leastAt_13 : decode cX7_leastAt 13 = .ok (.getfield 9, 3) := by decide +kernel
theorem dX7_leastAt_16 : decode cX7_leastAt 16 = .ok (.iload_n 3, 1) := by decide +kernel
theorem dX7_leastAt_17 : decode cX7_leastAt 17 = .ok (.iaload, 1) := by decide +kernel
theorem dX7_leastAt_18 : decode cX7_leastAt 18 = .ok (.iconst 2, 1) := by decide +kernel
theorem dX7_leastAt_19 : decode cX7_leastAt 19 = .ok (.if_icmp .ne 13, 3) := by decide +kernel
theorem dX7_leastAt_22 : decode cX7_leastAt 22 = .ok (.iload_n 2, 1) := by decide +kernel
theorem dX7_leastAt_23 : decode cX7_leastAt 23 = .ok (.iload_n 1, 1) := by decide +kernel
theorem dX7_leastAt_24 : decode cX7_leastAt 24 = .ok (.if_icmp .ne 5, 3) := by decide +kernel
theorem dX7_leastAt_27 : decode cX7_leastAt 27 = .ok (.iload_n 3, 1) := by decide +kernel
theorem dX7_leastAt_28 : decode cX7_leastAt 28 = .ok (.ireturn, 1) := by decide +kernel
theorem dX7_leastAt_29 : decode cX7_leastAt 29 = .ok (.iinc 2 1, 3) := by decide +kernel
theorem dX7_leastAt_32 : decode cX7_leastAt 32 = .ok (.iinc 3 1, 3) := by decide +kernel
theorem dX7_leastAt_35 : decode cX7_leastAt 35 = .ok (.goto (-31), 3) := by decide +kernel
theorem dX7_leastAt_38 : decode cX7_leastAt 38 = .ok (.iconst (-1), 1) := by decide +kernel
theorem dX7_leastAt_39 : decode cX7_leastAt 39 = .ok (.ireturn, 1) := by decide +kernel
theorem dX8_init_0 : decode cX8_init 0 = .ok (.aload_n 0, 1) := by decide +kernel
theorem dX8_init_1 : decode cX8_init 1 = .ok (.invokespecial 3, 3) := by decide +kernel
theorem dX8_init_4 : decode cX8_init 4 = .ok (.aload_n 0, 1) := by decide +kernel
theorem dX8_init_5 : decode cX8_init 5 = .ok (.new 9, 3) := by decide +kernel
theorem dX8_init_8 : decode cX8_init 8 = .ok (.dup, 1) := by decide +kernel
theorem dX8_init_9 : decode cX8_init 9 = .ok (.invokespecial 11, 3) := by decide +kernel
theorem dX8_init_12 : decode cX8_init 12 = .ok (.putfield 12, 3) := by decide +kernel
theorem dX8_init_15 : decode cX8_init 15 = .ok (.aload_n 0, 1) := by decide +kernel
theorem dX8_init_16 : decode cX8_init 16 = .ok (.new 16, 3) := by decide +kernel
theorem dX8_init_19 : decode cX8_init 19 = .ok (.dup, 1) := by decide +kernel
theorem dX8_init_20 : decode cX8_init 20 = .ok (.invokespecial 18, 3) := by decide +kernel
theorem dX8_init_23 : decode cX8_init 23 = .ok (.putfield 19, 3) := by decide +kernel
theorem dX8_init_26 : decode cX8_init 26 = .ok (.aload_n 0, 1) := by decide +kernel
theorem dX8_init_27 : decode cX8_init 27 = .ok (.new 23, 3) := by decide +kernel
theorem dX8_init_30 : decode cX8_init 30 = .ok (.dup, 1) := by decide +kernel
theorem dX8_init_31 : decode cX8_init 31 = .ok (.aload_n 0, 1) := by decide +kernel
theorem dX8_init_32 : decode cX8_init 32 = .ok (.getfield 19, 3) := by decide +kernel
theorem dX8_init_35 : decode cX8_init 35 = .ok (.iconst 5, 1) := by decide +kernel
theorem dX8_init_36 : decode cX8_init 36 = .ok (.invokespecial 25, 3) := by decide +kernel
theorem dX8_init_39 : decode cX8_init 39 = .ok (.putfield 28, 3) := by decide +kernel
theorem dX8_init_42 : decode cX8_init 42 = .ok (.aload_n 0, 1) := by decide +kernel
theorem dX8_init_43 : decode cX8_init 43 = .ok (.new 23, 3) := by decide +kernel
theorem dX8_init_46 : decode cX8_init 46 = .ok (.dup, 1) := by decide +kernel
theorem dX8_init_47 : decode cX8_init 47 = .ok (.aload_n 0, 1) := by decide +kernel
theorem dX8_init_48 : decode cX8_init 48 = .ok (.getfield 19, 3) := by decide +kernel
theorem dX8_init_51 : decode cX8_init 51 = .ok (.iconst 1, 1) := by decide +kernel
theorem dX8_init_52 : decode cX8_init 52 = .ok (.invokespecial 25, 3) := by decide +kernel
theorem dX8_init_55 : decode cX8_init 55 = .ok (.putfield 32, 3) := by decide +kernel
theorem dX8_init_58 : decode cX8_init 58 = .ok (.aload_n 0, 1) := by decide +kernel
theorem dX8_init_59 : decode cX8_init 59 = .ok (.new 35, 3) := by decide +kernel
theorem dX8_init_62 : decode cX8_init 62 = .ok (.dup, 1) := by decide +kernel
theorem dX8_init_63 : decode cX8_init 63 = .ok (.aload_n 0, 1) := by decide +kernel
theorem dX8_init_64 : decode cX8_init 64 = .ok (.getfield 19, 3) := by decide +kernel
theorem dX8_init_67 : decode cX8_init 67 = .ok (.invokespecial 37, 3) := by decide +kernel
theorem dX8_init_70 : decode cX8_init 70 = .ok (.putfield 40, 3) := by decide +kernel
theorem dX8_init_73 : decode cX8_init 73 = .ok (.aload_n 0, 1) := by decide +kernel
theorem dX8_init_74 : decode cX8_init 74 = .ok (.new 44, 3) := by decide +kernel
theorem dX8_init_77 : decode cX8_init 77 = .ok (.dup, 1) := by decide +kernel
theorem dX8_init_78 : decode cX8_init 78 = .ok (.aload_n 0, 1) := by decide +kernel
theorem dX8_init_79 : decode cX8_init 79 = .ok (.getfield 19, 3) := by decide +kernel
theorem dX8_init_82 : decode cX8_init 82 = .ok (.invokespecial 46, 3) := by decide +kernel
theorem dX8_init_85 : decode cX8_init 85 = .ok (.putfield 47, 3) := by decide +kernel
theorem dX8_init_88 : decode cX8_init 88 = .ok (.aload_n 0, 1) := by decide +kernel
theorem dX8_init_89 : decode cX8_init 89 = .ok (.new 51, 3) := by decide +kernel
theorem dX8_init_92 : decode cX8_init 92 = .ok (.dup, 1) := by decide +kernel
theorem dX8_init_93 : decode cX8_init 93 = .ok (.invokespecial 53, 3) := by decide +kernel
theorem dX8_init_96 : decode cX8_init 96 = .ok (.putfield 54, 3) := by decide +kernel
theorem dX8_init_99 : decode cX8_init 99 = .ok (.aload_n 0, 1) := by decide +kernel
theorem dX8_init_100 : decode cX8_init 100 = .ok (.bipush 16, 2) := by decide +kernel
theorem dX8_init_102 : decode cX8_init 102 = .ok (.anewarray 58, 3) := by decide +kernel
theorem dX8_init_105 : decode cX8_init 105 = .ok (.putfield 60, 3) := by decide +kernel
theorem dX8_init_108 : decode cX8_init 108 = .ok (.aload_n 0, 1) := by decide +kernel
theorem dX8_init_109 : decode cX8_init 109 = .ok (.bipush 24, 2) := by decide +kernel
theorem dX8_init_111 : decode cX8_init 111 = .ok (.newarray .int, 2) := by decide +kernel
theorem dX8_init_113 : decode cX8_init 113 = .ok (.putfield 64, 3) := by decide +kernel
theorem dX8_init_116 : decode cX8_init 116 = .ok (.aload_n 0, 1) := by decide +kernel
theorem dX8_init_117 : decode cX8_init 117 = .ok (.bipush 90, 2) := by decide +kernel
theorem dX8_init_119 : decode cX8_init 119 = .ok (.newarray .int, 2) := by decide +kernel
theorem dX8_init_121 : decode cX8_init 121 = .ok (.putfield 68, 3) := by decide +kernel
theorem dX8_init_124 : decode cX8_init 124 = .ok (.aload_n 0, 1) := by decide +kernel
theorem dX8_init_125 : decode cX8_init 125 = .ok (.bipush 25, 2) := by decide +kernel
theorem dX8_init_127 : decode cX8_init 127 = .ok (.newarray .long, 2) := by decide +kernel
theorem dX8_init_129 : decode cX8_init 129 = .ok (.putfield 71, 3) := by decide +kernel
theorem dX8_init_132 : decode cX8_init 132 = .ok (.aload_n 0, 1) := by decide +kernel
theorem dX8_init_133 : decode cX8_init 133 = .ok (.new 58, 3) := by decide +kernel
theorem dX8_init_136 : decode cX8_init 136 = .ok (.dup, 1) := by decide +kernel
theorem dX8_init_137 : decode cX8_init 137 = .ok (.iconst 1, 1) := by decide +kernel
theorem dX8_init_138 : decode cX8_init 138 = .ok (.iconst 1, 1) := by decide +kernel
theorem dX8_init_139 : decode cX8_init 139 = .ok (.lconst 0, 1) := by decide +kernel
theorem dX8_init_140 : decode cX8_init 140 = .ok (.lconst 0, 1) := by decide +kernel
theorem dX8_init_141 : decode cX8_init 141 = .ok (.lconst 0, 1) := by decide +kernel
theorem dX8_init_142 : decode cX8_init 142 = .ok (.invokespecial 75, 3) := by decide +kernel
theorem dX8_init_145 : decode cX8_init 145 = .ok (.putfield 78, 3) := by decide +kernel
theorem dX8_init_148 : decode cX8_init 148 = .ok (.return_, 1) := by decide +kernel
theorem dX8_feed_0 : decode cX8_feed 0 = .ok (.aload_n 0, 1) := by decide +kernel
theorem dX8_feed_1 : decode cX8_feed 1 = .ok (.getfield 12, 3) := by decide +kernel
theorem dX8_feed_4 : decode cX8_feed 4 = .ok (.getfield 82, 3) := by decide +kernel
theorem dX8_feed_7 : decode cX8_feed 7 = .ok (.bipush 20, 2) := by decide +kernel
theorem dX8_feed_9 : decode cX8_feed 9 = .ok (.iadd, 1) := by decide +kernel
theorem dX8_feed_10 : decode cX8_feed 10 = .ok (.sipush 400, 3) := by decide +kernel
theorem dX8_feed_13 : decode cX8_feed 13 = .ok (.if_icmp .le 5, 3) := by decide +kernel
theorem dX8_feed_16 : decode cX8_feed 16 = .ok (.iconst (-1), 1) := by decide +kernel
theorem dX8_feed_17 : decode cX8_feed 17 = .ok (.ireturn, 1) := by decide +kernel
theorem dX8_feed_18 : decode cX8_feed 18 = .ok (.aload_n 0, 1) := by decide +kernel
theorem dX8_feed_19 : decode cX8_feed 19 = .ok (.getfield 12, 3) := by decide +kernel
theorem dX8_feed_22 : decode cX8_feed 22 = .ok (.iload_n 1, 1) := by decide +kernel
theorem dX8_feed_23 : decode cX8_feed 23 = .ok (.invokevirtual 86, 3) := by decide +kernel
theorem dX8_feed_26 : decode cX8_feed 26 = .ok (.aload_n 0, 1) := by decide +kernel
theorem dX8_feed_27 : decode cX8_feed 27 = .ok (.getfield 12, 3) := by decide +kernel
theorem dX8_feed_30 : decode cX8_feed 30 = .ok (.iload_n 2, 1) := by decide +kernel
theorem dX8_feed_31 : decode cX8_feed 31 = .ok (.invokevirtual 86, 3) := by decide +kernel
theorem dX8_feed_34 : decode cX8_feed 34 = .ok (.aload_n 0, 1) := by decide +kernel
theorem dX8_feed_35 : decode cX8_feed 35 = .ok (.getfield 12, 3) := by decide +kernel
theorem dX8_feed_38 : decode cX8_feed 38 = .ok (.iload_n 3, 1) := by decide +kernel
theorem dX8_feed_39 : decode cX8_feed 39 = .ok (.invokevirtual 86, 3) := by decide +kernel
theorem dX8_feed_42 : decode cX8_feed 42 = .ok (.aload_n 0, 1) := by decide +kernel
theorem dX8_feed_43 : decode cX8_feed 43 = .ok (.getfield 12, 3) := by decide +kernel
theorem dX8_feed_46 : decode cX8_feed 46 = .ok (.iload 4, 2) := by decide +kernel
theorem dX8_feed_48 : decode cX8_feed 48 = .ok (.invokevirtual 86, 3) := by decide +kernel
theorem dX8_feed_51 : decode cX8_feed 51 = .ok (.aload_n 0, 1) := by decide +kernel
theorem dX8_feed_52 : decode cX8_feed 52 = .ok (.getfield 12, 3) := by decide +kernel
theorem dX8_feed_55 : decode cX8_feed 55 = .ok (.iload 5, 2) := by decide +kernel
theorem dX8_feed_57 : decode cX8_feed 57 = .ok (.invokevirtual 86, 3) := by decide +kernel
theorem dX8_feed_60 : decode cX8_feed 60 = .ok (.aload_n 0, 1) := by decide +kernel
theorem dX8_feed_61 : decode cX8_feed 61 = .ok (.getfield 12, 3) := by decide +kernel
theorem dX8_feed_64 : decode cX8_feed 64 = .ok (.getfield 82, 3) := by decide +kernel
theorem dX8_feed_67 : decode cX8_feed 67 = .ok (.ireturn, 1) := by decide +kernel
theorem dX8_end_0 : decode cX8_end 0 = .ok (.iload_n 1, 1) := by decide +kernel
theorem dX8_end_1 : decode cX8_end 1 = .ok (.ifCond .lt 14, 3) := by decide +kernel
theorem dX8_end_4 : decode cX8_end 4 = .ok (.iload_n 1, 1) := by decide +kernel
theorem dX8_end_5 : decode cX8_end 5 = .ok (.aload_n 0, 1) := by decide +kernel
theorem dX8_end_6 : decode cX8_end 6 = .ok (.getfield 12, 3) := by decide +kernel
theorem dX8_end_9 : decode cX8_end 9 = .ok (.getfield 82, 3) := by decide +kernel
theorem dX8_end_12 : decode cX8_end 12 = .ok (.if_icmp .le 5, 3) := by decide +kernel
theorem dX8_end_15 : decode cX8_end 15 = .ok (.iconst 0, 1) := by decide +kernel
theorem dX8_end_16 : decode cX8_end 16 = .ok (.ireturn, 1) := by decide +kernel
theorem dX8_end_17 : decode cX8_end 17 = .ok (.aload_n 0, 1) := by decide +kernel
theorem dX8_end_18 : decode cX8_end 18 = .ok (.getfield 12, 3) := by decide +kernel
theorem dX8_end_21 : decode cX8_end 21 = .ok (.iload_n 1, 1) := by decide +kernel
theorem dX8_end_22 : decode cX8_end 22 = .ok (.putfield 82, 3) := by decide +kernel
theorem dX8_end_25 : decode cX8_end 25 = .ok (.iconst 1, 1) := by decide +kernel
theorem dX8_end_26 : decode cX8_end 26 = .ok (.ireturn, 1) := by decide +kernel
theorem dX8_read_0 : decode cX8_read 0 = .ok (.new 90, 3) := by decide +kernel
theorem dX8_read_3 : decode cX8_read 3 = .ok (.dup, 1) := by decide +kernel
theorem dX8_read_4 : decode cX8_read 4 = .ok (.aload_n 0, 1) := by decide +kernel
theorem dX8_read_5 : decode cX8_read 5 = .ok (.getfield 12, 3) := by decide +kernel
theorem dX8_read_8 : decode cX8_read 8 = .ok (.invokespecial 92, 3) := by decide +kernel
theorem dX8_read_11 : decode cX8_read 11 = .ok (.invokevirtual 95, 3) := by decide +kernel
theorem dX8_read_14 : decode cX8_read 14 = .ok (.astore_n 1, 1) := by decide +kernel
theorem dX8_read_15 : decode cX8_read 15 = .ok (.aload_n 0, 1) := by decide +kernel
theorem dX8_read_16 : decode cX8_read 16 = .ok (.getfield 12, 3) := by decide +kernel
theorem dX8_read_19 : decode cX8_read 19 = .ok (.iconst 0, 1) := by decide +kernel
theorem dX8_read_20 : decode cX8_read 20 = .ok (.putfield 82, 3) := by decide +kernel
theorem dX8_read_23 : decode cX8_read 23 = .ok (.aload_n 1, 1) := by decide +kernel
theorem dX8_read_24 : decode cX8_read 24 = .ok (.ifnonnull 13, 3) := by decide +kernel
theorem dX8_read_27 : decode cX8_read 27 = .ok (.new 99, 3) := by decide +kernel
theorem dX8_read_30 : decode cX8_read 30 = .ok (.dup, 1) := by decide +kernel
theorem dX8_read_31 : decode cX8_read 31 = .ok (.ldc 101, 2) := by decide +kernel
theorem dX8_read_33 : decode cX8_read 33 = .ok (.invokespecial 103, 3) := by decide +kernel
theorem dX8_read_36 : decode cX8_read 36 = .ok (.athrow, 1) := by decide +kernel
theorem dX8_read_37 : decode cX8_read 37 = .ok (.aload_n 0, 1) := by decide +kernel
theorem dX8_read_38 : decode cX8_read 38 = .ok (.aload_n 1, 1) := by decide +kernel
theorem dX8_read_39 : decode cX8_read 39 = .ok (.putfield 78, 3) := by decide +kernel
theorem dX8_read_42 : decode cX8_read 42 = .ok (.aload_n 0, 1) := by decide +kernel
theorem dX8_read_43 : decode cX8_read 43 = .ok (.iconst 0, 1) := by decide +kernel
theorem dX8_read_44 : decode cX8_read 44 = .ok (.putfield 106, 3) := by decide +kernel
theorem dX8_read_47 : decode cX8_read 47 = .ok (.aload_n 0, 1) := by decide +kernel
theorem dX8_read_48 : decode cX8_read 48 = .ok (.getfield 78, 3) := by decide +kernel
theorem dX8_read_51 : decode cX8_read 51 = .ok (.invokevirtual 109, 3) := by decide +kernel
theorem dX8_read_54 : decode cX8_read 54 = .ok (.ireturn, 1) := by decide +kernel
theorem dX8_fault_0 : decode cX8_fault 0 = .ok (.aload_n 0, 1) := by decide +kernel
theorem dX8_fault_1 : decode cX8_fault 1 = .ok (.getfield 12, 3) := by decide +kernel
theorem dX8_fault_4 : decode cX8_fault 4 = .ok (.getfield 113, 3) := by decide +kernel
theorem dX8_fault_7 : decode cX8_fault 7 = .ok (.ireturn, 1) := by decide +kernel
theorem dX8_pipe_0 : decode cX8_pipe 0 = .ok (.aload_n 0, 1) := by decide +kernel
theorem dX8_pipe_1 : decode cX8_pipe 1 = .ok (.getfield 78, 3) := by decide +kernel
theorem dX8_pipe_4 : decode cX8_pipe 4 = .ok (.aload_n 0, 1) := by decide +kernel
theorem dX8_pipe_5 : decode cX8_pipe 5 = .ok (.iload_n 1, 1) := by decide +kernel
theorem dX8_pipe_6 : decode cX8_pipe 6 = .ok (.iload_n 2, 1) := by decide +kernel
theorem dX8_pipe_7 : decode cX8_pipe 7 = .ok (.iload_n 3, 1) := by decide +kernel
theorem dX8_pipe_8 : decode cX8_pipe 8 = .ok (.invokevirtual 116, 3) := by decide +kernel
theorem dX8_pipe_11 : decode cX8_pipe 11 = .ok (.invokevirtual 120, 3) := by decide +kernel
theorem dX8_pipe_14 : decode cX8_pipe 14 = .ok (.ireturn, 1) := by decide +kernel
theorem dX8_stone_0 : decode cX8_stone 0 = .ok (.aload_n 0, 1) := by decide +kernel
theorem dX8_stone_1 : decode cX8_stone 1 = .ok (.getfield 78, 3) := by decide +kernel
theorem dX8_stone_4 : decode cX8_stone 4 = .ok (.aload_n 0, 1) := by decide +kernel
theorem dX8_stone_5 : decode cX8_stone 5 = .ok (.iload_n 1, 1) := by decide +kernel
theorem dX8_stone_6 : decode cX8_stone 6 = .ok (.iload_n 2, 1) := by decide +kernel
theorem dX8_stone_7 : decode cX8_stone 7 = .ok (.invokevirtual 124, 3) := by decide +kernel
theorem dX8_stone_10 : decode cX8_stone 10 = .ok (.invokevirtual 128, 3) := by decide +kernel
theorem dX8_stone_13 : decode cX8_stone 13 = .ok (.ireturn, 1) := by decide +kernel
theorem dX8_tell_0 : decode cX8_tell 0 = .ok (.aload_n 0, 1) := by decide +kernel
theorem dX8_tell_1 : decode cX8_tell 1 = .ok (.iload_n 1, 1) := by decide +kernel
theorem dX8_tell_2 : decode cX8_tell 2 = .ok (.iload_n 2, 1) := by decide +kernel
theorem dX8_tell_3 : decode cX8_tell 3 = .ok (.iload_n 3, 1) := by decide +kernel
theorem dX8_tell_4 : decode cX8_tell 4 = .ok (.invokevirtual 116, 3) := by decide +kernel
theorem dX8_tell_7 : decode cX8_tell 7 = .ok (.istore 5, 2) := by decide +kernel
theorem dX8_tell_9 : decode cX8_tell 9 = .ok (.iload 4, 2) := by decide +kernel
theorem dX8_tell_11 : decode cX8_tell 11 = .ok (.invokestatic 132, 3) := by decide +kernel
theorem dX8_tell_14 : decode cX8_tell 14 = .ok (.aload_n 0, 1) := by decide +kernel
theorem dX8_tell_15 : decode cX8_tell 15 = .ok (.getfield 78, 3) := by decide +kernel
theorem dX8_tell_18 : decode cX8_tell 18 = .ok (.iload 5, 2) := by decide +kernel
theorem dX8_tell_20 : decode cX8_tell 20 = .ok (.invokevirtual 135, 3) := by decide +kernel
theorem dX8_tell_23 : decode cX8_tell 23 = .ok (.istore 6, 2) := by decide +kernel
theorem dX8_tell_25 : decode cX8_tell 25 = .ok (.aload_n 0, 1) := by decide +kernel
theorem dX8_tell_26 : decode cX8_tell 26 = .ok (.aload_n 0, 1) := by decide +kernel
theorem dX8_tell_27 : decode cX8_tell 27 = .ok (.getfield 78, 3) := by decide +kernel
theorem dX8_tell_30 : decode cX8_tell 30 = .ok (.iload 5, 2) := by decide +kernel
theorem dX8_tell_32 : decode cX8_tell 32 = .ok (.iload 4, 2) := by decide +kernel
theorem dX8_tell_34 : decode cX8_tell 34 = .ok (.invokevirtual 138, 3) := by decide +kernel
theorem dX8_tell_37 : decode cX8_tell 37 = .ok (.invokestatic 142, 3) := by decide +kernel
theorem dX8_tell_40 : decode cX8_tell 40 = .ok (.invokevirtual 146, 3) := by decide +kernel
theorem dX8_tell_43 : decode cX8_tell 43 = .ok (.iload 6, 2) := by decide +kernel
theorem dX8_tell_45 : decode cX8_tell 45 = .ok (.ireturn, 1) := by decide +kernel
theorem dX8_put_0 : decode cX8_put 0 = .ok (.aload_n 0, 1) := by decide +kernel
theorem dX8_put_1 : decode cX8_put 1 = .ok (.iload_n 1, 1) := by decide +kernel
theorem dX8_put_2 : decode cX8_put 2 = .ok (.iload_n 2, 1) := by decide +kernel
theorem dX8_put_3 : decode cX8_put 3 = .ok (.invokevirtual 124, 3) := by decide +kernel
theorem dX8_put_6 : decode cX8_put 6 = .ok (.istore 4, 2) := by decide +kernel
theorem dX8_put_8 : decode cX8_put 8 = .ok (.aload_n 0, 1) := by decide +kernel
theorem dX8_put_9 : decode cX8_put 9 = .ok (.getfield 78, 3) := by decide +kernel
theorem dX8_put_12 : decode cX8_put 12 = .ok (.iload 4, 2) := by decide +kernel
theorem dX8_put_14 : decode cX8_put 14 = .ok (.invokevirtual 128, 3) := by decide +kernel
theorem dX8_put_17 : decode cX8_put 17 = .ok (.istore 5, 2) := by decide +kernel
theorem dX8_put_19 : decode cX8_put 19 = .ok (.aload_n 0, 1) := by decide +kernel
theorem dX8_put_20 : decode cX8_put 20 = .ok (.aload_n 0, 1) := by decide +kernel
theorem dX8_put_21 : decode cX8_put 21 = .ok (.getfield 78, 3) := by decide +kernel
theorem dX8_put_24 : decode cX8_put 24 = .ok (.iload 4, 2) := by decide +kernel
theorem dX8_put_26 : decode cX8_put 26 = .ok (.iload_n 3, 1) := by decide +kernel
theorem dX8_put_27 : decode cX8_put 27 = .ok (.invokevirtual 150, 3) := by decide +kernel
theorem dX8_put_30 : decode cX8_put 30 = .ok (.invokestatic 142, 3) := by decide +kernel
theorem dX8_put_33 : decode cX8_put 33 = .ok (.invokevirtual 146, 3) := by decide +kernel
theorem dX8_put_36 : decode cX8_put 36 = .ok (.iload 5, 2) := by decide +kernel
theorem dX8_put_38 : decode cX8_put 38 = .ok (.ireturn, 1) := by decide +kernel
theorem dX8_turn_0 : decode cX8_turn 0 = .ok (.iload_n 1, 1) := by decide +kernel
theorem dX8_turn_1 : decode cX8_turn 1 = .ok (.ifCond .lt 8, 3) := by decide +kernel
theorem dX8_turn_4 : decode cX8_turn 4 = .ok (.iload_n 1, 1) := by decide +kernel
theorem dX8_turn_5 : decode cX8_turn 5 = .ok (.iconst 2, 1) := by decide +kernel
theorem dX8_turn_6 : decode cX8_turn 6 = .ok (.if_icmp .le 13, 3) := by decide +kernel
theorem dX8_turn_9 : decode cX8_turn 9 = .ok (.new 99, 3) := by decide +kernel
theorem dX8_turn_12 : decode cX8_turn 12 = .ok (.dup, 1) := by decide +kernel
theorem dX8_turn_13 : decode cX8_turn 13 = .ok (.ldc 154, 2) := by decide +kernel
theorem dX8_turn_15 : decode cX8_turn 15 = .ok (.invokespecial 103, 3) := by decide +kernel
theorem dX8_turn_18 : decode cX8_turn 18 = .ok (.athrow, 1) := by decide +kernel
theorem dX8_turn_19 : decode cX8_turn 19 = .ok (.aload_n 0, 1) := by decide +kernel
theorem dX8_turn_20 : decode cX8_turn 20 = .ok (.aload_n 0, 1) := by decide +kernel
theorem dX8_turn_21 : decode cX8_turn 21 = .ok (.getfield 78, 3) := by decide +kernel
theorem dX8_turn_24 : decode cX8_turn 24 = .ok (.iload_n 1, 1) := by decide +kernel
theorem dX8_turn_25 : decode cX8_turn 25 = .ok (.invokevirtual 156, 3) := by decide +kernel
theorem dX8_turn_28 : decode cX8_turn 28 = .ok (.invokevirtual 146, 3) := by decide +kernel
theorem dX8_turn_31 : decode cX8_turn 31 = .ok (.return_, 1) := by decide +kernel
theorem dX8_drain_0 : decode cX8_drain 0 = .ok (.iload_n 2, 1) := by decide +kernel
theorem dX8_drain_1 : decode cX8_drain 1 = .ok (.iload_n 3, 1) := by decide +kernel
theorem dX8_drain_2 : decode cX8_drain 2 = .ok (.bipush 6, 2) := by decide +kernel
theorem dX8_drain_4 : decode cX8_drain 4 = .ok (.invokestatic 160, 3) := by decide +kernel
theorem dX8_drain_7 : decode cX8_drain 7 = .ok (.aload_n 0, 1) := by decide +kernel
theorem dX8_drain_8 : decode cX8_drain 8 = .ok (.aload_n 0, 1) := by decide +kernel
theorem dX8_drain_9 : decode cX8_drain 9 = .ok (.getfield 78, 3) := by decide +kernel
theorem dX8_drain_12 : decode cX8_drain 12 = .ok (.aload_n 0, 1) := by decide +kernel
theorem dX8_drain_13 : decode cX8_drain 13 = .ok (.iload_n 1, 1) := by decide +kernel
theorem dX8_drain_14 : decode cX8_drain 14 = .ok (.iload_n 2, 1) := by decide +kernel
theorem dX8_drain_15 : decode cX8_drain 15 = .ok (.iload_n 3, 1) := by decide +kernel
theorem dX8_drain_16 : decode cX8_drain 16 = .ok (.invokevirtual 164, 3) := by decide +kernel
theorem dX8_drain_19 : decode cX8_drain 19 = .ok (.invokevirtual 168, 3) := by decide +kernel
theorem dX8_drain_22 : decode cX8_drain 22 = .ok (.invokevirtual 146, 3) := by decide +kernel
theorem dX8_drain_25 : decode cX8_drain 25 = .ok (.aload_n 0, 1) := by decide +kernel
theorem dX8_drain_26 : decode cX8_drain 26 = .ok (.getfield 78, 3) := by decide +kernel
theorem dX8_drain_29 : decode cX8_drain 29 = .ok (.aload_n 0, 1) := by decide +kernel
theorem dX8_drain_30 : decode cX8_drain 30 = .ok (.getfield 78, 3) := by decide +kernel
theorem dX8_drain_33 : decode cX8_drain 33 = .ok (.getfield 172, 3) := by decide +kernel
theorem dX8_drain_36 : decode cX8_drain 36 = .ok (.invokevirtual 176, 3) := by decide +kernel
theorem dX8_drain_39 : decode cX8_drain 39 = .ok (.ireturn, 1) := by decide +kernel
theorem dX8_undo_0 : decode cX8_undo 0 = .ok (.aload_n 0, 1) := by decide +kernel
theorem dX8_undo_1 : decode cX8_undo 1 = .ok (.getfield 106, 3) := by decide +kernel
theorem dX8_undo_4 : decode cX8_undo 4 = .ok (.ifCond .le 12, 3) := by decide +kernel
theorem dX8_undo_7 : decode cX8_undo 7 = .ok (.aload_n 0, 1) := by decide +kernel
theorem dX8_undo_8 : decode cX8_undo 8 = .ok (.getfield 106, 3) := by decide +kernel
theorem dX8_undo_11 : decode cX8_undo 11 = .ok (.bipush 16, 2) := by decide +kernel
theorem dX8_undo_13 : decode cX8_undo 13 = .ok (.if_icmp .le 5, 3) := by decide +kernel
theorem dX8_undo_16 : decode cX8_undo 16 = .ok (.iconst (-1), 1) := by decide +kernel
theorem dX8_undo_17 : decode cX8_undo 17 = .ok (.ireturn, 1) := by decide +kernel
theorem dX8_undo_18 : decode cX8_undo 18 = .ok (.aload_n 0, 1) := by decide +kernel
theorem dX8_undo_19 : decode cX8_undo 19 = .ok (.dup, 1) := by decide +kernel
theorem dX8_undo_20 : decode cX8_undo 20 = .ok (.getfield 106, 3) := by decide +kernel
theorem dX8_undo_23 : decode cX8_undo 23 = .ok (.iconst 1, 1) := by decide +kernel
theorem dX8_undo_24 : decode cX8_undo 24 = .ok (.isub, 1) := by decide +kernel
theorem dX8_undo_25 : decode cX8_undo 25 = .ok (.putfield 106, 3) := by decide +kernel
theorem dX8_undo_28 : decode cX8_undo 28 = .ok (.aload_n 0, 1) := by decide +kernel
theorem dX8_undo_29 : decode cX8_undo 29 = .ok (.getfield 60, 3) := by decide +kernel
theorem dX8_undo_32 : decode cX8_undo 32 = .ok (.aload_n 0, 1) := by decide +kernel
theorem dX8_undo_33 : decode cX8_undo 33 = .ok (.getfield 106, 3) := by decide +kernel
theorem dX8_undo_36 : decode cX8_undo 36 = .ok (.aaload, 1) := by decide +kernel
theorem dX8_undo_37 : decode cX8_undo 37 = .ok (.astore_n 1, 1) := by decide +kernel
theorem dX8_undo_38 : decode cX8_undo 38 = .ok (.aload_n 1, 1) := by decide +kernel
theorem dX8_undo_39 : decode cX8_undo 39 = .ok (.ifnull 8, 3) := by decide +kernel
theorem dX8_undo_42 : decode cX8_undo 42 = .ok (.aload_n 0, 1) := by decide +kernel
theorem dX8_undo_43 : decode cX8_undo 43 = .ok (.aload_n 1, 1) := by decide +kernel
theorem dX8_undo_44 : decode cX8_undo 44 = .ok (.putfield 78, 3) := by decide +kernel
theorem dX8_undo_47 : decode cX8_undo 47 = .ok (.aload_n 0, 1) := by decide +kernel
theorem dX8_undo_48 : decode cX8_undo 48 = .ok (.getfield 106, 3) := by decide +kernel
theorem dX8_undo_51 : decode cX8_undo 51 = .ok (.ireturn, 1) := by decide +kernel
theorem dX8_joins_0 : decode cX8_joins 0 = .ok (.iload_n 1, 1) := by decide +kernel
theorem dX8_joins_1 : decode cX8_joins 1 = .ok (.invokestatic 180, 3) := by decide +kernel
theorem dX8_joins_4 : decode cX8_joins 4 = .ok (.ifCond .eq 15, 3) := by decide +kernel
theorem dX8_joins_7 : decode cX8_joins 7 = .ok (.aload_n 0, 1) := by decide +kernel
theorem dX8_joins_8 : decode cX8_joins 8 = .ok (.invokevirtual 183, 3) := by decide +kernel
theorem dX8_joins_11 : decode cX8_joins 11 = .ok (.getfield 187, 3) := by decide +kernel
theorem dX8_joins_14 : decode cX8_joins 14 = .ok (.iload_n 1, 1) := by decide +kernel
theorem dX8_joins_15 : decode cX8_joins 15 = .ok (.laload, 1) := by decide +kernel
theorem dX8_joins_16 : decode cX8_joins 16 = .ok (.goto 4, 3) := by decide +kernel
theorem dX8_joins_19 : decode cX8_joins 19 = .ok (.lconst 0, 1) := by decide +kernel
theorem dX8_joins_20 : decode cX8_joins 20 = .ok (.lreturn, 1) := by decide +kernel
theorem dX8_bars_0 : decode cX8_bars 0 = .ok (.aload_n 0, 1) := by decide +kernel
theorem dX8_bars_1 : decode cX8_bars 1 = .ok (.aload_n 0, 1) := by decide +kernel
theorem dX8_bars_2 : decode cX8_bars 2 = .ok (.invokevirtual 183, 3) := by decide +kernel
theorem dX8_bars_5 : decode cX8_bars 5 = .ok (.getfield 187, 3) := by decide +kernel
theorem dX8_bars_8 : decode cX8_bars 8 = .ok (.iload_n 1, 1) := by decide +kernel
theorem dX8_bars_9 : decode cX8_bars 9 = .ok (.invokevirtual 190, 3) := by decide +kernel
theorem dX8_bars_12 : decode cX8_bars 12 = .ok (.lreturn, 1) := by decide +kernel
theorem dX8_choices_0 : decode cX8_choices 0 = .ok (.aload_n 0, 1) := by decide +kernel
theorem dX8_choices_1 : decode cX8_choices 1 = .ok (.getfield 78, 3) := by decide +kernel
theorem dX8_choices_4 : decode cX8_choices 4 = .ok (.invokevirtual 109, 3) := by decide +kernel
theorem dX8_choices_7 : decode cX8_choices 7 = .ok (.iload_n 1, 1) := by decide +kernel
theorem dX8_choices_8 : decode cX8_choices 8 = .ok (.invokestatic 194, 3) := by decide +kernel
theorem dX8_choices_11 : decode cX8_choices 11 = .ok (.lreturn, 1) := by decide +kernel
theorem dX8_states_0 : decode cX8_states 0 = .ok (.aload_n 0, 1) := by decide +kernel
theorem dX8_states_1 : decode cX8_states 1 = .ok (.iload_n 1, 1) := by decide +kernel
theorem dX8_states_2 : decode cX8_states 2 = .ok (.invokevirtual 198, 3) := by decide +kernel
theorem dX8_states_5 : decode cX8_states 5 = .ok (.aload_n 0, 1) := by decide +kernel
theorem dX8_states_6 : decode cX8_states 6 = .ok (.invokevirtual 183, 3) := by decide +kernel
theorem dX8_states_9 : decode cX8_states 9 = .ok (.iload_n 1, 1) := by decide +kernel
theorem dX8_states_10 : decode cX8_states 10 = .ok (.invokevirtual 201, 3) := by decide +kernel
theorem dX8_states_13 : decode cX8_states 13 = .ok (.ireturn, 1) := by decide +kernel
theorem dX8_state_0 : decode cX8_state 0 = .ok (.aload_n 0, 1) := by decide +kernel
theorem dX8_state_1 : decode cX8_state 1 = .ok (.iload_n 3, 1) := by decide +kernel
theorem dX8_state_2 : decode cX8_state 2 = .ok (.iload_n 1, 1) := by decide +kernel
theorem dX8_state_3 : decode cX8_state 3 = .ok (.invokevirtual 124, 3) := by decide +kernel
theorem dX8_state_6 : decode cX8_state 6 = .ok (.pop, 1) := by decide +kernel
theorem dX8_state_7 : decode cX8_state 7 = .ok (.aload_n 0, 1) := by decide +kernel
theorem dX8_state_8 : decode cX8_state 8 = .ok (.aload_n 0, 1) := by decide +kernel
theorem dX8_state_9 : decode cX8_state 9 = .ok (.iload_n 1, 1) := by decide +kernel
theorem dX8_state_10 : decode cX8_state 10 = .ok (.iload_n 2, 1) := by decide +kernel
theorem dX8_state_11 : decode cX8_state 11 = .ok (.invokevirtual 204, 3) := by decide +kernel
theorem dX8_state_14 : decode cX8_state 14 = .ok (.iload_n 1, 1) := by decide +kernel
theorem dX8_state_15 : decode cX8_state 15 = .ok (.iload_n 3, 1) := by decide +kernel
theorem dX8_state_16 : decode cX8_state 16 = .ok (.invokevirtual 207, 3) := by decide +kernel
theorem dX8_state_19 : decode cX8_state 19 = .ok (.ireturn, 1) := by decide +kernel
theorem dX8_ways_0 : decode cX8_ways 0 = .ok (.aload_n 0, 1) := by decide +kernel
theorem dX8_ways_1 : decode cX8_ways 1 = .ok (.iload_n 1, 1) := by decide +kernel
theorem dX8_ways_2 : decode cX8_ways 2 = .ok (.invokevirtual 198, 3) := by decide +kernel
theorem dX8_ways_5 : decode cX8_ways 5 = .ok (.aload_n 0, 1) := by decide +kernel
theorem dX8_ways_6 : decode cX8_ways 6 = .ok (.iload_n 1, 1) := by decide +kernel
theorem dX8_ways_7 : decode cX8_ways 7 = .ok (.iload_n 2, 1) := by decide +kernel
theorem dX8_ways_8 : decode cX8_ways 8 = .ok (.invokevirtual 204, 3) := by decide +kernel
theorem dX8_ways_11 : decode cX8_ways 11 = .ok (.istore 4, 2) := by decide +kernel
theorem dX8_ways_13 : decode cX8_ways 13 = .ok (.iload_n 3, 1) := by decide +kernel
theorem dX8_ways_14 : decode cX8_ways 14 = .ok (.invokestatic 180, 3) := by decide +kernel
theorem dX8_ways_17 : decode cX8_ways 17 = .ok (.ifCond .eq 17, 3) := by decide +kernel
theorem dX8_ways_20 : decode cX8_ways 20 = .ok (.aload_n 0, 1) := by decide +kernel
theorem dX8_ways_21 : decode cX8_ways 21 = .ok (.invokevirtual 183, 3) := by decide +kernel
theorem dX8_ways_24 : decode cX8_ways 24 = .ok (.iload_n 1, 1) := by decide +kernel
theorem dX8_ways_25 : decode cX8_ways 25 = .ok (.iload 4, 2) := by decide +kernel
theorem dX8_ways_27 : decode cX8_ways 27 = .ok (.iload_n 3, 1) := by decide +kernel
theorem dX8_ways_28 : decode cX8_ways 28 = .ok (.invokevirtual 211, 3) := by decide +kernel
theorem dX8_ways_31 : decode cX8_ways 31 = .ok (.goto 4, 3) := by decide +kernel
theorem dX8_ways_34 : decode cX8_ways 34 = .ok (.lconst 0, 1) := by decide +kernel
theorem dX8_ways_35 : decode cX8_ways 35 = .ok (.lreturn, 1) := by decide +kernel
theorem dX8_wet_0 : decode cX8_wet 0 = .ok (.iload_n 1, 1) := by decide +kernel
theorem dX8_wet_1 : decode cX8_wet 1 = .ok (.ifCond .lt 16, 3) := by decide +kernel
theorem dX8_wet_4 : decode cX8_wet 4 = .ok (.iload_n 1, 1) := by decide +kernel
theorem dX8_wet_5 : decode cX8_wet 5 = .ok (.iconst 1, 1) := by decide +kernel
theorem dX8_wet_6 : decode cX8_wet 6 = .ok (.aload_n 0, 1) := by decide +kernel
theorem dX8_wet_7 : decode cX8_wet 7 = .ok (.getfield 78, 3) := by decide +kernel
theorem dX8_wet_10 : decode cX8_wet 10 = .ok (.getfield 214, 3) := by decide +kernel
theorem dX8_wet_13 : decode cX8_wet 13 = .ok (.ishl, 1) := by decide +kernel
theorem dX8_wet_14 : decode cX8_wet 14 = .ok (.if_icmp .lt 13, 3) := by decide +kernel
theorem dX8_wet_17 : decode cX8_wet 17 = .ok (.new 99, 3) := by decide +kernel
theorem dX8_wet_20 : decode cX8_wet 20 = .ok (.dup, 1) := by decide +kernel
theorem dX8_wet_21 : decode cX8_wet 21 = .ok (.ldc 217, 2) := by decide +kernel
theorem dX8_wet_23 : decode cX8_wet 23 = .ok (.invokespecial 103, 3) := by decide +kernel
theorem dX8_wet_26 : decode cX8_wet 26 = .ok (.athrow, 1) := by decide +kernel
theorem dX8_wet_27 : decode cX8_wet 27 = .ok (.iload_n 2, 1) := by decide +kernel
theorem dX8_wet_28 : decode cX8_wet 28 = .ok (.invokestatic 180, 3) := by decide +kernel
theorem dX8_wet_31 : decode cX8_wet 31 = .ok (.ifCond .ne 5, 3) := by decide +kernel
theorem dX8_wet_34 : decode cX8_wet 34 = .ok (.lconst 0, 1) := by decide +kernel
theorem dX8_wet_35 : decode cX8_wet 35 = .ok (.lreturn, 1) := by decide +kernel
theorem dX8_wet_36 : decode cX8_wet 36 = .ok (.aload_n 0, 1) := by decide +kernel
theorem dX8_wet_37 : decode cX8_wet 37 = .ok (.invokevirtual 183, 3) := by decide +kernel
theorem dX8_wet_40 : decode cX8_wet 40 = .ok (.astore_n 3, 1) := by decide +kernel
theorem dX8_wet_41 : decode cX8_wet 41 = .ok (.lconst 0, 1) := by decide +kernel
theorem dX8_wet_42 : decode cX8_wet 42 = .ok (.lstore 4, 2) := by decide +kernel
theorem dX8_wet_44 : decode cX8_wet 44 = .ok (.iconst 0, 1) := by decide +kernel
theorem dX8_wet_45 : decode cX8_wet 45 = .ok (.istore 6, 2) := by decide +kernel
theorem dX8_wet_47 : decode cX8_wet 47 = .ok (.iload 6, 2) := by decide +kernel
theorem dX8_wet_49 : decode cX8_wet 49 = .ok (.aload_n 0, 1) := by decide +kernel
theorem dX8_wet_50 : decode cX8_wet 50 = .ok (.getfield 19, 3) := by decide +kernel
theorem dX8_wet_53 : decode cX8_wet 53 = .ok (.getfield 219, 3) := by decide +kernel
theorem dX8_wet_56 : decode cX8_wet 56 = .ok (.if_icmp .ge 44, 3) := by decide +kernel
theorem dX8_wet_59 : decode cX8_wet 59 = .ok (.aload_n 0, 1) := by decide +kernel
theorem dX8_wet_60 : decode cX8_wet 60 = .ok (.getfield 19, 3) := by decide +kernel
theorem dX8_wet_63 : decode cX8_wet 63 = .ok (.getfield 222, 3) := by decide +kernel
theorem dX8_wet_66 : decode cX8_wet 66 = .ok (.iload 6, 2) := by decide +kernel
theorem dX8_wet_68 : decode cX8_wet 68 = .ok (.iaload, 1) := by decide +kernel
theorem dX8_wet_69 : decode cX8_wet 69 = .ok (.iload_n 1, 1) := by decide +kernel
theorem dX8_wet_70 : decode cX8_wet 70 = .ok (.if_icmp .ne 24, 3) := by decide +kernel
theorem dX8_wet_73 : decode cX8_wet 73 = .ok (.lload 4, 2) := by decide +kernel
theorem dX8_wet_75 : decode cX8_wet 75 = .ok (.aload_n 3, 1) := by decide +kernel
theorem dX8_wet_76 : decode cX8_wet 76 = .ok (.aload_n 0, 1) := by decide +kernel
theorem dX8_wet_77 : decode cX8_wet 77 = .ok (.getfield 78, 3) := by decide +kernel
theorem dX8_wet_80 : decode cX8_wet 80 = .ok (.getfield 225, 3) := by decide +kernel
theorem dX8_wet_83 : decode cX8_wet 83 = .ok (.iconst 1, 1) := by decide +kernel
theorem dX8_wet_84 : decode cX8_wet 84 = .ok (.isub, 1) := by decide +kernel
theorem dX8_wet_85 : decode cX8_wet 85 = .ok (.iload 6, 2) := by decide +kernel
theorem dX8_wet_87 : decode cX8_wet 87 = .ok (.iload_n 2, 1) := by decide +kernel
theorem dX8_wet_88 : decode cX8_wet 88 = .ok (.invokevirtual 211, 3) := by decide +kernel
theorem dX8_wet_91 : decode cX8_wet 91 = .ok (.ladd, 1) := by decide +kernel
theorem dX8_wet_92 : decode cX8_wet 92 = .ok (.lstore 4, 2) := by decide +kernel
theorem dX8_wet_94 : decode cX8_wet 94 = .ok (.iinc 6 1, 3) := by decide +kernel
theorem dX8_wet_97 : decode cX8_wet 97 = .ok (.goto (-50), 3) := by decide +kernel
theorem dX8_wet_100 : decode cX8_wet 100 = .ok (.lload 4, 2) := by decide +kernel
theorem dX8_wet_102 : decode cX8_wet 102 = .ok (.lreturn, 1) := by decide +kernel
theorem dX8_reaches_0 : decode cX8_reaches 0 = .ok (.aload_n 0, 1) := by decide +kernel
theorem dX8_reaches_1 : decode cX8_reaches 1 = .ok (.iload_n 1, 1) := by decide +kernel
theorem dX8_reaches_2 : decode cX8_reaches 2 = .ok (.invokevirtual 198, 3) := by decide +kernel
theorem dX8_reaches_5 : decode cX8_reaches 5 = .ok (.iload_n 2, 1) := by decide +kernel
theorem dX8_reaches_6 : decode cX8_reaches 6 = .ok (.invokestatic 180, 3) := by decide +kernel
theorem dX8_reaches_9 : decode cX8_reaches 9 = .ok (.ifCond .eq 15, 3) := by decide +kernel
theorem dX8_reaches_12 : decode cX8_reaches 12 = .ok (.aload_n 0, 1) := by decide +kernel
theorem dX8_reaches_13 : decode cX8_reaches 13 = .ok (.invokevirtual 183, 3) := by decide +kernel
theorem dX8_reaches_16 : decode cX8_reaches 16 = .ok (.iload_n 1, 1) := by decide +kernel
theorem dX8_reaches_17 : decode cX8_reaches 17 = .ok (.iload_n 2, 1) := by decide +kernel
theorem dX8_reaches_18 : decode cX8_reaches 18 = .ok (.invokevirtual 228, 3) := by decide +kernel
theorem dX8_reaches_21 : decode cX8_reaches 21 = .ok (.goto 4, 3) := by decide +kernel
theorem dX8_reaches_24 : decode cX8_reaches 24 = .ok (.lconst 0, 1) := by decide +kernel
theorem dX8_reaches_25 : decode cX8_reaches 25 = .ok (.lreturn, 1) := by decide +kernel
theorem dX8_parted_0 : decode cX8_parted 0 = .ok (.aload_n 0, 1) := by decide +kernel
theorem dX8_parted_1 : decode cX8_parted 1 = .ok (.iload_n 1, 1) := by decide +kernel
theorem dX8_parted_2 : decode cX8_parted 2 = .ok (.invokevirtual 198, 3) := by decide +kernel
theorem dX8_parted_5 : decode cX8_parted 5 = .ok (.aload_n 0, 1) := by decide +kernel
theorem dX8_parted_6 : decode cX8_parted 6 = .ok (.invokevirtual 183, 3) := by decide +kernel
theorem dX8_parted_9 : decode cX8_parted 9 = .ok (.astore_n 3, 1) := by decide +kernel
theorem dX8_parted_10 : decode cX8_parted 10 = .ok (.aload_n 0, 1) := by decide +kernel
theorem dX8_parted_11 : decode cX8_parted 11 = .ok (.getfield 78, 3) := by decide +kernel
theorem dX8_parted_14 : decode cX8_parted 14 = .ok (.iload_n 1, 1) := by decide +kernel
theorem dX8_parted_15 : decode cX8_parted 15 = .ok (.invokevirtual 231, 3) := by decide +kernel
theorem dX8_parted_18 : decode cX8_parted 18 = .ok (.istore 4, 2) := by decide +kernel
theorem dX8_parted_20 : decode cX8_parted 20 = .ok (.lconst 0, 1) := by decide +kernel
theorem dX8_parted_21 : decode cX8_parted 21 = .ok (.lstore 5, 2) := by decide +kernel
theorem dX8_parted_23 : decode cX8_parted 23 = .ok (.iconst 0, 1) := by decide +kernel
theorem dX8_parted_24 : decode cX8_parted 24 = .ok (.istore 7, 2) := by decide +kernel
theorem dX8_parted_26 : decode cX8_parted 26 = .ok (.iload 7, 2) := by decide +kernel
theorem dX8_parted_28 : decode cX8_parted 28 = .ok (.aload_n 0, 1) := by decide +kernel
theorem dX8_parted_29 : decode cX8_parted 29 = .ok (.getfield 19, 3) := by decide +kernel
theorem dX8_parted_32 : decode cX8_parted 32 = .ok (.getfield 219, 3) := by decide +kernel
theorem dX8_parted_35 : decode cX8_parted 35 = .ok (.if_icmp .ge 37, 3) := by decide +kernel
theorem dX8_parted_38 : decode cX8_parted 38 = .ok (.aload_n 0, 1) := by decide +kernel
theorem dX8_parted_39 : decode cX8_parted 39 = .ok (.getfield 19, 3) := by decide +kernel
theorem dX8_parted_42 : decode cX8_parted 42 = .ok (.iload 7, 2) := by decide +kernel
theorem dX8_parted_44 : decode cX8_parted 44 = .ok (.invokevirtual 234, 3) := by decide +kernel
theorem dX8_parted_47 : decode cX8_parted 47 = .ok (.iload 4, 2) := by decide +kernel
theorem dX8_parted_49 : decode cX8_parted 49 = .ok (.isub, 1) := by decide +kernel
theorem dX8_parted_50 : decode cX8_parted 50 = .ok (.iload_n 2, 1) := by decide +kernel
theorem dX8_parted_51 : decode cX8_parted 51 = .ok (.if_icmp .ne 15, 3) := by decide +kernel
theorem dX8_parted_54 : decode cX8_parted 54 = .ok (.lload 5, 2) := by decide +kernel
theorem dX8_parted_56 : decode cX8_parted 56 = .ok (.aload_n 3, 1) := by decide +kernel
theorem dX8_parted_57 : decode cX8_parted 57 = .ok (.iload_n 1, 1) := by decide +kernel
theorem dX8_parted_58 : decode cX8_parted 58 = .ok (.iload 7, 2) := by decide +kernel
theorem dX8_parted_60 : decode cX8_parted 60 = .ok (.invokevirtual 237, 3) := by decide +kernel
theorem dX8_parted_63 : decode cX8_parted 63 = .ok (.ladd, 1) := by decide +kernel
theorem dX8_parted_64 : decode cX8_parted 64 = .ok (.lstore 5, 2) := by decide +kernel
theorem dX8_parted_66 : decode cX8_parted 66 = .ok (.iinc 7 1, 3) := by decide +kernel
theorem dX8_parted_69 : decode cX8_parted 69 = .ok (.goto (-43), 3) := by decide +kernel
theorem dX8_parted_72 : decode cX8_parted 72 = .ok (.lload 5, 2) := by decide +kernel
theorem dX8_parted_74 : decode cX8_parted 74 = .ok (.lreturn, 1) := by decide +kernel
theorem dX8_pair_0 : decode cX8_pair 0 = .ok (.aload_n 0, 1) := by decide +kernel
theorem dX8_pair_1 : decode cX8_pair 1 = .ok (.getfield 78, 3) := by decide +kernel
theorem dX8_pair_4 : decode cX8_pair 4 = .ok (.getfield 225, 3) := by decide +kernel
theorem dX8_pair_7 : decode cX8_pair 7 = .ok (.iconst 1, 1) := by decide +kernel
theorem dX8_pair_8 : decode cX8_pair 8 = .ok (.isub, 1) := by decide +kernel
theorem dX8_pair_9 : decode cX8_pair 9 = .ok (.istore 4, 2) := by decide +kernel
theorem dX8_pair_11 : decode cX8_pair 11 = .ok (.aload_n 0, 1) := by decide +kernel
theorem dX8_pair_12 : decode cX8_pair 12 = .ok (.iload_n 1, 1) := by decide +kernel
theorem dX8_pair_13 : decode cX8_pair 13 = .ok (.iload 4, 2) := by decide +kernel
theorem dX8_pair_15 : decode cX8_pair 15 = .ok (.invokevirtual 124, 3) := by decide +kernel
theorem dX8_pair_18 : decode cX8_pair 18 = .ok (.istore 5, 2) := by decide +kernel
theorem dX8_pair_20 : decode cX8_pair 20 = .ok (.aload_n 0, 1) := by decide +kernel
theorem dX8_pair_21 : decode cX8_pair 21 = .ok (.iload_n 2, 1) := by decide +kernel
theorem dX8_pair_22 : decode cX8_pair 22 = .ok (.iload 4, 2) := by decide +kernel
theorem dX8_pair_24 : decode cX8_pair 24 = .ok (.invokevirtual 124, 3) := by decide +kernel
theorem dX8_pair_27 : decode cX8_pair 27 = .ok (.pop, 1) := by decide +kernel
theorem dX8_pair_28 : decode cX8_pair 28 = .ok (.iload_n 3, 1) := by decide +kernel
theorem dX8_pair_29 : decode cX8_pair 29 = .ok (.invokestatic 180, 3) := by decide +kernel
theorem dX8_pair_32 : decode cX8_pair 32 = .ok (.ifCond .eq 15, 3) := by decide +kernel
theorem dX8_pair_35 : decode cX8_pair 35 = .ok (.aload_n 0, 1) := by decide +kernel
theorem dX8_pair_36 : decode cX8_pair 36 = .ok (.getfield 78, 3) := by decide +kernel
theorem dX8_pair_39 : decode cX8_pair 39 = .ok (.iload 5, 2) := by decide +kernel
theorem dX8_pair_41 : decode cX8_pair 41 = .ok (.invokevirtual 128, 3) := by decide +kernel
theorem dX8_pair_44 : decode cX8_pair 44 = .ok (.ifCond .eq 5, 3) := by decide +kernel
theorem dX8_pair_47 : decode cX8_pair 47 = .ok (.lconst 0, 1) := by decide +kernel
theorem dX8_pair_48 : decode cX8_pair 48 = .ok (.lreturn, 1) := by decide +kernel
theorem dX8_pair_49 : decode cX8_pair 49 = .ok (.aload_n 0, 1) := by decide +kernel
theorem dX8_pair_50 : decode cX8_pair 50 = .ok (.invokevirtual 183, 3) := by decide +kernel
theorem dX8_pair_53 : decode cX8_pair 53 = .ok (.astore 6, 2) := by decide +kernel
theorem dX8_pair_55 : decode cX8_pair 55 = .ok (.lconst 0, 1) := by decide +kernel
theorem dX8_pair_56 : decode cX8_pair 56 = .ok (.lstore 7, 2) := by decide +kernel
theorem dX8_pair_58 : decode cX8_pair 58 = .ok (.iconst 0, 1) := by decide +kernel
theorem dX8_pair_59 : decode cX8_pair 59 = .ok (.istore 9, 2) := by decide +kernel
theorem dX8_pair_61 : decode cX8_pair 61 = .ok (.iload 9, 2) := by decide +kernel
theorem dX8_pair_63 : decode cX8_pair 63 = .ok (.aload_n 0, 1) := by decide +kernel
theorem dX8_pair_64 : decode cX8_pair 64 = .ok (.getfield 19, 3) := by decide +kernel
theorem dX8_pair_67 : decode cX8_pair 67 = .ok (.getfield 219, 3) := by decide +kernel
theorem dX8_pair_70 : decode cX8_pair 70 = .ok (.if_icmp .ge 47, 3) := by decide +kernel
theorem dX8_pair_73 : decode cX8_pair 73 = .ok (.aload_n 0, 1) := by decide +kernel
theorem dX8_pair_74 : decode cX8_pair 74 = .ok (.getfield 19, 3) := by decide +kernel
theorem dX8_pair_77 : decode cX8_pair 77 = .ok (.iload 9, 2) := by decide +kernel
theorem dX8_pair_79 : decode cX8_pair 79 = .ok (.iload_n 1, 1) := by decide +kernel
theorem dX8_pair_80 : decode cX8_pair 80 = .ok (.invokevirtual 240, 3) := by decide +kernel
theorem dX8_pair_83 : decode cX8_pair 83 = .ok (.aload_n 0, 1) := by decide +kernel
theorem dX8_pair_84 : decode cX8_pair 84 = .ok (.getfield 19, 3) := by decide +kernel
theorem dX8_pair_87 : decode cX8_pair 87 = .ok (.iload 9, 2) := by decide +kernel
theorem dX8_pair_89 : decode cX8_pair 89 = .ok (.iload_n 2, 1) := by decide +kernel
theorem dX8_pair_90 : decode cX8_pair 90 = .ok (.invokevirtual 240, 3) := by decide +kernel
theorem dX8_pair_93 : decode cX8_pair 93 = .ok (.if_icmp .ne 18, 3) := by decide +kernel
theorem dX8_pair_96 : decode cX8_pair 96 = .ok (.lload 7, 2) := by decide +kernel
theorem dX8_pair_98 : decode cX8_pair 98 = .ok (.aload 6, 2) := by decide +kernel
theorem dX8_pair_100 : decode cX8_pair 100 = .ok (.iload 4, 2) := by decide +kernel
theorem dX8_pair_102 : decode cX8_pair 102 = .ok (.iload 9, 2) := by decide +kernel
theorem dX8_pair_104 : decode cX8_pair 104 = .ok (.iload_n 3, 1) := by decide +kernel
theorem dX8_pair_105 : decode cX8_pair 105 = .ok (.invokevirtual 211, 3) := by decide +kernel
theorem dX8_pair_108 : decode cX8_pair 108 = .ok (.ladd, 1) := by decide +kernel
theorem dX8_pair_109 : decode cX8_pair 109 = .ok (.lstore 7, 2) := by decide +kernel
theorem dX8_pair_111 : decode cX8_pair 111 = .ok (.iinc 9 1, 3) := by decide +kernel
theorem dX8_pair_114 : decode cX8_pair 114 = .ok (.goto (-53), 3) := by decide +kernel
theorem dX8_pair_117 : decode cX8_pair 117 = .ok (.lload 7, 2) := by decide +kernel
theorem dX8_pair_119 : decode cX8_pair 119 = .ok (.lreturn, 1) := by decide +kernel
theorem dX8_tried_0 : decode cX8_tried 0 = .ok (.aload_n 0, 1) := by decide +kernel
theorem dX8_tried_1 : decode cX8_tried 1 = .ok (.invokevirtual 243, 3) := by decide +kernel
theorem dX8_tried_4 : decode cX8_tried 4 = .ok (.iload_n 1, 1) := by decide +kernel
theorem dX8_tried_5 : decode cX8_tried 5 = .ok (.iload_n 2, 1) := by decide +kernel
theorem dX8_tried_6 : decode cX8_tried 6 = .ok (.invokevirtual 247, 3) := by decide +kernel
theorem dX8_tried_9 : decode cX8_tried 9 = .ok (.ireturn, 1) := by decide +kernel
theorem dX8_just_0 : decode cX8_just 0 = .ok (.aload_n 0, 1) := by decide +kernel
theorem dX8_just_1 : decode cX8_just 1 = .ok (.invokevirtual 243, 3) := by decide +kernel
theorem dX8_just_4 : decode cX8_just 4 = .ok (.astore_n 2, 1) := by decide +kernel
theorem dX8_just_5 : decode cX8_just 5 = .ok (.iload_n 1, 1) := by decide +kernel
theorem dX8_just_6 : decode cX8_just 6 = .ok (.iconst (-1), 1) := by decide +kernel
theorem dX8_just_7 : decode cX8_just 7 = .ok (.if_icmp .ne 10, 3) := by decide +kernel
theorem dX8_just_10 : decode cX8_just 10 = .ok (.aload_n 2, 1) := by decide +kernel
theorem dX8_just_11 : decode cX8_just 11 = .ok (.invokevirtual 250, 3) := by decide +kernel
theorem dX8_just_14 : decode cX8_just 14 = .ok (.goto 8, 3) := by decide +kernel
theorem dX8_just_17 : decode cX8_just 17 = .ok (.aload_n 2, 1) := by decide +kernel
theorem dX8_just_18 : decode cX8_just 18 = .ok (.iload_n 1, 1) := by decide +kernel
theorem dX8_just_19 : decode cX8_just 19 = .ok (.invokevirtual 253, 3) := by decide +kernel
theorem dX8_just_22 : decode cX8_just 22 = .ok (.ireturn, 1) := by decide +kernel
theorem dX8_likeliest_0 : decode cX8_likeliest 0 = .ok (.aload_n 0, 1) := by decide +kernel
theorem dX8_likeliest_1 : decode cX8_likeliest 1 = .ok (.iload_n 1, 1) := by decide +kernel
theorem dX8_likeliest_2 : decode cX8_likeliest 2 = .ok (.invokevirtual 198, 3) := by decide +kernel
theorem dX8_likeliest_5 : decode cX8_likeliest 5 = .ok (.aload_n 0, 1) := by decide +kernel
theorem dX8_likeliest_6 : decode cX8_likeliest 6 = .ok (.invokevirtual 183, 3) := by decide +kernel
theorem dX8_likeliest_9 : decode cX8_likeliest 9 = .ok (.astore_n 3, 1) := by decide +kernel
theorem dX8_likeliest_10 : decode cX8_likeliest 10 = .ok (.lconst 0, 1) := by decide +kernel
theorem dX8_likeliest_11 : decode cX8_likeliest 11 = .ok (.lstore 4, 2) := by decide +kernel
theorem dX8_likeliest_13 : decode cX8_likeliest 13 = .ok (.iconst 0, 1) := by decide +kernel
theorem dX8_likeliest_14 : decode cX8_likeliest 14 = .ok (.istore 6, 2) := by decide +kernel
theorem dX8_likeliest_16 : decode cX8_likeliest 16 = .ok (.iconst 0, 1) := by decide +kernel
theorem dX8_likeliest_17 : decode cX8_likeliest 17 = .ok (.istore 7, 2) := by decide +kernel
theorem dX8_likeliest_19 : decode cX8_likeliest 19 = .ok (.iconst 0, 1) := by decide +kernel
theorem dX8_likeliest_20 : decode cX8_likeliest 20 = .ok (.istore 8, 2) := by decide +kernel
theorem dX8_likeliest_22 : decode cX8_likeliest 22 = .ok (.iload 8, 2) := by decide +kernel
theorem dX8_likeliest_24 : decode cX8_likeliest 24 = .ok (.aload_n 0, 1) := by decide +kernel
theorem dX8_likeliest_25 : decode cX8_likeliest 25 = .ok (.getfield 19, 3) := by decide +kernel
theorem dX8_likeliest_28 : decode cX8_likeliest 28 = .ok (.getfield 219, 3) := by decide +kernel
theorem dX8_likeliest_31 : decode cX8_likeliest 31 = .ok (.if_icmp .ge 44, 3) := by decide +kernel
theorem dX8_likeliest_34 : decode cX8_likeliest 34 = .ok (.aload_n 3, 1) := by decide +kernel
theorem dX8_likeliest_35 : decode cX8_likeliest 35 = .ok (.iload_n 1, 1) := by decide +kernel
theorem dX8_likeliest_36 : decode cX8_likeliest 36 = .ok (.iload 8, 2) := by decide +kernel
theorem dX8_likeliest_38 : decode cX8_likeliest 38 = .ok (.invokevirtual 237, 3) := by decide +kernel
theorem dX8_likeliest_41 : decode cX8_likeliest 41 = .ok (.lstore 9, 2) := by decide +kernel
theorem dX8_likeliest_43 : decode cX8_likeliest 43 = .ok (.lload 9, 2) := by decide +kernel
theorem dX8_likeliest_45 : decode cX8_likeliest 45 = .ok (.lload 4, 2) := by decide +kernel
theorem dX8_likeliest_47 : decode cX8_likeliest 47 = .ok (.lcmp, 1) := by decide +kernel
theorem dX8_likeliest_48 : decode cX8_likeliest 48 = .ok (.ifCond .le 11, 3) := by decide +kernel
theorem dX8_likeliest_51 : decode cX8_likeliest 51 = .ok (.lload 9, 2) := by decide +kernel
theorem dX8_likeliest_53 : decode cX8_likeliest 53 = .ok (.lstore 4, 2) := by decide +kernel
theorem dX8_likeliest_55 : decode cX8_likeliest 55 = .ok (.iload 7, 2) := by decide +kernel
theorem dX8_likeliest_57 : decode cX8_likeliest 57 = .ok (.istore 6, 2) := by decide +kernel
theorem dX8_likeliest_59 : decode cX8_likeliest 59 = .ok (.lload 9, 2) := by decide +kernel
theorem dX8_likeliest_61 : decode cX8_likeliest 61 = .ok (.lconst 0, 1) := by decide +kernel
theorem dX8_likeliest_62 : decode cX8_likeliest 62 = .ok (.lcmp, 1) := by decide +kernel
theorem dX8_likeliest_63 : decode cX8_likeliest 63 = .ok (.ifCond .le 6, 3) := by decide +kernel
theorem dX8_likeliest_66 : decode cX8_likeliest 66 = .ok (.iinc 7 1, 3) := by decide +kernel
theorem dX8_likeliest_69 : decode cX8_likeliest 69 = .ok (.iinc 8 1, 3) := by decide +kernel
theorem dX8_likeliest_72 : decode cX8_likeliest 72 = .ok (.goto (-50), 3) := by decide +kernel
theorem dX8_likeliest_75 : decode cX8_likeliest 75 = .ok (.iload_n 2, 1) := by decide +kernel
theorem dX8_likeliest_76 : decode cX8_likeliest 76 = .ok (.ifCond .eq 8, 3) := by decide +kernel
theorem dX8_likeliest_79 : decode cX8_likeliest 79 = .ok (.lload 4, 2) := by decide +kernel
theorem dX8_likeliest_81 : decode cX8_likeliest 81 = .ok (.goto 6, 3) := by decide +kernel
theorem dX8_likeliest_84 : decode cX8_likeliest 84 = .ok (.iload 6, 2) := by decide +kernel
theorem dX8_likeliest_86 : decode cX8_likeliest 86 = .ok (.i2l, 1) := by decide +kernel
theorem dX8_likeliest_87 : decode cX8_likeliest 87 = .ok (.lreturn, 1) := by decide +kernel
theorem dX8_between_0 : decode cX8_between 0 = .ok (.iload_n 1, 1) := by decide +kernel
theorem dX8_between_1 : decode cX8_between 1 = .ok (.ifCond .lt 35, 3) := by decide +kernel
theorem dX8_between_4 : decode cX8_between 4 = .ok (.iload_n 1, 1) := by decide +kernel
theorem dX8_between_5 : decode cX8_between 5 = .ok (.aload_n 0, 1) := by decide +kernel
theorem dX8_between_6 : decode cX8_between 6 = .ok (.getfield 78, 3) := by decide +kernel
theorem dX8_between_9 : decode cX8_between 9 = .ok (.getfield 225, 3) := by decide +kernel
theorem dX8_between_12 : decode cX8_between 12 = .ok (.iconst 2, 1) := by decide +kernel
theorem dX8_between_13 : decode cX8_between 13 = .ok (.isub, 1) := by decide +kernel
theorem dX8_between_14 : decode cX8_between 14 = .ok (.if_icmp .gt 22, 3) := by decide +kernel
theorem dX8_between_17 : decode cX8_between 17 = .ok (.iload_n 2, 1) := by decide +kernel
theorem dX8_between_18 : decode cX8_between 18 = .ok (.ifCond .lt 18, 3) := by decide +kernel
theorem dX8_between_21 : decode cX8_between 21 = .ok (.iload_n 2, 1) := by decide +kernel
theorem dX8_between_22 : decode cX8_between 22 = .ok (.aload_n 0, 1) := by decide +kernel
theorem dX8_between_23 : decode cX8_between 23 = .ok (.getfield 78, 3) := by decide +kernel
theorem dX8_between_26 : decode cX8_between 26 = .ok (.getfield 214, 3) := by decide +kernel
theorem dX8_between_29 : decode cX8_between 29 = .ok (.if_icmp .gt 7, 3) := by decide +kernel
theorem dX8_between_32 : decode cX8_between 32 = .ok (.iconst 1, 1) := by decide +kernel
theorem dX8_between_33 : decode cX8_between 33 = .ok (.goto 4, 3) := by decide +kernel
theorem dX8_between_36 : decode cX8_between 36 = .ok (.iconst 0, 1) := by decide +kernel
theorem dX8_between_37 : decode cX8_between 37 = .ok (.istore 4, 2) := by decide +kernel
theorem dX8_between_39 : decode cX8_between 39 = .ok (.iload 4, 2) := by decide +kernel
theorem dX8_between_41 : decode cX8_between 41 = .ok (.ifCond .eq 34, 3) := by decide +kernel
theorem dX8_between_44 : decode cX8_between 44 = .ok (.iload_n 3, 1) := by decide +kernel
theorem dX8_between_45 : decode cX8_between 45 = .ok (.ifCond .eq 17, 3) := by decide +kernel
theorem dX8_between_48 : decode cX8_between 48 = .ok (.iload_n 2, 1) := by decide +kernel
theorem dX8_between_49 : decode cX8_between 49 = .ok (.aload_n 0, 1) := by decide +kernel
theorem dX8_between_50 : decode cX8_between 50 = .ok (.getfield 78, 3) := by decide +kernel
theorem dX8_between_53 : decode cX8_between 53 = .ok (.getfield 214, 3) := by decide +kernel
theorem dX8_between_56 : decode cX8_between 56 = .ok (.if_icmp .ne 30, 3) := by decide +kernel
theorem dX8_between_59 : decode cX8_between 59 = .ok (.goto 16, 3) := by decide +kernel
theorem dX8_between_62 : decode cX8_between 62 = .ok (.iload_n 1, 1) := by decide +kernel
theorem dX8_between_63 : decode cX8_between 63 = .ok (.aload_n 0, 1) := by decide +kernel
theorem dX8_between_64 : decode cX8_between 64 = .ok (.getfield 78, 3) := by decide +kernel
theorem dX8_between_67 : decode cX8_between 67 = .ok (.getfield 225, 3) := by decide +kernel
theorem dX8_between_70 : decode cX8_between 70 = .ok (.iconst 2, 1) := by decide +kernel
theorem dX8_between_71 : decode cX8_between 71 = .ok (.isub, 1) := by decide +kernel
theorem dX8_between_72 : decode cX8_between 72 = .ok (.if_icmp .ne 14, 3) := by decide +kernel
theorem dX8_between_75 : decode cX8_between 75 = .ok (.new 256, 3) := by decide +kernel
theorem dX8_between_78 : decode cX8_between 78 = .ok (.dup, 1) := by decide +kernel
theorem dX8_between_79 : decode cX8_between 79 = .ok (.ldc_w 258, 3) := by decide +kernel
theorem dX8_between_82 : decode cX8_between 82 = .ok (.invokespecial 260, 3) := by decide +kernel
theorem dX8_between_85 : decode cX8_between 85 = .ok (.athrow, 1) := by decide +kernel
theorem dX8_between_86 : decode cX8_between 86 = .ok (.iload_n 3, 1) := by decide +kernel
theorem dX8_between_87 : decode cX8_between 87 = .ok (.ifCond .ne 20, 3) := by decide +kernel
theorem dX8_between_90 : decode cX8_between 90 = .ok (.iload_n 2, 1) := by decide +kernel
theorem dX8_between_91 : decode cX8_between 91 = .ok (.ifCond .eq 14, 3) := by decide +kernel
theorem dX8_between_94 : decode cX8_between 94 = .ok (.iload_n 2, 1) := by decide +kernel
theorem dX8_between_95 : decode cX8_between 95 = .ok (.aload_n 0, 1) := by decide +kernel
theorem dX8_between_96 : decode cX8_between 96 = .ok (.getfield 78, 3) := by decide +kernel
theorem dX8_between_99 : decode cX8_between 99 = .ok (.getfield 214, 3) := by decide +kernel
theorem dX8_between_102 : decode cX8_between 102 = .ok (.if_icmp .ne 5, 3) := by decide +kernel
theorem dX8_between_105 : decode cX8_between 105 = .ok (.iconst 2, 1) := by decide +kernel
theorem dX8_between_106 : decode cX8_between 106 = .ok (.ireturn, 1) := by decide +kernel
theorem dX8_between_107 : decode cX8_between 107 = .ok (.aload_n 0, 1) := by decide +kernel
theorem dX8_between_108 : decode cX8_between 108 = .ok (.getfield 78, 3) := by decide +kernel
theorem dX8_between_111 : decode cX8_between 111 = .ok (.iload_n 3, 1) := by decide +kernel
theorem dX8_between_112 : decode cX8_between 112 = .ok (.ifCond .eq 12, 3) := by decide +kernel
theorem dX8_between_115 : decode cX8_between 115 = .ok (.iload_n 2, 1) := by decide +kernel
theorem dX8_between_116 : decode cX8_between 116 = .ok (.iload_n 1, 1) := by decide +kernel
theorem dX8_between_117 : decode cX8_between 117 = .ok (.iconst 1, 1) := by decide +kernel
theorem dX8_between_118 : decode cX8_between 118 = .ok (.invokestatic 261, 3) := by decide +kernel
theorem dX8_between_121 : decode cX8_between 121 = .ok (.goto 13, 3) := by decide +kernel
theorem dX8_between_124 : decode cX8_between 124 = .ok (.iload_n 2, 1) := by decide +kernel
theorem dX8_between_125 : decode cX8_between 125 = .ok (.iconst 1, 1) := by decide +kernel
theorem dX8_between_126 : decode cX8_between 126 = .ok (.isub, 1) := by decide +kernel
theorem dX8_between_127 : decode cX8_between 127 = .ok (.iload_n 1, 1) := by decide +kernel
theorem dX8_between_128 : decode cX8_between 128 = .ok (.iconst 1, 1) := by decide +kernel
theorem dX8_between_129 : decode cX8_between 129 = .ok (.iadd, 1) := by decide +kernel
theorem dX8_between_130 : decode cX8_between 130 = .ok (.iconst 0, 1) := by decide +kernel
theorem dX8_between_131 : decode cX8_between 131 = .ok (.invokestatic 261, 3) := by decide +kernel
theorem dX8_between_134 : decode cX8_between 134 = .ok (.invokevirtual 120, 3) := by decide +kernel
theorem dX8_between_137 : decode cX8_between 137 = .ok (.istore 5, 2) := by decide +kernel
theorem dX8_between_139 : decode cX8_between 139 = .ok (.iload 5, 2) := by decide +kernel
theorem dX8_between_141 : decode cX8_between 141 = .ok (.ifCond .ne 5, 3) := by decide +kernel
theorem dX8_between_144 : decode cX8_between 144 = .ok (.iconst 0, 1) := by decide +kernel
theorem dX8_between_145 : decode cX8_between 145 = .ok (.ireturn, 1) := by decide +kernel
theorem dX8_between_146 : decode cX8_between 146 = .ok (.iload 5, 2) := by decide +kernel
theorem dX8_between_148 : decode cX8_between 148 = .ok (.iconst 1, 1) := by decide +kernel
theorem dX8_between_149 : decode cX8_between 149 = .ok (.if_icmp .ne 7, 3) := by decide +kernel
theorem dX8_between_152 : decode cX8_between 152 = .ok (.iconst 2, 1) := by decide +kernel
theorem dX8_between_153 : decode cX8_between 153 = .ok (.goto 4, 3) := by decide +kernel
theorem dX8_between_156 : decode cX8_between 156 = .ok (.iconst 1, 1) := by decide +kernel
theorem dX8_between_157 : decode cX8_between 157 = .ok (.ireturn, 1) := by decide +kernel
theorem dX8_alike_0 : decode cX8_alike 0 = .ok (.aload_n 0, 1) := by decide +kernel
theorem dX8_alike_1 : decode cX8_alike 1 = .ok (.invokevirtual 183, 3) := by decide +kernel
theorem dX8_alike_4 : decode cX8_alike 4 = .ok (.getfield 187, 3) := by decide +kernel
theorem dX8_alike_7 : decode cX8_alike 7 = .ok (.astore_n 1, 1) := by decide +kernel
theorem dX8_alike_8 : decode cX8_alike 8 = .ok (.iconst 0, 1) := by decide +kernel
theorem dX8_alike_9 : decode cX8_alike 9 = .ok (.istore_n 2, 1) := by decide +kernel
theorem dX8_alike_10 : decode cX8_alike 10 = .ok (.iload_n 2, 1) := by decide +kernel
theorem dX8_alike_11 : decode cX8_alike 11 = .ok (.aload_n 0, 1) := by decide +kernel
theorem dX8_alike_12 : decode cX8_alike 12 = .ok (.getfield 78, 3) := by decide +kernel
theorem dX8_alike_15 : decode cX8_alike 15 = .ok (.invokevirtual 109, 3) := by decide +kernel
theorem dX8_alike_18 : decode cX8_alike 18 = .ok (.if_icmp .gt 30, 3) := by decide +kernel
theorem dX8_alike_21 : decode cX8_alike 21 = .ok (.iload_n 2, 1) := by decide +kernel
theorem dX8_alike_22 : decode cX8_alike 22 = .ok (.bipush 25, 2) := by decide +kernel
theorem dX8_alike_24 : decode cX8_alike 24 = .ok (.if_icmp .ge 24, 3) := by decide +kernel
theorem dX8_alike_27 : decode cX8_alike 27 = .ok (.aload_n 1, 1) := by decide +kernel
theorem dX8_alike_28 : decode cX8_alike 28 = .ok (.iload_n 2, 1) := by decide +kernel
theorem dX8_alike_29 : decode cX8_alike 29 = .ok (.laload, 1) := by decide +kernel
theorem dX8_alike_30 : decode cX8_alike 30 = .ok (.aload_n 0, 1) := by decide +kernel
theorem dX8_alike_31 : decode cX8_alike 31 = .ok (.aload_n 1, 1) := by decide +kernel
theorem dX8_alike_32 : decode cX8_alike 32 = .ok (.iload_n 2, 1) := by decide +kernel
theorem dX8_alike_33 : decode cX8_alike 33 = .ok (.invokevirtual 190, 3) := by decide +kernel
theorem dX8_alike_36 : decode cX8_alike 36 = .ok (.lcmp, 1) := by decide +kernel
theorem dX8_alike_37 : decode cX8_alike 37 = .ok (.ifCond .eq 5, 3) := by decide +kernel
theorem dX8_alike_40 : decode cX8_alike 40 = .ok (.iconst 0, 1) := by decide +kernel
theorem dX8_alike_41 : decode cX8_alike 41 = .ok (.ireturn, 1) := by decide +kernel
theorem dX8_alike_42 : decode cX8_alike 42 = .ok (.iinc 2 1, 3) := by decide +kernel
theorem dX8_alike_45 : decode cX8_alike 45 = .ok (.goto (-35), 3) := by decide +kernel
theorem dX8_alike_48 : decode cX8_alike 48 = .ok (.iconst 1, 1) := by decide +kernel
theorem dX8_alike_49 : decode cX8_alike 49 = .ok (.ireturn, 1) := by decide +kernel
theorem dX8_value_0 : decode cX8_value 0 = .ok (.iload_n 1, 1) := by decide +kernel
theorem dX8_value_1 : decode cX8_value 1 = .ok (.iload_n 2, 1) := by decide +kernel
theorem dX8_value_2 : decode cX8_value 2 = .ok (.bipush 6, 2) := by decide +kernel
theorem dX8_value_4 : decode cX8_value 4 = .ok (.invokestatic 160, 3) := by decide +kernel
theorem dX8_value_7 : decode cX8_value 7 = .ok (.aload_n 0, 1) := by decide +kernel
theorem dX8_value_8 : decode cX8_value 8 = .ok (.getfield 78, 3) := by decide +kernel
theorem dX8_value_11 : decode cX8_value 11 = .ok (.invokevirtual 109, 3) := by decide +kernel
theorem dX8_value_14 : decode cX8_value 14 = .ok (.istore 4, 2) := by decide +kernel
theorem dX8_value_16 : decode cX8_value 16 = .ok (.aload_n 0, 1) := by decide +kernel
theorem dX8_value_17 : decode cX8_value 17 = .ok (.invokevirtual 183, 3) := by decide +kernel
theorem dX8_value_20 : decode cX8_value 20 = .ok (.getfield 187, 3) := by decide +kernel
theorem dX8_value_23 : decode cX8_value 23 = .ok (.iload 4, 2) := by decide +kernel
theorem dX8_value_25 : decode cX8_value 25 = .ok (.iload_n 1, 1) := by decide +kernel
theorem dX8_value_26 : decode cX8_value 26 = .ok (.iload_n 2, 1) := by decide +kernel
theorem dX8_value_27 : decode cX8_value 27 = .ok (.invokestatic 264, 3) := by decide +kernel
theorem dX8_value_30 : decode cX8_value 30 = .ok (.iload_n 2, 1) := by decide +kernel
theorem dX8_value_31 : decode cX8_value 31 = .ok (.iload 4, 2) := by decide +kernel
theorem dX8_value_33 : decode cX8_value 33 = .ok (.invokestatic 268, 3) := by decide +kernel
theorem dX8_value_36 : decode cX8_value 36 = .ok (.iload_n 3, 1) := by decide +kernel
theorem dX8_value_37 : decode cX8_value 37 = .ok (.invokestatic 271, 3) := by decide +kernel
theorem dX8_value_40 : decode cX8_value 40 = .ok (.lreturn, 1) := by decide +kernel
theorem dX8_barred_0 : decode cX8_barred 0 = .ok (.iload_n 1, 1) := by decide +kernel
theorem dX8_barred_1 : decode cX8_barred 1 = .ok (.iload_n 2, 1) := by decide +kernel
theorem dX8_barred_2 : decode cX8_barred 2 = .ok (.bipush 6, 2) := by decide +kernel
theorem dX8_barred_4 : decode cX8_barred 4 = .ok (.invokestatic 160, 3) := by decide +kernel
theorem dX8_barred_7 : decode cX8_barred 7 = .ok (.aload_n 0, 1) := by decide +kernel
theorem dX8_barred_8 : decode cX8_barred 8 = .ok (.getfield 78, 3) := by decide +kernel
theorem dX8_barred_11 : decode cX8_barred 11 = .ok (.invokevirtual 109, 3) := by decide +kernel
theorem dX8_barred_14 : decode cX8_barred 14 = .ok (.istore 4, 2) := by decide +kernel
theorem dX8_barred_16 : decode cX8_barred 16 = .ok (.iload_n 2, 1) := by decide +kernel
theorem dX8_barred_17 : decode cX8_barred 17 = .ok (.iload 4, 2) := by decide +kernel
theorem dX8_barred_19 : decode cX8_barred 19 = .ok (.invokestatic 268, 3) := by decide +kernel
theorem dX8_barred_22 : decode cX8_barred 22 = .ok (.lstore 5, 2) := by decide +kernel
theorem dX8_barred_24 : decode cX8_barred 24 = .ok (.aload_n 0, 1) := by decide +kernel
theorem dX8_barred_25 : decode cX8_barred 25 = .ok (.getfield 78, 3) := by decide +kernel
theorem dX8_barred_28 : decode cX8_barred 28 = .ok (.getfield 225, 3) := by decide +kernel
theorem dX8_barred_31 : decode cX8_barred 31 = .ok (.iconst 2, 1) := by decide +kernel
theorem dX8_barred_32 : decode cX8_barred 32 = .ok (.if_icmp .ge 7, 3) := by decide +kernel
theorem dX8_barred_35 : decode cX8_barred 35 = .ok (.lconst 0, 1) := by decide +kernel
theorem dX8_barred_36 : decode cX8_barred 36 = .ok (.goto 20, 3) := by decide +kernel
theorem dX8_barred_39 : decode cX8_barred 39 = .ok (.lload 5, 2) := by decide +kernel
theorem dX8_barred_41 : decode cX8_barred 41 = .ok (.aload_n 0, 1) := by decide +kernel
theorem dX8_barred_42 : decode cX8_barred 42 = .ok (.invokevirtual 183, 3) := by decide +kernel
theorem dX8_barred_45 : decode cX8_barred 45 = .ok (.getfield 187, 3) := by decide +kernel
theorem dX8_barred_48 : decode cX8_barred 48 = .ok (.iload 4, 2) := by decide +kernel
theorem dX8_barred_50 : decode cX8_barred 50 = .ok (.iload_n 1, 1) := by decide +kernel
theorem dX8_barred_51 : decode cX8_barred 51 = .ok (.iload_n 2, 1) := by decide +kernel
theorem dX8_barred_52 : decode cX8_barred 52 = .ok (.invokestatic 264, 3) := by decide +kernel
theorem dX8_barred_55 : decode cX8_barred 55 = .ok (.lsub, 1) := by decide +kernel
theorem dX8_barred_56 : decode cX8_barred 56 = .ok (.lstore 7, 2) := by decide +kernel
theorem dX8_barred_58 : decode cX8_barred 58 = .ok (.lload 7, 2) := by decide +kernel
theorem dX8_barred_60 : decode cX8_barred 60 = .ok (.lload 5, 2) := by decide +kernel
theorem dX8_barred_62 : decode cX8_barred 62 = .ok (.iload_n 3, 1) := by decide +kernel
theorem dX8_barred_63 : decode cX8_barred 63 = .ok (.invokestatic 271, 3) := by decide +kernel
theorem dX8_barred_66 : decode cX8_barred 66 = .ok (.lreturn, 1) := by decide +kernel
theorem dX8_would_0 : decode cX8_would 0 = .ok (.aload_n 0, 1) := by decide +kernel
theorem dX8_would_1 : decode cX8_would 1 = .ok (.iload_n 1, 1) := by decide +kernel
theorem dX8_would_2 : decode cX8_would 2 = .ok (.iload_n 2, 1) := by decide +kernel
theorem dX8_would_3 : decode cX8_would 3 = .ok (.iload_n 3, 1) := by decide +kernel
theorem dX8_would_4 : decode cX8_would 4 = .ok (.invokevirtual 116, 3) := by decide +kernel
theorem dX8_would_7 : decode cX8_would 7 = .ok (.istore 8, 2) := by decide +kernel
theorem dX8_would_9 : decode cX8_would 9 = .ok (.iload 5, 2) := by decide +kernel
theorem dX8_would_11 : decode cX8_would 11 = .ok (.iload 6, 2) := by decide +kernel
theorem dX8_would_13 : decode cX8_would 13 = .ok (.bipush 6, 2) := by decide +kernel
theorem dX8_would_15 : decode cX8_would 15 = .ok (.invokestatic 160, 3) := by decide +kernel
theorem dX8_would_18 : decode cX8_would 18 = .ok (.iload 4, 2) := by decide +kernel
theorem dX8_would_20 : decode cX8_would 20 = .ok (.invokestatic 132, 3) := by decide +kernel
theorem dX8_would_23 : decode cX8_would 23 = .ok (.aload_n 0, 1) := by decide +kernel
theorem dX8_would_24 : decode cX8_would 24 = .ok (.iload 8, 2) := by decide +kernel
theorem dX8_would_26 : decode cX8_would 26 = .ok (.invokevirtual 275, 3) := by decide +kernel
theorem dX8_would_29 : decode cX8_would 29 = .ok (.iload 4, 2) := by decide +kernel
theorem dX8_would_31 : decode cX8_would 31 = .ok (.ifCond .ne 14, 3) := by decide +kernel
theorem dX8_would_34 : decode cX8_would 34 = .ok (.aload_n 0, 1) := by decide +kernel
theorem dX8_would_35 : decode cX8_would 35 = .ok (.iload 5, 2) := by decide +kernel
theorem dX8_would_37 : decode cX8_would 37 = .ok (.iload 6, 2) := by decide +kernel
theorem dX8_would_39 : decode cX8_would 39 = .ok (.iload 7, 2) := by decide +kernel
theorem dX8_would_41 : decode cX8_would 41 = .ok (.invokevirtual 278, 3) := by decide +kernel
theorem dX8_would_44 : decode cX8_would 44 = .ok (.lreturn, 1) := by decide +kernel
theorem dX8_would_45 : decode cX8_would 45 = .ok (.aload_n 0, 1) := by decide +kernel
theorem dX8_would_46 : decode cX8_would 46 = .ok (.getfield 78, 3) := by decide +kernel
theorem dX8_would_49 : decode cX8_would 49 = .ok (.invokevirtual 109, 3) := by decide +kernel
theorem dX8_would_52 : decode cX8_would 52 = .ok (.iconst 1, 1) := by decide +kernel
theorem dX8_would_53 : decode cX8_would 53 = .ok (.isub, 1) := by decide +kernel
theorem dX8_would_54 : decode cX8_would 54 = .ok (.istore 9, 2) := by decide +kernel
theorem dX8_would_56 : decode cX8_would 56 = .ok (.aload_n 0, 1) := by decide +kernel
theorem dX8_would_57 : decode cX8_would 57 = .ok (.iload 8, 2) := by decide +kernel
theorem dX8_would_59 : decode cX8_would 59 = .ok (.iload 4, 2) := by decide +kernel
theorem dX8_would_61 : decode cX8_would 61 = .ok (.invokevirtual 282, 3) := by decide +kernel
theorem dX8_would_64 : decode cX8_would 64 = .ok (.astore 10, 2) := by decide +kernel
theorem dX8_would_66 : decode cX8_would 66 = .ok (.aload 10, 2) := by decide +kernel
theorem dX8_would_68 : decode cX8_would 68 = .ok (.iload 9, 2) := by decide +kernel
theorem dX8_would_70 : decode cX8_would 70 = .ok (.iload 5, 2) := by decide +kernel
theorem dX8_would_72 : decode cX8_would 72 = .ok (.iload 6, 2) := by decide +kernel
theorem dX8_would_74 : decode cX8_would 74 = .ok (.invokestatic 264, 3) := by decide +kernel
theorem dX8_would_77 : decode cX8_would 77 = .ok (.iload 6, 2) := by decide +kernel
theorem dX8_would_79 : decode cX8_would 79 = .ok (.iload 9, 2) := by decide +kernel
theorem dX8_would_81 : decode cX8_would 81 = .ok (.invokestatic 268, 3) := by decide +kernel
theorem dX8_would_84 : decode cX8_would 84 = .ok (.iload 7, 2) := by decide +kernel
theorem dX8_would_86 : decode cX8_would 86 = .ok (.invokestatic 271, 3) := by decide +kernel
theorem dX8_would_89 : decode cX8_would 89 = .ok (.lreturn, 1) := by decide +kernel
theorem dX8_wetness_0 : decode cX8_wetness 0 = .ok (.iload_n 1, 1) := by decide +kernel
theorem dX8_wetness_1 : decode cX8_wetness 1 = .ok (.iload_n 2, 1) := by decide +kernel
theorem dX8_wetness_2 : decode cX8_wetness 2 = .ok (.iconst 5, 1) := by decide +kernel
theorem dX8_wetness_3 : decode cX8_wetness 3 = .ok (.invokestatic 160, 3) := by decide +kernel
theorem dX8_wetness_6 : decode cX8_wetness 6 = .ok (.aload_n 0, 1) := by decide +kernel
theorem dX8_wetness_7 : decode cX8_wetness 7 = .ok (.invokevirtual 183, 3) := by decide +kernel
