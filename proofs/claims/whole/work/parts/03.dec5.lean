theorem dX9_laysFree_15 : decode cX9_laysFree 15 = .ok (.invokevirtual 208, 3) := by decide +kernel
theorem dX9_laysFree_18 : decode cX9_laysFree 18 = .ok (.ifCond .ne 6, 3) := by decide +kernel
theorem dX9_laysFree_21 : decode cX9_laysFree 21 = .ok (.goto 54, 3) := by decide +kernel
theorem dX9_laysFree_24 : decode cX9_laysFree 24 = .ok (.aload_n 0, 1) := by decide +kernel
theorem dX9_laysFree_25 : decode cX9_laysFree 25 = .ok (.getfield 72, 3) := by decide +kernel
theorem dX9_laysFree_28 : decode cX9_laysFree 28 = .ok (.iload_n 1, 1) := by decide +kernel
theorem dX9_laysFree_29 : decode cX9_laysFree 29 = .ok (.aload_n 0, 1) := by decide +kernel
theorem dX9_laysFree_30 : decode cX9_laysFree 30 = .ok (.iload_n 1, 1) := by decide +kernel
theorem dX9_laysFree_31 : decode cX9_laysFree 31 = .ok (.invokevirtual 215, 3) := by decide +kernel
theorem dX9_laysFree_34 : decode cX9_laysFree 34 = .ok (.iconst 1, 1) := by decide +kernel
theorem dX9_laysFree_35 : decode cX9_laysFree 35 = .ok (.if_icmp .ne 7, 3) := by decide +kernel
theorem dX9_laysFree_38 : decode cX9_laysFree 38 = .ok (.iconst 1, 1) := by decide +kernel
theorem dX9_laysFree_39 : decode cX9_laysFree 39 = .ok (.goto 4, 3) := by decide +kernel
theorem dX9_laysFree_42 : decode cX9_laysFree 42 = .ok (.iconst 0, 1) := by decide +kernel
theorem dX9_laysFree_43 : decode cX9_laysFree 43 = .ok (.bastore, 1) := by decide +kernel
theorem dX9_laysFree_44 : decode cX9_laysFree 44 = .ok (.aload_n 0, 1) := by decide +kernel
theorem dX9_laysFree_45 : decode cX9_laysFree 45 = .ok (.iload_n 1, 1) := by decide +kernel
theorem dX9_laysFree_46 : decode cX9_laysFree 46 = .ok (.invokevirtual 215, 3) := by decide +kernel
theorem dX9_laysFree_49 : decode cX9_laysFree 49 = .ok (.ifCond .eq 6, 3) := by decide +kernel
theorem dX9_laysFree_52 : decode cX9_laysFree 52 = .ok (.goto 23, 3) := by decide +kernel
theorem dX9_laysFree_55 : decode cX9_laysFree 55 = .ok (.aload_n 0, 1) := by decide +kernel
theorem dX9_laysFree_56 : decode cX9_laysFree 56 = .ok (.getfield 90, 3) := by decide +kernel
theorem dX9_laysFree_59 : decode cX9_laysFree 59 = .ok (.aload_n 0, 1) := by decide +kernel
theorem dX9_laysFree_60 : decode cX9_laysFree 60 = .ok (.getfield 320, 3) := by decide +kernel
theorem dX9_laysFree_63 : decode cX9_laysFree 63 = .ok (.iload_n 1, 1) := by decide +kernel
theorem dX9_laysFree_64 : decode cX9_laysFree 64 = .ok (.iastore, 1) := by decide +kernel
theorem dX9_laysFree_65 : decode cX9_laysFree 65 = .ok (.aload_n 0, 1) := by decide +kernel
theorem dX9_laysFree_66 : decode cX9_laysFree 66 = .ok (.dup, 1) := by decide +kernel
theorem dX9_laysFree_67 : decode cX9_laysFree 67 = .ok (.getfield 320, 3) := by decide +kernel
theorem dX9_laysFree_70 : decode cX9_laysFree 70 = .ok (.iconst 1, 1) := by decide +kernel
theorem dX9_laysFree_71 : decode cX9_laysFree 71 = .ok (.iadd, 1) := by decide +kernel
theorem dX9_laysFree_72 : decode cX9_laysFree 72 = .ok (.putfield 320, 3) := by decide +kernel
theorem dX9_laysFree_75 : decode cX9_laysFree 75 = .ok (.iinc 1 1, 3) := by decide +kernel
theorem dX9_laysFree_78 : decode cX9_laysFree 78 = .ok (.goto (-71), 3) := by decide +kernel
theorem dX9_laysFree_81 : decode cX9_laysFree 81 = .ok (.return_, 1) := by decide +kernel
theorem dX9_joinsBy_0 : decode cX9_joinsBy 0 = .ok (.iconst 0, 1) := by decide +kernel
theorem dX9_joinsBy_1 : decode cX9_joinsBy 1 = .ok (.istore_n 2, 1) := by decide +kernel
theorem dX9_joinsBy_2 : decode cX9_joinsBy 2 = .ok (.iload_n 2, 1) := by decide +kernel
theorem dX9_joinsBy_3 : decode cX9_joinsBy 3 = .ok (.aload_n 0, 1) := by decide +kernel
theorem dX9_joinsBy_4 : decode cX9_joinsBy 4 = .ok (.getfield 320, 3) := by decide +kernel
theorem dX9_joinsBy_7 : decode cX9_joinsBy 7 = .ok (.if_icmp .ge 34, 3) := by decide +kernel
theorem dX9_joinsBy_10 : decode cX9_joinsBy 10 = .ok (.aload_n 0, 1) := by decide +kernel
theorem dX9_joinsBy_11 : decode cX9_joinsBy 11 = .ok (.getfield 72, 3) := by decide +kernel
theorem dX9_joinsBy_14 : decode cX9_joinsBy 14 = .ok (.aload_n 0, 1) := by decide +kernel
theorem dX9_joinsBy_15 : decode cX9_joinsBy 15 = .ok (.getfield 90, 3) := by decide +kernel
theorem dX9_joinsBy_18 : decode cX9_joinsBy 18 = .ok (.iload_n 2, 1) := by decide +kernel
theorem dX9_joinsBy_19 : decode cX9_joinsBy 19 = .ok (.iaload, 1) := by decide +kernel
theorem dX9_joinsBy_20 : decode cX9_joinsBy 20 = .ok (.iload_n 1, 1) := by decide +kernel
theorem dX9_joinsBy_21 : decode cX9_joinsBy 21 = .ok (.iload_n 2, 1) := by decide +kernel
theorem dX9_joinsBy_22 : decode cX9_joinsBy 22 = .ok (.ishr, 1) := by decide +kernel
theorem dX9_joinsBy_23 : decode cX9_joinsBy 23 = .ok (.iconst 1, 1) := by decide +kernel
theorem dX9_joinsBy_24 : decode cX9_joinsBy 24 = .ok (.iand, 1) := by decide +kernel
theorem dX9_joinsBy_25 : decode cX9_joinsBy 25 = .ok (.iconst 1, 1) := by decide +kernel
theorem dX9_joinsBy_26 : decode cX9_joinsBy 26 = .ok (.if_icmp .ne 7, 3) := by decide +kernel
theorem dX9_joinsBy_29 : decode cX9_joinsBy 29 = .ok (.iconst 1, 1) := by decide +kernel
theorem dX9_joinsBy_30 : decode cX9_joinsBy 30 = .ok (.goto 4, 3) := by decide +kernel
theorem dX9_joinsBy_33 : decode cX9_joinsBy 33 = .ok (.iconst 0, 1) := by decide +kernel
theorem dX9_joinsBy_34 : decode cX9_joinsBy 34 = .ok (.bastore, 1) := by decide +kernel
theorem dX9_joinsBy_35 : decode cX9_joinsBy 35 = .ok (.iinc 2 1, 3) := by decide +kernel
theorem dX9_joinsBy_38 : decode cX9_joinsBy 38 = .ok (.goto (-36), 3) := by decide +kernel
theorem dX9_joinsBy_41 : decode cX9_joinsBy 41 = .ok (.aload_n 0, 1) := by decide +kernel
theorem dX9_joinsBy_42 : decode cX9_joinsBy 42 = .ok (.invokevirtual 316, 3) := by decide +kernel
theorem dX9_joinsBy_45 : decode cX9_joinsBy 45 = .ok (.ireturn, 1) := by decide +kernel
theorem dX9_bits_0 : decode cX9_bits 0 = .ok (.iconst 0, 1) := by decide +kernel
theorem dX9_bits_1 : decode cX9_bits 1 = .ok (.istore_n 1, 1) := by decide +kernel
theorem dX9_bits_2 : decode cX9_bits 2 = .ok (.iload_n 0, 1) := by decide +kernel
theorem dX9_bits_3 : decode cX9_bits 3 = .ok (.istore_n 2, 1) := by decide +kernel
theorem dX9_bits_4 : decode cX9_bits 4 = .ok (.iload_n 2, 1) := by decide +kernel
theorem dX9_bits_5 : decode cX9_bits 5 = .ok (.ifCond .eq 15, 3) := by decide +kernel
theorem dX9_bits_8 : decode cX9_bits 8 = .ok (.iinc 1 1, 3) := by decide +kernel
theorem dX9_bits_11 : decode cX9_bits 11 = .ok (.iload_n 2, 1) := by decide +kernel
theorem dX9_bits_12 : decode cX9_bits 12 = .ok (.iload_n 2, 1) := by decide +kernel
theorem dX9_bits_13 : decode cX9_bits 13 = .ok (.iconst 1, 1) := by decide +kernel
theorem dX9_bits_14 : decode cX9_bits 14 = .ok (.isub, 1) := by decide +kernel
theorem dX9_bits_15 : decode cX9_bits 15 = .ok (.iand, 1) := by decide +kernel
theorem dX9_bits_16 : decode cX9_bits 16 = .ok (.istore_n 2, 1) := by decide +kernel
theorem dX9_bits_17 : decode cX9_bits 17 = .ok (.goto (-13), 3) := by decide +kernel
theorem dX9_bits_20 : decode cX9_bits 20 = .ok (.iload_n 1, 1) := by decide +kernel
theorem dX9_bits_21 : decode cX9_bits 21 = .ok (.ireturn, 1) := by decide +kernel
theorem dX9_tried_0 : decode cX9_tried 0 = .ok (.aload_n 0, 1) := by decide +kernel
theorem dX9_tried_1 : decode cX9_tried 1 = .ok (.aload_n 0, 1) := by decide +kernel
theorem dX9_tried_2 : decode cX9_tried 2 = .ok (.invokevirtual 187, 3) := by decide +kernel
theorem dX9_tried_5 : decode cX9_tried 5 = .ok (.bipush 12, 2) := by decide +kernel
theorem dX9_tried_7 : decode cX9_tried 7 = .ok (.if_icmp .le 7, 3) := by decide +kernel
theorem dX9_tried_10 : decode cX9_tried 10 = .ok (.iconst 1, 1) := by decide +kernel
theorem dX9_tried_11 : decode cX9_tried 11 = .ok (.goto 4, 3) := by decide +kernel
theorem dX9_tried_14 : decode cX9_tried 14 = .ok (.iconst 0, 1) := by decide +kernel
theorem dX9_tried_15 : decode cX9_tried 15 = .ok (.putfield 103, 3) := by decide +kernel
theorem dX9_tried_18 : decode cX9_tried 18 = .ok (.aload_n 0, 1) := by decide +kernel
theorem dX9_tried_19 : decode cX9_tried 19 = .ok (.getfield 103, 3) := by decide +kernel
theorem dX9_tried_22 : decode cX9_tried 22 = .ok (.ifCond .le 5, 3) := by decide +kernel
theorem dX9_tried_25 : decode cX9_tried 25 = .ok (.iconst 0, 1) := by decide +kernel
theorem dX9_tried_26 : decode cX9_tried 26 = .ok (.ireturn, 1) := by decide +kernel
theorem dX9_tried_27 : decode cX9_tried 27 = .ok (.aload_n 0, 1) := by decide +kernel
theorem dX9_tried_28 : decode cX9_tried 28 = .ok (.invokevirtual 323, 3) := by decide +kernel
theorem dX9_tried_31 : decode cX9_tried 31 = .ok (.iload_n 2, 1) := by decide +kernel
theorem dX9_tried_32 : decode cX9_tried 32 = .ok (.istore_n 3, 1) := by decide +kernel
theorem dX9_tried_33 : decode cX9_tried 33 = .ok (.iconst 0, 1) := by decide +kernel
theorem dX9_tried_34 : decode cX9_tried 34 = .ok (.istore 4, 2) := by decide +kernel
theorem dX9_tried_36 : decode cX9_tried 36 = .ok (.iload 4, 2) := by decide +kernel
theorem dX9_tried_38 : decode cX9_tried 38 = .ok (.iconst 1, 1) := by decide +kernel
theorem dX9_tried_39 : decode cX9_tried 39 = .ok (.aload_n 0, 1) := by decide +kernel
theorem dX9_tried_40 : decode cX9_tried 40 = .ok (.getfield 320, 3) := by decide +kernel
theorem dX9_tried_43 : decode cX9_tried 43 = .ok (.ishl, 1) := by decide +kernel
theorem dX9_tried_44 : decode cX9_tried 44 = .ok (.if_icmp .ge 44, 3) := by decide +kernel
theorem dX9_tried_47 : decode cX9_tried 47 = .ok (.iload_n 2, 1) := by decide +kernel
theorem dX9_tried_48 : decode cX9_tried 48 = .ok (.ifCond .lt 40, 3) := by decide +kernel
theorem dX9_tried_51 : decode cX9_tried 51 = .ok (.iload 4, 2) := by decide +kernel
theorem dX9_tried_53 : decode cX9_tried 53 = .ok (.invokestatic 326, 3) := by decide +kernel
theorem dX9_tried_56 : decode cX9_tried 56 = .ok (.iload_n 1, 1) := by decide +kernel
theorem dX9_tried_57 : decode cX9_tried 57 = .ok (.if_icmp .ne 25, 3) := by decide +kernel
theorem dX9_tried_60 : decode cX9_tried 60 = .ok (.aload_n 0, 1) := by decide +kernel
theorem dX9_tried_61 : decode cX9_tried 61 = .ok (.iload 4, 2) := by decide +kernel
theorem dX9_tried_63 : decode cX9_tried 63 = .ok (.invokevirtual 329, 3) := by decide +kernel
theorem dX9_tried_66 : decode cX9_tried 66 = .ok (.ifCond .ne 6, 3) := by decide +kernel
theorem dX9_tried_69 : decode cX9_tried 69 = .ok (.goto 13, 3) := by decide +kernel
theorem dX9_tried_72 : decode cX9_tried 72 = .ok (.iload_n 3, 1) := by decide +kernel
theorem dX9_tried_73 : decode cX9_tried 73 = .ok (.ifCond .ne 6, 3) := by decide +kernel
theorem dX9_tried_76 : decode cX9_tried 76 = .ok (.iload 4, 2) := by decide +kernel
theorem dX9_tried_78 : decode cX9_tried 78 = .ok (.ireturn, 1) := by decide +kernel
theorem dX9_tried_79 : decode cX9_tried 79 = .ok (.iinc 3 (-1), 3) := by decide +kernel
theorem dX9_tried_82 : decode cX9_tried 82 = .ok (.iinc 4 1, 3) := by decide +kernel
theorem dX9_tried_85 : decode cX9_tried 85 = .ok (.goto (-49), 3) := by decide +kernel
theorem dX9_tried_88 : decode cX9_tried 88 = .ok (.iconst (-1), 1) := by decide +kernel
theorem dX9_tried_89 : decode cX9_tried 89 = .ok (.ireturn, 1) := by decide +kernel
theorem dX9_isJust_0 : decode cX9_isJust 0 = .ok (.aload_n 0, 1) := by decide +kernel
theorem dX9_isJust_1 : decode cX9_isJust 1 = .ok (.iload_n 1, 1) := by decide +kernel
theorem dX9_isJust_2 : decode cX9_isJust 2 = .ok (.invokevirtual 329, 3) := by decide +kernel
theorem dX9_isJust_5 : decode cX9_isJust 5 = .ok (.ifCond .ne 5, 3) := by decide +kernel
theorem dX9_isJust_8 : decode cX9_isJust 8 = .ok (.iconst 0, 1) := by decide +kernel
theorem dX9_isJust_9 : decode cX9_isJust 9 = .ok (.ireturn, 1) := by decide +kernel
theorem dX9_isJust_10 : decode cX9_isJust 10 = .ok (.iconst 0, 1) := by decide +kernel
theorem dX9_isJust_11 : decode cX9_isJust 11 = .ok (.istore_n 2, 1) := by decide +kernel
theorem dX9_isJust_12 : decode cX9_isJust 12 = .ok (.iload_n 2, 1) := by decide +kernel
theorem dX9_isJust_13 : decode cX9_isJust 13 = .ok (.aload_n 0, 1) := by decide +kernel
theorem dX9_isJust_14 : decode cX9_isJust 14 = .ok (.getfield 320, 3) := by decide +kernel
theorem dX9_isJust_17 : decode cX9_isJust 17 = .ok (.if_icmp .ge 34, 3) := by decide +kernel
theorem dX9_isJust_20 : decode cX9_isJust 20 = .ok (.iload_n 1, 1) := by decide +kernel
theorem dX9_isJust_21 : decode cX9_isJust 21 = .ok (.iload_n 2, 1) := by decide +kernel
theorem dX9_isJust_22 : decode cX9_isJust 22 = .ok (.ishr, 1) := by decide +kernel
theorem dX9_isJust_23 : decode cX9_isJust 23 = .ok (.iconst 1, 1) := by decide +kernel
theorem dX9_isJust_24 : decode cX9_isJust 24 = .ok (.iand, 1) := by decide +kernel
theorem dX9_isJust_25 : decode cX9_isJust 25 = .ok (.iconst 1, 1) := by decide +kernel
theorem dX9_isJust_26 : decode cX9_isJust 26 = .ok (.if_icmp .ne 19, 3) := by decide +kernel
theorem dX9_isJust_29 : decode cX9_isJust 29 = .ok (.aload_n 0, 1) := by decide +kernel
theorem dX9_isJust_30 : decode cX9_isJust 30 = .ok (.iload_n 1, 1) := by decide +kernel
theorem dX9_isJust_31 : decode cX9_isJust 31 = .ok (.iconst 1, 1) := by decide +kernel
theorem dX9_isJust_32 : decode cX9_isJust 32 = .ok (.iload_n 2, 1) := by decide +kernel
theorem dX9_isJust_33 : decode cX9_isJust 33 = .ok (.ishl, 1) := by decide +kernel
theorem dX9_isJust_34 : decode cX9_isJust 34 = .ok (.iconst (-1), 1) := by decide +kernel
theorem dX9_isJust_35 : decode cX9_isJust 35 = .ok (.ixor, 1) := by decide +kernel
theorem dX9_isJust_36 : decode cX9_isJust 36 = .ok (.iand, 1) := by decide +kernel
theorem dX9_isJust_37 : decode cX9_isJust 37 = .ok (.invokevirtual 329, 3) := by decide +kernel
theorem dX9_isJust_40 : decode cX9_isJust 40 = .ok (.ifCond .eq 5, 3) := by decide +kernel
theorem dX9_isJust_43 : decode cX9_isJust 43 = .ok (.iconst 0, 1) := by decide +kernel
theorem dX9_isJust_44 : decode cX9_isJust 44 = .ok (.ireturn, 1) := by decide +kernel
theorem dX9_isJust_45 : decode cX9_isJust 45 = .ok (.iinc 2 1, 3) := by decide +kernel
theorem dX9_isJust_48 : decode cX9_isJust 48 = .ok (.goto (-36), 3) := by decide +kernel
theorem dX9_isJust_51 : decode cX9_isJust 51 = .ok (.iconst 1, 1) := by decide +kernel
theorem dX9_isJust_52 : decode cX9_isJust 52 = .ok (.ireturn, 1) := by decide +kernel
theorem dX9_just_0 : decode cX9_just 0 = .ok (.aload_n 0, 1) := by decide +kernel
theorem dX9_just_1 : decode cX9_just 1 = .ok (.aload_n 0, 1) := by decide +kernel
theorem dX9_just_2 : decode cX9_just 2 = .ok (.invokevirtual 187, 3) := by decide +kernel
theorem dX9_just_5 : decode cX9_just 5 = .ok (.bipush 12, 2) := by decide +kernel
theorem dX9_just_7 : decode cX9_just 7 = .ok (.if_icmp .le 7, 3) := by decide +kernel
theorem dX9_just_10 : decode cX9_just 10 = .ok (.iconst 1, 1) := by decide +kernel
theorem dX9_just_11 : decode cX9_just 11 = .ok (.goto 4, 3) := by decide +kernel
theorem dX9_just_14 : decode cX9_just 14 = .ok (.iconst 0, 1) := by decide +kernel
theorem dX9_just_15 : decode cX9_just 15 = .ok (.putfield 103, 3) := by decide +kernel
theorem dX9_just_18 : decode cX9_just 18 = .ok (.aload_n 0, 1) := by decide +kernel
theorem dX9_just_19 : decode cX9_just 19 = .ok (.getfield 103, 3) := by decide +kernel
theorem dX9_just_22 : decode cX9_just 22 = .ok (.ifCond .le 5, 3) := by decide +kernel
theorem dX9_just_25 : decode cX9_just 25 = .ok (.iconst 0, 1) := by decide +kernel
theorem dX9_just_26 : decode cX9_just 26 = .ok (.ireturn, 1) := by decide +kernel
theorem dX9_just_27 : decode cX9_just 27 = .ok (.aload_n 0, 1) := by decide +kernel
theorem dX9_just_28 : decode cX9_just 28 = .ok (.invokevirtual 323, 3) := by decide +kernel
theorem dX9_just_31 : decode cX9_just 31 = .ok (.iconst 0, 1) := by decide +kernel
theorem dX9_just_32 : decode cX9_just 32 = .ok (.istore_n 2, 1) := by decide +kernel
theorem dX9_just_33 : decode cX9_just 33 = .ok (.iconst 0, 1) := by decide +kernel
theorem dX9_just_34 : decode cX9_just 34 = .ok (.istore_n 3, 1) := by decide +kernel
theorem dX9_just_35 : decode cX9_just 35 = .ok (.iload_n 3, 1) := by decide +kernel
theorem dX9_just_36 : decode cX9_just 36 = .ok (.iconst 1, 1) := by decide +kernel
theorem dX9_just_37 : decode cX9_just 37 = .ok (.aload_n 0, 1) := by decide +kernel
theorem dX9_just_38 : decode cX9_just 38 = .ok (.getfield 320, 3) := by decide +kernel
theorem dX9_just_41 : decode cX9_just 41 = .ok (.ishl, 1) := by decide +kernel
theorem dX9_just_42 : decode cX9_just 42 = .ok (.if_icmp .ge 30, 3) := by decide +kernel
theorem dX9_just_45 : decode cX9_just 45 = .ok (.aload_n 0, 1) := by decide +kernel
theorem dX9_just_46 : decode cX9_just 46 = .ok (.iload_n 3, 1) := by decide +kernel
theorem dX9_just_47 : decode cX9_just 47 = .ok (.invokevirtual 332, 3) := by decide +kernel
theorem dX9_just_50 : decode cX9_just 50 = .ok (.ifCond .ne 6, 3) := by decide +kernel
theorem dX9_just_53 : decode cX9_just 53 = .ok (.goto 13, 3) := by decide +kernel
theorem dX9_just_56 : decode cX9_just 56 = .ok (.iload_n 2, 1) := by decide +kernel
theorem dX9_just_57 : decode cX9_just 57 = .ok (.iload_n 1, 1) := by decide +kernel
theorem dX9_just_58 : decode cX9_just 58 = .ok (.if_icmp .ne 5, 3) := by decide +kernel
theorem dX9_just_61 : decode cX9_just 61 = .ok (.iload_n 3, 1) := by decide +kernel
theorem dX9_just_62 : decode cX9_just 62 = .ok (.ireturn, 1) := by decide +kernel
theorem dX9_just_63 : decode cX9_just 63 = .ok (.iinc 2 1, 3) := by decide +kernel
theorem dX9_just_66 : decode cX9_just 66 = .ok (.iinc 3 1, 3) := by decide +kernel
theorem dX9_just_69 : decode cX9_just 69 = .ok (.goto (-34), 3) := by decide +kernel
theorem dX9_just_72 : decode cX9_just 72 = .ok (.iload_n 1, 1) := by decide +kernel
theorem dX9_just_73 : decode cX9_just 73 = .ok (.iconst (-1), 1) := by decide +kernel
theorem dX9_just_74 : decode cX9_just 74 = .ok (.if_icmp .ne 7, 3) := by decide +kernel
theorem dX9_just_77 : decode cX9_just 77 = .ok (.iload_n 2, 1) := by decide +kernel
theorem dX9_just_78 : decode cX9_just 78 = .ok (.goto 4, 3) := by decide +kernel
theorem dX9_just_81 : decode cX9_just 81 = .ok (.iconst (-1), 1) := by decide +kernel
theorem dX9_just_82 : decode cX9_just 82 = .ok (.ireturn, 1) := by decide +kernel
theorem dX9_oneByOne_0 : decode cX9_oneByOne 0 = .ok (.aload_n 0, 1) := by decide +kernel
theorem dX9_oneByOne_1 : decode cX9_oneByOne 1 = .ok (.iconst 0, 1) := by decide +kernel
theorem dX9_oneByOne_2 : decode cX9_oneByOne 2 = .ok (.putfield 103, 3) := by decide +kernel
theorem dX9_oneByOne_5 : decode cX9_oneByOne 5 = .ok (.iconst 0, 1) := by decide +kernel
theorem dX9_oneByOne_6 : decode cX9_oneByOne 6 = .ok (.istore_n 3, 1) := by decide +kernel
theorem dX9_oneByOne_7 : decode cX9_oneByOne 7 = .ok (.iconst 0, 1) := by decide +kernel
theorem dX9_oneByOne_8 : decode cX9_oneByOne 8 = .ok (.istore 4, 2) := by decide +kernel
theorem dX9_oneByOne_10 : decode cX9_oneByOne 10 = .ok (.iload 4, 2) := by decide +kernel
theorem dX9_oneByOne_12 : decode cX9_oneByOne 12 = .ok (.bipush 50, 2) := by decide +kernel
theorem dX9_oneByOne_14 : decode cX9_oneByOne 14 = .ok (.if_icmp .ge 66, 3) := by decide +kernel
theorem dX9_oneByOne_17 : decode cX9_oneByOne 17 = .ok (.aload_n 0, 1) := by decide +kernel
theorem dX9_oneByOne_18 : decode cX9_oneByOne 18 = .ok (.iload 4, 2) := by decide +kernel
theorem dX9_oneByOne_20 : decode cX9_oneByOne 20 = .ok (.invokevirtual 208, 3) := by decide +kernel
theorem dX9_oneByOne_23 : decode cX9_oneByOne 23 = .ok (.ifCond .ne 6, 3) := by decide +kernel
theorem dX9_oneByOne_26 : decode cX9_oneByOne 26 = .ok (.goto 48, 3) := by decide +kernel
theorem dX9_oneByOne_29 : decode cX9_oneByOne 29 = .ok (.aload_n 0, 1) := by decide +kernel
theorem dX9_oneByOne_30 : decode cX9_oneByOne 30 = .ok (.getfield 72, 3) := by decide +kernel
theorem dX9_oneByOne_33 : decode cX9_oneByOne 33 = .ok (.iload 4, 2) := by decide +kernel
theorem dX9_oneByOne_35 : decode cX9_oneByOne 35 = .ok (.aload_n 0, 1) := by decide +kernel
theorem dX9_oneByOne_36 : decode cX9_oneByOne 36 = .ok (.iload 4, 2) := by decide +kernel
theorem dX9_oneByOne_38 : decode cX9_oneByOne 38 = .ok (.invokevirtual 215, 3) := by decide +kernel
theorem dX9_oneByOne_41 : decode cX9_oneByOne 41 = .ok (.iconst 1, 1) := by decide +kernel
theorem dX9_oneByOne_42 : decode cX9_oneByOne 42 = .ok (.if_icmp .ne 7, 3) := by decide +kernel
theorem dX9_oneByOne_45 : decode cX9_oneByOne 45 = .ok (.iconst 1, 1) := by decide +kernel
theorem dX9_oneByOne_46 : decode cX9_oneByOne 46 = .ok (.goto 4, 3) := by decide +kernel
theorem dX9_oneByOne_49 : decode cX9_oneByOne 49 = .ok (.iconst 0, 1) := by decide +kernel
theorem dX9_oneByOne_50 : decode cX9_oneByOne 50 = .ok (.bastore, 1) := by decide +kernel
theorem dX9_oneByOne_51 : decode cX9_oneByOne 51 = .ok (.aload_n 0, 1) := by decide +kernel
theorem dX9_oneByOne_52 : decode cX9_oneByOne 52 = .ok (.iload 4, 2) := by decide +kernel
theorem dX9_oneByOne_54 : decode cX9_oneByOne 54 = .ok (.invokevirtual 215, 3) := by decide +kernel
theorem dX9_oneByOne_57 : decode cX9_oneByOne 57 = .ok (.ifCond .eq 6, 3) := by decide +kernel
theorem dX9_oneByOne_60 : decode cX9_oneByOne 60 = .ok (.goto 14, 3) := by decide +kernel
theorem dX9_oneByOne_63 : decode cX9_oneByOne 63 = .ok (.aload_n 0, 1) := by decide +kernel
theorem dX9_oneByOne_64 : decode cX9_oneByOne 64 = .ok (.getfield 90, 3) := by decide +kernel
theorem dX9_oneByOne_67 : decode cX9_oneByOne 67 = .ok (.iload_n 3, 1) := by decide +kernel
theorem dX9_oneByOne_68 : decode cX9_oneByOne 68 = .ok (.iload 4, 2) := by decide +kernel
theorem dX9_oneByOne_70 : decode cX9_oneByOne 70 = .ok (.iastore, 1) := by decide +kernel
theorem dX9_oneByOne_71 : decode cX9_oneByOne 71 = .ok (.iinc 3 1, 3) := by decide +kernel
theorem dX9_oneByOne_74 : decode cX9_oneByOne 74 = .ok (.iinc 4 1, 3) := by decide +kernel
theorem dX9_oneByOne_77 : decode cX9_oneByOne 77 = .ok (.goto (-67), 3) := by decide +kernel
theorem dX9_oneByOne_80 : decode cX9_oneByOne 80 = .ok (.aload_n 0, 1) := by decide +kernel
theorem dX9_oneByOne_81 : decode cX9_oneByOne 81 = .ok (.iload_n 1, 1) := by decide +kernel
theorem dX9_oneByOne_82 : decode cX9_oneByOne 82 = .ok (.putfield 309, 3) := by decide +kernel
theorem dX9_oneByOne_85 : decode cX9_oneByOne 85 = .ok (.iload_n 3, 1) := by decide +kernel
theorem dX9_oneByOne_86 : decode cX9_oneByOne 86 = .ok (.istore 4, 2) := by decide +kernel
theorem dX9_oneByOne_88 : decode cX9_oneByOne 88 = .ok (.iload 4, 2) := by decide +kernel
theorem dX9_oneByOne_90 : decode cX9_oneByOne 90 = .ok (.iconst 2, 1) := by decide +kernel
theorem dX9_oneByOne_91 : decode cX9_oneByOne 91 = .ok (.if_icmp .lt 53, 3) := by decide +kernel
theorem dX9_oneByOne_94 : decode cX9_oneByOne 94 = .ok (.aload_n 0, 1) := by decide +kernel
theorem dX9_oneByOne_95 : decode cX9_oneByOne 95 = .ok (.iload 4, 2) := by decide +kernel
theorem dX9_oneByOne_97 : decode cX9_oneByOne 97 = .ok (.invokevirtual 313, 3) := by decide +kernel
theorem dX9_oneByOne_100 : decode cX9_oneByOne 100 = .ok (.istore 5, 2) := by decide +kernel
theorem dX9_oneByOne_102 : decode cX9_oneByOne 102 = .ok (.aload_n 0, 1) := by decide +kernel
theorem dX9_oneByOne_103 : decode cX9_oneByOne 103 = .ok (.getfield 90, 3) := by decide +kernel
theorem dX9_oneByOne_106 : decode cX9_oneByOne 106 = .ok (.iload 4, 2) := by decide +kernel
theorem dX9_oneByOne_108 : decode cX9_oneByOne 108 = .ok (.iconst 1, 1) := by decide +kernel
theorem dX9_oneByOne_109 : decode cX9_oneByOne 109 = .ok (.isub, 1) := by decide +kernel
theorem dX9_oneByOne_110 : decode cX9_oneByOne 110 = .ok (.iaload, 1) := by decide +kernel
theorem dX9_oneByOne_111 : decode cX9_oneByOne 111 = .ok (.istore 6, 2) := by decide +kernel
theorem dX9_oneByOne_113 : decode cX9_oneByOne 113 = .ok (.aload_n 0, 1) := by decide +kernel
theorem dX9_oneByOne_114 : decode cX9_oneByOne 114 = .ok (.getfield 90, 3) := by decide +kernel
theorem dX9_oneByOne_117 : decode cX9_oneByOne 117 = .ok (.iload 4, 2) := by decide +kernel
theorem dX9_oneByOne_119 : decode cX9_oneByOne 119 = .ok (.iconst 1, 1) := by decide +kernel
theorem dX9_oneByOne_120 : decode cX9_oneByOne 120 = .ok (.isub, 1) := by decide +kernel
theorem dX9_oneByOne_121 : decode cX9_oneByOne 121 = .ok (.aload_n 0, 1) := by decide +kernel
theorem dX9_oneByOne_122 : decode cX9_oneByOne 122 = .ok (.getfield 90, 3) := by decide +kernel
theorem dX9_oneByOne_125 : decode cX9_oneByOne 125 = .ok (.iload 5, 2) := by decide +kernel
theorem dX9_oneByOne_127 : decode cX9_oneByOne 127 = .ok (.iaload, 1) := by decide +kernel
theorem dX9_oneByOne_128 : decode cX9_oneByOne 128 = .ok (.iastore, 1) := by decide +kernel
theorem dX9_oneByOne_129 : decode cX9_oneByOne 129 = .ok (.aload_n 0, 1) := by decide +kernel
theorem dX9_oneByOne_130 : decode cX9_oneByOne 130 = .ok (.getfield 90, 3) := by decide +kernel
theorem dX9_oneByOne_133 : decode cX9_oneByOne 133 = .ok (.iload 5, 2) := by decide +kernel
theorem dX9_oneByOne_135 : decode cX9_oneByOne 135 = .ok (.iload 6, 2) := by decide +kernel
theorem dX9_oneByOne_137 : decode cX9_oneByOne 137 = .ok (.iastore, 1) := by decide +kernel
theorem dX9_oneByOne_138 : decode cX9_oneByOne 138 = .ok (.iinc 4 (-1), 3) := by decide +kernel
theorem dX9_oneByOne_141 : decode cX9_oneByOne 141 = .ok (.goto (-53), 3) := by decide +kernel
theorem dX9_oneByOne_144 : decode cX9_oneByOne 144 = .ok (.iconst 0, 1) := by decide +kernel
theorem dX9_oneByOne_145 : decode cX9_oneByOne 145 = .ok (.istore 4, 2) := by decide +kernel
theorem dX9_oneByOne_147 : decode cX9_oneByOne 147 = .ok (.aload_n 0, 1) := by decide +kernel
theorem dX9_oneByOne_148 : decode cX9_oneByOne 148 = .ok (.invokevirtual 316, 3) := by decide +kernel
theorem dX9_oneByOne_151 : decode cX9_oneByOne 151 = .ok (.ifCond .ne 30, 3) := by decide +kernel
theorem dX9_oneByOne_154 : decode cX9_oneByOne 154 = .ok (.iload 4, 2) := by decide +kernel
theorem dX9_oneByOne_156 : decode cX9_oneByOne 156 = .ok (.iload_n 3, 1) := by decide +kernel
theorem dX9_oneByOne_157 : decode cX9_oneByOne 157 = .ok (.if_icmp .ne 5, 3) := by decide +kernel
theorem dX9_oneByOne_160 : decode cX9_oneByOne 160 = .ok (.iconst (-1), 1) := by decide +kernel
theorem dX9_oneByOne_161 : decode cX9_oneByOne 161 = .ok (.ireturn, 1) := by decide +kernel
theorem dX9_oneByOne_162 : decode cX9_oneByOne 162 = .ok (.aload_n 0, 1) := by decide +kernel
theorem dX9_oneByOne_163 : decode cX9_oneByOne 163 = .ok (.getfield 72, 3) := by decide +kernel
theorem dX9_oneByOne_166 : decode cX9_oneByOne 166 = .ok (.aload_n 0, 1) := by decide +kernel
theorem dX9_oneByOne_167 : decode cX9_oneByOne 167 = .ok (.getfield 90, 3) := by decide +kernel
theorem dX9_oneByOne_170 : decode cX9_oneByOne 170 = .ok (.iload 4, 2) := by decide +kernel
theorem dX9_oneByOne_172 : decode cX9_oneByOne 172 = .ok (.iaload, 1) := by decide +kernel
theorem dX9_oneByOne_173 : decode cX9_oneByOne 173 = .ok (.iconst 1, 1) := by decide +kernel
theorem dX9_oneByOne_174 : decode cX9_oneByOne 174 = .ok (.bastore, 1) := by decide +kernel
theorem dX9_oneByOne_175 : decode cX9_oneByOne 175 = .ok (.iinc 4 1, 3) := by decide +kernel
theorem dX9_oneByOne_178 : decode cX9_oneByOne 178 = .ok (.goto (-31), 3) := by decide +kernel
theorem dX9_oneByOne_181 : decode cX9_oneByOne 181 = .ok (.iload_n 2, 1) := by decide +kernel
theorem dX9_oneByOne_182 : decode cX9_oneByOne 182 = .ok (.ifCond .ne 8, 3) := by decide +kernel
theorem dX9_oneByOne_185 : decode cX9_oneByOne 185 = .ok (.iload 4, 2) := by decide +kernel
theorem dX9_oneByOne_187 : decode cX9_oneByOne 187 = .ok (.goto 21, 3) := by decide +kernel
theorem dX9_oneByOne_190 : decode cX9_oneByOne 190 = .ok (.iload 4, 2) := by decide +kernel
theorem dX9_oneByOne_192 : decode cX9_oneByOne 192 = .ok (.ifCond .ne 7, 3) := by decide +kernel
theorem dX9_oneByOne_195 : decode cX9_oneByOne 195 = .ok (.iconst (-1), 1) := by decide +kernel
theorem dX9_oneByOne_196 : decode cX9_oneByOne 196 = .ok (.goto 12, 3) := by decide +kernel
theorem dX9_oneByOne_199 : decode cX9_oneByOne 199 = .ok (.aload_n 0, 1) := by decide +kernel
theorem dX9_oneByOne_200 : decode cX9_oneByOne 200 = .ok (.getfield 90, 3) := by decide +kernel
theorem dX9_oneByOne_203 : decode cX9_oneByOne 203 = .ok (.iload 4, 2) := by decide +kernel
theorem dX9_oneByOne_205 : decode cX9_oneByOne 205 = .ok (.iconst 1, 1) := by decide +kernel
theorem dX9_oneByOne_206 : decode cX9_oneByOne 206 = .ok (.isub, 1) := by decide +kernel
theorem dX9_oneByOne_207 : decode cX9_oneByOne 207 = .ok (.iaload, 1) := by decide +kernel
theorem dX9_oneByOne_208 : decode cX9_oneByOne 208 = .ok (.ireturn, 1) := by decide +kernel
theorem dX9_keep_0 : decode cX9_keep 0 = .ok (.aload_n 0, 1) := by decide +kernel
theorem dX9_keep_1 : decode cX9_keep 1 = .ok (.iconst 0, 1) := by decide +kernel
theorem dX9_keep_2 : decode cX9_keep 2 = .ok (.putfield 103, 3) := by decide +kernel
theorem dX9_keep_5 : decode cX9_keep 5 = .ok (.aload_n 0, 1) := by decide +kernel
theorem dX9_keep_6 : decode cX9_keep 6 = .ok (.iconst 1, 1) := by decide +kernel
theorem dX9_keep_7 : decode cX9_keep 7 = .ok (.putfield 335, 3) := by decide +kernel
theorem dX9_keep_10 : decode cX9_keep 10 = .ok (.aload_n 0, 1) := by decide +kernel
theorem dX9_keep_11 : decode cX9_keep 11 = .ok (.aload_n 0, 1) := by decide +kernel
theorem dX9_keep_12 : decode cX9_keep 12 = .ok (.iconst 1, 1) := by decide +kernel
theorem dX9_keep_13 : decode cX9_keep 13 = .ok (.iconst 2, 1) := by decide +kernel
theorem dX9_keep_14 : decode cX9_keep 14 = .ok (.invokevirtual 294, 3) := by decide +kernel
theorem dX9_keep_17 : decode cX9_keep 17 = .ok (.putfield 338, 3) := by decide +kernel
theorem dX9_keep_20 : decode cX9_keep 20 = .ok (.aload_n 0, 1) := by decide +kernel
theorem dX9_keep_21 : decode cX9_keep 21 = .ok (.aload_n 0, 1) := by decide +kernel
theorem dX9_keep_22 : decode cX9_keep 22 = .ok (.invokevirtual 187, 3) := by decide +kernel
theorem dX9_keep_25 : decode cX9_keep 25 = .ok (.putfield 341, 3) := by decide +kernel
theorem dX9_keep_28 : decode cX9_keep 28 = .ok (.iconst 0, 1) := by decide +kernel
theorem dX9_keep_29 : decode cX9_keep 29 = .ok (.istore_n 1, 1) := by decide +kernel
theorem dX9_keep_30 : decode cX9_keep 30 = .ok (.iload_n 1, 1) := by decide +kernel
theorem dX9_keep_31 : decode cX9_keep 31 = .ok (.bipush 25, 2) := by decide +kernel
theorem dX9_keep_33 : decode cX9_keep 33 = .ok (.if_icmp .ge 20, 3) := by decide +kernel
theorem dX9_keep_36 : decode cX9_keep 36 = .ok (.aload_n 0, 1) := by decide +kernel
theorem dX9_keep_37 : decode cX9_keep 37 = .ok (.getfield 93, 3) := by decide +kernel
theorem dX9_keep_40 : decode cX9_keep 40 = .ok (.iload_n 1, 1) := by decide +kernel
theorem dX9_keep_41 : decode cX9_keep 41 = .ok (.aload_n 0, 1) := by decide +kernel
theorem dX9_keep_42 : decode cX9_keep 42 = .ok (.iload_n 1, 1) := by decide +kernel
theorem dX9_keep_43 : decode cX9_keep 43 = .ok (.invokevirtual 254, 3) := by decide +kernel
theorem dX9_keep_46 : decode cX9_keep 46 = .ok (.lastore, 1) := by decide +kernel
theorem dX9_keep_47 : decode cX9_keep 47 = .ok (.iinc 1 1, 3) := by decide +kernel
theorem dX9_keep_50 : decode cX9_keep 50 = .ok (.goto (-20), 3) := by decide +kernel
theorem dX9_keep_53 : decode cX9_keep 53 = .ok (.aload_n 0, 1) := by decide +kernel
theorem dX9_keep_54 : decode cX9_keep 54 = .ok (.getfield 338, 3) := by decide +kernel
theorem dX9_keep_57 : decode cX9_keep 57 = .ok (.ireturn, 1) := by decide +kernel
theorem dX9_compare_0 : decode cX9_compare 0 = .ok (.aload_n 0, 1) := by decide +kernel
theorem dX9_compare_1 : decode cX9_compare 1 = .ok (.aload_n 0, 1) := by decide +kernel
theorem dX9_compare_2 : decode cX9_compare 2 = .ok (.getfield 335, 3) := by decide +kernel
theorem dX9_compare_5 : decode cX9_compare 5 = .ok (.ifCond .eq 7, 3) := by decide +kernel
theorem dX9_compare_8 : decode cX9_compare 8 = .ok (.iconst 0, 1) := by decide +kernel
theorem dX9_compare_9 : decode cX9_compare 9 = .ok (.goto 4, 3) := by decide +kernel
theorem dX9_compare_12 : decode cX9_compare 12 = .ok (.iconst 1, 1) := by decide +kernel
theorem dX9_compare_13 : decode cX9_compare 13 = .ok (.putfield 103, 3) := by decide +kernel
theorem dX9_compare_16 : decode cX9_compare 16 = .ok (.aload_n 0, 1) := by decide +kernel
theorem dX9_compare_17 : decode cX9_compare 17 = .ok (.getfield 103, 3) := by decide +kernel
theorem dX9_compare_20 : decode cX9_compare 20 = .ok (.ifCond .le 5, 3) := by decide +kernel
theorem dX9_compare_23 : decode cX9_compare 23 = .ok (.iconst 0, 1) := by decide +kernel
theorem dX9_compare_24 : decode cX9_compare 24 = .ok (.ireturn, 1) := by decide +kernel
theorem dX9_compare_25 : decode cX9_compare 25 = .ok (.aload_n 0, 1) := by decide +kernel
theorem dX9_compare_26 : decode cX9_compare 26 = .ok (.iconst 1, 1) := by decide +kernel
theorem dX9_compare_27 : decode cX9_compare 27 = .ok (.iconst 2, 1) := by decide +kernel
theorem dX9_compare_28 : decode cX9_compare 28 = .ok (.invokevirtual 294, 3) := by decide +kernel
theorem dX9_compare_31 : decode cX9_compare 31 = .ok (.istore_n 1, 1) := by decide +kernel
theorem dX9_compare_32 : decode cX9_compare 32 = .ok (.aload_n 0, 1) := by decide +kernel
theorem dX9_compare_33 : decode cX9_compare 33 = .ok (.invokevirtual 187, 3) := by decide +kernel
theorem dX9_compare_36 : decode cX9_compare 36 = .ok (.istore_n 2, 1) := by decide +kernel
theorem dX9_compare_37 : decode cX9_compare 37 = .ok (.iload_n 2, 1) := by decide +kernel
theorem dX9_compare_38 : decode cX9_compare 38 = .ok (.ifCond .ne 7, 3) := by decide +kernel
theorem dX9_compare_41 : decode cX9_compare 41 = .ok (.iconst 0, 1) := by decide +kernel
theorem dX9_compare_42 : decode cX9_compare 42 = .ok (.goto 13, 3) := by decide +kernel
theorem dX9_compare_45 : decode cX9_compare 45 = .ok (.iload_n 1, 1) := by decide +kernel
theorem dX9_compare_46 : decode cX9_compare 46 = .ok (.iconst (-1), 1) := by decide +kernel
theorem dX9_compare_47 : decode cX9_compare 47 = .ok (.if_icmp .ne 7, 3) := by decide +kernel
theorem dX9_compare_50 : decode cX9_compare 50 = .ok (.iconst 2, 1) := by decide +kernel
theorem dX9_compare_51 : decode cX9_compare 51 = .ok (.goto 4, 3) := by decide +kernel
theorem dX9_compare_54 : decode cX9_compare 54 = .ok (.iload_n 1, 1) := by decide +kernel
theorem dX9_compare_55 : decode cX9_compare 55 = .ok (.istore_n 3, 1) := by decide +kernel
theorem dX9_compare_56 : decode cX9_compare 56 = .ok (.iload_n 2, 1) := by decide +kernel
theorem dX9_compare_57 : decode cX9_compare 57 = .ok (.ifCond .eq 8, 3) := by decide +kernel
theorem dX9_compare_60 : decode cX9_compare 60 = .ok (.iload_n 1, 1) := by decide +kernel
theorem dX9_compare_61 : decode cX9_compare 61 = .ok (.iconst (-1), 1) := by decide +kernel
theorem dX9_compare_62 : decode cX9_compare 62 = .ok (.if_icmp .ne 7, 3) := by decide +kernel
theorem dX9_compare_65 : decode cX9_compare 65 = .ok (.iconst 1, 1) := by decide +kernel
theorem dX9_compare_66 : decode cX9_compare 66 = .ok (.goto 4, 3) := by decide +kernel
theorem dX9_compare_69 : decode cX9_compare 69 = .ok (.iload_n 2, 1) := by decide +kernel
theorem dX9_compare_70 : decode cX9_compare 70 = .ok (.istore 4, 2) := by decide +kernel
theorem dX9_compare_72 : decode cX9_compare 72 = .ok (.aload_n 0, 1) := by decide +kernel
theorem dX9_compare_73 : decode cX9_compare 73 = .ok (.getfield 341, 3) := by decide +kernel
theorem dX9_compare_76 : decode cX9_compare 76 = .ok (.ifCond .ne 7, 3) := by decide +kernel
theorem dX9_compare_79 : decode cX9_compare 79 = .ok (.iconst 0, 1) := by decide +kernel
theorem dX9_compare_80 : decode cX9_compare 80 = .ok (.goto 19, 3) := by decide +kernel
theorem dX9_compare_83 : decode cX9_compare 83 = .ok (.aload_n 0, 1) := by decide +kernel
theorem dX9_compare_84 : decode cX9_compare 84 = .ok (.getfield 338, 3) := by decide +kernel
theorem dX9_compare_87 : decode cX9_compare 87 = .ok (.iconst (-1), 1) := by decide +kernel
theorem dX9_compare_88 : decode cX9_compare 88 = .ok (.if_icmp .ne 7, 3) := by decide +kernel
theorem dX9_compare_91 : decode cX9_compare 91 = .ok (.iconst 2, 1) := by decide +kernel
theorem dX9_compare_92 : decode cX9_compare 92 = .ok (.goto 7, 3) := by decide +kernel
theorem dX9_compare_95 : decode cX9_compare 95 = .ok (.aload_n 0, 1) := by decide +kernel
theorem dX9_compare_96 : decode cX9_compare 96 = .ok (.getfield 338, 3) := by decide +kernel
theorem dX9_compare_99 : decode cX9_compare 99 = .ok (.istore 5, 2) := by decide +kernel
theorem dX9_compare_101 : decode cX9_compare 101 = .ok (.aload_n 0, 1) := by decide +kernel
theorem dX9_compare_102 : decode cX9_compare 102 = .ok (.getfield 341, 3) := by decide +kernel
theorem dX9_compare_105 : decode cX9_compare 105 = .ok (.ifCond .eq 11, 3) := by decide +kernel
theorem dX9_compare_108 : decode cX9_compare 108 = .ok (.aload_n 0, 1) := by decide +kernel
theorem dX9_compare_109 : decode cX9_compare 109 = .ok (.getfield 338, 3) := by decide +kernel
theorem dX9_compare_112 : decode cX9_compare 112 = .ok (.iconst (-1), 1) := by decide +kernel
theorem dX9_compare_113 : decode cX9_compare 113 = .ok (.if_icmp .ne 7, 3) := by decide +kernel
theorem dX9_compare_116 : decode cX9_compare 116 = .ok (.iconst 1, 1) := by decide +kernel
theorem dX9_compare_117 : decode cX9_compare 117 = .ok (.goto 7, 3) := by decide +kernel
theorem dX9_compare_120 : decode cX9_compare 120 = .ok (.aload_n 0, 1) := by decide +kernel
theorem dX9_compare_121 : decode cX9_compare 121 = .ok (.getfield 341, 3) := by decide +kernel
theorem dX9_compare_124 : decode cX9_compare 124 = .ok (.istore 6, 2) := by decide +kernel
theorem dX9_compare_126 : decode cX9_compare 126 = .ok (.iload_n 3, 1) := by decide +kernel
theorem dX9_compare_127 : decode cX9_compare 127 = .ok (.iload 6, 2) := by decide +kernel
theorem dX9_compare_129 : decode cX9_compare 129 = .ok (.imul, 1) := by decide +kernel
theorem dX9_compare_130 : decode cX9_compare 130 = .ok (.iload 5, 2) := by decide +kernel
theorem dX9_compare_132 : decode cX9_compare 132 = .ok (.iload 4, 2) := by decide +kernel
theorem dX9_compare_134 : decode cX9_compare 134 = .ok (.imul, 1) := by decide +kernel
theorem dX9_compare_135 : decode cX9_compare 135 = .ok (.isub, 1) := by decide +kernel
theorem dX9_compare_136 : decode cX9_compare 136 = .ok (.istore 7, 2) := by decide +kernel
theorem dX9_compare_138 : decode cX9_compare 138 = .ok (.iload 7, 2) := by decide +kernel
theorem dX9_compare_140 : decode cX9_compare 140 = .ok (.ifCond .ge 7, 3) := by decide +kernel
theorem dX9_compare_143 : decode cX9_compare 143 = .ok (.iconst (-1), 1) := by decide +kernel
theorem dX9_compare_144 : decode cX9_compare 144 = .ok (.goto 13, 3) := by decide +kernel
theorem dX9_compare_147 : decode cX9_compare 147 = .ok (.iload 7, 2) := by decide +kernel
theorem dX9_compare_149 : decode cX9_compare 149 = .ok (.ifCond .le 7, 3) := by decide +kernel
theorem dX9_compare_152 : decode cX9_compare 152 = .ok (.iconst 1, 1) := by decide +kernel
theorem dX9_compare_153 : decode cX9_compare 153 = .ok (.goto 4, 3) := by decide +kernel
theorem dX9_compare_156 : decode cX9_compare 156 = .ok (.iconst 0, 1) := by decide +kernel
theorem dX9_compare_157 : decode cX9_compare 157 = .ok (.ireturn, 1) := by decide +kernel
theorem dX9_beats_0 : decode cX9_beats 0 = .ok (.aload_n 0, 1) := by decide +kernel
theorem dX9_beats_1 : decode cX9_beats 1 = .ok (.aload_n 0, 1) := by decide +kernel
theorem dX9_beats_2 : decode cX9_beats 2 = .ok (.getfield 335, 3) := by decide +kernel
theorem dX9_beats_5 : decode cX9_beats 5 = .ok (.ifCond .ne 7, 3) := by decide +kernel
theorem dX9_beats_8 : decode cX9_beats 8 = .ok (.iconst 1, 1) := by decide +kernel
theorem dX9_beats_9 : decode cX9_beats 9 = .ok (.goto 19, 3) := by decide +kernel
theorem dX9_beats_12 : decode cX9_beats 12 = .ok (.aload_n 0, 1) := by decide +kernel
theorem dX9_beats_13 : decode cX9_beats 13 = .ok (.getfield 341, 3) := by decide +kernel
theorem dX9_beats_16 : decode cX9_beats 16 = .ok (.aload_n 0, 1) := by decide +kernel
theorem dX9_beats_17 : decode cX9_beats 17 = .ok (.invokevirtual 187, 3) := by decide +kernel
theorem dX9_beats_20 : decode cX9_beats 20 = .ok (.if_icmp .eq 7, 3) := by decide +kernel
theorem dX9_beats_23 : decode cX9_beats 23 = .ok (.iconst 2, 1) := by decide +kernel
theorem dX9_beats_24 : decode cX9_beats 24 = .ok (.goto 4, 3) := by decide +kernel
theorem dX9_beats_27 : decode cX9_beats 27 = .ok (.iconst 0, 1) := by decide +kernel
theorem dX9_beats_28 : decode cX9_beats 28 = .ok (.putfield 103, 3) := by decide +kernel
theorem dX9_beats_31 : decode cX9_beats 31 = .ok (.aload_n 0, 1) := by decide +kernel
theorem dX9_beats_32 : decode cX9_beats 32 = .ok (.getfield 103, 3) := by decide +kernel
theorem dX9_beats_35 : decode cX9_beats 35 = .ok (.ifCond .le 5, 3) := by decide +kernel
theorem dX9_beats_38 : decode cX9_beats 38 = .ok (.iconst 0, 1) := by decide +kernel
theorem dX9_beats_39 : decode cX9_beats 39 = .ok (.ireturn, 1) := by decide +kernel
theorem dX9_beats_40 : decode cX9_beats 40 = .ok (.iconst 0, 1) := by decide +kernel
theorem dX9_beats_41 : decode cX9_beats 41 = .ok (.istore_n 1, 1) := by decide +kernel
theorem dX9_beats_42 : decode cX9_beats 42 = .ok (.iconst 0, 1) := by decide +kernel
theorem dX9_beats_43 : decode cX9_beats 43 = .ok (.istore_n 2, 1) := by decide +kernel
theorem dX9_beats_44 : decode cX9_beats 44 = .ok (.iconst 0, 1) := by decide +kernel
theorem dX9_beats_45 : decode cX9_beats 45 = .ok (.istore_n 3, 1) := by decide +kernel
theorem dX9_beats_46 : decode cX9_beats 46 = .ok (.iload_n 3, 1) := by decide +kernel
theorem dX9_beats_47 : decode cX9_beats 47 = .ok (.aload_n 0, 1) := by decide +kernel
theorem dX9_beats_48 : decode cX9_beats 48 = .ok (.getfield 341, 3) := by decide +kernel
theorem dX9_beats_51 : decode cX9_beats 51 = .ok (.if_icmp .gt 59, 3) := by decide +kernel
theorem dX9_beats_54 : decode cX9_beats 54 = .ok (.iload_n 1, 1) := by decide +kernel
theorem dX9_beats_55 : decode cX9_beats 55 = .ok (.ifCond .ne 18, 3) := by decide +kernel
theorem dX9_beats_58 : decode cX9_beats 58 = .ok (.aload_n 0, 1) := by decide +kernel
theorem dX9_beats_59 : decode cX9_beats 59 = .ok (.iload_n 3, 1) := by decide +kernel
theorem dX9_beats_60 : decode cX9_beats 60 = .ok (.invokevirtual 254, 3) := by decide +kernel
theorem dX9_beats_63 : decode cX9_beats 63 = .ok (.aload_n 0, 1) := by decide +kernel
theorem dX9_beats_64 : decode cX9_beats 64 = .ok (.getfield 93, 3) := by decide +kernel
theorem dX9_beats_67 : decode cX9_beats 67 = .ok (.iload_n 3, 1) := by decide +kernel
theorem dX9_beats_68 : decode cX9_beats 68 = .ok (.laload, 1) := by decide +kernel
theorem dX9_beats_69 : decode cX9_beats 69 = .ok (.lcmp, 1) := by decide +kernel
theorem dX9_beats_70 : decode cX9_beats 70 = .ok (.ifCond .le 7, 3) := by decide +kernel
theorem dX9_beats_73 : decode cX9_beats 73 = .ok (.iconst 1, 1) := by decide +kernel
theorem dX9_beats_74 : decode cX9_beats 74 = .ok (.goto 4, 3) := by decide +kernel
theorem dX9_beats_77 : decode cX9_beats 77 = .ok (.iconst 0, 1) := by decide +kernel
theorem dX9_beats_78 : decode cX9_beats 78 = .ok (.istore_n 1, 1) := by decide +kernel
theorem dX9_beats_79 : decode cX9_beats 79 = .ok (.iload_n 2, 1) := by decide +kernel
theorem dX9_beats_80 : decode cX9_beats 80 = .ok (.ifCond .ne 18, 3) := by decide +kernel
theorem dX9_beats_83 : decode cX9_beats 83 = .ok (.aload_n 0, 1) := by decide +kernel
theorem dX9_beats_84 : decode cX9_beats 84 = .ok (.iload_n 3, 1) := by decide +kernel
theorem dX9_beats_85 : decode cX9_beats 85 = .ok (.invokevirtual 254, 3) := by decide +kernel
theorem dX9_beats_88 : decode cX9_beats 88 = .ok (.aload_n 0, 1) := by decide +kernel
theorem dX9_beats_89 : decode cX9_beats 89 = .ok (.getfield 93, 3) := by decide +kernel
theorem dX9_beats_92 : decode cX9_beats 92 = .ok (.iload_n 3, 1) := by decide +kernel
theorem dX9_beats_93 : decode cX9_beats 93 = .ok (.laload, 1) := by decide +kernel
theorem dX9_beats_94 : decode cX9_beats 94 = .ok (.lcmp, 1) := by decide +kernel
theorem dX9_beats_95 : decode cX9_beats 95 = .ok (.ifCond .ge 7, 3) := by decide +kernel
theorem dX9_beats_98 : decode cX9_beats 98 = .ok (.iconst 1, 1) := by decide +kernel
theorem dX9_beats_99 : decode cX9_beats 99 = .ok (.goto 4, 3) := by decide +kernel
theorem dX9_beats_102 : decode cX9_beats 102 = .ok (.iconst 0, 1) := by decide +kernel
theorem dX9_beats_103 : decode cX9_beats 103 = .ok (.istore_n 2, 1) := by decide +kernel
theorem dX9_beats_104 : decode cX9_beats 104 = .ok (.iinc 3 1, 3) := by decide +kernel
theorem dX9_beats_107 : decode cX9_beats 107 = .ok (.goto (-61), 3) := by decide +kernel
theorem dX9_beats_110 : decode cX9_beats 110 = .ok (.iload_n 1, 1) := by decide +kernel
theorem dX9_beats_111 : decode cX9_beats 111 = .ok (.ifCond .eq 15, 3) := by decide +kernel
theorem dX9_beats_114 : decode cX9_beats 114 = .ok (.iload_n 2, 1) := by decide +kernel
theorem dX9_beats_115 : decode cX9_beats 115 = .ok (.ifCond .eq 7, 3) := by decide +kernel
theorem dX9_beats_118 : decode cX9_beats 118 = .ok (.iconst 3, 1) := by decide +kernel
theorem dX9_beats_119 : decode cX9_beats 119 = .ok (.goto 16, 3) := by decide +kernel
theorem dX9_beats_122 : decode cX9_beats 122 = .ok (.iconst 1, 1) := by decide +kernel
theorem dX9_beats_123 : decode cX9_beats 123 = .ok (.goto 12, 3) := by decide +kernel
theorem dX9_beats_126 : decode cX9_beats 126 = .ok (.iload_n 2, 1) := by decide +kernel
theorem dX9_beats_127 : decode cX9_beats 127 = .ok (.ifCond .eq 7, 3) := by decide +kernel
theorem dX9_beats_130 : decode cX9_beats 130 = .ok (.iconst 2, 1) := by decide +kernel
theorem dX9_beats_131 : decode cX9_beats 131 = .ok (.goto 4, 3) := by decide +kernel
theorem dX9_beats_134 : decode cX9_beats 134 = .ok (.iconst 0, 1) := by decide +kernel
theorem dX9_beats_135 : decode cX9_beats 135 = .ok (.ireturn, 1) := by decide +kernel
theorem dX9_writes_0 : decode cX9_writes 0 = .ok (.aload_n 0, 1) := by decide +kernel
theorem dX9_writes_1 : decode cX9_writes 1 = .ok (.getfield 96, 3) := by decide +kernel
theorem dX9_writes_4 : decode cX9_writes 4 = .ok (.aload_n 0, 1) := by decide +kernel
theorem dX9_writes_5 : decode cX9_writes 5 = .ok (.getfield 344, 3) := by decide +kernel
theorem dX9_writes_8 : decode cX9_writes 8 = .ok (.iload_n 1, 1) := by decide +kernel
theorem dX9_writes_9 : decode cX9_writes 9 = .ok (.iastore, 1) := by decide +kernel
theorem dX9_writes_10 : decode cX9_writes 10 = .ok (.aload_n 0, 1) := by decide +kernel
theorem dX9_writes_11 : decode cX9_writes 11 = .ok (.dup, 1) := by decide +kernel
theorem dX9_writes_12 : decode cX9_writes 12 = .ok (.getfield 344, 3) := by decide +kernel
theorem dX9_writes_15 : decode cX9_writes 15 = .ok (.iconst 1, 1) := by decide +kernel
theorem dX9_writes_16 : decode cX9_writes 16 = .ok (.iadd, 1) := by decide +kernel
theorem dX9_writes_17 : decode cX9_writes 17 = .ok (.putfield 344, 3) := by decide +kernel
theorem dX9_writes_20 : decode cX9_writes 20 = .ok (.return_, 1) := by decide +kernel
theorem dX9_write_0 : decode cX9_write 0 = .ok (.aload_n 0, 1) := by decide +kernel
theorem dX9_write_1 : decode cX9_write 1 = .ok (.iconst 0, 1) := by decide +kernel
theorem dX9_write_2 : decode cX9_write 2 = .ok (.putfield 103, 3) := by decide +kernel
theorem dX9_write_5 : decode cX9_write 5 = .ok (.aload_n 0, 1) := by decide +kernel
theorem dX9_write_6 : decode cX9_write 6 = .ok (.iconst 0, 1) := by decide +kernel
theorem dX9_write_7 : decode cX9_write 7 = .ok (.putfield 344, 3) := by decide +kernel
theorem dX9_write_10 : decode cX9_write 10 = .ok (.iconst 0, 1) := by decide +kernel
theorem dX9_write_11 : decode cX9_write 11 = .ok (.istore_n 1, 1) := by decide +kernel
theorem dX9_write_12 : decode cX9_write 12 = .ok (.iload_n 1, 1) := by decide +kernel
theorem dX9_write_13 : decode cX9_write 13 = .ok (.aload_n 0, 1) := by decide +kernel
theorem dX9_write_14 : decode cX9_write 14 = .ok (.getfield 30, 3) := by decide +kernel
theorem dX9_write_17 : decode cX9_write 17 = .ok (.if_icmp .ge 193, 3) := by decide +kernel
theorem dX9_write_20 : decode cX9_write 20 = .ok (.iconst 0, 1) := by decide +kernel
theorem dX9_write_21 : decode cX9_write 21 = .ok (.istore_n 2, 1) := by decide +kernel
theorem dX9_write_22 : decode cX9_write 22 = .ok (.iload_n 2, 1) := by decide +kernel
theorem dX9_write_23 : decode cX9_write 23 = .ok (.aload_n 0, 1) := by decide +kernel
theorem dX9_write_24 : decode cX9_write 24 = .ok (.getfield 27, 3) := by decide +kernel
theorem dX9_write_27 : decode cX9_write 27 = .ok (.if_icmp .ge 85, 3) := by decide +kernel
theorem dX9_write_30 : decode cX9_write 30 = .ok (.aload_n 0, 1) := by decide +kernel
theorem dX9_write_31 : decode cX9_write 31 = .ok (.aload_n 0, 1) := by decide +kernel
theorem dX9_write_32 : decode cX9_write 32 = .ok (.getfield 36, 3) := by decide +kernel
theorem dX9_write_35 : decode cX9_write 35 = .ok (.iconst 5, 1) := by decide +kernel
theorem dX9_write_36 : decode cX9_write 36 = .ok (.iload_n 1, 1) := by decide +kernel
theorem dX9_write_37 : decode cX9_write 37 = .ok (.imul, 1) := by decide +kernel
theorem dX9_write_38 : decode cX9_write 38 = .ok (.iload_n 2, 1) := by decide +kernel
theorem dX9_write_39 : decode cX9_write 39 = .ok (.iadd, 1) := by decide +kernel
theorem dX9_write_40 : decode cX9_write 40 = .ok (.baload, 1) := by decide +kernel
theorem dX9_write_41 : decode cX9_write 41 = .ok (.ifCond .eq 8, 3) := by decide +kernel
theorem dX9_write_44 : decode cX9_write 44 = .ok (.bipush 35, 2) := by decide +kernel
theorem dX9_write_46 : decode cX9_write 46 = .ok (.goto 5, 3) := by decide +kernel
theorem dX9_write_49 : decode cX9_write 49 = .ok (.bipush 111, 2) := by decide +kernel
theorem dX9_write_51 : decode cX9_write 51 = .ok (.invokevirtual 347, 3) := by decide +kernel
theorem dX9_write_54 : decode cX9_write 54 = .ok (.iload_n 2, 1) := by decide +kernel
theorem dX9_write_55 : decode cX9_write 55 = .ok (.iconst 1, 1) := by decide +kernel
theorem dX9_write_56 : decode cX9_write 56 = .ok (.iadd, 1) := by decide +kernel
theorem dX9_write_57 : decode cX9_write 57 = .ok (.aload_n 0, 1) := by decide +kernel
theorem dX9_write_58 : decode cX9_write 58 = .ok (.getfield 27, 3) := by decide +kernel
theorem dX9_write_61 : decode cX9_write 61 = .ok (.if_icmp .ne 6, 3) := by decide +kernel
theorem dX9_write_64 : decode cX9_write 64 = .ok (.goto 42, 3) := by decide +kernel
theorem dX9_write_67 : decode cX9_write 67 = .ok (.aload_n 0, 1) := by decide +kernel
theorem dX9_write_68 : decode cX9_write 68 = .ok (.bipush 10, 2) := by decide +kernel
theorem dX9_write_70 : decode cX9_write 70 = .ok (.iload_n 1, 1) := by decide +kernel
theorem dX9_write_71 : decode cX9_write 71 = .ok (.imul, 1) := by decide +kernel
theorem dX9_write_72 : decode cX9_write 72 = .ok (.iconst 2, 1) := by decide +kernel
theorem dX9_write_73 : decode cX9_write 73 = .ok (.iload_n 2, 1) := by decide +kernel
theorem dX9_write_74 : decode cX9_write 74 = .ok (.imul, 1) := by decide +kernel
theorem dX9_write_75 : decode cX9_write 75 = .ok (.iadd, 1) := by decide +kernel
theorem dX9_write_76 : decode cX9_write 76 = .ok (.invokevirtual 215, 3) := by decide +kernel
theorem dX9_write_79 : decode cX9_write 79 = .ok (.istore_n 3, 1) := by decide +kernel
theorem dX9_write_80 : decode cX9_write 80 = .ok (.aload_n 0, 1) := by decide +kernel
theorem dX9_write_81 : decode cX9_write 81 = .ok (.iload_n 3, 1) := by decide +kernel
theorem dX9_write_82 : decode cX9_write 82 = .ok (.iconst 1, 1) := by decide +kernel
theorem dX9_write_83 : decode cX9_write 83 = .ok (.if_icmp .ne 8, 3) := by decide +kernel
theorem dX9_write_86 : decode cX9_write 86 = .ok (.bipush 45, 2) := by decide +kernel
theorem dX9_write_88 : decode cX9_write 88 = .ok (.goto 15, 3) := by decide +kernel
theorem dX9_write_91 : decode cX9_write 91 = .ok (.iload_n 3, 1) := by decide +kernel
theorem dX9_write_92 : decode cX9_write 92 = .ok (.iconst 2, 1) := by decide +kernel
theorem dX9_write_93 : decode cX9_write 93 = .ok (.if_icmp .ne 8, 3) := by decide +kernel
theorem dX9_write_96 : decode cX9_write 96 = .ok (.bipush 32, 2) := by decide +kernel
theorem dX9_write_98 : decode cX9_write 98 = .ok (.goto 5, 3) := by decide +kernel
theorem dX9_write_101 : decode cX9_write 101 = .ok (.bipush 46, 2) := by decide +kernel
theorem dX9_write_103 : decode cX9_write 103 = .ok (.invokevirtual 347, 3) := by decide +kernel
theorem dX9_write_106 : decode cX9_write 106 = .ok (.iinc 2 1, 3) := by decide +kernel
theorem dX9_write_109 : decode cX9_write 109 = .ok (.goto (-87), 3) := by decide +kernel
theorem dX9_write_112 : decode cX9_write 112 = .ok (.aload_n 0, 1) := by decide +kernel
theorem dX9_write_113 : decode cX9_write 113 = .ok (.bipush 10, 2) := by decide +kernel
theorem dX9_write_115 : decode cX9_write 115 = .ok (.invokevirtual 347, 3) := by decide +kernel
theorem dX9_write_118 : decode cX9_write 118 = .ok (.iload_n 1, 1) := by decide +kernel
theorem dX9_write_119 : decode cX9_write 119 = .ok (.iconst 1, 1) := by decide +kernel
theorem dX9_write_120 : decode cX9_write 120 = .ok (.iadd, 1) := by decide +kernel
theorem dX9_write_121 : decode cX9_write 121 = .ok (.aload_n 0, 1) := by decide +kernel
theorem dX9_write_122 : decode cX9_write 122 = .ok (.getfield 30, 3) := by decide +kernel
theorem dX9_write_125 : decode cX9_write 125 = .ok (.if_icmp .ne 6, 3) := by decide +kernel
theorem dX9_write_128 : decode cX9_write 128 = .ok (.goto 76, 3) := by decide +kernel
theorem dX9_write_131 : decode cX9_write 131 = .ok (.iconst 0, 1) := by decide +kernel
theorem dX9_write_132 : decode cX9_write 132 = .ok (.istore_n 2, 1) := by decide +kernel
theorem dX9_write_133 : decode cX9_write 133 = .ok (.iload_n 2, 1) := by decide +kernel
theorem dX9_write_134 : decode cX9_write 134 = .ok (.aload_n 0, 1) := by decide +kernel
theorem dX9_write_135 : decode cX9_write 135 = .ok (.getfield 27, 3) := by decide +kernel
theorem dX9_write_138 : decode cX9_write 138 = .ok (.if_icmp .ge 60, 3) := by decide +kernel
theorem dX9_write_141 : decode cX9_write 141 = .ok (.iload_n 2, 1) := by decide +kernel
theorem dX9_write_142 : decode cX9_write 142 = .ok (.ifCond .le 9, 3) := by decide +kernel
theorem dX9_write_145 : decode cX9_write 145 = .ok (.aload_n 0, 1) := by decide +kernel
theorem dX9_write_146 : decode cX9_write 146 = .ok (.bipush 32, 2) := by decide +kernel
theorem dX9_write_148 : decode cX9_write 148 = .ok (.invokevirtual 347, 3) := by decide +kernel
theorem dX9_write_151 : decode cX9_write 151 = .ok (.aload_n 0, 1) := by decide +kernel
theorem dX9_write_152 : decode cX9_write 152 = .ok (.bipush 10, 2) := by decide +kernel
theorem dX9_write_154 : decode cX9_write 154 = .ok (.iload_n 1, 1) := by decide +kernel
theorem dX9_write_155 : decode cX9_write 155 = .ok (.imul, 1) := by decide +kernel
theorem dX9_write_156 : decode cX9_write 156 = .ok (.iconst 2, 1) := by decide +kernel
theorem dX9_write_157 : decode cX9_write 157 = .ok (.iload_n 2, 1) := by decide +kernel
theorem dX9_write_158 : decode cX9_write 158 = .ok (.imul, 1) := by decide +kernel
theorem dX9_write_159 : decode cX9_write 159 = .ok (.iadd, 1) := by decide +kernel
theorem dX9_write_160 : decode cX9_write 160 = .ok (.iconst 1, 1) := by decide +kernel
theorem dX9_write_161 : decode cX9_write 161 = .ok (.iadd, 1) := by decide +kernel
theorem dX9_write_162 : decode cX9_write 162 = .ok (.invokevirtual 215, 3) := by decide +kernel
theorem dX9_write_165 : decode cX9_write 165 = .ok (.istore_n 3, 1) := by decide +kernel
theorem dX9_write_166 : decode cX9_write 166 = .ok (.aload_n 0, 1) := by decide +kernel
theorem dX9_write_167 : decode cX9_write 167 = .ok (.iload_n 3, 1) := by decide +kernel
theorem dX9_write_168 : decode cX9_write 168 = .ok (.iconst 1, 1) := by decide +kernel
theorem dX9_write_169 : decode cX9_write 169 = .ok (.if_icmp .ne 8, 3) := by decide +kernel
theorem dX9_write_172 : decode cX9_write 172 = .ok (.bipush 124, 2) := by decide +kernel
theorem dX9_write_174 : decode cX9_write 174 = .ok (.goto 15, 3) := by decide +kernel
theorem dX9_write_177 : decode cX9_write 177 = .ok (.iload_n 3, 1) := by decide +kernel
theorem dX9_write_178 : decode cX9_write 178 = .ok (.iconst 2, 1) := by decide +kernel
theorem dX9_write_179 : decode cX9_write 179 = .ok (.if_icmp .ne 8, 3) := by decide +kernel
theorem dX9_write_182 : decode cX9_write 182 = .ok (.bipush 32, 2) := by decide +kernel
theorem dX9_write_184 : decode cX9_write 184 = .ok (.goto 5, 3) := by decide +kernel
theorem dX9_write_187 : decode cX9_write 187 = .ok (.bipush 46, 2) := by decide +kernel
theorem dX9_write_189 : decode cX9_write 189 = .ok (.invokevirtual 347, 3) := by decide +kernel
theorem dX9_write_192 : decode cX9_write 192 = .ok (.iinc 2 1, 3) := by decide +kernel
theorem dX9_write_195 : decode cX9_write 195 = .ok (.goto (-62), 3) := by decide +kernel
theorem dX9_write_198 : decode cX9_write 198 = .ok (.aload_n 0, 1) := by decide +kernel
theorem dX9_write_199 : decode cX9_write 199 = .ok (.bipush 10, 2) := by decide +kernel
theorem dX9_write_201 : decode cX9_write 201 = .ok (.invokevirtual 347, 3) := by decide +kernel
theorem dX9_write_204 : decode cX9_write 204 = .ok (.iinc 1 1, 3) := by decide +kernel
theorem dX9_write_207 : decode cX9_write 207 = .ok (.goto (-195), 3) := by decide +kernel
theorem dX9_write_210 : decode cX9_write 210 = .ok (.aload_n 0, 1) := by decide +kernel
theorem dX9_write_211 : decode cX9_write 211 = .ok (.getfield 344, 3) := by decide +kernel
theorem dX9_write_214 : decode cX9_write 214 = .ok (.ireturn, 1) := by decide +kernel
theorem dX9_octet_0 : decode cX9_octet 0 = .ok (.aload_n 0, 1) := by decide +kernel
theorem dX9_octet_1 : decode cX9_octet 1 = .ok (.iconst 0, 1) := by decide +kernel
theorem dX9_octet_2 : decode cX9_octet 2 = .ok (.putfield 103, 3) := by decide +kernel
theorem dX9_octet_5 : decode cX9_octet 5 = .ok (.iload_n 1, 1) := by decide +kernel
theorem dX9_octet_6 : decode cX9_octet 6 = .ok (.iconst 0, 1) := by decide +kernel
theorem dX9_octet_7 : decode cX9_octet 7 = .ok (.aload_n 0, 1) := by decide +kernel
theorem dX9_octet_8 : decode cX9_octet 8 = .ok (.getfield 344, 3) := by decide +kernel
theorem dX9_octet_11 : decode cX9_octet 11 = .ok (.iconst 1, 1) := by decide +kernel
theorem dX9_octet_12 : decode cX9_octet 12 = .ok (.isub, 1) := by decide +kernel
theorem dX9_octet_13 : decode cX9_octet 13 = .ok (.invokestatic 142, 3) := by decide +kernel
theorem dX9_octet_16 : decode cX9_octet 16 = .ok (.ifCond .eq 12, 3) := by decide +kernel
theorem dX9_octet_19 : decode cX9_octet 19 = .ok (.aload_n 0, 1) := by decide +kernel
theorem dX9_octet_20 : decode cX9_octet 20 = .ok (.getfield 96, 3) := by decide +kernel
theorem dX9_octet_23 : decode cX9_octet 23 = .ok (.iload_n 1, 1) := by decide +kernel
theorem dX9_octet_24 : decode cX9_octet 24 = .ok (.iaload, 1) := by decide +kernel
theorem dX9_octet_25 : decode cX9_octet 25 = .ok (.goto 4, 3) := by decide +kernel
theorem dX9_octet_28 : decode cX9_octet 28 = .ok (.iconst (-1), 1) := by decide +kernel
theorem dX9_octet_29 : decode cX9_octet 29 = .ok (.ireturn, 1) := by decide +kernel
theorem dX9_manyBy_0 : decode cX9_manyBy 0 = .ok (.iconst 0, 1) := by decide +kernel
theorem dX9_manyBy_1 : decode cX9_manyBy 1 = .ok (.istore_n 2, 1) := by decide +kernel
theorem dX9_manyBy_2 : decode cX9_manyBy 2 = .ok (.iconst 0, 1) := by decide +kernel
theorem dX9_manyBy_3 : decode cX9_manyBy 3 = .ok (.istore_n 3, 1) := by decide +kernel
theorem dX9_manyBy_4 : decode cX9_manyBy 4 = .ok (.iload_n 3, 1) := by decide +kernel
theorem dX9_manyBy_5 : decode cX9_manyBy 5 = .ok (.bipush 50, 2) := by decide +kernel
theorem dX9_manyBy_7 : decode cX9_manyBy 7 = .ok (.if_icmp .ge 34, 3) := by decide +kernel
theorem dX9_manyBy_10 : decode cX9_manyBy 10 = .ok (.iload_n 2, 1) := by decide +kernel
theorem dX9_manyBy_11 : decode cX9_manyBy 11 = .ok (.aload_n 0, 1) := by decide +kernel
theorem dX9_manyBy_12 : decode cX9_manyBy 12 = .ok (.iload_n 3, 1) := by decide +kernel
theorem dX9_manyBy_13 : decode cX9_manyBy 13 = .ok (.invokevirtual 208, 3) := by decide +kernel
theorem dX9_manyBy_16 : decode cX9_manyBy 16 = .ok (.ifCond .eq 16, 3) := by decide +kernel
theorem dX9_manyBy_19 : decode cX9_manyBy 19 = .ok (.aload_n 0, 1) := by decide +kernel
theorem dX9_manyBy_20 : decode cX9_manyBy 20 = .ok (.iload_n 3, 1) := by decide +kernel
theorem dX9_manyBy_21 : decode cX9_manyBy 21 = .ok (.invokevirtual 215, 3) := by decide +kernel
theorem dX9_manyBy_24 : decode cX9_manyBy 24 = .ok (.iload_n 1, 1) := by decide +kernel
theorem dX9_manyBy_25 : decode cX9_manyBy 25 = .ok (.if_icmp .ne 7, 3) := by decide +kernel
theorem dX9_manyBy_28 : decode cX9_manyBy 28 = .ok (.iconst 1, 1) := by decide +kernel
theorem dX9_manyBy_29 : decode cX9_manyBy 29 = .ok (.goto 4, 3) := by decide +kernel
theorem dX9_manyBy_32 : decode cX9_manyBy 32 = .ok (.iconst 0, 1) := by decide +kernel
theorem dX9_manyBy_33 : decode cX9_manyBy 33 = .ok (.iadd, 1) := by decide +kernel
theorem dX9_manyBy_34 : decode cX9_manyBy 34 = .ok (.istore_n 2, 1) := by decide +kernel
theorem dX9_manyBy_35 : decode cX9_manyBy 35 = .ok (.iinc 3 1, 3) := by decide +kernel
theorem dX9_manyBy_38 : decode cX9_manyBy 38 = .ok (.goto (-34), 3) := by decide +kernel
theorem dX9_manyBy_41 : decode cX9_manyBy 41 = .ok (.iload_n 2, 1) := by decide +kernel
theorem dX9_manyBy_42 : decode cX9_manyBy 42 = .ok (.ireturn, 1) := by decide +kernel
theorem dX9_count_0 : decode cX9_count 0 = .ok (.aload_n 0, 1) := by decide +kernel
theorem dX9_count_1 : decode cX9_count 1 = .ok (.iconst 0, 1) := by decide +kernel
theorem dX9_count_2 : decode cX9_count 2 = .ok (.putfield 103, 3) := by decide +kernel
theorem dX9_count_5 : decode cX9_count 5 = .ok (.iconst 0, 1) := by decide +kernel
theorem dX9_count_6 : decode cX9_count 6 = .ok (.istore_n 2, 1) := by decide +kernel
theorem dX9_count_7 : decode cX9_count 7 = .ok (.iconst 0, 1) := by decide +kernel
theorem dX9_count_8 : decode cX9_count 8 = .ok (.istore_n 3, 1) := by decide +kernel
theorem dX9_count_9 : decode cX9_count 9 = .ok (.iload_n 3, 1) := by decide +kernel
theorem dX9_count_10 : decode cX9_count 10 = .ok (.bipush 25, 2) := by decide +kernel
theorem dX9_count_12 : decode cX9_count 12 = .ok (.if_icmp .ge 26, 3) := by decide +kernel
theorem dX9_count_15 : decode cX9_count 15 = .ok (.iload_n 2, 1) := by decide +kernel
theorem dX9_count_16 : decode cX9_count 16 = .ok (.aload_n 0, 1) := by decide +kernel
theorem dX9_count_17 : decode cX9_count 17 = .ok (.getfield 36, 3) := by decide +kernel
theorem dX9_count_20 : decode cX9_count 20 = .ok (.iload_n 3, 1) := by decide +kernel
theorem dX9_count_21 : decode cX9_count 21 = .ok (.baload, 1) := by decide +kernel
theorem dX9_count_22 : decode cX9_count 22 = .ok (.ifCond .eq 7, 3) := by decide +kernel
theorem dX9_count_25 : decode cX9_count 25 = .ok (.iconst 1, 1) := by decide +kernel
theorem dX9_count_26 : decode cX9_count 26 = .ok (.goto 4, 3) := by decide +kernel
theorem dX9_count_29 : decode cX9_count 29 = .ok (.iconst 0, 1) := by decide +kernel
theorem dX9_count_30 : decode cX9_count 30 = .ok (.iadd, 1) := by decide +kernel
theorem dX9_count_31 : decode cX9_count 31 = .ok (.istore_n 2, 1) := by decide +kernel
theorem dX9_count_32 : decode cX9_count 32 = .ok (.iinc 3 1, 3) := by decide +kernel
theorem dX9_count_35 : decode cX9_count 35 = .ok (.goto (-26), 3) := by decide +kernel
theorem dX9_count_38 : decode cX9_count 38 = .ok (.iload_n 1, 1) := by decide +kernel
theorem dX9_count_39 : decode cX9_count 39 = .ok (.tableswitch 85 0 7 #[45, 50, 55, 61, 67, 73, 75, 80], 45) := by decide +kernel
theorem dX9_count_84 : decode cX9_count 84 = .ok (.aload_n 0, 1) := by decide +kernel
theorem dX9_count_85 : decode cX9_count 85 = .ok (.getfield 27, 3) := by decide +kernel
theorem dX9_count_88 : decode cX9_count 88 = .ok (.ireturn, 1) := by decide +kernel
theorem dX9_count_89 : decode cX9_count 89 = .ok (.aload_n 0, 1) := by decide +kernel
theorem dX9_count_90 : decode cX9_count 90 = .ok (.getfield 30, 3) := by decide +kernel
theorem dX9_count_93 : decode cX9_count 93 = .ok (.ireturn, 1) := by decide +kernel
theorem dX9_count_94 : decode cX9_count 94 = .ok (.aload_n 0, 1) := by decide +kernel
theorem dX9_count_95 : decode cX9_count 95 = .ok (.iconst 0, 1) := by decide +kernel
theorem dX9_count_96 : decode cX9_count 96 = .ok (.invokevirtual 350, 3) := by decide +kernel
theorem dX9_count_99 : decode cX9_count 99 = .ok (.ireturn, 1) := by decide +kernel
theorem dX9_count_100 : decode cX9_count 100 = .ok (.aload_n 0, 1) := by decide +kernel
theorem dX9_count_101 : decode cX9_count 101 = .ok (.iconst 1, 1) := by decide +kernel
theorem dX9_count_102 : decode cX9_count 102 = .ok (.invokevirtual 350, 3) := by decide +kernel
theorem dX9_count_105 : decode cX9_count 105 = .ok (.ireturn, 1) := by decide +kernel
theorem dX9_count_106 : decode cX9_count 106 = .ok (.aload_n 0, 1) := by decide +kernel
theorem dX9_count_107 : decode cX9_count 107 = .ok (.iconst 2, 1) := by decide +kernel
theorem dX9_count_108 : decode cX9_count 108 = .ok (.invokevirtual 350, 3) := by decide +kernel
theorem dX9_count_111 : decode cX9_count 111 = .ok (.ireturn, 1) := by decide +kernel
theorem dX9_count_112 : decode cX9_count 112 = .ok (.iload_n 2, 1) := by decide +kernel
theorem dX9_count_113 : decode cX9_count 113 = .ok (.ireturn, 1) := by decide +kernel
theorem dX9_count_114 : decode cX9_count 114 = .ok (.aload_n 0, 1) := by decide +kernel
theorem dX9_count_115 : decode cX9_count 115 = .ok (.getfield 184, 3) := by decide +kernel
theorem dX9_count_118 : decode cX9_count 118 = .ok (.ireturn, 1) := by decide +kernel
theorem dX9_count_119 : decode cX9_count 119 = .ok (.aload_n 0, 1) := by decide +kernel
theorem dX9_count_120 : decode cX9_count 120 = .ok (.getfield 344, 3) := by decide +kernel
theorem dX9_count_123 : decode cX9_count 123 = .ok (.ireturn, 1) := by decide +kernel
theorem dX9_count_124 : decode cX9_count 124 = .ok (.iconst (-1), 1) := by decide +kernel
theorem dX9_count_125 : decode cX9_count 125 = .ok (.ireturn, 1) := by decide +kernel
theorem dJ6_bitCount_0f7a4_0 : decode cJ6_bitCount_0f7a4 0 = .ok (.iload_n 0, 1) := by decide +kernel
theorem dJ6_bitCount_0f7a4_1 : decode cJ6_bitCount_0f7a4 1 = .ok (.iload_n 0, 1) := by decide +kernel
theorem dJ6_bitCount_0f7a4_2 : decode cJ6_bitCount_0f7a4 2 = .ok (.iconst 1, 1) := by decide +kernel
theorem dJ6_bitCount_0f7a4_3 : decode cJ6_bitCount_0f7a4 3 = .ok (.iushr, 1) := by decide +kernel
theorem dJ6_bitCount_0f7a4_4 : decode cJ6_bitCount_0f7a4 4 = .ok (.ldc_w 265, 3) := by decide +kernel
theorem dJ6_bitCount_0f7a4_7 : decode cJ6_bitCount_0f7a4 7 = .ok (.iand, 1) := by decide +kernel
theorem dJ6_bitCount_0f7a4_8 : decode cJ6_bitCount_0f7a4 8 = .ok (.isub, 1) := by decide +kernel
theorem dJ6_bitCount_0f7a4_9 : decode cJ6_bitCount_0f7a4 9 = .ok (.istore_n 0, 1) := by decide +kernel
theorem dJ6_bitCount_0f7a4_10 : decode cJ6_bitCount_0f7a4 10 = .ok (.iload_n 0, 1) := by decide +kernel
theorem dJ6_bitCount_0f7a4_11 : decode cJ6_bitCount_0f7a4 11 = .ok (.ldc_w 266, 3) := by decide +kernel
theorem dJ6_bitCount_0f7a4_14 : decode cJ6_bitCount_0f7a4 14 = .ok (.iand, 1) := by decide +kernel
theorem dJ6_bitCount_0f7a4_15 : decode cJ6_bitCount_0f7a4 15 = .ok (.iload_n 0, 1) := by decide +kernel
theorem dJ6_bitCount_0f7a4_16 : decode cJ6_bitCount_0f7a4 16 = .ok (.iconst 2, 1) := by decide +kernel
theorem dJ6_bitCount_0f7a4_17 : decode cJ6_bitCount_0f7a4 17 = .ok (.iushr, 1) := by decide +kernel
theorem dJ6_bitCount_0f7a4_18 : decode cJ6_bitCount_0f7a4 18 = .ok (.ldc_w 266, 3) := by decide +kernel
theorem dJ6_bitCount_0f7a4_21 : decode cJ6_bitCount_0f7a4 21 = .ok (.iand, 1) := by decide +kernel
theorem dJ6_bitCount_0f7a4_22 : decode cJ6_bitCount_0f7a4 22 = .ok (.iadd, 1) := by decide +kernel
theorem dJ6_bitCount_0f7a4_23 : decode cJ6_bitCount_0f7a4 23 = .ok (.istore_n 0, 1) := by decide +kernel
theorem dJ6_bitCount_0f7a4_24 : decode cJ6_bitCount_0f7a4 24 = .ok (.iload_n 0, 1) := by decide +kernel
theorem dJ6_bitCount_0f7a4_25 : decode cJ6_bitCount_0f7a4 25 = .ok (.iload_n 0, 1) := by decide +kernel
theorem dJ6_bitCount_0f7a4_26 : decode cJ6_bitCount_0f7a4 26 = .ok (.iconst 4, 1) := by decide +kernel
theorem dJ6_bitCount_0f7a4_27 : decode cJ6_bitCount_0f7a4 27 = .ok (.iushr, 1) := by decide +kernel
theorem dJ6_bitCount_0f7a4_28 : decode cJ6_bitCount_0f7a4 28 = .ok (.iadd, 1) := by decide +kernel
theorem dJ6_bitCount_0f7a4_29 : decode cJ6_bitCount_0f7a4 29 = .ok (.ldc_w 267, 3) := by decide +kernel
theorem dJ6_bitCount_0f7a4_32 : decode cJ6_bitCount_0f7a4 32 = .ok (.iand, 1) := by decide +kernel
theorem dJ6_bitCount_0f7a4_33 : decode cJ6_bitCount_0f7a4 33 = .ok (.istore_n 0, 1) := by decide +kernel
theorem dJ6_bitCount_0f7a4_34 : decode cJ6_bitCount_0f7a4 34 = .ok (.iload_n 0, 1) := by decide +kernel
theorem dJ6_bitCount_0f7a4_35 : decode cJ6_bitCount_0f7a4 35 = .ok (.iload_n 0, 1) := by decide +kernel
theorem dJ6_bitCount_0f7a4_36 : decode cJ6_bitCount_0f7a4 36 = .ok (.bipush 8, 2) := by decide +kernel
theorem dJ6_bitCount_0f7a4_38 : decode cJ6_bitCount_0f7a4 38 = .ok (.iushr, 1) := by decide +kernel
theorem dJ6_bitCount_0f7a4_39 : decode cJ6_bitCount_0f7a4 39 = .ok (.iadd, 1) := by decide +kernel
theorem dJ6_bitCount_0f7a4_40 : decode cJ6_bitCount_0f7a4 40 = .ok (.istore_n 0, 1) := by decide +kernel
theorem dJ6_bitCount_0f7a4_41 : decode cJ6_bitCount_0f7a4 41 = .ok (.iload_n 0, 1) := by decide +kernel
theorem dJ6_bitCount_0f7a4_42 : decode cJ6_bitCount_0f7a4 42 = .ok (.iload_n 0, 1) := by decide +kernel
theorem dJ6_bitCount_0f7a4_43 : decode cJ6_bitCount_0f7a4 43 = .ok (.bipush 16, 2) := by decide +kernel
theorem dJ6_bitCount_0f7a4_45 : decode cJ6_bitCount_0f7a4 45 = .ok (.iushr, 1) := by decide +kernel
theorem dJ6_bitCount_0f7a4_46 : decode cJ6_bitCount_0f7a4 46 = .ok (.iadd, 1) := by decide +kernel
theorem dJ6_bitCount_0f7a4_47 : decode cJ6_bitCount_0f7a4 47 = .ok (.istore_n 0, 1) := by decide +kernel
theorem dJ6_bitCount_0f7a4_48 : decode cJ6_bitCount_0f7a4 48 = .ok (.iload_n 0, 1) := by decide +kernel
theorem dJ6_bitCount_0f7a4_49 : decode cJ6_bitCount_0f7a4 49 = .ok (.bipush 63, 2) := by decide +kernel
theorem dJ6_bitCount_0f7a4_51 : decode cJ6_bitCount_0f7a4 51 = .ok (.iand, 1) := by decide +kernel
theorem dJ6_bitCount_0f7a4_52 : decode cJ6_bitCount_0f7a4 52 = .ok (.ireturn, 1) := by decide +kernel
theorem dJ13_bitCount_95d88_0 : decode cJ13_bitCount_95d88 0 = .ok (.lload_n 0, 1) := by decide +kernel
theorem dJ13_bitCount_95d88_1 : decode cJ13_bitCount_95d88 1 = .ok (.lload_n 0, 1) := by decide +kernel
theorem dJ13_bitCount_95d88_2 : decode cJ13_bitCount_95d88 2 = .ok (.iconst 1, 1) := by decide +kernel
theorem dJ13_bitCount_95d88_3 : decode cJ13_bitCount_95d88 3 = .ok (.lushr, 1) := by decide +kernel
theorem dJ13_bitCount_95d88_4 : decode cJ13_bitCount_95d88 4 = .ok (.ldc2_w 314, 3) := by decide +kernel
theorem dJ13_bitCount_95d88_7 : decode cJ13_bitCount_95d88 7 = .ok (.land, 1) := by decide +kernel
theorem dJ13_bitCount_95d88_8 : decode cJ13_bitCount_95d88 8 = .ok (.lsub, 1) := by decide +kernel
theorem dJ13_bitCount_95d88_9 : decode cJ13_bitCount_95d88 9 = .ok (.lstore_n 0, 1) := by decide +kernel
theorem dJ13_bitCount_95d88_10 : decode cJ13_bitCount_95d88 10 = .ok (.lload_n 0, 1) := by decide +kernel
theorem dJ13_bitCount_95d88_11 : decode cJ13_bitCount_95d88 11 = .ok (.ldc2_w 316, 3) := by decide +kernel
theorem dJ13_bitCount_95d88_14 : decode cJ13_bitCount_95d88 14 = .ok (.land, 1) := by decide +kernel
theorem dJ13_bitCount_95d88_15 : decode cJ13_bitCount_95d88 15 = .ok (.lload_n 0, 1) := by decide +kernel
theorem dJ13_bitCount_95d88_16 : decode cJ13_bitCount_95d88 16 = .ok (.iconst 2, 1) := by decide +kernel
theorem dJ13_bitCount_95d88_17 : decode cJ13_bitCount_95d88 17 = .ok (.lushr, 1) := by decide +kernel
theorem dJ13_bitCount_95d88_18 : decode cJ13_bitCount_95d88 18 = .ok (.ldc2_w 316, 3) := by decide +kernel
theorem dJ13_bitCount_95d88_21 : decode cJ13_bitCount_95d88 21 = .ok (.land, 1) := by decide +kernel
theorem dJ13_bitCount_95d88_22 : decode cJ13_bitCount_95d88 22 = .ok (.ladd, 1) := by decide +kernel
theorem dJ13_bitCount_95d88_23 : decode cJ13_bitCount_95d88 23 = .ok (.lstore_n 0, 1) := by decide +kernel
theorem dJ13_bitCount_95d88_24 : decode cJ13_bitCount_95d88 24 = .ok (.lload_n 0, 1) := by decide +kernel
theorem dJ13_bitCount_95d88_25 : decode cJ13_bitCount_95d88 25 = .ok (.lload_n 0, 1) := by decide +kernel
theorem dJ13_bitCount_95d88_26 : decode cJ13_bitCount_95d88 26 = .ok (.iconst 4, 1) := by decide +kernel
theorem dJ13_bitCount_95d88_27 : decode cJ13_bitCount_95d88 27 = .ok (.lushr, 1) := by decide +kernel
theorem dJ13_bitCount_95d88_28 : decode cJ13_bitCount_95d88 28 = .ok (.ladd, 1) := by decide +kernel
theorem dJ13_bitCount_95d88_29 : decode cJ13_bitCount_95d88 29 = .ok (.ldc2_w 318, 3) := by decide +kernel
theorem dJ13_bitCount_95d88_32 : decode cJ13_bitCount_95d88 32 = .ok (.land, 1) := by decide +kernel
theorem dJ13_bitCount_95d88_33 : decode cJ13_bitCount_95d88 33 = .ok (.lstore_n 0, 1) := by decide +kernel
theorem dJ13_bitCount_95d88_34 : decode cJ13_bitCount_95d88 34 = .ok (.lload_n 0, 1) := by decide +kernel
theorem dJ13_bitCount_95d88_35 : decode cJ13_bitCount_95d88 35 = .ok (.lload_n 0, 1) := by decide +kernel
theorem dJ13_bitCount_95d88_36 : decode cJ13_bitCount_95d88 36 = .ok (.bipush 8, 2) := by decide +kernel
theorem dJ13_bitCount_95d88_38 : decode cJ13_bitCount_95d88 38 = .ok (.lushr, 1) := by decide +kernel
theorem dJ13_bitCount_95d88_39 : decode cJ13_bitCount_95d88 39 = .ok (.ladd, 1) := by decide +kernel
theorem dJ13_bitCount_95d88_40 : decode cJ13_bitCount_95d88 40 = .ok (.lstore_n 0, 1) := by decide +kernel
theorem dJ13_bitCount_95d88_41 : decode cJ13_bitCount_95d88 41 = .ok (.lload_n 0, 1) := by decide +kernel
theorem dJ13_bitCount_95d88_42 : decode cJ13_bitCount_95d88 42 = .ok (.lload_n 0, 1) := by decide +kernel
theorem dJ13_bitCount_95d88_43 : decode cJ13_bitCount_95d88 43 = .ok (.bipush 16, 2) := by decide +kernel
theorem dJ13_bitCount_95d88_45 : decode cJ13_bitCount_95d88 45 = .ok (.lushr, 1) := by decide +kernel
theorem dJ13_bitCount_95d88_46 : decode cJ13_bitCount_95d88 46 = .ok (.ladd, 1) := by decide +kernel
theorem dJ13_bitCount_95d88_47 : decode cJ13_bitCount_95d88 47 = .ok (.lstore_n 0, 1) := by decide +kernel
theorem dJ13_bitCount_95d88_48 : decode cJ13_bitCount_95d88 48 = .ok (.lload_n 0, 1) := by decide +kernel
theorem dJ13_bitCount_95d88_49 : decode cJ13_bitCount_95d88 49 = .ok (.lload_n 0, 1) := by decide +kernel
theorem dJ13_bitCount_95d88_50 : decode cJ13_bitCount_95d88 50 = .ok (.bipush 32, 2) := by decide +kernel
theorem dJ13_bitCount_95d88_52 : decode cJ13_bitCount_95d88 52 = .ok (.lushr, 1) := by decide +kernel
theorem dJ13_bitCount_95d88_53 : decode cJ13_bitCount_95d88 53 = .ok (.ladd, 1) := by decide +kernel
theorem dJ13_bitCount_95d88_54 : decode cJ13_bitCount_95d88 54 = .ok (.lstore_n 0, 1) := by decide +kernel
theorem dJ13_bitCount_95d88_55 : decode cJ13_bitCount_95d88 55 = .ok (.lload_n 0, 1) := by decide +kernel
theorem dJ13_bitCount_95d88_56 : decode cJ13_bitCount_95d88 56 = .ok (.l2i, 1) := by decide +kernel
theorem dJ13_bitCount_95d88_57 : decode cJ13_bitCount_95d88 57 = .ok (.bipush 127, 2) := by decide +kernel
theorem dJ13_bitCount_95d88_59 : decode cJ13_bitCount_95d88 59 = .ok (.iand, 1) := by decide +kernel
theorem dJ13_bitCount_95d88_60 : decode cJ13_bitCount_95d88 60 = .ok (.ireturn, 1) := by decide +kernel
theorem dJ9_max_7cf53_0 : decode cJ9_max_7cf53 0 = .ok (.iload_n 0, 1) := by decide +kernel
theorem dJ9_max_7cf53_1 : decode cJ9_max_7cf53 1 = .ok (.iload_n 1, 1) := by decide +kernel
theorem dJ9_max_7cf53_2 : decode cJ9_max_7cf53 2 = .ok (.if_icmp .lt 7, 3) := by decide +kernel
theorem dJ9_max_7cf53_5 : decode cJ9_max_7cf53 5 = .ok (.iload_n 0, 1) := by decide +kernel
theorem dJ9_max_7cf53_6 : decode cJ9_max_7cf53 6 = .ok (.goto 4, 3) := by decide +kernel
theorem dJ9_max_7cf53_9 : decode cJ9_max_7cf53 9 = .ok (.iload_n 1, 1) := by decide +kernel
theorem dJ9_max_7cf53_10 : decode cJ9_max_7cf53 10 = .ok (.ireturn, 1) := by decide +kernel
theorem dJ9_min_7cf53_0 : decode cJ9_min_7cf53 0 = .ok (.iload_n 0, 1) := by decide +kernel
theorem dJ9_min_7cf53_1 : decode cJ9_min_7cf53 1 = .ok (.iload_n 1, 1) := by decide +kernel
theorem dJ9_min_7cf53_2 : decode cJ9_min_7cf53 2 = .ok (.if_icmp .gt 7, 3) := by decide +kernel
theorem dJ9_min_7cf53_5 : decode cJ9_min_7cf53 5 = .ok (.iload_n 0, 1) := by decide +kernel
theorem dJ9_min_7cf53_6 : decode cJ9_min_7cf53 6 = .ok (.goto 4, 3) := by decide +kernel
theorem dJ9_min_7cf53_9 : decode cJ9_min_7cf53 9 = .ok (.iload_n 1, 1) := by decide +kernel
theorem dJ9_min_7cf53_10 : decode cJ9_min_7cf53 10 = .ok (.ireturn, 1) := by decide +kernel
theorem dJ0_length_8abf5_0 : decode cJ0_length_8abf5 0 = .ok (.aload_n 0, 1) := by decide +kernel
theorem dJ0_length_8abf5_1 : decode cJ0_length_8abf5 1 = .ok (.getfield 9, 3) := by decide +kernel
theorem dJ0_length_8abf5_4 : decode cJ0_length_8abf5 4 = .ok (.arraylength, 1) := by decide +kernel
theorem dJ0_length_8abf5_5 : decode cJ0_length_8abf5 5 = .ok (.aload_n 0, 1) := by decide +kernel
theorem dJ0_length_8abf5_6 : decode cJ0_length_8abf5 6 = .ok (.invokevirtual 335, 3) := by decide +kernel
theorem dJ0_length_8abf5_9 : decode cJ0_length_8abf5 9 = .ok (.ishr, 1) := by decide +kernel
theorem dJ0_length_8abf5_10 : decode cJ0_length_8abf5 10 = .ok (.ireturn, 1) := by decide +kernel
theorem dJ0_charAt_5068e_0 : decode cJ0_charAt_5068e 0 = .ok (.aload_n 0, 1) := by decide +kernel
theorem dJ0_charAt_5068e_1 : decode cJ0_charAt_5068e 1 = .ok (.invokevirtual 492, 3) := by decide +kernel
theorem dJ0_charAt_5068e_4 : decode cJ0_charAt_5068e 4 = .ok (.ifCond .eq 12, 3) := by decide +kernel
theorem dJ0_charAt_5068e_7 : decode cJ0_charAt_5068e 7 = .ok (.aload_n 0, 1) := by decide +kernel
theorem dJ0_charAt_5068e_8 : decode cJ0_charAt_5068e 8 = .ok (.getfield 9, 3) := by decide +kernel
theorem dJ0_charAt_5068e_11 : decode cJ0_charAt_5068e 11 = .ok (.iload_n 1, 1) := by decide +kernel
theorem dJ0_charAt_5068e_12 : decode cJ0_charAt_5068e 12 = .ok (.invokestatic 495, 3) := by decide +kernel
theorem dJ0_charAt_5068e_15 : decode cJ0_charAt_5068e 15 = .ok (.ireturn, 1) := by decide +kernel
theorem dJ0_charAt_5068e_16 : decode cJ0_charAt_5068e 16 = .ok (.aload_n 0, 1) := by decide +kernel
theorem dJ0_charAt_5068e_17 : decode cJ0_charAt_5068e 17 = .ok (.getfield 9, 3) := by decide +kernel
theorem dJ0_charAt_5068e_20 : decode cJ0_charAt_5068e 20 = .ok (.iload_n 1, 1) := by decide +kernel
theorem dJ0_charAt_5068e_21 : decode cJ0_charAt_5068e 21 = .ok (.invokestatic 498, 3) := by decide +kernel
theorem dJ0_charAt_5068e_24 : decode cJ0_charAt_5068e 24 = .ok (.ireturn, 1) := by decide +kernel
theorem dJ0_coder_7d493_0 : decode cJ0_coder_7d493 0 = .ok (.getstatic 38, 3) := by decide +kernel
theorem dJ0_coder_7d493_3 : decode cJ0_coder_7d493 3 = .ok (.ifCond .eq 10, 3) := by decide +kernel
theorem dJ0_coder_7d493_6 : decode cJ0_coder_7d493 6 = .ok (.aload_n 0, 1) := by decide +kernel
theorem dJ0_coder_7d493_7 : decode cJ0_coder_7d493 7 = .ok (.getfield 15, 3) := by decide +kernel
theorem dJ0_coder_7d493_10 : decode cJ0_coder_7d493 10 = .ok (.goto 4, 3) := by decide +kernel
theorem dJ0_coder_7d493_13 : decode cJ0_coder_7d493 13 = .ok (.iconst 1, 1) := by decide +kernel
theorem dJ0_coder_7d493_14 : decode cJ0_coder_7d493 14 = .ok (.ireturn, 1) := by decide +kernel
theorem dJ0_isLatin1_aae02_0 : decode cJ0_isLatin1_aae02 0 = .ok (.getstatic 38, 3) := by decide +kernel
theorem dJ0_isLatin1_aae02_3 : decode cJ0_isLatin1_aae02 3 = .ok (.ifCond .eq 14, 3) := by decide +kernel
theorem dJ0_isLatin1_aae02_6 : decode cJ0_isLatin1_aae02 6 = .ok (.aload_n 0, 1) := by decide +kernel
theorem dJ0_isLatin1_aae02_7 : decode cJ0_isLatin1_aae02 7 = .ok (.getfield 15, 3) := by decide +kernel
theorem dJ0_isLatin1_aae02_10 : decode cJ0_isLatin1_aae02 10 = .ok (.ifCond .ne 7, 3) := by decide +kernel
theorem dJ0_isLatin1_aae02_13 : decode cJ0_isLatin1_aae02 13 = .ok (.iconst 1, 1) := by decide +kernel
theorem dJ0_isLatin1_aae02_14 : decode cJ0_isLatin1_aae02 14 = .ok (.goto 4, 3) := by decide +kernel
theorem dJ0_isLatin1_aae02_17 : decode cJ0_isLatin1_aae02 17 = .ok (.iconst 0, 1) := by decide +kernel
theorem dJ0_isLatin1_aae02_18 : decode cJ0_isLatin1_aae02 18 = .ok (.ireturn, 1) := by decide +kernel
theorem dJ0_checkIndex_df160_0 : decode cJ0_checkIndex_df160 0 = .ok (.iload_n 0, 1) := by decide +kernel
theorem dJ0_checkIndex_df160_1 : decode cJ0_checkIndex_df160 1 = .ok (.iload_n 1, 1) := by decide +kernel
theorem dJ0_checkIndex_df160_2 : decode cJ0_checkIndex_df160 2 = .ok (.getstatic 1053, 3) := by decide +kernel
theorem dJ0_checkIndex_df160_5 : decode cJ0_checkIndex_df160 5 = .ok (.invokestatic 1059, 3) := by decide +kernel
theorem dJ0_checkIndex_df160_8 : decode cJ0_checkIndex_df160 8 = .ok (.pop, 1) := by decide +kernel
theorem dJ0_checkIndex_df160_9 : decode cJ0_checkIndex_df160 9 = .ok (.return_, 1) := by decide +kernel
theorem dJ1_charAt_3b067_0 : decode cJ1_charAt_3b067 0 = .ok (.iload_n 1, 1) := by decide +kernel
theorem dJ1_charAt_3b067_1 : decode cJ1_charAt_3b067 1 = .ok (.aload_n 0, 1) := by decide +kernel
theorem dJ1_charAt_3b067_2 : decode cJ1_charAt_3b067 2 = .ok (.arraylength, 1) := by decide +kernel
theorem dJ1_charAt_3b067_3 : decode cJ1_charAt_3b067 3 = .ok (.invokestatic 9, 3) := by decide +kernel
theorem dJ1_charAt_3b067_6 : decode cJ1_charAt_3b067 6 = .ok (.aload_n 0, 1) := by decide +kernel
theorem dJ1_charAt_3b067_7 : decode cJ1_charAt_3b067 7 = .ok (.iload_n 1, 1) := by decide +kernel
theorem dJ1_charAt_3b067_8 : decode cJ1_charAt_3b067 8 = .ok (.baload, 1) := by decide +kernel
theorem dJ1_charAt_3b067_9 : decode cJ1_charAt_3b067 9 = .ok (.sipush 255, 3) := by decide +kernel
theorem dJ1_charAt_3b067_12 : decode cJ1_charAt_3b067 12 = .ok (.iand, 1) := by decide +kernel
theorem dJ1_charAt_3b067_13 : decode cJ1_charAt_3b067 13 = .ok (.i2c, 1) := by decide +kernel
theorem dJ1_charAt_3b067_14 : decode cJ1_charAt_3b067 14 = .ok (.ireturn, 1) := by decide +kernel
theorem dJ2_getChar_3b067_0 : decode cJ2_getChar_3b067 0 = .ok (.getstatic 44, 3) := by decide +kernel
theorem dJ2_getChar_3b067_3 : decode cJ2_getChar_3b067 3 = .ok (.ifCond .ne 25, 3) := by decide +kernel
theorem dJ2_getChar_3b067_6 : decode cJ2_getChar_3b067 6 = .ok (.iload_n 1, 1) := by decide +kernel
theorem dJ2_getChar_3b067_7 : decode cJ2_getChar_3b067 7 = .ok (.ifCond .lt 11, 3) := by decide +kernel
theorem dJ2_getChar_3b067_10 : decode cJ2_getChar_3b067 10 = .ok (.iload_n 1, 1) := by decide +kernel
theorem dJ2_getChar_3b067_11 : decode cJ2_getChar_3b067 11 = .ok (.aload_n 0, 1) := by decide +kernel
theorem dJ2_getChar_3b067_12 : decode cJ2_getChar_3b067 12 = .ok (.invokestatic 48, 3) := by decide +kernel
theorem dJ2_getChar_3b067_15 : decode cJ2_getChar_3b067 15 = .ok (.if_icmp .lt 13, 3) := by decide +kernel
theorem dJ2_getChar_3b067_18 : decode cJ2_getChar_3b067 18 = .ok (.new 52, 3) := by decide +kernel
theorem dJ2_getChar_3b067_21 : decode cJ2_getChar_3b067 21 = .ok (.dup, 1) := by decide +kernel
theorem dJ2_getChar_3b067_22 : decode cJ2_getChar_3b067 22 = .ok (.ldc 54, 2) := by decide +kernel
theorem dJ2_getChar_3b067_24 : decode cJ2_getChar_3b067 24 = .ok (.invokespecial 56, 3) := by decide +kernel
theorem dJ2_getChar_3b067_27 : decode cJ2_getChar_3b067 27 = .ok (.athrow, 1) := by decide +kernel
theorem dJ2_getChar_3b067_28 : decode cJ2_getChar_3b067 28 = .ok (.iload_n 1, 1) := by decide +kernel
theorem dJ2_getChar_3b067_29 : decode cJ2_getChar_3b067 29 = .ok (.iconst 1, 1) := by decide +kernel
theorem dJ2_getChar_3b067_30 : decode cJ2_getChar_3b067 30 = .ok (.ishl, 1) := by decide +kernel
theorem dJ2_getChar_3b067_31 : decode cJ2_getChar_3b067 31 = .ok (.istore_n 1, 1) := by decide +kernel
theorem dJ2_getChar_3b067_32 : decode cJ2_getChar_3b067 32 = .ok (.aload_n 0, 1) := by decide +kernel
theorem dJ2_getChar_3b067_33 : decode cJ2_getChar_3b067 33 = .ok (.iload_n 1, 1) := by decide +kernel
theorem dJ2_getChar_3b067_34 : decode cJ2_getChar_3b067 34 = .ok (.iinc 1 1, 3) := by decide +kernel
theorem dJ2_getChar_3b067_37 : decode cJ2_getChar_3b067 37 = .ok (.baload, 1) := by decide +kernel
theorem dJ2_getChar_3b067_38 : decode cJ2_getChar_3b067 38 = .ok (.sipush 255, 3) := by decide +kernel
theorem dJ2_getChar_3b067_41 : decode cJ2_getChar_3b067 41 = .ok (.iand, 1) := by decide +kernel
theorem dJ2_getChar_3b067_42 : decode cJ2_getChar_3b067 42 = .ok (.getstatic 59, 3) := by decide +kernel
theorem dJ2_getChar_3b067_45 : decode cJ2_getChar_3b067 45 = .ok (.ishl, 1) := by decide +kernel
theorem dJ2_getChar_3b067_46 : decode cJ2_getChar_3b067 46 = .ok (.aload_n 0, 1) := by decide +kernel
theorem dJ2_getChar_3b067_47 : decode cJ2_getChar_3b067 47 = .ok (.iload_n 1, 1) := by decide +kernel
theorem dJ2_getChar_3b067_48 : decode cJ2_getChar_3b067 48 = .ok (.baload, 1) := by decide +kernel
theorem dJ2_getChar_3b067_49 : decode cJ2_getChar_3b067 49 = .ok (.sipush 255, 3) := by decide +kernel
theorem dJ2_getChar_3b067_52 : decode cJ2_getChar_3b067 52 = .ok (.iand, 1) := by decide +kernel
theorem dJ2_getChar_3b067_53 : decode cJ2_getChar_3b067 53 = .ok (.getstatic 63, 3) := by decide +kernel
theorem dJ2_getChar_3b067_56 : decode cJ2_getChar_3b067 56 = .ok (.ishl, 1) := by decide +kernel
theorem dJ2_getChar_3b067_57 : decode cJ2_getChar_3b067 57 = .ok (.ior, 1) := by decide +kernel
theorem dJ2_getChar_3b067_58 : decode cJ2_getChar_3b067 58 = .ok (.i2c, 1) := by decide +kernel
theorem dJ2_getChar_3b067_59 : decode cJ2_getChar_3b067 59 = .ok (.ireturn, 1) := by decide +kernel
theorem dJ2_length_9d52b_0 : decode cJ2_length_9d52b 0 = .ok (.aload_n 0, 1) := by decide +kernel
theorem dJ2_length_9d52b_1 : decode cJ2_length_9d52b 1 = .ok (.arraylength, 1) := by decide +kernel
theorem dJ2_length_9d52b_2 : decode cJ2_length_9d52b 2 = .ok (.iconst 1, 1) := by decide +kernel
theorem dJ2_length_9d52b_3 : decode cJ2_length_9d52b 3 = .ok (.ishr, 1) := by decide +kernel
theorem dJ2_length_9d52b_4 : decode cJ2_length_9d52b 4 = .ok (.ireturn, 1) := by decide +kernel
theorem dJ2_charAt_3b067_0 : decode cJ2_charAt_3b067 0 = .ok (.iload_n 1, 1) := by decide +kernel
theorem dJ2_charAt_3b067_1 : decode cJ2_charAt_3b067 1 = .ok (.aload_n 0, 1) := by decide +kernel
theorem dJ2_charAt_3b067_2 : decode cJ2_charAt_3b067 2 = .ok (.invokestatic 67, 3) := by decide +kernel
theorem dJ2_charAt_3b067_5 : decode cJ2_charAt_3b067 5 = .ok (.aload_n 0, 1) := by decide +kernel
theorem dJ2_charAt_3b067_6 : decode cJ2_charAt_3b067 6 = .ok (.iload_n 1, 1) := by decide +kernel
theorem dJ2_charAt_3b067_7 : decode cJ2_charAt_3b067 7 = .ok (.invokestatic 71, 3) := by decide +kernel
theorem dJ2_charAt_3b067_10 : decode cJ2_charAt_3b067 10 = .ok (.ireturn, 1) := by decide +kernel
theorem dJ2_checkIndex_2214a_0 : decode cJ2_checkIndex_2214a 0 = .ok (.iload_n 0, 1) := by decide +kernel
theorem dJ2_checkIndex_2214a_1 : decode cJ2_checkIndex_2214a 1 = .ok (.aload_n 1, 1) := by decide +kernel
theorem dJ2_checkIndex_2214a_2 : decode cJ2_checkIndex_2214a 2 = .ok (.invokestatic 48, 3) := by decide +kernel
theorem dJ2_checkIndex_2214a_5 : decode cJ2_checkIndex_2214a 5 = .ok (.invokestatic 414, 3) := by decide +kernel
theorem dJ2_checkIndex_2214a_8 : decode cJ2_checkIndex_2214a 8 = .ok (.return_, 1) := by decide +kernel
theorem dJ3_checkIndex_8e157_0 : decode cJ3_checkIndex_8e157 0 = .ok (.iload_n 0, 1) := by decide +kernel
theorem dJ3_checkIndex_8e157_1 : decode cJ3_checkIndex_8e157 1 = .ok (.ifCond .lt 8, 3) := by decide +kernel
theorem dJ3_checkIndex_8e157_4 : decode cJ3_checkIndex_8e157 4 = .ok (.iload_n 0, 1) := by decide +kernel
theorem dJ3_checkIndex_8e157_5 : decode cJ3_checkIndex_8e157 5 = .ok (.iload_n 1, 1) := by decide +kernel
theorem dJ3_checkIndex_8e157_6 : decode cJ3_checkIndex_8e157 6 = .ok (.if_icmp .lt 10, 3) := by decide +kernel
theorem dJ3_checkIndex_8e157_9 : decode cJ3_checkIndex_8e157 9 = .ok (.aload_n 2, 1) := by decide +kernel
theorem dJ3_checkIndex_8e157_10 : decode cJ3_checkIndex_8e157 10 = .ok (.iload_n 0, 1) := by decide +kernel
theorem dJ3_checkIndex_8e157_11 : decode cJ3_checkIndex_8e157 11 = .ok (.iload_n 1, 1) := by decide +kernel
theorem dJ3_checkIndex_8e157_12 : decode cJ3_checkIndex_8e157 12 = .ok (.invokestatic 95, 3) := by decide +kernel
theorem dJ3_checkIndex_8e157_15 : decode cJ3_checkIndex_8e157 15 = .ok (.athrow, 1) := by decide +kernel
theorem dJ3_checkIndex_8e157_16 : decode cJ3_checkIndex_8e157 16 = .ok (.iload_n 0, 1) := by decide +kernel
theorem dJ3_checkIndex_8e157_17 : decode cJ3_checkIndex_8e157 17 = .ok (.ireturn, 1) := by decide +kernel
theorem dL_read_0 : decode cL_read 0 = .ok (.aload_n 1, 1) := by decide +kernel
theorem dL_read_1 : decode cL_read 1 = .ok (.iconst 0, 1) := by decide +kernel
theorem dL_read_2 : decode cL_read 2 = .ok (.aload_n 0, 1) := by decide +kernel
theorem dL_read_3 : decode cL_read 3 = .ok (.invokevirtual 7, 3) := by decide +kernel
theorem dL_read_6 : decode cL_read 6 = .ok (.i2l, 1) := by decide +kernel
theorem dL_read_7 : decode cL_read 7 = .ok (.lastore, 1) := by decide +kernel
theorem dL_read_8 : decode cL_read 8 = .ok (.goto 6, 3) := by decide +kernel
theorem dL_read_11 : decode cL_read 11 = .ok (.astore_n 2, 1) := by decide +kernel
theorem dL_read_12 : decode cL_read 12 = .ok (.iconst 1, 1) := by decide +kernel
theorem dL_read_13 : decode cL_read 13 = .ok (.ireturn, 1) := by decide +kernel
theorem dL_read_14 : decode cL_read 14 = .ok (.iconst 0, 1) := by decide +kernel
theorem dL_read_15 : decode cL_read 15 = .ok (.ireturn, 1) := by decide +kernel
theorem dL_pipe_0 : decode cL_pipe 0 = .ok (.aload 4, 2) := by decide +kernel
theorem dL_pipe_2 : decode cL_pipe 2 = .ok (.iconst 0, 1) := by decide +kernel
theorem dL_pipe_3 : decode cL_pipe 3 = .ok (.aload_n 0, 1) := by decide +kernel
theorem dL_pipe_4 : decode cL_pipe 4 = .ok (.iload_n 1, 1) := by decide +kernel
theorem dL_pipe_5 : decode cL_pipe 5 = .ok (.iload_n 2, 1) := by decide +kernel
theorem dL_pipe_6 : decode cL_pipe 6 = .ok (.iload_n 3, 1) := by decide +kernel
theorem dL_pipe_7 : decode cL_pipe 7 = .ok (.invokevirtual 15, 3) := by decide +kernel
theorem dL_pipe_10 : decode cL_pipe 10 = .ok (.i2l, 1) := by decide +kernel
theorem dL_pipe_11 : decode cL_pipe 11 = .ok (.lastore, 1) := by decide +kernel
theorem dL_pipe_12 : decode cL_pipe 12 = .ok (.goto 7, 3) := by decide +kernel
theorem dL_pipe_15 : decode cL_pipe 15 = .ok (.astore 5, 2) := by decide +kernel
theorem dL_pipe_17 : decode cL_pipe 17 = .ok (.iconst 1, 1) := by decide +kernel
theorem dL_pipe_18 : decode cL_pipe 18 = .ok (.ireturn, 1) := by decide +kernel
theorem dL_pipe_19 : decode cL_pipe 19 = .ok (.iconst 0, 1) := by decide +kernel
theorem dL_pipe_20 : decode cL_pipe 20 = .ok (.ireturn, 1) := by decide +kernel
theorem dL_stone_0 : decode cL_stone 0 = .ok (.aload_n 3, 1) := by decide +kernel
theorem dL_stone_1 : decode cL_stone 1 = .ok (.iconst 0, 1) := by decide +kernel
theorem dL_stone_2 : decode cL_stone 2 = .ok (.aload_n 0, 1) := by decide +kernel
theorem dL_stone_3 : decode cL_stone 3 = .ok (.iload_n 1, 1) := by decide +kernel
theorem dL_stone_4 : decode cL_stone 4 = .ok (.iload_n 2, 1) := by decide +kernel
theorem dL_stone_5 : decode cL_stone 5 = .ok (.invokevirtual 21, 3) := by decide +kernel
theorem dL_stone_8 : decode cL_stone 8 = .ok (.ifCond .eq 7, 3) := by decide +kernel
theorem dL_stone_11 : decode cL_stone 11 = .ok (.lconst 1, 1) := by decide +kernel
theorem dL_stone_12 : decode cL_stone 12 = .ok (.goto 4, 3) := by decide +kernel
theorem dL_stone_15 : decode cL_stone 15 = .ok (.lconst 0, 1) := by decide +kernel
theorem dL_stone_16 : decode cL_stone 16 = .ok (.lastore, 1) := by decide +kernel
theorem dL_stone_17 : decode cL_stone 17 = .ok (.goto 7, 3) := by decide +kernel
theorem dL_stone_20 : decode cL_stone 20 = .ok (.astore 4, 2) := by decide +kernel
theorem dL_stone_22 : decode cL_stone 22 = .ok (.iconst 1, 1) := by decide +kernel
theorem dL_stone_23 : decode cL_stone 23 = .ok (.ireturn, 1) := by decide +kernel
theorem dL_stone_24 : decode cL_stone 24 = .ok (.iconst 0, 1) := by decide +kernel
theorem dL_stone_25 : decode cL_stone 25 = .ok (.ireturn, 1) := by decide +kernel
theorem dL_tell_0 : decode cL_tell 0 = .ok (.aload 5, 2) := by decide +kernel
theorem dL_tell_2 : decode cL_tell 2 = .ok (.iconst 0, 1) := by decide +kernel
theorem dL_tell_3 : decode cL_tell 3 = .ok (.aload_n 0, 1) := by decide +kernel
theorem dL_tell_4 : decode cL_tell 4 = .ok (.iload_n 1, 1) := by decide +kernel
theorem dL_tell_5 : decode cL_tell 5 = .ok (.iload_n 2, 1) := by decide +kernel
theorem dL_tell_6 : decode cL_tell 6 = .ok (.iload_n 3, 1) := by decide +kernel
theorem dL_tell_7 : decode cL_tell 7 = .ok (.iload 4, 2) := by decide +kernel
theorem dL_tell_9 : decode cL_tell 9 = .ok (.invokevirtual 25, 3) := by decide +kernel
theorem dL_tell_12 : decode cL_tell 12 = .ok (.i2l, 1) := by decide +kernel
theorem dL_tell_13 : decode cL_tell 13 = .ok (.lastore, 1) := by decide +kernel
theorem dL_tell_14 : decode cL_tell 14 = .ok (.goto 15, 3) := by decide +kernel
theorem dL_tell_17 : decode cL_tell 17 = .ok (.astore 6, 2) := by decide +kernel
theorem dL_tell_19 : decode cL_tell 19 = .ok (.iconst 1, 1) := by decide +kernel
theorem dL_tell_20 : decode cL_tell 20 = .ok (.ireturn, 1) := by decide +kernel
theorem dL_tell_21 : decode cL_tell 21 = .ok (.astore 6, 2) := by decide +kernel
theorem dL_tell_23 : decode cL_tell 23 = .ok (.iconst 2, 1) := by decide +kernel
theorem dL_tell_24 : decode cL_tell 24 = .ok (.ireturn, 1) := by decide +kernel
theorem dL_tell_25 : decode cL_tell 25 = .ok (.astore 6, 2) := by decide +kernel
theorem dL_tell_27 : decode cL_tell 27 = .ok (.iconst 3, 1) := by decide +kernel
theorem dL_tell_28 : decode cL_tell 28 = .ok (.ireturn, 1) := by decide +kernel
theorem dL_tell_29 : decode cL_tell 29 = .ok (.iconst 0, 1) := by decide +kernel
theorem dL_tell_30 : decode cL_tell 30 = .ok (.ireturn, 1) := by decide +kernel
theorem dL_put_0 : decode cL_put 0 = .ok (.aload 4, 2) := by decide +kernel
theorem dL_put_2 : decode cL_put 2 = .ok (.iconst 0, 1) := by decide +kernel
theorem dL_put_3 : decode cL_put 3 = .ok (.aload_n 0, 1) := by decide +kernel
theorem dL_put_4 : decode cL_put 4 = .ok (.iload_n 1, 1) := by decide +kernel
theorem dL_put_5 : decode cL_put 5 = .ok (.iload_n 2, 1) := by decide +kernel
theorem dL_put_6 : decode cL_put 6 = .ok (.iload_n 3, 1) := by decide +kernel
theorem dL_put_7 : decode cL_put 7 = .ok (.invokevirtual 31, 3) := by decide +kernel
theorem dL_put_10 : decode cL_put 10 = .ok (.ifCond .eq 7, 3) := by decide +kernel
theorem dL_put_13 : decode cL_put 13 = .ok (.lconst 1, 1) := by decide +kernel
theorem dL_put_14 : decode cL_put 14 = .ok (.goto 4, 3) := by decide +kernel
theorem dL_put_17 : decode cL_put 17 = .ok (.lconst 0, 1) := by decide +kernel
theorem dL_put_18 : decode cL_put 18 = .ok (.lastore, 1) := by decide +kernel
theorem dL_put_19 : decode cL_put 19 = .ok (.goto 11, 3) := by decide +kernel
theorem dL_put_22 : decode cL_put 22 = .ok (.astore 5, 2) := by decide +kernel
theorem dL_put_24 : decode cL_put 24 = .ok (.iconst 1, 1) := by decide +kernel
theorem dL_put_25 : decode cL_put 25 = .ok (.ireturn, 1) := by decide +kernel
theorem dL_put_26 : decode cL_put 26 = .ok (.astore 5, 2) := by decide +kernel
theorem dL_put_28 : decode cL_put 28 = .ok (.iconst 2, 1) := by decide +kernel
theorem dL_put_29 : decode cL_put 29 = .ok (.ireturn, 1) := by decide +kernel
theorem dL_put_30 : decode cL_put 30 = .ok (.iconst 0, 1) := by decide +kernel
theorem dL_put_31 : decode cL_put 31 = .ok (.ireturn, 1) := by decide +kernel
theorem dL_turn_0 : decode cL_turn 0 = .ok (.aload_n 0, 1) := by decide +kernel
theorem dL_turn_1 : decode cL_turn 1 = .ok (.iload_n 1, 1) := by decide +kernel
theorem dL_turn_2 : decode cL_turn 2 = .ok (.invokevirtual 35, 3) := by decide +kernel
theorem dL_turn_5 : decode cL_turn 5 = .ok (.goto 6, 3) := by decide +kernel
theorem dL_turn_8 : decode cL_turn 8 = .ok (.astore_n 2, 1) := by decide +kernel
theorem dL_turn_9 : decode cL_turn 9 = .ok (.iconst 1, 1) := by decide +kernel
theorem dL_turn_10 : decode cL_turn 10 = .ok (.ireturn, 1) := by decide +kernel
theorem dL_turn_11 : decode cL_turn 11 = .ok (.iconst 0, 1) := by decide +kernel
theorem dL_turn_12 : decode cL_turn 12 = .ok (.ireturn, 1) := by decide +kernel
theorem dL_drain_0 : decode cL_drain 0 = .ok (.aload 4, 2) := by decide +kernel
theorem dL_drain_2 : decode cL_drain 2 = .ok (.iconst 0, 1) := by decide +kernel
theorem dL_drain_3 : decode cL_drain 3 = .ok (.aload_n 0, 1) := by decide +kernel
theorem dL_drain_4 : decode cL_drain 4 = .ok (.iload_n 1, 1) := by decide +kernel
theorem dL_drain_5 : decode cL_drain 5 = .ok (.iload_n 2, 1) := by decide +kernel
theorem dL_drain_6 : decode cL_drain 6 = .ok (.iload_n 3, 1) := by decide +kernel
theorem dL_drain_7 : decode cL_drain 7 = .ok (.invokevirtual 39, 3) := by decide +kernel
theorem dL_drain_10 : decode cL_drain 10 = .ok (.ifCond .eq 7, 3) := by decide +kernel
theorem dL_drain_13 : decode cL_drain 13 = .ok (.lconst 1, 1) := by decide +kernel
theorem dL_drain_14 : decode cL_drain 14 = .ok (.goto 4, 3) := by decide +kernel
theorem dL_drain_17 : decode cL_drain 17 = .ok (.lconst 0, 1) := by decide +kernel
theorem dL_drain_18 : decode cL_drain 18 = .ok (.lastore, 1) := by decide +kernel
theorem dL_drain_19 : decode cL_drain 19 = .ok (.goto 7, 3) := by decide +kernel
theorem dL_drain_22 : decode cL_drain 22 = .ok (.astore 5, 2) := by decide +kernel
theorem dL_drain_24 : decode cL_drain 24 = .ok (.iconst 1, 1) := by decide +kernel
theorem dL_drain_25 : decode cL_drain 25 = .ok (.ireturn, 1) := by decide +kernel
theorem dL_drain_26 : decode cL_drain 26 = .ok (.iconst 0, 1) := by decide +kernel
theorem dL_drain_27 : decode cL_drain 27 = .ok (.ireturn, 1) := by decide +kernel
theorem dL_states_0 : decode cL_states 0 = .ok (.aload_n 2, 1) := by decide +kernel
theorem dL_states_1 : decode cL_states 1 = .ok (.iconst 0, 1) := by decide +kernel
theorem dL_states_2 : decode cL_states 2 = .ok (.aload_n 0, 1) := by decide +kernel
theorem dL_states_3 : decode cL_states 3 = .ok (.iload_n 1, 1) := by decide +kernel
theorem dL_states_4 : decode cL_states 4 = .ok (.invokevirtual 43, 3) := by decide +kernel
theorem dL_states_7 : decode cL_states 7 = .ok (.i2l, 1) := by decide +kernel
theorem dL_states_8 : decode cL_states 8 = .ok (.lastore, 1) := by decide +kernel
theorem dL_states_9 : decode cL_states 9 = .ok (.goto 6, 3) := by decide +kernel
theorem dL_states_12 : decode cL_states 12 = .ok (.astore_n 3, 1) := by decide +kernel
theorem dL_states_13 : decode cL_states 13 = .ok (.iconst 1, 1) := by decide +kernel
theorem dL_states_14 : decode cL_states 14 = .ok (.ireturn, 1) := by decide +kernel
theorem dL_states_15 : decode cL_states 15 = .ok (.iconst 0, 1) := by decide +kernel
theorem dL_states_16 : decode cL_states 16 = .ok (.ireturn, 1) := by decide +kernel
theorem dL_state_0 : decode cL_state 0 = .ok (.aload 4, 2) := by decide +kernel
theorem dL_state_2 : decode cL_state 2 = .ok (.iconst 0, 1) := by decide +kernel
theorem dL_state_3 : decode cL_state 3 = .ok (.aload_n 0, 1) := by decide +kernel
theorem dL_state_4 : decode cL_state 4 = .ok (.iload_n 1, 1) := by decide +kernel
theorem dL_state_5 : decode cL_state 5 = .ok (.iload_n 2, 1) := by decide +kernel
theorem dL_state_6 : decode cL_state 6 = .ok (.iload_n 3, 1) := by decide +kernel
theorem dL_state_7 : decode cL_state 7 = .ok (.invokevirtual 47, 3) := by decide +kernel
theorem dL_state_10 : decode cL_state 10 = .ok (.i2l, 1) := by decide +kernel
theorem dL_state_11 : decode cL_state 11 = .ok (.lastore, 1) := by decide +kernel
theorem dL_state_12 : decode cL_state 12 = .ok (.goto 11, 3) := by decide +kernel
theorem dL_state_15 : decode cL_state 15 = .ok (.astore 5, 2) := by decide +kernel
theorem dL_state_17 : decode cL_state 17 = .ok (.iconst 1, 1) := by decide +kernel
theorem dL_state_18 : decode cL_state 18 = .ok (.ireturn, 1) := by decide +kernel
theorem dL_state_19 : decode cL_state 19 = .ok (.astore 5, 2) := by decide +kernel
theorem dL_state_21 : decode cL_state 21 = .ok (.iconst 2, 1) := by decide +kernel
theorem dL_state_22 : decode cL_state 22 = .ok (.ireturn, 1) := by decide +kernel
theorem dL_state_23 : decode cL_state 23 = .ok (.iconst 0, 1) := by decide +kernel
theorem dL_state_24 : decode cL_state 24 = .ok (.ireturn, 1) := by decide +kernel
theorem dL_ways_0 : decode cL_ways 0 = .ok (.aload 4, 2) := by decide +kernel
theorem dL_ways_2 : decode cL_ways 2 = .ok (.iconst 0, 1) := by decide +kernel
theorem dL_ways_3 : decode cL_ways 3 = .ok (.aload_n 0, 1) := by decide +kernel
theorem dL_ways_4 : decode cL_ways 4 = .ok (.iload_n 1, 1) := by decide +kernel
theorem dL_ways_5 : decode cL_ways 5 = .ok (.iload_n 2, 1) := by decide +kernel
theorem dL_ways_6 : decode cL_ways 6 = .ok (.iload_n 3, 1) := by decide +kernel
theorem dL_ways_7 : decode cL_ways 7 = .ok (.invokevirtual 53, 3) := by decide +kernel
theorem dL_ways_10 : decode cL_ways 10 = .ok (.lastore, 1) := by decide +kernel
theorem dL_ways_11 : decode cL_ways 11 = .ok (.goto 11, 3) := by decide +kernel
theorem dL_ways_14 : decode cL_ways 14 = .ok (.astore 5, 2) := by decide +kernel
theorem dL_ways_16 : decode cL_ways 16 = .ok (.iconst 1, 1) := by decide +kernel
theorem dL_ways_17 : decode cL_ways 17 = .ok (.ireturn, 1) := by decide +kernel
theorem dL_ways_18 : decode cL_ways 18 = .ok (.astore 5, 2) := by decide +kernel
theorem dL_ways_20 : decode cL_ways 20 = .ok (.iconst 2, 1) := by decide +kernel
theorem dL_ways_21 : decode cL_ways 21 = .ok (.ireturn, 1) := by decide +kernel
theorem dL_ways_22 : decode cL_ways 22 = .ok (.iconst 0, 1) := by decide +kernel
theorem dL_ways_23 : decode cL_ways 23 = .ok (.ireturn, 1) := by decide +kernel
theorem dL_wet_0 : decode cL_wet 0 = .ok (.aload_n 3, 1) := by decide +kernel
theorem dL_wet_1 : decode cL_wet 1 = .ok (.iconst 0, 1) := by decide +kernel
theorem dL_wet_2 : decode cL_wet 2 = .ok (.aload_n 0, 1) := by decide +kernel
theorem dL_wet_3 : decode cL_wet 3 = .ok (.iload_n 1, 1) := by decide +kernel
theorem dL_wet_4 : decode cL_wet 4 = .ok (.iload_n 2, 1) := by decide +kernel
theorem dL_wet_5 : decode cL_wet 5 = .ok (.invokevirtual 57, 3) := by decide +kernel
theorem dL_wet_8 : decode cL_wet 8 = .ok (.lastore, 1) := by decide +kernel
theorem dL_wet_9 : decode cL_wet 9 = .ok (.goto 7, 3) := by decide +kernel
theorem dL_wet_12 : decode cL_wet 12 = .ok (.astore 4, 2) := by decide +kernel
theorem dL_wet_14 : decode cL_wet 14 = .ok (.iconst 1, 1) := by decide +kernel
theorem dL_wet_15 : decode cL_wet 15 = .ok (.ireturn, 1) := by decide +kernel
theorem dL_wet_16 : decode cL_wet 16 = .ok (.iconst 0, 1) := by decide +kernel
theorem dL_wet_17 : decode cL_wet 17 = .ok (.ireturn, 1) := by decide +kernel
theorem dL_reaches_0 : decode cL_reaches 0 = .ok (.aload_n 3, 1) := by decide +kernel
theorem dL_reaches_1 : decode cL_reaches 1 = .ok (.iconst 0, 1) := by decide +kernel
theorem dL_reaches_2 : decode cL_reaches 2 = .ok (.aload_n 0, 1) := by decide +kernel
theorem dL_reaches_3 : decode cL_reaches 3 = .ok (.iload_n 1, 1) := by decide +kernel
theorem dL_reaches_4 : decode cL_reaches 4 = .ok (.iload_n 2, 1) := by decide +kernel
theorem dL_reaches_5 : decode cL_reaches 5 = .ok (.invokevirtual 61, 3) := by decide +kernel
theorem dL_reaches_8 : decode cL_reaches 8 = .ok (.lastore, 1) := by decide +kernel
theorem dL_reaches_9 : decode cL_reaches 9 = .ok (.goto 7, 3) := by decide +kernel
theorem dL_reaches_12 : decode cL_reaches 12 = .ok (.astore 4, 2) := by decide +kernel
theorem dL_reaches_14 : decode cL_reaches 14 = .ok (.iconst 1, 1) := by decide +kernel
theorem dL_reaches_15 : decode cL_reaches 15 = .ok (.ireturn, 1) := by decide +kernel
theorem dL_reaches_16 : decode cL_reaches 16 = .ok (.iconst 0, 1) := by decide +kernel
theorem dL_reaches_17 : decode cL_reaches 17 = .ok (.ireturn, 1) := by decide +kernel
theorem dL_parted_0 : decode cL_parted 0 = .ok (.aload_n 3, 1) := by decide +kernel
theorem dL_parted_1 : decode cL_parted 1 = .ok (.iconst 0, 1) := by decide +kernel
theorem dL_parted_2 : decode cL_parted 2 = .ok (.aload_n 0, 1) := by decide +kernel
theorem dL_parted_3 : decode cL_parted 3 = .ok (.iload_n 1, 1) := by decide +kernel
theorem dL_parted_4 : decode cL_parted 4 = .ok (.iload_n 2, 1) := by decide +kernel
theorem dL_parted_5 : decode cL_parted 5 = .ok (.invokevirtual 64, 3) := by decide +kernel
theorem dL_parted_8 : decode cL_parted 8 = .ok (.lastore, 1) := by decide +kernel
theorem dL_parted_9 : decode cL_parted 9 = .ok (.goto 7, 3) := by decide +kernel
theorem dL_parted_12 : decode cL_parted 12 = .ok (.astore 4, 2) := by decide +kernel
theorem dL_parted_14 : decode cL_parted 14 = .ok (.iconst 1, 1) := by decide +kernel
theorem dL_parted_15 : decode cL_parted 15 = .ok (.ireturn, 1) := by decide +kernel
theorem dL_parted_16 : decode cL_parted 16 = .ok (.iconst 0, 1) := by decide +kernel
theorem dL_parted_17 : decode cL_parted 17 = .ok (.ireturn, 1) := by decide +kernel
theorem dL_pair_0 : decode cL_pair 0 = .ok (.aload 4, 2) := by decide +kernel
theorem dL_pair_2 : decode cL_pair 2 = .ok (.iconst 0, 1) := by decide +kernel
theorem dL_pair_3 : decode cL_pair 3 = .ok (.aload_n 0, 1) := by decide +kernel
theorem dL_pair_4 : decode cL_pair 4 = .ok (.iload_n 1, 1) := by decide +kernel
theorem dL_pair_5 : decode cL_pair 5 = .ok (.iload_n 2, 1) := by decide +kernel
theorem dL_pair_6 : decode cL_pair 6 = .ok (.iload_n 3, 1) := by decide +kernel
theorem dL_pair_7 : decode cL_pair 7 = .ok (.invokevirtual 67, 3) := by decide +kernel
theorem dL_pair_10 : decode cL_pair 10 = .ok (.lastore, 1) := by decide +kernel
theorem dL_pair_11 : decode cL_pair 11 = .ok (.goto 7, 3) := by decide +kernel
theorem dL_pair_14 : decode cL_pair 14 = .ok (.astore 5, 2) := by decide +kernel
theorem dL_pair_16 : decode cL_pair 16 = .ok (.iconst 1, 1) := by decide +kernel
theorem dL_pair_17 : decode cL_pair 17 = .ok (.ireturn, 1) := by decide +kernel
theorem dL_pair_18 : decode cL_pair 18 = .ok (.iconst 0, 1) := by decide +kernel
theorem dL_pair_19 : decode cL_pair 19 = .ok (.ireturn, 1) := by decide +kernel
theorem dL_tried_0 : decode cL_tried 0 = .ok (.aload_n 3, 1) := by decide +kernel
theorem dL_tried_1 : decode cL_tried 1 = .ok (.iconst 0, 1) := by decide +kernel
theorem dL_tried_2 : decode cL_tried 2 = .ok (.aload_n 0, 1) := by decide +kernel
theorem dL_tried_3 : decode cL_tried 3 = .ok (.iload_n 1, 1) := by decide +kernel
theorem dL_tried_4 : decode cL_tried 4 = .ok (.iload_n 2, 1) := by decide +kernel
theorem dL_tried_5 : decode cL_tried 5 = .ok (.invokevirtual 70, 3) := by decide +kernel
theorem dL_tried_8 : decode cL_tried 8 = .ok (.i2l, 1) := by decide +kernel
theorem dL_tried_9 : decode cL_tried 9 = .ok (.lastore, 1) := by decide +kernel
theorem dL_tried_10 : decode cL_tried 10 = .ok (.goto 7, 3) := by decide +kernel
theorem dL_tried_13 : decode cL_tried 13 = .ok (.astore 4, 2) := by decide +kernel
theorem dL_tried_15 : decode cL_tried 15 = .ok (.iconst 1, 1) := by decide +kernel
theorem dL_tried_16 : decode cL_tried 16 = .ok (.ireturn, 1) := by decide +kernel
theorem dL_tried_17 : decode cL_tried 17 = .ok (.iconst 0, 1) := by decide +kernel
theorem dL_tried_18 : decode cL_tried 18 = .ok (.ireturn, 1) := by decide +kernel
theorem dL_just_0 : decode cL_just 0 = .ok (.aload_n 2, 1) := by decide +kernel
theorem dL_just_1 : decode cL_just 1 = .ok (.iconst 0, 1) := by decide +kernel
theorem dL_just_2 : decode cL_just 2 = .ok (.aload_n 0, 1) := by decide +kernel
theorem dL_just_3 : decode cL_just 3 = .ok (.iload_n 1, 1) := by decide +kernel
theorem dL_just_4 : decode cL_just 4 = .ok (.invokevirtual 74, 3) := by decide +kernel
theorem dL_just_7 : decode cL_just 7 = .ok (.i2l, 1) := by decide +kernel
theorem dL_just_8 : decode cL_just 8 = .ok (.lastore, 1) := by decide +kernel
theorem dL_just_9 : decode cL_just 9 = .ok (.goto 6, 3) := by decide +kernel
theorem dL_just_12 : decode cL_just 12 = .ok (.astore_n 3, 1) := by decide +kernel
theorem dL_just_13 : decode cL_just 13 = .ok (.iconst 1, 1) := by decide +kernel
theorem dL_just_14 : decode cL_just 14 = .ok (.ireturn, 1) := by decide +kernel
theorem dL_just_15 : decode cL_just 15 = .ok (.iconst 0, 1) := by decide +kernel
theorem dL_just_16 : decode cL_just 16 = .ok (.ireturn, 1) := by decide +kernel
theorem dL_likeliest_0 : decode cL_likeliest 0 = .ok (.aload_n 3, 1) := by decide +kernel
theorem dL_likeliest_1 : decode cL_likeliest 1 = .ok (.iconst 0, 1) := by decide +kernel
theorem dL_likeliest_2 : decode cL_likeliest 2 = .ok (.aload_n 0, 1) := by decide +kernel
theorem dL_likeliest_3 : decode cL_likeliest 3 = .ok (.iload_n 1, 1) := by decide +kernel
theorem dL_likeliest_4 : decode cL_likeliest 4 = .ok (.iload_n 2, 1) := by decide +kernel
theorem dL_likeliest_5 : decode cL_likeliest 5 = .ok (.invokevirtual 77, 3) := by decide +kernel
theorem dL_likeliest_8 : decode cL_likeliest 8 = .ok (.lastore, 1) := by decide +kernel
theorem dL_likeliest_9 : decode cL_likeliest 9 = .ok (.goto 7, 3) := by decide +kernel
theorem dL_likeliest_12 : decode cL_likeliest 12 = .ok (.astore 4, 2) := by decide +kernel
theorem dL_likeliest_14 : decode cL_likeliest 14 = .ok (.iconst 1, 1) := by decide +kernel
theorem dL_likeliest_15 : decode cL_likeliest 15 = .ok (.ireturn, 1) := by decide +kernel
theorem dL_likeliest_16 : decode cL_likeliest 16 = .ok (.iconst 0, 1) := by decide +kernel
theorem dL_likeliest_17 : decode cL_likeliest 17 = .ok (.ireturn, 1) := by decide +kernel
theorem dL_between_0 : decode cL_between 0 = .ok (.aload 4, 2) := by decide +kernel
theorem dL_between_2 : decode cL_between 2 = .ok (.iconst 0, 1) := by decide +kernel
theorem dL_between_3 : decode cL_between 3 = .ok (.aload_n 0, 1) := by decide +kernel
theorem dL_between_4 : decode cL_between 4 = .ok (.iload_n 1, 1) := by decide +kernel
theorem dL_between_5 : decode cL_between 5 = .ok (.iload_n 2, 1) := by decide +kernel
theorem dL_between_6 : decode cL_between 6 = .ok (.iload_n 3, 1) := by decide +kernel
theorem dL_between_7 : decode cL_between 7 = .ok (.invokevirtual 81, 3) := by decide +kernel
theorem dL_between_10 : decode cL_between 10 = .ok (.i2l, 1) := by decide +kernel
theorem dL_between_11 : decode cL_between 11 = .ok (.lastore, 1) := by decide +kernel
theorem dL_between_12 : decode cL_between 12 = .ok (.goto 7, 3) := by decide +kernel
theorem dL_between_15 : decode cL_between 15 = .ok (.astore 5, 2) := by decide +kernel
theorem dL_between_17 : decode cL_between 17 = .ok (.iconst 1, 1) := by decide +kernel
theorem dL_between_18 : decode cL_between 18 = .ok (.ireturn, 1) := by decide +kernel
theorem dL_between_19 : decode cL_between 19 = .ok (.iconst 0, 1) := by decide +kernel
theorem dL_between_20 : decode cL_between 20 = .ok (.ireturn, 1) := by decide +kernel
theorem dL_value_0 : decode cL_value 0 = .ok (.aload 4, 2) := by decide +kernel
theorem dL_value_2 : decode cL_value 2 = .ok (.iconst 0, 1) := by decide +kernel
theorem dL_value_3 : decode cL_value 3 = .ok (.aload_n 0, 1) := by decide +kernel
theorem dL_value_4 : decode cL_value 4 = .ok (.iload_n 1, 1) := by decide +kernel
theorem dL_value_5 : decode cL_value 5 = .ok (.iload_n 2, 1) := by decide +kernel
theorem dL_value_6 : decode cL_value 6 = .ok (.iload_n 3, 1) := by decide +kernel
theorem dL_value_7 : decode cL_value 7 = .ok (.invokevirtual 84, 3) := by decide +kernel
theorem dL_value_10 : decode cL_value 10 = .ok (.lastore, 1) := by decide +kernel
theorem dL_value_11 : decode cL_value 11 = .ok (.goto 7, 3) := by decide +kernel
theorem dL_value_14 : decode cL_value 14 = .ok (.astore 5, 2) := by decide +kernel
theorem dL_value_16 : decode cL_value 16 = .ok (.iconst 1, 1) := by decide +kernel
theorem dL_value_17 : decode cL_value 17 = .ok (.ireturn, 1) := by decide +kernel
theorem dL_value_18 : decode cL_value 18 = .ok (.iconst 0, 1) := by decide +kernel
theorem dL_value_19 : decode cL_value 19 = .ok (.ireturn, 1) := by decide +kernel
theorem dL_barred_0 : decode cL_barred 0 = .ok (.aload 4, 2) := by decide +kernel
theorem dL_barred_2 : decode cL_barred 2 = .ok (.iconst 0, 1) := by decide +kernel
theorem dL_barred_3 : decode cL_barred 3 = .ok (.aload_n 0, 1) := by decide +kernel
theorem dL_barred_4 : decode cL_barred 4 = .ok (.iload_n 1, 1) := by decide +kernel
theorem dL_barred_5 : decode cL_barred 5 = .ok (.iload_n 2, 1) := by decide +kernel
theorem dL_barred_6 : decode cL_barred 6 = .ok (.iload_n 3, 1) := by decide +kernel
theorem dL_barred_7 : decode cL_barred 7 = .ok (.invokevirtual 88, 3) := by decide +kernel
theorem dL_barred_10 : decode cL_barred 10 = .ok (.lastore, 1) := by decide +kernel
theorem dL_barred_11 : decode cL_barred 11 = .ok (.goto 7, 3) := by decide +kernel
theorem dL_barred_14 : decode cL_barred 14 = .ok (.astore 5, 2) := by decide +kernel
theorem dL_barred_16 : decode cL_barred 16 = .ok (.iconst 1, 1) := by decide +kernel
theorem dL_barred_17 : decode cL_barred 17 = .ok (.ireturn, 1) := by decide +kernel
theorem dL_barred_18 : decode cL_barred 18 = .ok (.iconst 0, 1) := by decide +kernel
theorem dL_barred_19 : decode cL_barred 19 = .ok (.ireturn, 1) := by decide +kernel
theorem dL_would_0 : decode cL_would 0 = .ok (.aload 8, 2) := by decide +kernel
theorem dL_would_2 : decode cL_would 2 = .ok (.iconst 0, 1) := by decide +kernel
theorem dL_would_3 : decode cL_would 3 = .ok (.aload_n 0, 1) := by decide +kernel
theorem dL_would_4 : decode cL_would 4 = .ok (.iload_n 1, 1) := by decide +kernel
theorem dL_would_5 : decode cL_would 5 = .ok (.iload_n 2, 1) := by decide +kernel
theorem dL_would_6 : decode cL_would 6 = .ok (.iload_n 3, 1) := by decide +kernel
theorem dL_would_7 : decode cL_would 7 = .ok (.iload 4, 2) := by decide +kernel
theorem dL_would_9 : decode cL_would 9 = .ok (.iload 5, 2) := by decide +kernel
theorem dL_would_11 : decode cL_would 11 = .ok (.iload 6, 2) := by decide +kernel
theorem dL_would_13 : decode cL_would 13 = .ok (.iload 7, 2) := by decide +kernel
theorem dL_would_15 : decode cL_would 15 = .ok (.invokevirtual 91, 3) := by decide +kernel
theorem dL_would_18 : decode cL_would 18 = .ok (.lastore, 1) := by decide +kernel
theorem dL_would_19 : decode cL_would 19 = .ok (.goto 15, 3) := by decide +kernel
theorem dL_would_22 : decode cL_would 22 = .ok (.astore 9, 2) := by decide +kernel
theorem dL_would_24 : decode cL_would 24 = .ok (.iconst 1, 1) := by decide +kernel
theorem dL_would_25 : decode cL_would 25 = .ok (.ireturn, 1) := by decide +kernel
theorem dL_would_26 : decode cL_would 26 = .ok (.astore 9, 2) := by decide +kernel
theorem dL_would_28 : decode cL_would 28 = .ok (.iconst 2, 1) := by decide +kernel
theorem dL_would_29 : decode cL_would 29 = .ok (.ireturn, 1) := by decide +kernel
theorem dL_would_30 : decode cL_would 30 = .ok (.astore 9, 2) := by decide +kernel
theorem dL_would_32 : decode cL_would 32 = .ok (.iconst 3, 1) := by decide +kernel
theorem dL_would_33 : decode cL_would 33 = .ok (.ireturn, 1) := by decide +kernel
theorem dL_would_34 : decode cL_would 34 = .ok (.iconst 0, 1) := by decide +kernel
theorem dL_would_35 : decode cL_would 35 = .ok (.ireturn, 1) := by decide +kernel
theorem dL_wetness_0 : decode cL_wetness 0 = .ok (.aload 4, 2) := by decide +kernel
theorem dL_wetness_2 : decode cL_wetness 2 = .ok (.iconst 0, 1) := by decide +kernel
theorem dL_wetness_3 : decode cL_wetness 3 = .ok (.aload_n 0, 1) := by decide +kernel
theorem dL_wetness_4 : decode cL_wetness 4 = .ok (.iload_n 1, 1) := by decide +kernel
theorem dL_wetness_5 : decode cL_wetness 5 = .ok (.iload_n 2, 1) := by decide +kernel
theorem dL_wetness_6 : decode cL_wetness 6 = .ok (.iload_n 3, 1) := by decide +kernel
theorem dL_wetness_7 : decode cL_wetness 7 = .ok (.invokevirtual 95, 3) := by decide +kernel
theorem dL_wetness_10 : decode cL_wetness 10 = .ok (.lastore, 1) := by decide +kernel
theorem dL_wetness_11 : decode cL_wetness 11 = .ok (.goto 7, 3) := by decide +kernel
theorem dL_wetness_14 : decode cL_wetness 14 = .ok (.astore 5, 2) := by decide +kernel
theorem dL_wetness_16 : decode cL_wetness 16 = .ok (.iconst 1, 1) := by decide +kernel
theorem dL_wetness_17 : decode cL_wetness 17 = .ok (.ireturn, 1) := by decide +kernel
theorem dL_wetness_18 : decode cL_wetness 18 = .ok (.iconst 0, 1) := by decide +kernel
theorem dL_wetness_19 : decode cL_wetness 19 = .ok (.ireturn, 1) := by decide +kernel
theorem dL_depth_0 : decode cL_depth 0 = .ok (.aload 4, 2) := by decide +kernel
theorem dL_depth_2 : decode cL_depth 2 = .ok (.iconst 0, 1) := by decide +kernel
theorem dL_depth_3 : decode cL_depth 3 = .ok (.aload_n 0, 1) := by decide +kernel
theorem dL_depth_4 : decode cL_depth 4 = .ok (.iload_n 1, 1) := by decide +kernel
theorem dL_depth_5 : decode cL_depth 5 = .ok (.iload_n 2, 1) := by decide +kernel
theorem dL_depth_6 : decode cL_depth 6 = .ok (.iload_n 3, 1) := by decide +kernel
theorem dL_depth_7 : decode cL_depth 7 = .ok (.invokevirtual 98, 3) := by decide +kernel
theorem dL_depth_10 : decode cL_depth 10 = .ok (.lastore, 1) := by decide +kernel
theorem dL_depth_11 : decode cL_depth 11 = .ok (.goto 7, 3) := by decide +kernel
theorem dL_depth_14 : decode cL_depth 14 = .ok (.astore 5, 2) := by decide +kernel
theorem dL_depth_16 : decode cL_depth 16 = .ok (.iconst 1, 1) := by decide +kernel
theorem dL_depth_17 : decode cL_depth 17 = .ok (.ireturn, 1) := by decide +kernel
theorem dL_depth_18 : decode cL_depth 18 = .ok (.iconst 0, 1) := by decide +kernel
theorem dL_depth_19 : decode cL_depth 19 = .ok (.ireturn, 1) := by decide +kernel
theorem dL_least_0 : decode cL_least 0 = .ok (.aload_n 3, 1) := by decide +kernel
theorem dL_least_1 : decode cL_least 1 = .ok (.iconst 0, 1) := by decide +kernel
theorem dL_least_2 : decode cL_least 2 = .ok (.aload_n 0, 1) := by decide +kernel
theorem dL_least_3 : decode cL_least 3 = .ok (.iload_n 1, 1) := by decide +kernel
theorem dL_least_4 : decode cL_least 4 = .ok (.iload_n 2, 1) := by decide +kernel
theorem dL_least_5 : decode cL_least 5 = .ok (.invokevirtual 101, 3) := by decide +kernel
theorem dL_least_8 : decode cL_least 8 = .ok (.i2l, 1) := by decide +kernel
theorem dL_least_9 : decode cL_least 9 = .ok (.lastore, 1) := by decide +kernel
theorem dL_least_10 : decode cL_least 10 = .ok (.goto 7, 3) := by decide +kernel
theorem dL_least_13 : decode cL_least 13 = .ok (.astore 4, 2) := by decide +kernel
theorem dL_least_15 : decode cL_least 15 = .ok (.iconst 1, 1) := by decide +kernel
theorem dL_least_16 : decode cL_least 16 = .ok (.ireturn, 1) := by decide +kernel
theorem dL_least_17 : decode cL_least 17 = .ok (.iconst 0, 1) := by decide +kernel
theorem dL_least_18 : decode cL_least 18 = .ok (.ireturn, 1) := by decide +kernel
theorem dL_decides_0 : decode cL_decides 0 = .ok (.aload 5, 2) := by decide +kernel
theorem dL_decides_2 : decode cL_decides 2 = .ok (.iconst 0, 1) := by decide +kernel
theorem dL_decides_3 : decode cL_decides 3 = .ok (.aload_n 0, 1) := by decide +kernel
theorem dL_decides_4 : decode cL_decides 4 = .ok (.iload_n 1, 1) := by decide +kernel
theorem dL_decides_5 : decode cL_decides 5 = .ok (.iload_n 2, 1) := by decide +kernel
theorem dL_decides_6 : decode cL_decides 6 = .ok (.iload_n 3, 1) := by decide +kernel
theorem dL_decides_7 : decode cL_decides 7 = .ok (.iload 4, 2) := by decide +kernel
theorem dL_decides_9 : decode cL_decides 9 = .ok (.invokevirtual 104, 3) := by decide +kernel
theorem dL_decides_12 : decode cL_decides 12 = .ok (.lastore, 1) := by decide +kernel
theorem dL_decides_13 : decode cL_decides 13 = .ok (.goto 11, 3) := by decide +kernel
theorem dL_decides_16 : decode cL_decides 16 = .ok (.astore 6, 2) := by decide +kernel
theorem dL_decides_18 : decode cL_decides 18 = .ok (.iconst 1, 1) := by decide +kernel
theorem dL_decides_19 : decode cL_decides 19 = .ok (.ireturn, 1) := by decide +kernel
theorem dL_decides_20 : decode cL_decides 20 = .ok (.astore 6, 2) := by decide +kernel
theorem dL_decides_22 : decode cL_decides 22 = .ok (.iconst 2, 1) := by decide +kernel
theorem dL_decides_23 : decode cL_decides 23 = .ok (.ireturn, 1) := by decide +kernel
theorem dL_decides_24 : decode cL_decides 24 = .ok (.iconst 0, 1) := by decide +kernel
theorem dL_decides_25 : decode cL_decides 25 = .ok (.ireturn, 1) := by decide +kernel
theorem dL_leader_0 : decode cL_leader 0 = .ok (.aload_n 3, 1) := by decide +kernel
theorem dL_leader_1 : decode cL_leader 1 = .ok (.iconst 0, 1) := by decide +kernel
theorem dL_leader_2 : decode cL_leader 2 = .ok (.aload_n 0, 1) := by decide +kernel
theorem dL_leader_3 : decode cL_leader 3 = .ok (.iload_n 1, 1) := by decide +kernel
theorem dL_leader_4 : decode cL_leader 4 = .ok (.iload_n 2, 1) := by decide +kernel
theorem dL_leader_5 : decode cL_leader 5 = .ok (.invokevirtual 108, 3) := by decide +kernel
theorem dL_leader_8 : decode cL_leader 8 = .ok (.i2l, 1) := by decide +kernel
theorem dL_leader_9 : decode cL_leader 9 = .ok (.lastore, 1) := by decide +kernel
theorem dL_leader_10 : decode cL_leader 10 = .ok (.goto 7, 3) := by decide +kernel
theorem dL_leader_13 : decode cL_leader 13 = .ok (.astore 4, 2) := by decide +kernel
theorem dL_leader_15 : decode cL_leader 15 = .ok (.iconst 1, 1) := by decide +kernel
theorem dL_leader_16 : decode cL_leader 16 = .ok (.ireturn, 1) := by decide +kernel
theorem dL_leader_17 : decode cL_leader 17 = .ok (.iconst 0, 1) := by decide +kernel
theorem dL_leader_18 : decode cL_leader 18 = .ok (.ireturn, 1) := by decide +kernel
theorem dL_rank_0 : decode cL_rank 0 = .ok (.aload 6, 2) := by decide +kernel
theorem dL_rank_2 : decode cL_rank 2 = .ok (.iconst 0, 1) := by decide +kernel
theorem dL_rank_3 : decode cL_rank 3 = .ok (.aload_n 0, 1) := by decide +kernel
theorem dL_rank_4 : decode cL_rank 4 = .ok (.iload_n 1, 1) := by decide +kernel
theorem dL_rank_5 : decode cL_rank 5 = .ok (.iload_n 2, 1) := by decide +kernel
theorem dL_rank_6 : decode cL_rank 6 = .ok (.iload_n 3, 1) := by decide +kernel
theorem dL_rank_7 : decode cL_rank 7 = .ok (.iload 4, 2) := by decide +kernel
theorem dL_rank_9 : decode cL_rank 9 = .ok (.iload 5, 2) := by decide +kernel
theorem dL_rank_11 : decode cL_rank 11 = .ok (.invokevirtual 111, 3) := by decide +kernel
theorem dL_rank_14 : decode cL_rank 14 = .ok (.i2l, 1) := by decide +kernel
theorem dL_rank_15 : decode cL_rank 15 = .ok (.lastore, 1) := by decide +kernel
theorem dL_rank_16 : decode cL_rank 16 = .ok (.goto 15, 3) := by decide +kernel
theorem dL_rank_19 : decode cL_rank 19 = .ok (.astore 7, 2) := by decide +kernel
theorem dL_rank_21 : decode cL_rank 21 = .ok (.iconst 1, 1) := by decide +kernel
theorem dL_rank_22 : decode cL_rank 22 = .ok (.ireturn, 1) := by decide +kernel
theorem dL_rank_23 : decode cL_rank 23 = .ok (.astore 7, 2) := by decide +kernel
theorem dL_rank_25 : decode cL_rank 25 = .ok (.iconst 2, 1) := by decide +kernel
theorem dL_rank_26 : decode cL_rank 26 = .ok (.ireturn, 1) := by decide +kernel
theorem dL_rank_27 : decode cL_rank 27 = .ok (.astore 7, 2) := by decide +kernel
theorem dL_rank_29 : decode cL_rank 29 = .ok (.iconst 3, 1) := by decide +kernel
theorem dL_rank_30 : decode cL_rank 30 = .ok (.ireturn, 1) := by decide +kernel
theorem dL_rank_31 : decode cL_rank 31 = .ok (.iconst 0, 1) := by decide +kernel
theorem dL_rank_32 : decode cL_rank 32 = .ok (.ireturn, 1) := by decide +kernel
theorem dL_drawn_0 : decode cL_drawn 0 = .ok (.aload 5, 2) := by decide +kernel
theorem dL_drawn_2 : decode cL_drawn 2 = .ok (.iconst 0, 1) := by decide +kernel
theorem dL_drawn_3 : decode cL_drawn 3 = .ok (.aload_n 0, 1) := by decide +kernel
theorem dL_drawn_4 : decode cL_drawn 4 = .ok (.iload_n 1, 1) := by decide +kernel
theorem dL_drawn_5 : decode cL_drawn 5 = .ok (.iload_n 2, 1) := by decide +kernel
theorem dL_drawn_6 : decode cL_drawn 6 = .ok (.iload_n 3, 1) := by decide +kernel
theorem dL_drawn_7 : decode cL_drawn 7 = .ok (.iload 4, 2) := by decide +kernel
theorem dL_drawn_9 : decode cL_drawn 9 = .ok (.invokevirtual 115, 3) := by decide +kernel
theorem dL_drawn_12 : decode cL_drawn 12 = .ok (.i2l, 1) := by decide +kernel
theorem dL_drawn_13 : decode cL_drawn 13 = .ok (.lastore, 1) := by decide +kernel
theorem dL_drawn_14 : decode cL_drawn 14 = .ok (.goto 11, 3) := by decide +kernel
theorem dL_drawn_17 : decode cL_drawn 17 = .ok (.astore 6, 2) := by decide +kernel
theorem dL_drawn_19 : decode cL_drawn 19 = .ok (.iconst 1, 1) := by decide +kernel
theorem dL_drawn_20 : decode cL_drawn 20 = .ok (.ireturn, 1) := by decide +kernel
theorem dL_drawn_21 : decode cL_drawn 21 = .ok (.astore 6, 2) := by decide +kernel
theorem dL_drawn_23 : decode cL_drawn 23 = .ok (.iconst 2, 1) := by decide +kernel
theorem dL_drawn_24 : decode cL_drawn 24 = .ok (.ireturn, 1) := by decide +kernel
theorem dL_drawn_25 : decode cL_drawn 25 = .ok (.iconst 0, 1) := by decide +kernel
theorem dL_drawn_26 : decode cL_drawn 26 = .ok (.ireturn, 1) := by decide +kernel
theorem dL_compare_0 : decode cL_compare 0 = .ok (.aload_n 1, 1) := by decide +kernel
theorem dL_compare_1 : decode cL_compare 1 = .ok (.iconst 0, 1) := by decide +kernel
theorem dL_compare_2 : decode cL_compare 2 = .ok (.aload_n 0, 1) := by decide +kernel
theorem dL_compare_3 : decode cL_compare 3 = .ok (.invokevirtual 119, 3) := by decide +kernel
theorem dL_compare_6 : decode cL_compare 6 = .ok (.i2l, 1) := by decide +kernel
theorem dL_compare_7 : decode cL_compare 7 = .ok (.lastore, 1) := by decide +kernel
theorem dL_compare_8 : decode cL_compare 8 = .ok (.goto 6, 3) := by decide +kernel
theorem dL_compare_11 : decode cL_compare 11 = .ok (.astore_n 2, 1) := by decide +kernel
theorem dL_compare_12 : decode cL_compare 12 = .ok (.iconst 1, 1) := by decide +kernel
theorem dL_compare_13 : decode cL_compare 13 = .ok (.ireturn, 1) := by decide +kernel
theorem dL_compare_14 : decode cL_compare 14 = .ok (.iconst 0, 1) := by decide +kernel
theorem dL_compare_15 : decode cL_compare 15 = .ok (.ireturn, 1) := by decide +kernel
theorem dL_beats_0 : decode cL_beats 0 = .ok (.aload_n 1, 1) := by decide +kernel
theorem dL_beats_1 : decode cL_beats 1 = .ok (.iconst 0, 1) := by decide +kernel
theorem dL_beats_2 : decode cL_beats 2 = .ok (.aload_n 0, 1) := by decide +kernel
theorem dL_beats_3 : decode cL_beats 3 = .ok (.invokevirtual 122, 3) := by decide +kernel
theorem dL_beats_6 : decode cL_beats 6 = .ok (.i2l, 1) := by decide +kernel
theorem dL_beats_7 : decode cL_beats 7 = .ok (.lastore, 1) := by decide +kernel
theorem dL_beats_8 : decode cL_beats 8 = .ok (.goto 9, 3) := by decide +kernel
theorem dL_beats_11 : decode cL_beats 11 = .ok (.astore_n 2, 1) := by decide +kernel
theorem dL_beats_12 : decode cL_beats 12 = .ok (.iconst 1, 1) := by decide +kernel
theorem dL_beats_13 : decode cL_beats 13 = .ok (.ireturn, 1) := by decide +kernel
theorem dL_beats_14 : decode cL_beats 14 = .ok (.astore_n 2, 1) := by decide +kernel
theorem dL_beats_15 : decode cL_beats 15 = .ok (.iconst 2, 1) := by decide +kernel
theorem dL_beats_16 : decode cL_beats 16 = .ok (.ireturn, 1) := by decide +kernel
theorem dL_beats_17 : decode cL_beats 17 = .ok (.iconst 0, 1) := by decide +kernel
theorem dL_beats_18 : decode cL_beats 18 = .ok (.ireturn, 1) := by decide +kernel
