theorem dX9_lowest_34 : decode cX9_lowest 34 = .ok (.dup2, 1) := by decide +kernel
theorem dX9_lowest_35 : decode cX9_lowest 35 = .ok (.iaload, 1) := by decide +kernel
theorem dX9_lowest_36 : decode cX9_lowest 36 = .ok (.iload_n 2, 1) := by decide +kernel
theorem dX9_lowest_37 : decode cX9_lowest 37 = .ok (.idiv, 1) := by decide +kernel
theorem dX9_lowest_38 : decode cX9_lowest 38 = .ok (.iastore, 1) := by decide +kernel
theorem dX9_lowest_39 : decode cX9_lowest 39 = .ok (.aload_n 0, 1) := by decide +kernel
theorem dX9_lowest_40 : decode cX9_lowest 40 = .ok (.getfield 15, 3) := by decide +kernel
theorem dX9_lowest_43 : decode cX9_lowest 43 = .ok (.iload_n 1, 1) := by decide +kernel
theorem dX9_lowest_44 : decode cX9_lowest 44 = .ok (.dup2, 1) := by decide +kernel
theorem dX9_lowest_45 : decode cX9_lowest 45 = .ok (.iaload, 1) := by decide +kernel
theorem dX9_lowest_46 : decode cX9_lowest 46 = .ok (.iload_n 2, 1) := by decide +kernel
theorem dX9_lowest_47 : decode cX9_lowest 47 = .ok (.idiv, 1) := by decide +kernel
theorem dX9_lowest_48 : decode cX9_lowest 48 = .ok (.iastore, 1) := by decide +kernel
theorem dX9_lowest_49 : decode cX9_lowest 49 = .ok (.aload_n 0, 1) := by decide +kernel
theorem dX9_lowest_50 : decode cX9_lowest 50 = .ok (.getfield 15, 3) := by decide +kernel
theorem dX9_lowest_53 : decode cX9_lowest 53 = .ok (.iload_n 1, 1) := by decide +kernel
theorem dX9_lowest_54 : decode cX9_lowest 54 = .ok (.iaload, 1) := by decide +kernel
theorem dX9_lowest_55 : decode cX9_lowest 55 = .ok (.ireturn, 1) := by decide +kernel
theorem dX9_of_0 : decode cX9_of 0 = .ok (.aload_n 0, 1) := by decide +kernel
theorem dX9_of_1 : decode cX9_of 1 = .ok (.iload_n 1, 1) := by decide +kernel
theorem dX9_of_2 : decode cX9_of 2 = .ok (.invokevirtual 126, 3) := by decide +kernel
theorem dX9_of_5 : decode cX9_of 5 = .ok (.ifCond .ne 5, 3) := by decide +kernel
theorem dX9_of_8 : decode cX9_of 8 = .ok (.iconst (-1), 1) := by decide +kernel
theorem dX9_of_9 : decode cX9_of 9 = .ok (.ireturn, 1) := by decide +kernel
theorem dX9_of_10 : decode cX9_of 10 = .ok (.aload_n 0, 1) := by decide +kernel
theorem dX9_of_11 : decode cX9_of 11 = .ok (.iload_n 1, 1) := by decide +kernel
theorem dX9_of_12 : decode cX9_of 12 = .ok (.invokevirtual 137, 3) := by decide +kernel
theorem dX9_of_15 : decode cX9_of 15 = .ok (.iload_n 2, 1) := by decide +kernel
theorem dX9_of_16 : decode cX9_of 16 = .ok (.tableswitch 94 0 6 #[44, 51, 58, 65, 79, 84, 89], 44) := by decide +kernel
theorem dX9_of_60 : decode cX9_of 60 = .ok (.aload_n 0, 1) := by decide +kernel
theorem dX9_of_61 : decode cX9_of 61 = .ok (.getfield 11, 3) := by decide +kernel
theorem dX9_of_64 : decode cX9_of 64 = .ok (.iload_n 1, 1) := by decide +kernel
theorem dX9_of_65 : decode cX9_of 65 = .ok (.iaload, 1) := by decide +kernel
theorem dX9_of_66 : decode cX9_of 66 = .ok (.ireturn, 1) := by decide +kernel
theorem dX9_of_67 : decode cX9_of 67 = .ok (.aload_n 0, 1) := by decide +kernel
theorem dX9_of_68 : decode cX9_of 68 = .ok (.getfield 15, 3) := by decide +kernel
theorem dX9_of_71 : decode cX9_of 71 = .ok (.iload_n 1, 1) := by decide +kernel
theorem dX9_of_72 : decode cX9_of 72 = .ok (.iaload, 1) := by decide +kernel
theorem dX9_of_73 : decode cX9_of 73 = .ok (.ireturn, 1) := by decide +kernel
theorem dX9_of_74 : decode cX9_of 74 = .ok (.aload_n 0, 1) := by decide +kernel
theorem dX9_of_75 : decode cX9_of 75 = .ok (.getfield 18, 3) := by decide +kernel
theorem dX9_of_78 : decode cX9_of 78 = .ok (.iload_n 1, 1) := by decide +kernel
theorem dX9_of_79 : decode cX9_of 79 = .ok (.iaload, 1) := by decide +kernel
theorem dX9_of_80 : decode cX9_of 80 = .ok (.ireturn, 1) := by decide +kernel
theorem dX9_of_81 : decode cX9_of 81 = .ok (.aload_n 0, 1) := by decide +kernel
theorem dX9_of_82 : decode cX9_of 82 = .ok (.getfield 11, 3) := by decide +kernel
theorem dX9_of_85 : decode cX9_of 85 = .ok (.iload_n 1, 1) := by decide +kernel
theorem dX9_of_86 : decode cX9_of 86 = .ok (.iaload, 1) := by decide +kernel
theorem dX9_of_87 : decode cX9_of 87 = .ok (.aload_n 0, 1) := by decide +kernel
theorem dX9_of_88 : decode cX9_of 88 = .ok (.getfield 15, 3) := by decide +kernel
theorem dX9_of_91 : decode cX9_of 91 = .ok (.iload_n 1, 1) := by decide +kernel
theorem dX9_of_92 : decode cX9_of 92 = .ok (.iaload, 1) := by decide +kernel
theorem dX9_of_93 : decode cX9_of 93 = .ok (.idiv, 1) := by decide +kernel
theorem dX9_of_94 : decode cX9_of 94 = .ok (.ireturn, 1) := by decide +kernel
theorem dX9_of_95 : decode cX9_of 95 = .ok (.aload_n 0, 1) := by decide +kernel
theorem dX9_of_96 : decode cX9_of 96 = .ok (.getfield 100, 3) := by decide +kernel
theorem dX9_of_99 : decode cX9_of 99 = .ok (.ireturn, 1) := by decide +kernel
theorem dX9_of_100 : decode cX9_of 100 = .ok (.aload_n 0, 1) := by decide +kernel
theorem dX9_of_101 : decode cX9_of 101 = .ok (.getfield 103, 3) := by decide +kernel
theorem dX9_of_104 : decode cX9_of 104 = .ok (.ireturn, 1) := by decide +kernel
theorem dX9_of_105 : decode cX9_of 105 = .ok (.aload_n 0, 1) := by decide +kernel
theorem dX9_of_106 : decode cX9_of 106 = .ok (.invokevirtual 141, 3) := by decide +kernel
theorem dX9_of_109 : decode cX9_of 109 = .ok (.ireturn, 1) := by decide +kernel
theorem dX9_of_110 : decode cX9_of 110 = .ok (.iconst (-1), 1) := by decide +kernel
theorem dX9_of_111 : decode cX9_of 111 = .ok (.ireturn, 1) := by decide +kernel
theorem dX9_digit_0 : decode cX9_digit 0 = .ok (.aload_n 0, 1) := by decide +kernel
theorem dX9_digit_1 : decode cX9_digit 1 = .ok (.iload_n 1, 1) := by decide +kernel
theorem dX9_digit_2 : decode cX9_digit 2 = .ok (.invokevirtual 126, 3) := by decide +kernel
theorem dX9_digit_5 : decode cX9_digit 5 = .ok (.ifCond .eq 15, 3) := by decide +kernel
theorem dX9_digit_8 : decode cX9_digit 8 = .ok (.iload_n 2, 1) := by decide +kernel
theorem dX9_digit_9 : decode cX9_digit 9 = .ok (.i2l, 1) := by decide +kernel
theorem dX9_digit_10 : decode cX9_digit 10 = .ok (.lconst 0, 1) := by decide +kernel
theorem dX9_digit_11 : decode cX9_digit 11 = .ok (.ldc2_w 114, 3) := by decide +kernel
theorem dX9_digit_14 : decode cX9_digit 14 = .ok (.invokestatic 92, 3) := by decide +kernel
theorem dX9_digit_17 : decode cX9_digit 17 = .ok (.ifCond .ne 5, 3) := by decide +kernel
theorem dX9_digit_20 : decode cX9_digit 20 = .ok (.iconst (-1), 1) := by decide +kernel
theorem dX9_digit_21 : decode cX9_digit 21 = .ok (.ireturn, 1) := by decide +kernel
theorem dX9_digit_22 : decode cX9_digit 22 = .ok (.aload_n 0, 1) := by decide +kernel
theorem dX9_digit_23 : decode cX9_digit 23 = .ok (.iload_n 1, 1) := by decide +kernel
theorem dX9_digit_24 : decode cX9_digit 24 = .ok (.invokevirtual 137, 3) := by decide +kernel
theorem dX9_digit_27 : decode cX9_digit 27 = .ok (.aload_n 0, 1) := by decide +kernel
theorem dX9_digit_28 : decode cX9_digit 28 = .ok (.getfield 27, 3) := by decide +kernel
theorem dX9_digit_31 : decode cX9_digit 31 = .ok (.aload_n 0, 1) := by decide +kernel
theorem dX9_digit_32 : decode cX9_digit 32 = .ok (.iload_n 2, 1) := by decide +kernel
theorem dX9_digit_33 : decode cX9_digit 33 = .ok (.invokevirtual 145, 3) := by decide +kernel
theorem dX9_digit_36 : decode cX9_digit 36 = .ok (.iaload, 1) := by decide +kernel
theorem dX9_digit_37 : decode cX9_digit 37 = .ok (.ireturn, 1) := by decide +kernel
theorem dX9_rest_0 : decode cX9_rest 0 = .ok (.aload_n 0, 1) := by decide +kernel
theorem dX9_rest_1 : decode cX9_rest 1 = .ok (.iload_n 1, 1) := by decide +kernel
theorem dX9_rest_2 : decode cX9_rest 2 = .ok (.invokevirtual 126, 3) := by decide +kernel
theorem dX9_rest_5 : decode cX9_rest 5 = .ok (.ifCond .eq 15, 3) := by decide +kernel
theorem dX9_rest_8 : decode cX9_rest 8 = .ok (.iload_n 2, 1) := by decide +kernel
theorem dX9_rest_9 : decode cX9_rest 9 = .ok (.i2l, 1) := by decide +kernel
theorem dX9_rest_10 : decode cX9_rest 10 = .ok (.lconst 0, 1) := by decide +kernel
theorem dX9_rest_11 : decode cX9_rest 11 = .ok (.ldc2_w 114, 3) := by decide +kernel
theorem dX9_rest_14 : decode cX9_rest 14 = .ok (.invokestatic 92, 3) := by decide +kernel
theorem dX9_rest_17 : decode cX9_rest 17 = .ok (.ifCond .ne 5, 3) := by decide +kernel
theorem dX9_rest_20 : decode cX9_rest 20 = .ok (.iconst (-1), 1) := by decide +kernel
theorem dX9_rest_21 : decode cX9_rest 21 = .ok (.ireturn, 1) := by decide +kernel
theorem dX9_rest_22 : decode cX9_rest 22 = .ok (.aload_n 0, 1) := by decide +kernel
theorem dX9_rest_23 : decode cX9_rest 23 = .ok (.iload_n 1, 1) := by decide +kernel
theorem dX9_rest_24 : decode cX9_rest 24 = .ok (.invokevirtual 137, 3) := by decide +kernel
theorem dX9_rest_27 : decode cX9_rest 27 = .ok (.aload_n 0, 1) := by decide +kernel
theorem dX9_rest_28 : decode cX9_rest 28 = .ok (.getfield 24, 3) := by decide +kernel
theorem dX9_rest_31 : decode cX9_rest 31 = .ok (.aload_n 0, 1) := by decide +kernel
theorem dX9_rest_32 : decode cX9_rest 32 = .ok (.iload_n 2, 1) := by decide +kernel
theorem dX9_rest_33 : decode cX9_rest 33 = .ok (.invokevirtual 145, 3) := by decide +kernel
theorem dX9_rest_36 : decode cX9_rest 36 = .ok (.iaload, 1) := by decide +kernel
theorem dX9_rest_37 : decode cX9_rest 37 = .ok (.ireturn, 1) := by decide +kernel
theorem dX9_place_0 : decode cX9_place 0 = .ok (.aload_n 0, 1) := by decide +kernel
theorem dX9_place_1 : decode cX9_place 1 = .ok (.iload_n 1, 1) := by decide +kernel
theorem dX9_place_2 : decode cX9_place 2 = .ok (.invokevirtual 126, 3) := by decide +kernel
theorem dX9_place_5 : decode cX9_place 5 = .ok (.ifCond .eq 21, 3) := by decide +kernel
theorem dX9_place_8 : decode cX9_place 8 = .ok (.iload_n 2, 1) := by decide +kernel
theorem dX9_place_9 : decode cX9_place 9 = .ok (.i2l, 1) := by decide +kernel
theorem dX9_place_10 : decode cX9_place 10 = .ok (.lconst 0, 1) := by decide +kernel
theorem dX9_place_11 : decode cX9_place 11 = .ok (.aload_n 0, 1) := by decide +kernel
theorem dX9_place_12 : decode cX9_place 12 = .ok (.getfield 18, 3) := by decide +kernel
theorem dX9_place_15 : decode cX9_place 15 = .ok (.iload_n 1, 1) := by decide +kernel
theorem dX9_place_16 : decode cX9_place 16 = .ok (.iaload, 1) := by decide +kernel
theorem dX9_place_17 : decode cX9_place 17 = .ok (.iconst 1, 1) := by decide +kernel
theorem dX9_place_18 : decode cX9_place 18 = .ok (.isub, 1) := by decide +kernel
theorem dX9_place_19 : decode cX9_place 19 = .ok (.i2l, 1) := by decide +kernel
theorem dX9_place_20 : decode cX9_place 20 = .ok (.invokestatic 92, 3) := by decide +kernel
theorem dX9_place_23 : decode cX9_place 23 = .ok (.ifCond .ne 5, 3) := by decide +kernel
theorem dX9_place_26 : decode cX9_place 26 = .ok (.iconst (-1), 1) := by decide +kernel
theorem dX9_place_27 : decode cX9_place 27 = .ok (.ireturn, 1) := by decide +kernel
theorem dX9_place_28 : decode cX9_place 28 = .ok (.aload_n 0, 1) := by decide +kernel
theorem dX9_place_29 : decode cX9_place 29 = .ok (.iload_n 1, 1) := by decide +kernel
theorem dX9_place_30 : decode cX9_place 30 = .ok (.invokevirtual 137, 3) := by decide +kernel
theorem dX9_place_33 : decode cX9_place 33 = .ok (.iconst 0, 1) := by decide +kernel
theorem dX9_place_34 : decode cX9_place 34 = .ok (.istore_n 3, 1) := by decide +kernel
theorem dX9_place_35 : decode cX9_place 35 = .ok (.iload_n 3, 1) := by decide +kernel
theorem dX9_place_36 : decode cX9_place 36 = .ok (.aload_n 0, 1) := by decide +kernel
theorem dX9_place_37 : decode cX9_place 37 = .ok (.getfield 100, 3) := by decide +kernel
theorem dX9_place_40 : decode cX9_place 40 = .ok (.aload_n 0, 1) := by decide +kernel
theorem dX9_place_41 : decode cX9_place 41 = .ok (.getfield 103, 3) := by decide +kernel
theorem dX9_place_44 : decode cX9_place 44 = .ok (.iadd, 1) := by decide +kernel
theorem dX9_place_45 : decode cX9_place 45 = .ok (.if_icmp .ge 21, 3) := by decide +kernel
theorem dX9_place_48 : decode cX9_place 48 = .ok (.aload_n 0, 1) := by decide +kernel
theorem dX9_place_49 : decode cX9_place 49 = .ok (.getfield 27, 3) := by decide +kernel
theorem dX9_place_52 : decode cX9_place 52 = .ok (.iload_n 3, 1) := by decide +kernel
theorem dX9_place_53 : decode cX9_place 53 = .ok (.iaload, 1) := by decide +kernel
theorem dX9_place_54 : decode cX9_place 54 = .ok (.iload_n 2, 1) := by decide +kernel
theorem dX9_place_55 : decode cX9_place 55 = .ok (.if_icmp .ne 5, 3) := by decide +kernel
theorem dX9_place_58 : decode cX9_place 58 = .ok (.iload_n 3, 1) := by decide +kernel
theorem dX9_place_59 : decode cX9_place 59 = .ok (.ireturn, 1) := by decide +kernel
theorem dX9_place_60 : decode cX9_place 60 = .ok (.iinc 3 1, 3) := by decide +kernel
theorem dX9_place_63 : decode cX9_place 63 = .ok (.goto (-28), 3) := by decide +kernel
theorem dX9_place_66 : decode cX9_place 66 = .ok (.bipush (-2), 2) := by decide +kernel
theorem dX9_place_68 : decode cX9_place 68 = .ok (.ireturn, 1) := by decide +kernel
theorem dX9_isParted_0 : decode cX9_isParted 0 = .ok (.iload_n 1, 1) := by decide +kernel
theorem dX9_isParted_1 : decode cX9_isParted 1 = .ok (.i2l, 1) := by decide +kernel
theorem dX9_isParted_2 : decode cX9_isParted 2 = .ok (.lconst 1, 1) := by decide +kernel
theorem dX9_isParted_3 : decode cX9_isParted 3 = .ok (.aload_n 0, 1) := by decide +kernel
theorem dX9_isParted_4 : decode cX9_isParted 4 = .ok (.getfield 103, 3) := by decide +kernel
theorem dX9_isParted_7 : decode cX9_isParted 7 = .ok (.i2l, 1) := by decide +kernel
theorem dX9_isParted_8 : decode cX9_isParted 8 = .ok (.invokestatic 92, 3) := by decide +kernel
theorem dX9_isParted_11 : decode cX9_isParted 11 = .ok (.ifCond .eq 16, 3) := by decide +kernel
theorem dX9_isParted_14 : decode cX9_isParted 14 = .ok (.aload_n 0, 1) := by decide +kernel
theorem dX9_isParted_15 : decode cX9_isParted 15 = .ok (.getfield 103, 3) := by decide +kernel
theorem dX9_isParted_18 : decode cX9_isParted 18 = .ok (.iload_n 1, 1) := by decide +kernel
theorem dX9_isParted_19 : decode cX9_isParted 19 = .ok (.irem, 1) := by decide +kernel
theorem dX9_isParted_20 : decode cX9_isParted 20 = .ok (.ifCond .ne 7, 3) := by decide +kernel
theorem dX9_isParted_23 : decode cX9_isParted 23 = .ok (.iconst 1, 1) := by decide +kernel
theorem dX9_isParted_24 : decode cX9_isParted 24 = .ok (.goto 4, 3) := by decide +kernel
theorem dX9_isParted_27 : decode cX9_isParted 27 = .ok (.iconst 0, 1) := by decide +kernel
theorem dX9_isParted_28 : decode cX9_isParted 28 = .ok (.ireturn, 1) := by decide +kernel
theorem dX9_blocks_0 : decode cX9_blocks 0 = .ok (.aload_n 0, 1) := by decide +kernel
theorem dX9_blocks_1 : decode cX9_blocks 1 = .ok (.getfield 103, 3) := by decide +kernel
theorem dX9_blocks_4 : decode cX9_blocks 4 = .ok (.iload_n 1, 1) := by decide +kernel
theorem dX9_blocks_5 : decode cX9_blocks 5 = .ok (.idiv, 1) := by decide +kernel
theorem dX9_blocks_6 : decode cX9_blocks 6 = .ok (.istore_n 3, 1) := by decide +kernel
theorem dX9_blocks_7 : decode cX9_blocks 7 = .ok (.iconst 0, 1) := by decide +kernel
theorem dX9_blocks_8 : decode cX9_blocks 8 = .ok (.istore 4, 2) := by decide +kernel
theorem dX9_blocks_10 : decode cX9_blocks 10 = .ok (.iconst 0, 1) := by decide +kernel
theorem dX9_blocks_11 : decode cX9_blocks 11 = .ok (.istore 5, 2) := by decide +kernel
theorem dX9_blocks_13 : decode cX9_blocks 13 = .ok (.iload 5, 2) := by decide +kernel
theorem dX9_blocks_15 : decode cX9_blocks 15 = .ok (.iload_n 3, 1) := by decide +kernel
theorem dX9_blocks_16 : decode cX9_blocks 16 = .ok (.if_icmp .ge 71, 3) := by decide +kernel
theorem dX9_blocks_19 : decode cX9_blocks 19 = .ok (.iload 4, 2) := by decide +kernel
theorem dX9_blocks_21 : decode cX9_blocks 21 = .ok (.istore 6, 2) := by decide +kernel
theorem dX9_blocks_23 : decode cX9_blocks 23 = .ok (.iconst 0, 1) := by decide +kernel
theorem dX9_blocks_24 : decode cX9_blocks 24 = .ok (.istore 7, 2) := by decide +kernel
theorem dX9_blocks_26 : decode cX9_blocks 26 = .ok (.iload 7, 2) := by decide +kernel
theorem dX9_blocks_28 : decode cX9_blocks 28 = .ok (.iload_n 1, 1) := by decide +kernel
theorem dX9_blocks_29 : decode cX9_blocks 29 = .ok (.if_icmp .ge 35, 3) := by decide +kernel
theorem dX9_blocks_32 : decode cX9_blocks 32 = .ok (.iload 6, 2) := by decide +kernel
theorem dX9_blocks_34 : decode cX9_blocks 34 = .ok (.aload_n 0, 1) := by decide +kernel
theorem dX9_blocks_35 : decode cX9_blocks 35 = .ok (.getfield 27, 3) := by decide +kernel
theorem dX9_blocks_38 : decode cX9_blocks 38 = .ok (.aload_n 0, 1) := by decide +kernel
theorem dX9_blocks_39 : decode cX9_blocks 39 = .ok (.getfield 100, 3) := by decide +kernel
theorem dX9_blocks_42 : decode cX9_blocks 42 = .ok (.iload_n 3, 1) := by decide +kernel
theorem dX9_blocks_43 : decode cX9_blocks 43 = .ok (.iload 7, 2) := by decide +kernel
theorem dX9_blocks_45 : decode cX9_blocks 45 = .ok (.imul, 1) := by decide +kernel
theorem dX9_blocks_46 : decode cX9_blocks 46 = .ok (.iadd, 1) := by decide +kernel
theorem dX9_blocks_47 : decode cX9_blocks 47 = .ok (.iload_n 3, 1) := by decide +kernel
theorem dX9_blocks_48 : decode cX9_blocks 48 = .ok (.iadd, 1) := by decide +kernel
theorem dX9_blocks_49 : decode cX9_blocks 49 = .ok (.iconst 1, 1) := by decide +kernel
theorem dX9_blocks_50 : decode cX9_blocks 50 = .ok (.isub, 1) := by decide +kernel
theorem dX9_blocks_51 : decode cX9_blocks 51 = .ok (.iload 5, 2) := by decide +kernel
theorem dX9_blocks_53 : decode cX9_blocks 53 = .ok (.isub, 1) := by decide +kernel
theorem dX9_blocks_54 : decode cX9_blocks 54 = .ok (.iaload, 1) := by decide +kernel
theorem dX9_blocks_55 : decode cX9_blocks 55 = .ok (.iadd, 1) := by decide +kernel
theorem dX9_blocks_56 : decode cX9_blocks 56 = .ok (.istore 6, 2) := by decide +kernel
theorem dX9_blocks_58 : decode cX9_blocks 58 = .ok (.iinc 7 1, 3) := by decide +kernel
theorem dX9_blocks_61 : decode cX9_blocks 61 = .ok (.goto (-35), 3) := by decide +kernel
theorem dX9_blocks_64 : decode cX9_blocks 64 = .ok (.aload_n 0, 1) := by decide +kernel
theorem dX9_blocks_65 : decode cX9_blocks 65 = .ok (.getfield 30, 3) := by decide +kernel
theorem dX9_blocks_68 : decode cX9_blocks 68 = .ok (.iload 5, 2) := by decide +kernel
theorem dX9_blocks_70 : decode cX9_blocks 70 = .ok (.iload 6, 2) := by decide +kernel
theorem dX9_blocks_72 : decode cX9_blocks 72 = .ok (.iload_n 2, 1) := by decide +kernel
theorem dX9_blocks_73 : decode cX9_blocks 73 = .ok (.irem, 1) := by decide +kernel
theorem dX9_blocks_74 : decode cX9_blocks 74 = .ok (.iastore, 1) := by decide +kernel
theorem dX9_blocks_75 : decode cX9_blocks 75 = .ok (.iload 6, 2) := by decide +kernel
theorem dX9_blocks_77 : decode cX9_blocks 77 = .ok (.iload_n 2, 1) := by decide +kernel
theorem dX9_blocks_78 : decode cX9_blocks 78 = .ok (.idiv, 1) := by decide +kernel
theorem dX9_blocks_79 : decode cX9_blocks 79 = .ok (.istore 4, 2) := by decide +kernel
theorem dX9_blocks_81 : decode cX9_blocks 81 = .ok (.iinc 5 1, 3) := by decide +kernel
theorem dX9_blocks_84 : decode cX9_blocks 84 = .ok (.goto (-71), 3) := by decide +kernel
theorem dX9_blocks_87 : decode cX9_blocks 87 = .ok (.aload_n 0, 1) := by decide +kernel
theorem dX9_blocks_88 : decode cX9_blocks 88 = .ok (.iload 4, 2) := by decide +kernel
theorem dX9_blocks_90 : decode cX9_blocks 90 = .ok (.putfield 149, 3) := by decide +kernel
theorem dX9_blocks_93 : decode cX9_blocks 93 = .ok (.return_, 1) := by decide +kernel
theorem dX9_block_0 : decode cX9_block 0 = .ok (.aload_n 0, 1) := by decide +kernel
theorem dX9_block_1 : decode cX9_block 1 = .ok (.iload_n 1, 1) := by decide +kernel
theorem dX9_block_2 : decode cX9_block 2 = .ok (.invokevirtual 126, 3) := by decide +kernel
theorem dX9_block_5 : decode cX9_block 5 = .ok (.ifCond .ne 5, 3) := by decide +kernel
theorem dX9_block_8 : decode cX9_block 8 = .ok (.iconst (-1), 1) := by decide +kernel
theorem dX9_block_9 : decode cX9_block 9 = .ok (.ireturn, 1) := by decide +kernel
theorem dX9_block_10 : decode cX9_block 10 = .ok (.aload_n 0, 1) := by decide +kernel
theorem dX9_block_11 : decode cX9_block 11 = .ok (.iload_n 1, 1) := by decide +kernel
theorem dX9_block_12 : decode cX9_block 12 = .ok (.invokevirtual 137, 3) := by decide +kernel
theorem dX9_block_15 : decode cX9_block 15 = .ok (.aload_n 0, 1) := by decide +kernel
theorem dX9_block_16 : decode cX9_block 16 = .ok (.iload_n 2, 1) := by decide +kernel
theorem dX9_block_17 : decode cX9_block 17 = .ok (.invokevirtual 152, 3) := by decide +kernel
theorem dX9_block_20 : decode cX9_block 20 = .ok (.ifCond .eq 23, 3) := by decide +kernel
theorem dX9_block_23 : decode cX9_block 23 = .ok (.iload_n 3, 1) := by decide +kernel
theorem dX9_block_24 : decode cX9_block 24 = .ok (.i2l, 1) := by decide +kernel
theorem dX9_block_25 : decode cX9_block 25 = .ok (.ldc2_w 155, 3) := by decide +kernel
theorem dX9_block_28 : decode cX9_block 28 = .ok (.aload_n 0, 1) := by decide +kernel
theorem dX9_block_29 : decode cX9_block 29 = .ok (.getfield 103, 3) := by decide +kernel
theorem dX9_block_32 : decode cX9_block 32 = .ok (.iload_n 2, 1) := by decide +kernel
theorem dX9_block_33 : decode cX9_block 33 = .ok (.idiv, 1) := by decide +kernel
theorem dX9_block_34 : decode cX9_block 34 = .ok (.iconst 1, 1) := by decide +kernel
theorem dX9_block_35 : decode cX9_block 35 = .ok (.isub, 1) := by decide +kernel
theorem dX9_block_36 : decode cX9_block 36 = .ok (.i2l, 1) := by decide +kernel
theorem dX9_block_37 : decode cX9_block 37 = .ok (.invokestatic 92, 3) := by decide +kernel
theorem dX9_block_40 : decode cX9_block 40 = .ok (.ifCond .ne 5, 3) := by decide +kernel
theorem dX9_block_43 : decode cX9_block 43 = .ok (.iconst (-1), 1) := by decide +kernel
theorem dX9_block_44 : decode cX9_block 44 = .ok (.ireturn, 1) := by decide +kernel
theorem dX9_block_45 : decode cX9_block 45 = .ok (.aload_n 0, 1) := by decide +kernel
theorem dX9_block_46 : decode cX9_block 46 = .ok (.iload_n 2, 1) := by decide +kernel
theorem dX9_block_47 : decode cX9_block 47 = .ok (.aload_n 0, 1) := by decide +kernel
theorem dX9_block_48 : decode cX9_block 48 = .ok (.getfield 18, 3) := by decide +kernel
theorem dX9_block_51 : decode cX9_block 51 = .ok (.iload_n 1, 1) := by decide +kernel
theorem dX9_block_52 : decode cX9_block 52 = .ok (.iaload, 1) := by decide +kernel
theorem dX9_block_53 : decode cX9_block 53 = .ok (.invokevirtual 157, 3) := by decide +kernel
theorem dX9_block_56 : decode cX9_block 56 = .ok (.iload_n 3, 1) := by decide +kernel
theorem dX9_block_57 : decode cX9_block 57 = .ok (.iconst (-1), 1) := by decide +kernel
theorem dX9_block_58 : decode cX9_block 58 = .ok (.if_icmp .ne 10, 3) := by decide +kernel
theorem dX9_block_61 : decode cX9_block 61 = .ok (.aload_n 0, 1) := by decide +kernel
theorem dX9_block_62 : decode cX9_block 62 = .ok (.getfield 149, 3) := by decide +kernel
theorem dX9_block_65 : decode cX9_block 65 = .ok (.goto 9, 3) := by decide +kernel
theorem dX9_block_68 : decode cX9_block 68 = .ok (.aload_n 0, 1) := by decide +kernel
theorem dX9_block_69 : decode cX9_block 69 = .ok (.getfield 30, 3) := by decide +kernel
theorem dX9_block_72 : decode cX9_block 72 = .ok (.iload_n 3, 1) := by decide +kernel
theorem dX9_block_73 : decode cX9_block 73 = .ok (.iaload, 1) := by decide +kernel
theorem dX9_block_74 : decode cX9_block 74 = .ok (.ireturn, 1) := by decide +kernel
theorem dX9_smallNines_0 : decode cX9_smallNines 0 = .ok (.lconst 0, 1) := by decide +kernel
theorem dX9_smallNines_1 : decode cX9_smallNines 1 = .ok (.lstore 5, 2) := by decide +kernel
theorem dX9_smallNines_3 : decode cX9_smallNines 3 = .ok (.iload_n 1, 1) := by decide +kernel
theorem dX9_smallNines_4 : decode cX9_smallNines 4 = .ok (.iconst 1, 1) := by decide +kernel
theorem dX9_smallNines_5 : decode cX9_smallNines 5 = .ok (.isub, 1) := by decide +kernel
theorem dX9_smallNines_6 : decode cX9_smallNines 6 = .ok (.istore 7, 2) := by decide +kernel
theorem dX9_smallNines_8 : decode cX9_smallNines 8 = .ok (.iload 7, 2) := by decide +kernel
theorem dX9_smallNines_10 : decode cX9_smallNines 10 = .ok (.ifCond .lt 25, 3) := by decide +kernel
theorem dX9_smallNines_13 : decode cX9_smallNines 13 = .ok (.lload 5, 2) := by decide +kernel
theorem dX9_smallNines_15 : decode cX9_smallNines 15 = .ok (.iload_n 2, 1) := by decide +kernel
theorem dX9_smallNines_16 : decode cX9_smallNines 16 = .ok (.i2l, 1) := by decide +kernel
theorem dX9_smallNines_17 : decode cX9_smallNines 17 = .ok (.lmul, 1) := by decide +kernel
theorem dX9_smallNines_18 : decode cX9_smallNines 18 = .ok (.aload_n 0, 1) := by decide +kernel
theorem dX9_smallNines_19 : decode cX9_smallNines 19 = .ok (.getfield 30, 3) := by decide +kernel
theorem dX9_smallNines_22 : decode cX9_smallNines 22 = .ok (.iload 7, 2) := by decide +kernel
theorem dX9_smallNines_24 : decode cX9_smallNines 24 = .ok (.iaload, 1) := by decide +kernel
theorem dX9_smallNines_25 : decode cX9_smallNines 25 = .ok (.i2l, 1) := by decide +kernel
theorem dX9_smallNines_26 : decode cX9_smallNines 26 = .ok (.ladd, 1) := by decide +kernel
theorem dX9_smallNines_27 : decode cX9_smallNines 27 = .ok (.lstore 5, 2) := by decide +kernel
theorem dX9_smallNines_29 : decode cX9_smallNines 29 = .ok (.iinc 7 (-1), 3) := by decide +kernel
theorem dX9_smallNines_32 : decode cX9_smallNines 32 = .ok (.goto (-24), 3) := by decide +kernel
theorem dX9_smallNines_35 : decode cX9_smallNines 35 = .ok (.lload 5, 2) := by decide +kernel
theorem dX9_smallNines_37 : decode cX9_smallNines 37 = .ok (.aload_n 0, 1) := by decide +kernel
theorem dX9_smallNines_38 : decode cX9_smallNines 38 = .ok (.getfield 149, 3) := by decide +kernel
theorem dX9_smallNines_41 : decode cX9_smallNines 41 = .ok (.i2l, 1) := by decide +kernel
theorem dX9_smallNines_42 : decode cX9_smallNines 42 = .ok (.lload_n 3, 1) := by decide +kernel
theorem dX9_smallNines_43 : decode cX9_smallNines 43 = .ok (.lconst 1, 1) := by decide +kernel
theorem dX9_smallNines_44 : decode cX9_smallNines 44 = .ok (.ladd, 1) := by decide +kernel
theorem dX9_smallNines_45 : decode cX9_smallNines 45 = .ok (.lmul, 1) := by decide +kernel
theorem dX9_smallNines_46 : decode cX9_smallNines 46 = .ok (.ladd, 1) := by decide +kernel
theorem dX9_smallNines_47 : decode cX9_smallNines 47 = .ok (.lstore 5, 2) := by decide +kernel
theorem dX9_smallNines_49 : decode cX9_smallNines 49 = .ok (.lload 5, 2) := by decide +kernel
theorem dX9_smallNines_51 : decode cX9_smallNines 51 = .ok (.lload_n 3, 1) := by decide +kernel
theorem dX9_smallNines_52 : decode cX9_smallNines 52 = .ok (.lrem, 1) := by decide +kernel
theorem dX9_smallNines_53 : decode cX9_smallNines 53 = .ok (.lconst 0, 1) := by decide +kernel
theorem dX9_smallNines_54 : decode cX9_smallNines 54 = .ok (.lcmp, 1) := by decide +kernel
theorem dX9_smallNines_55 : decode cX9_smallNines 55 = .ok (.ifCond .ne 11, 3) := by decide +kernel
theorem dX9_smallNines_58 : decode cX9_smallNines 58 = .ok (.lload 5, 2) := by decide +kernel
theorem dX9_smallNines_60 : decode cX9_smallNines 60 = .ok (.lload_n 3, 1) := by decide +kernel
theorem dX9_smallNines_61 : decode cX9_smallNines 61 = .ok (.ldiv, 1) := by decide +kernel
theorem dX9_smallNines_62 : decode cX9_smallNines 62 = .ok (.l2i, 1) := by decide +kernel
theorem dX9_smallNines_63 : decode cX9_smallNines 63 = .ok (.goto 5, 3) := by decide +kernel
theorem dX9_smallNines_66 : decode cX9_smallNines 66 = .ok (.bipush (-2), 2) := by decide +kernel
theorem dX9_smallNines_68 : decode cX9_smallNines 68 = .ok (.ireturn, 1) := by decide +kernel
theorem dX9_greatNines_0 : decode cX9_greatNines 0 = .ok (.aload_n 0, 1) := by decide +kernel
theorem dX9_greatNines_1 : decode cX9_greatNines 1 = .ok (.getfield 149, 3) := by decide +kernel
theorem dX9_greatNines_4 : decode cX9_greatNines 4 = .ok (.istore_n 3, 1) := by decide +kernel
theorem dX9_greatNines_5 : decode cX9_greatNines 5 = .ok (.aload_n 0, 1) := by decide +kernel
theorem dX9_greatNines_6 : decode cX9_greatNines 6 = .ok (.getfield 149, 3) := by decide +kernel
theorem dX9_greatNines_9 : decode cX9_greatNines 9 = .ok (.ifCond .ne 7, 3) := by decide +kernel
theorem dX9_greatNines_12 : decode cX9_greatNines 12 = .ok (.iconst 1, 1) := by decide +kernel
theorem dX9_greatNines_13 : decode cX9_greatNines 13 = .ok (.goto 4, 3) := by decide +kernel
theorem dX9_greatNines_16 : decode cX9_greatNines 16 = .ok (.iconst 0, 1) := by decide +kernel
theorem dX9_greatNines_17 : decode cX9_greatNines 17 = .ok (.istore 4, 2) := by decide +kernel
theorem dX9_greatNines_19 : decode cX9_greatNines 19 = .ok (.iconst 1, 1) := by decide +kernel
theorem dX9_greatNines_20 : decode cX9_greatNines 20 = .ok (.istore 5, 2) := by decide +kernel
theorem dX9_greatNines_22 : decode cX9_greatNines 22 = .ok (.iconst 0, 1) := by decide +kernel
theorem dX9_greatNines_23 : decode cX9_greatNines 23 = .ok (.istore 6, 2) := by decide +kernel
theorem dX9_greatNines_25 : decode cX9_greatNines 25 = .ok (.iload 6, 2) := by decide +kernel
theorem dX9_greatNines_27 : decode cX9_greatNines 27 = .ok (.iload_n 1, 1) := by decide +kernel
theorem dX9_greatNines_28 : decode cX9_greatNines 28 = .ok (.if_icmp .ge 69, 3) := by decide +kernel
theorem dX9_greatNines_31 : decode cX9_greatNines 31 = .ok (.iload 4, 2) := by decide +kernel
theorem dX9_greatNines_33 : decode cX9_greatNines 33 = .ok (.ifCond .eq 17, 3) := by decide +kernel
theorem dX9_greatNines_36 : decode cX9_greatNines 36 = .ok (.aload_n 0, 1) := by decide +kernel
theorem dX9_greatNines_37 : decode cX9_greatNines 37 = .ok (.getfield 30, 3) := by decide +kernel
theorem dX9_greatNines_40 : decode cX9_greatNines 40 = .ok (.iload 6, 2) := by decide +kernel
theorem dX9_greatNines_42 : decode cX9_greatNines 42 = .ok (.iaload, 1) := by decide +kernel
theorem dX9_greatNines_43 : decode cX9_greatNines 43 = .ok (.ifCond .ne 7, 3) := by decide +kernel
theorem dX9_greatNines_46 : decode cX9_greatNines 46 = .ok (.iconst 1, 1) := by decide +kernel
theorem dX9_greatNines_47 : decode cX9_greatNines 47 = .ok (.goto 4, 3) := by decide +kernel
theorem dX9_greatNines_50 : decode cX9_greatNines 50 = .ok (.iconst 0, 1) := by decide +kernel
theorem dX9_greatNines_51 : decode cX9_greatNines 51 = .ok (.istore 4, 2) := by decide +kernel
theorem dX9_greatNines_53 : decode cX9_greatNines 53 = .ok (.aload_n 0, 1) := by decide +kernel
theorem dX9_greatNines_54 : decode cX9_greatNines 54 = .ok (.getfield 30, 3) := by decide +kernel
theorem dX9_greatNines_57 : decode cX9_greatNines 57 = .ok (.iload 6, 2) := by decide +kernel
theorem dX9_greatNines_59 : decode cX9_greatNines 59 = .ok (.iaload, 1) := by decide +kernel
theorem dX9_greatNines_60 : decode cX9_greatNines 60 = .ok (.iload_n 3, 1) := by decide +kernel
theorem dX9_greatNines_61 : decode cX9_greatNines 61 = .ok (.iadd, 1) := by decide +kernel
theorem dX9_greatNines_62 : decode cX9_greatNines 62 = .ok (.istore 7, 2) := by decide +kernel
theorem dX9_greatNines_64 : decode cX9_greatNines 64 = .ok (.iload 7, 2) := by decide +kernel
theorem dX9_greatNines_66 : decode cX9_greatNines 66 = .ok (.iload_n 2, 1) := by decide +kernel
theorem dX9_greatNines_67 : decode cX9_greatNines 67 = .ok (.idiv, 1) := by decide +kernel
theorem dX9_greatNines_68 : decode cX9_greatNines 68 = .ok (.istore_n 3, 1) := by decide +kernel
theorem dX9_greatNines_69 : decode cX9_greatNines 69 = .ok (.iload 5, 2) := by decide +kernel
theorem dX9_greatNines_71 : decode cX9_greatNines 71 = .ok (.ifCond .eq 17, 3) := by decide +kernel
theorem dX9_greatNines_74 : decode cX9_greatNines 74 = .ok (.iload 7, 2) := by decide +kernel
theorem dX9_greatNines_76 : decode cX9_greatNines 76 = .ok (.iload_n 2, 1) := by decide +kernel
theorem dX9_greatNines_77 : decode cX9_greatNines 77 = .ok (.irem, 1) := by decide +kernel
theorem dX9_greatNines_78 : decode cX9_greatNines 78 = .ok (.iload_n 2, 1) := by decide +kernel
theorem dX9_greatNines_79 : decode cX9_greatNines 79 = .ok (.iconst 1, 1) := by decide +kernel
theorem dX9_greatNines_80 : decode cX9_greatNines 80 = .ok (.isub, 1) := by decide +kernel
theorem dX9_greatNines_81 : decode cX9_greatNines 81 = .ok (.if_icmp .ne 7, 3) := by decide +kernel
theorem dX9_greatNines_84 : decode cX9_greatNines 84 = .ok (.iconst 1, 1) := by decide +kernel
theorem dX9_greatNines_85 : decode cX9_greatNines 85 = .ok (.goto 4, 3) := by decide +kernel
theorem dX9_greatNines_88 : decode cX9_greatNines 88 = .ok (.iconst 0, 1) := by decide +kernel
theorem dX9_greatNines_89 : decode cX9_greatNines 89 = .ok (.istore 5, 2) := by decide +kernel
theorem dX9_greatNines_91 : decode cX9_greatNines 91 = .ok (.iinc 6 1, 3) := by decide +kernel
theorem dX9_greatNines_94 : decode cX9_greatNines 94 = .ok (.goto (-69), 3) := by decide +kernel
theorem dX9_greatNines_97 : decode cX9_greatNines 97 = .ok (.iload 4, 2) := by decide +kernel
theorem dX9_greatNines_99 : decode cX9_greatNines 99 = .ok (.ifCond .eq 7, 3) := by decide +kernel
theorem dX9_greatNines_102 : decode cX9_greatNines 102 = .ok (.iconst 0, 1) := by decide +kernel
theorem dX9_greatNines_103 : decode cX9_greatNines 103 = .ok (.goto 23, 3) := by decide +kernel
theorem dX9_greatNines_106 : decode cX9_greatNines 106 = .ok (.iload 5, 2) := by decide +kernel
theorem dX9_greatNines_108 : decode cX9_greatNines 108 = .ok (.ifCond .eq 16, 3) := by decide +kernel
theorem dX9_greatNines_111 : decode cX9_greatNines 111 = .ok (.iload_n 3, 1) := by decide +kernel
theorem dX9_greatNines_112 : decode cX9_greatNines 112 = .ok (.ifCond .ne 12, 3) := by decide +kernel
theorem dX9_greatNines_115 : decode cX9_greatNines 115 = .ok (.aload_n 0, 1) := by decide +kernel
theorem dX9_greatNines_116 : decode cX9_greatNines 116 = .ok (.getfield 149, 3) := by decide +kernel
theorem dX9_greatNines_119 : decode cX9_greatNines 119 = .ok (.iconst 1, 1) := by decide +kernel
theorem dX9_greatNines_120 : decode cX9_greatNines 120 = .ok (.iadd, 1) := by decide +kernel
theorem dX9_greatNines_121 : decode cX9_greatNines 121 = .ok (.goto 5, 3) := by decide +kernel
theorem dX9_greatNines_124 : decode cX9_greatNines 124 = .ok (.bipush (-2), 2) := by decide +kernel
theorem dX9_greatNines_126 : decode cX9_greatNines 126 = .ok (.ireturn, 1) := by decide +kernel
theorem dX9_ninesNow_0 : decode cX9_ninesNow 0 = .ok (.aload_n 0, 1) := by decide +kernel
theorem dX9_ninesNow_1 : decode cX9_ninesNow 1 = .ok (.iload_n 1, 1) := by decide +kernel
theorem dX9_ninesNow_2 : decode cX9_ninesNow 2 = .ok (.iload_n 2, 1) := by decide +kernel
theorem dX9_ninesNow_3 : decode cX9_ninesNow 3 = .ok (.invokevirtual 157, 3) := by decide +kernel
theorem dX9_ninesNow_6 : decode cX9_ninesNow 6 = .ok (.aload_n 0, 1) := by decide +kernel
theorem dX9_ninesNow_7 : decode cX9_ninesNow 7 = .ok (.getfield 103, 3) := by decide +kernel
theorem dX9_ninesNow_10 : decode cX9_ninesNow 10 = .ok (.iload_n 1, 1) := by decide +kernel
theorem dX9_ninesNow_11 : decode cX9_ninesNow 11 = .ok (.idiv, 1) := by decide +kernel
theorem dX9_ninesNow_12 : decode cX9_ninesNow 12 = .ok (.istore_n 3, 1) := by decide +kernel
theorem dX9_ninesNow_13 : decode cX9_ninesNow 13 = .ok (.lconst 1, 1) := by decide +kernel
theorem dX9_ninesNow_14 : decode cX9_ninesNow 14 = .ok (.lstore 4, 2) := by decide +kernel
theorem dX9_ninesNow_16 : decode cX9_ninesNow 16 = .ok (.iconst 0, 1) := by decide +kernel
theorem dX9_ninesNow_17 : decode cX9_ninesNow 17 = .ok (.istore 6, 2) := by decide +kernel
theorem dX9_ninesNow_19 : decode cX9_ninesNow 19 = .ok (.iload 6, 2) := by decide +kernel
theorem dX9_ninesNow_21 : decode cX9_ninesNow 21 = .ok (.iload_n 3, 1) := by decide +kernel
theorem dX9_ninesNow_22 : decode cX9_ninesNow 22 = .ok (.if_icmp .ge 25, 3) := by decide +kernel
theorem dX9_ninesNow_25 : decode cX9_ninesNow 25 = .ok (.lload 4, 2) := by decide +kernel
theorem dX9_ninesNow_27 : decode cX9_ninesNow 27 = .ok (.ldc2_w 161, 3) := by decide +kernel
theorem dX9_ninesNow_30 : decode cX9_ninesNow 30 = .ok (.lcmp, 1) := by decide +kernel
theorem dX9_ninesNow_31 : decode cX9_ninesNow 31 = .ok (.ifCond .ge 16, 3) := by decide +kernel
theorem dX9_ninesNow_34 : decode cX9_ninesNow 34 = .ok (.lload 4, 2) := by decide +kernel
theorem dX9_ninesNow_36 : decode cX9_ninesNow 36 = .ok (.iload_n 2, 1) := by decide +kernel
theorem dX9_ninesNow_37 : decode cX9_ninesNow 37 = .ok (.i2l, 1) := by decide +kernel
theorem dX9_ninesNow_38 : decode cX9_ninesNow 38 = .ok (.lmul, 1) := by decide +kernel
theorem dX9_ninesNow_39 : decode cX9_ninesNow 39 = .ok (.lstore 4, 2) := by decide +kernel
theorem dX9_ninesNow_41 : decode cX9_ninesNow 41 = .ok (.iinc 6 1, 3) := by decide +kernel
theorem dX9_ninesNow_44 : decode cX9_ninesNow 44 = .ok (.goto (-25), 3) := by decide +kernel
theorem dX9_ninesNow_47 : decode cX9_ninesNow 47 = .ok (.lload 4, 2) := by decide +kernel
theorem dX9_ninesNow_49 : decode cX9_ninesNow 49 = .ok (.ldc2_w 161, 3) := by decide +kernel
theorem dX9_ninesNow_52 : decode cX9_ninesNow 52 = .ok (.lcmp, 1) := by decide +kernel
theorem dX9_ninesNow_53 : decode cX9_ninesNow 53 = .ok (.ifCond .ge 16, 3) := by decide +kernel
theorem dX9_ninesNow_56 : decode cX9_ninesNow 56 = .ok (.aload_n 0, 1) := by decide +kernel
theorem dX9_ninesNow_57 : decode cX9_ninesNow 57 = .ok (.iload_n 3, 1) := by decide +kernel
theorem dX9_ninesNow_58 : decode cX9_ninesNow 58 = .ok (.iload_n 2, 1) := by decide +kernel
theorem dX9_ninesNow_59 : decode cX9_ninesNow 59 = .ok (.lload 4, 2) := by decide +kernel
theorem dX9_ninesNow_61 : decode cX9_ninesNow 61 = .ok (.lconst 1, 1) := by decide +kernel
theorem dX9_ninesNow_62 : decode cX9_ninesNow 62 = .ok (.lsub, 1) := by decide +kernel
theorem dX9_ninesNow_63 : decode cX9_ninesNow 63 = .ok (.invokevirtual 163, 3) := by decide +kernel
theorem dX9_ninesNow_66 : decode cX9_ninesNow 66 = .ok (.goto 9, 3) := by decide +kernel
theorem dX9_ninesNow_69 : decode cX9_ninesNow 69 = .ok (.aload_n 0, 1) := by decide +kernel
theorem dX9_ninesNow_70 : decode cX9_ninesNow 70 = .ok (.iload_n 3, 1) := by decide +kernel
theorem dX9_ninesNow_71 : decode cX9_ninesNow 71 = .ok (.iload_n 2, 1) := by decide +kernel
theorem dX9_ninesNow_72 : decode cX9_ninesNow 72 = .ok (.invokevirtual 167, 3) := by decide +kernel
theorem dX9_ninesNow_75 : decode cX9_ninesNow 75 = .ok (.ireturn, 1) := by decide +kernel
theorem dX9_nines_0 : decode cX9_nines 0 = .ok (.aload_n 0, 1) := by decide +kernel
theorem dX9_nines_1 : decode cX9_nines 1 = .ok (.iload_n 1, 1) := by decide +kernel
theorem dX9_nines_2 : decode cX9_nines 2 = .ok (.invokevirtual 126, 3) := by decide +kernel
theorem dX9_nines_5 : decode cX9_nines 5 = .ok (.ifCond .ne 5, 3) := by decide +kernel
theorem dX9_nines_8 : decode cX9_nines 8 = .ok (.iconst (-1), 1) := by decide +kernel
theorem dX9_nines_9 : decode cX9_nines 9 = .ok (.ireturn, 1) := by decide +kernel
theorem dX9_nines_10 : decode cX9_nines 10 = .ok (.aload_n 0, 1) := by decide +kernel
theorem dX9_nines_11 : decode cX9_nines 11 = .ok (.iload_n 1, 1) := by decide +kernel
theorem dX9_nines_12 : decode cX9_nines 12 = .ok (.invokevirtual 137, 3) := by decide +kernel
theorem dX9_nines_15 : decode cX9_nines 15 = .ok (.aload_n 0, 1) := by decide +kernel
theorem dX9_nines_16 : decode cX9_nines 16 = .ok (.iload_n 2, 1) := by decide +kernel
theorem dX9_nines_17 : decode cX9_nines 17 = .ok (.invokevirtual 152, 3) := by decide +kernel
theorem dX9_nines_20 : decode cX9_nines 20 = .ok (.ifCond .eq 17, 3) := by decide +kernel
theorem dX9_nines_23 : decode cX9_nines 23 = .ok (.aload_n 0, 1) := by decide +kernel
theorem dX9_nines_24 : decode cX9_nines 24 = .ok (.iload_n 2, 1) := by decide +kernel
theorem dX9_nines_25 : decode cX9_nines 25 = .ok (.aload_n 0, 1) := by decide +kernel
theorem dX9_nines_26 : decode cX9_nines 26 = .ok (.getfield 18, 3) := by decide +kernel
theorem dX9_nines_29 : decode cX9_nines 29 = .ok (.iload_n 1, 1) := by decide +kernel
theorem dX9_nines_30 : decode cX9_nines 30 = .ok (.iaload, 1) := by decide +kernel
theorem dX9_nines_31 : decode cX9_nines 31 = .ok (.invokevirtual 171, 3) := by decide +kernel
theorem dX9_nines_34 : decode cX9_nines 34 = .ok (.goto 4, 3) := by decide +kernel
theorem dX9_nines_37 : decode cX9_nines 37 = .ok (.iconst (-1), 1) := by decide +kernel
theorem dX9_nines_38 : decode cX9_nines 38 = .ok (.ireturn, 1) := by decide +kernel
theorem dX9_keepsRing_0 : decode cX9_keepsRing 0 = .ok (.aload_n 0, 1) := by decide +kernel
theorem dX9_keepsRing_1 : decode cX9_keepsRing 1 = .ok (.iload_n 1, 1) := by decide +kernel
theorem dX9_keepsRing_2 : decode cX9_keepsRing 2 = .ok (.invokevirtual 137, 3) := by decide +kernel
theorem dX9_keepsRing_5 : decode cX9_keepsRing 5 = .ok (.aload_n 0, 1) := by decide +kernel
theorem dX9_keepsRing_6 : decode cX9_keepsRing 6 = .ok (.aload_n 0, 1) := by decide +kernel
theorem dX9_keepsRing_7 : decode cX9_keepsRing 7 = .ok (.getfield 103, 3) := by decide +kernel
theorem dX9_keepsRing_10 : decode cX9_keepsRing 10 = .ok (.putfield 174, 3) := by decide +kernel
theorem dX9_keepsRing_13 : decode cX9_keepsRing 13 = .ok (.iconst 0, 1) := by decide +kernel
theorem dX9_keepsRing_14 : decode cX9_keepsRing 14 = .ok (.istore_n 2, 1) := by decide +kernel
theorem dX9_keepsRing_15 : decode cX9_keepsRing 15 = .ok (.iload_n 2, 1) := by decide +kernel
theorem dX9_keepsRing_16 : decode cX9_keepsRing 16 = .ok (.aload_n 0, 1) := by decide +kernel
theorem dX9_keepsRing_17 : decode cX9_keepsRing 17 = .ok (.getfield 103, 3) := by decide +kernel
theorem dX9_keepsRing_20 : decode cX9_keepsRing 20 = .ok (.if_icmp .ge 26, 3) := by decide +kernel
theorem dX9_keepsRing_23 : decode cX9_keepsRing 23 = .ok (.aload_n 0, 1) := by decide +kernel
theorem dX9_keepsRing_24 : decode cX9_keepsRing 24 = .ok (.getfield 33, 3) := by decide +kernel
theorem dX9_keepsRing_27 : decode cX9_keepsRing 27 = .ok (.iload_n 2, 1) := by decide +kernel
theorem dX9_keepsRing_28 : decode cX9_keepsRing 28 = .ok (.aload_n 0, 1) := by decide +kernel
theorem dX9_keepsRing_29 : decode cX9_keepsRing 29 = .ok (.getfield 24, 3) := by decide +kernel
theorem dX9_keepsRing_32 : decode cX9_keepsRing 32 = .ok (.aload_n 0, 1) := by decide +kernel
theorem dX9_keepsRing_33 : decode cX9_keepsRing 33 = .ok (.getfield 100, 3) := by decide +kernel
theorem dX9_keepsRing_36 : decode cX9_keepsRing 36 = .ok (.iload_n 2, 1) := by decide +kernel
theorem dX9_keepsRing_37 : decode cX9_keepsRing 37 = .ok (.iadd, 1) := by decide +kernel
theorem dX9_keepsRing_38 : decode cX9_keepsRing 38 = .ok (.iaload, 1) := by decide +kernel
theorem dX9_keepsRing_39 : decode cX9_keepsRing 39 = .ok (.iastore, 1) := by decide +kernel
theorem dX9_keepsRing_40 : decode cX9_keepsRing 40 = .ok (.iinc 2 1, 3) := by decide +kernel
theorem dX9_keepsRing_43 : decode cX9_keepsRing 43 = .ok (.goto (-28), 3) := by decide +kernel
theorem dX9_keepsRing_46 : decode cX9_keepsRing 46 = .ok (.return_, 1) := by decide +kernel
theorem dX9_shiftNow_0 : decode cX9_shiftNow 0 = .ok (.aload_n 0, 1) := by decide +kernel
theorem dX9_shiftNow_1 : decode cX9_shiftNow 1 = .ok (.iload_n 2, 1) := by decide +kernel
theorem dX9_shiftNow_2 : decode cX9_shiftNow 2 = .ok (.i2l, 1) := by decide +kernel
theorem dX9_shiftNow_3 : decode cX9_shiftNow 3 = .ok (.aload_n 0, 1) := by decide +kernel
theorem dX9_shiftNow_4 : decode cX9_shiftNow 4 = .ok (.getfield 11, 3) := by decide +kernel
theorem dX9_shiftNow_7 : decode cX9_shiftNow 7 = .ok (.iload_n 1, 1) := by decide +kernel
theorem dX9_shiftNow_8 : decode cX9_shiftNow 8 = .ok (.iaload, 1) := by decide +kernel
theorem dX9_shiftNow_9 : decode cX9_shiftNow 9 = .ok (.i2l, 1) := by decide +kernel
theorem dX9_shiftNow_10 : decode cX9_shiftNow 10 = .ok (.lmul, 1) := by decide +kernel
theorem dX9_shiftNow_11 : decode cX9_shiftNow 11 = .ok (.aload_n 0, 1) := by decide +kernel
theorem dX9_shiftNow_12 : decode cX9_shiftNow 12 = .ok (.getfield 15, 3) := by decide +kernel
theorem dX9_shiftNow_15 : decode cX9_shiftNow 15 = .ok (.iload_n 1, 1) := by decide +kernel
theorem dX9_shiftNow_16 : decode cX9_shiftNow 16 = .ok (.iaload, 1) := by decide +kernel
theorem dX9_shiftNow_17 : decode cX9_shiftNow 17 = .ok (.aload_n 0, 1) := by decide +kernel
theorem dX9_shiftNow_18 : decode cX9_shiftNow 18 = .ok (.getfield 18, 3) := by decide +kernel
theorem dX9_shiftNow_21 : decode cX9_shiftNow 21 = .ok (.iload_n 1, 1) := by decide +kernel
theorem dX9_shiftNow_22 : decode cX9_shiftNow 22 = .ok (.iaload, 1) := by decide +kernel
theorem dX9_shiftNow_23 : decode cX9_shiftNow 23 = .ok (.invokevirtual 110, 3) := by decide +kernel
theorem dX9_shiftNow_26 : decode cX9_shiftNow 26 = .ok (.iconst 0, 1) := by decide +kernel
theorem dX9_shiftNow_27 : decode cX9_shiftNow 27 = .ok (.istore_n 3, 1) := by decide +kernel
theorem dX9_shiftNow_28 : decode cX9_shiftNow 28 = .ok (.iload_n 3, 1) := by decide +kernel
theorem dX9_shiftNow_29 : decode cX9_shiftNow 29 = .ok (.aload_n 0, 1) := by decide +kernel
theorem dX9_shiftNow_30 : decode cX9_shiftNow 30 = .ok (.getfield 174, 3) := by decide +kernel
theorem dX9_shiftNow_33 : decode cX9_shiftNow 33 = .ok (.if_icmp .ge 29, 3) := by decide +kernel
theorem dX9_shiftNow_36 : decode cX9_shiftNow 36 = .ok (.aload_n 0, 1) := by decide +kernel
theorem dX9_shiftNow_37 : decode cX9_shiftNow 37 = .ok (.getfield 33, 3) := by decide +kernel
theorem dX9_shiftNow_40 : decode cX9_shiftNow 40 = .ok (.iload_n 3, 1) := by decide +kernel
theorem dX9_shiftNow_41 : decode cX9_shiftNow 41 = .ok (.iaload, 1) := by decide +kernel
theorem dX9_shiftNow_42 : decode cX9_shiftNow 42 = .ok (.aload_n 0, 1) := by decide +kernel
theorem dX9_shiftNow_43 : decode cX9_shiftNow 43 = .ok (.getfield 24, 3) := by decide +kernel
theorem dX9_shiftNow_46 : decode cX9_shiftNow 46 = .ok (.aload_n 0, 1) := by decide +kernel
theorem dX9_shiftNow_47 : decode cX9_shiftNow 47 = .ok (.getfield 100, 3) := by decide +kernel
theorem dX9_shiftNow_50 : decode cX9_shiftNow 50 = .ok (.iaload, 1) := by decide +kernel
theorem dX9_shiftNow_51 : decode cX9_shiftNow 51 = .ok (.if_icmp .ne 5, 3) := by decide +kernel
theorem dX9_shiftNow_54 : decode cX9_shiftNow 54 = .ok (.iload_n 3, 1) := by decide +kernel
theorem dX9_shiftNow_55 : decode cX9_shiftNow 55 = .ok (.ireturn, 1) := by decide +kernel
theorem dX9_shiftNow_56 : decode cX9_shiftNow 56 = .ok (.iinc 3 1, 3) := by decide +kernel
theorem dX9_shiftNow_59 : decode cX9_shiftNow 59 = .ok (.goto (-31), 3) := by decide +kernel
theorem dX9_shiftNow_62 : decode cX9_shiftNow 62 = .ok (.bipush (-2), 2) := by decide +kernel
theorem dX9_shiftNow_64 : decode cX9_shiftNow 64 = .ok (.ireturn, 1) := by decide +kernel
theorem dX9_shift_0 : decode cX9_shift 0 = .ok (.aload_n 0, 1) := by decide +kernel
theorem dX9_shift_1 : decode cX9_shift 1 = .ok (.iload_n 1, 1) := by decide +kernel
theorem dX9_shift_2 : decode cX9_shift 2 = .ok (.invokevirtual 126, 3) := by decide +kernel
theorem dX9_shift_5 : decode cX9_shift 5 = .ok (.ifCond .eq 15, 3) := by decide +kernel
theorem dX9_shift_8 : decode cX9_shift 8 = .ok (.iload_n 2, 1) := by decide +kernel
theorem dX9_shift_9 : decode cX9_shift 9 = .ok (.i2l, 1) := by decide +kernel
theorem dX9_shift_10 : decode cX9_shift 10 = .ok (.lconst 1, 1) := by decide +kernel
theorem dX9_shift_11 : decode cX9_shift 11 = .ok (.ldc2_w 116, 3) := by decide +kernel
theorem dX9_shift_14 : decode cX9_shift 14 = .ok (.invokestatic 92, 3) := by decide +kernel
theorem dX9_shift_17 : decode cX9_shift 17 = .ok (.ifCond .ne 5, 3) := by decide +kernel
theorem dX9_shift_20 : decode cX9_shift 20 = .ok (.iconst (-1), 1) := by decide +kernel
theorem dX9_shift_21 : decode cX9_shift 21 = .ok (.ireturn, 1) := by decide +kernel
theorem dX9_shift_22 : decode cX9_shift 22 = .ok (.aload_n 0, 1) := by decide +kernel
theorem dX9_shift_23 : decode cX9_shift 23 = .ok (.iload_n 1, 1) := by decide +kernel
theorem dX9_shift_24 : decode cX9_shift 24 = .ok (.invokevirtual 177, 3) := by decide +kernel
theorem dX9_shift_27 : decode cX9_shift 27 = .ok (.aload_n 0, 1) := by decide +kernel
theorem dX9_shift_28 : decode cX9_shift 28 = .ok (.iload_n 1, 1) := by decide +kernel
theorem dX9_shift_29 : decode cX9_shift 29 = .ok (.iload_n 2, 1) := by decide +kernel
theorem dX9_shift_30 : decode cX9_shift 30 = .ok (.invokevirtual 180, 3) := by decide +kernel
theorem dX9_shift_33 : decode cX9_shift 33 = .ok (.ireturn, 1) := by decide +kernel
theorem dX9_multiple_0 : decode cX9_multiple 0 = .ok (.aload_n 0, 1) := by decide +kernel
theorem dX9_multiple_1 : decode cX9_multiple 1 = .ok (.iload_n 1, 1) := by decide +kernel
theorem dX9_multiple_2 : decode cX9_multiple 2 = .ok (.invokevirtual 126, 3) := by decide +kernel
theorem dX9_multiple_5 : decode cX9_multiple 5 = .ok (.ifCond .ne 5, 3) := by decide +kernel
theorem dX9_multiple_8 : decode cX9_multiple 8 = .ok (.iconst (-1), 1) := by decide +kernel
theorem dX9_multiple_9 : decode cX9_multiple 9 = .ok (.ireturn, 1) := by decide +kernel
theorem dX9_multiple_10 : decode cX9_multiple 10 = .ok (.aload_n 0, 1) := by decide +kernel
theorem dX9_multiple_11 : decode cX9_multiple 11 = .ok (.iload_n 1, 1) := by decide +kernel
theorem dX9_multiple_12 : decode cX9_multiple 12 = .ok (.invokevirtual 177, 3) := by decide +kernel
theorem dX9_multiple_15 : decode cX9_multiple 15 = .ok (.iload_n 2, 1) := by decide +kernel
theorem dX9_multiple_16 : decode cX9_multiple 16 = .ok (.i2l, 1) := by decide +kernel
theorem dX9_multiple_17 : decode cX9_multiple 17 = .ok (.lconst 0, 1) := by decide +kernel
theorem dX9_multiple_18 : decode cX9_multiple 18 = .ok (.aload_n 0, 1) := by decide +kernel
theorem dX9_multiple_19 : decode cX9_multiple 19 = .ok (.getfield 174, 3) := by decide +kernel
theorem dX9_multiple_22 : decode cX9_multiple 22 = .ok (.iconst 1, 1) := by decide +kernel
theorem dX9_multiple_23 : decode cX9_multiple 23 = .ok (.isub, 1) := by decide +kernel
theorem dX9_multiple_24 : decode cX9_multiple 24 = .ok (.i2l, 1) := by decide +kernel
theorem dX9_multiple_25 : decode cX9_multiple 25 = .ok (.invokestatic 92, 3) := by decide +kernel
theorem dX9_multiple_28 : decode cX9_multiple 28 = .ok (.ifCond .ne 5, 3) := by decide +kernel
theorem dX9_multiple_31 : decode cX9_multiple 31 = .ok (.iconst (-1), 1) := by decide +kernel
theorem dX9_multiple_32 : decode cX9_multiple 32 = .ok (.ireturn, 1) := by decide +kernel
theorem dX9_multiple_33 : decode cX9_multiple 33 = .ok (.iconst 2, 1) := by decide +kernel
theorem dX9_multiple_34 : decode cX9_multiple 34 = .ok (.istore_n 3, 1) := by decide +kernel
theorem dX9_multiple_35 : decode cX9_multiple 35 = .ok (.iload_n 3, 1) := by decide +kernel
theorem dX9_multiple_36 : decode cX9_multiple 36 = .ok (.sipush 999, 3) := by decide +kernel
theorem dX9_multiple_39 : decode cX9_multiple 39 = .ok (.if_icmp .gt 21, 3) := by decide +kernel
theorem dX9_multiple_42 : decode cX9_multiple 42 = .ok (.aload_n 0, 1) := by decide +kernel
theorem dX9_multiple_43 : decode cX9_multiple 43 = .ok (.iload_n 1, 1) := by decide +kernel
theorem dX9_multiple_44 : decode cX9_multiple 44 = .ok (.iload_n 3, 1) := by decide +kernel
theorem dX9_multiple_45 : decode cX9_multiple 45 = .ok (.invokevirtual 180, 3) := by decide +kernel
theorem dX9_multiple_48 : decode cX9_multiple 48 = .ok (.iload_n 2, 1) := by decide +kernel
theorem dX9_multiple_49 : decode cX9_multiple 49 = .ok (.if_icmp .ne 5, 3) := by decide +kernel
theorem dX9_multiple_52 : decode cX9_multiple 52 = .ok (.iload_n 3, 1) := by decide +kernel
theorem dX9_multiple_53 : decode cX9_multiple 53 = .ok (.ireturn, 1) := by decide +kernel
theorem dX9_multiple_54 : decode cX9_multiple 54 = .ok (.iinc 3 1, 3) := by decide +kernel
theorem dX9_multiple_57 : decode cX9_multiple 57 = .ok (.goto (-22), 3) := by decide +kernel
theorem dX9_multiple_60 : decode cX9_multiple 60 = .ok (.bipush (-2), 2) := by decide +kernel
theorem dX9_multiple_62 : decode cX9_multiple 62 = .ok (.ireturn, 1) := by decide +kernel
theorem dX9_order_0 : decode cX9_order 0 = .ok (.iload_n 1, 1) := by decide +kernel
theorem dX9_order_1 : decode cX9_order 1 = .ok (.invokestatic 118, 3) := by decide +kernel
theorem dX9_order_4 : decode cX9_order 4 = .ok (.ifCond .eq 15, 3) := by decide +kernel
theorem dX9_order_7 : decode cX9_order 7 = .ok (.iload_n 2, 1) := by decide +kernel
theorem dX9_order_8 : decode cX9_order 8 = .ok (.i2l, 1) := by decide +kernel
theorem dX9_order_9 : decode cX9_order 9 = .ok (.lconst 1, 1) := by decide +kernel
theorem dX9_order_10 : decode cX9_order 10 = .ok (.ldc2_w 114, 3) := by decide +kernel
theorem dX9_order_13 : decode cX9_order 13 = .ok (.invokestatic 92, 3) := by decide +kernel
theorem dX9_order_16 : decode cX9_order 16 = .ok (.ifCond .ne 5, 3) := by decide +kernel
theorem dX9_order_19 : decode cX9_order 19 = .ok (.iconst (-1), 1) := by decide +kernel
theorem dX9_order_20 : decode cX9_order 20 = .ok (.ireturn, 1) := by decide +kernel
theorem dX9_order_21 : decode cX9_order 21 = .ok (.iload_n 1, 1) := by decide +kernel
theorem dX9_order_22 : decode cX9_order 22 = .ok (.i2l, 1) := by decide +kernel
theorem dX9_order_23 : decode cX9_order 23 = .ok (.iload_n 2, 1) := by decide +kernel
theorem dX9_order_24 : decode cX9_order 24 = .ok (.i2l, 1) := by decide +kernel
theorem dX9_order_25 : decode cX9_order 25 = .ok (.invokestatic 129, 3) := by decide +kernel
theorem dX9_order_28 : decode cX9_order 28 = .ok (.lconst 1, 1) := by decide +kernel
theorem dX9_order_29 : decode cX9_order 29 = .ok (.lcmp, 1) := by decide +kernel
theorem dX9_order_30 : decode cX9_order 30 = .ok (.ifCond .le 6, 3) := by decide +kernel
theorem dX9_order_33 : decode cX9_order 33 = .ok (.bipush (-2), 2) := by decide +kernel
theorem dX9_order_35 : decode cX9_order 35 = .ok (.ireturn, 1) := by decide +kernel
theorem dX9_order_36 : decode cX9_order 36 = .ok (.iconst 1, 1) := by decide +kernel
theorem dX9_order_37 : decode cX9_order 37 = .ok (.istore_n 3, 1) := by decide +kernel
theorem dX9_order_38 : decode cX9_order 38 = .ok (.iload_n 1, 1) := by decide +kernel
theorem dX9_order_39 : decode cX9_order 39 = .ok (.iload_n 2, 1) := by decide +kernel
theorem dX9_order_40 : decode cX9_order 40 = .ok (.irem, 1) := by decide +kernel
theorem dX9_order_41 : decode cX9_order 41 = .ok (.istore 4, 2) := by decide +kernel
theorem dX9_order_43 : decode cX9_order 43 = .ok (.iload 4, 2) := by decide +kernel
theorem dX9_order_45 : decode cX9_order 45 = .ok (.iconst 1, 1) := by decide +kernel
theorem dX9_order_46 : decode cX9_order 46 = .ok (.iload_n 2, 1) := by decide +kernel
theorem dX9_order_47 : decode cX9_order 47 = .ok (.irem, 1) := by decide +kernel
theorem dX9_order_48 : decode cX9_order 48 = .ok (.if_icmp .eq 17, 3) := by decide +kernel
theorem dX9_order_51 : decode cX9_order 51 = .ok (.iload 4, 2) := by decide +kernel
theorem dX9_order_53 : decode cX9_order 53 = .ok (.iload_n 1, 1) := by decide +kernel
theorem dX9_order_54 : decode cX9_order 54 = .ok (.imul, 1) := by decide +kernel
theorem dX9_order_55 : decode cX9_order 55 = .ok (.iload_n 2, 1) := by decide +kernel
theorem dX9_order_56 : decode cX9_order 56 = .ok (.irem, 1) := by decide +kernel
theorem dX9_order_57 : decode cX9_order 57 = .ok (.istore 4, 2) := by decide +kernel
theorem dX9_order_59 : decode cX9_order 59 = .ok (.iinc 3 1, 3) := by decide +kernel
theorem dX9_order_62 : decode cX9_order 62 = .ok (.goto (-19), 3) := by decide +kernel
theorem dX9_order_65 : decode cX9_order 65 = .ok (.iload_n 3, 1) := by decide +kernel
theorem dX9_order_66 : decode cX9_order 66 = .ok (.ireturn, 1) := by decide +kernel
theorem dX9_cycles_0 : decode cX9_cycles 0 = .ok (.iload_n 1, 1) := by decide +kernel
theorem dX9_cycles_1 : decode cX9_cycles 1 = .ok (.invokestatic 118, 3) := by decide +kernel
theorem dX9_cycles_4 : decode cX9_cycles 4 = .ok (.ifCond .eq 27, 3) := by decide +kernel
theorem dX9_cycles_7 : decode cX9_cycles 7 = .ok (.iload_n 2, 1) := by decide +kernel
theorem dX9_cycles_8 : decode cX9_cycles 8 = .ok (.i2l, 1) := by decide +kernel
theorem dX9_cycles_9 : decode cX9_cycles 9 = .ok (.ldc2_w 96, 3) := by decide +kernel
theorem dX9_cycles_12 : decode cX9_cycles 12 = .ok (.ldc2_w 116, 3) := by decide +kernel
theorem dX9_cycles_15 : decode cX9_cycles 15 = .ok (.invokestatic 92, 3) := by decide +kernel
theorem dX9_cycles_18 : decode cX9_cycles 18 = .ok (.ifCond .eq 13, 3) := by decide +kernel
theorem dX9_cycles_21 : decode cX9_cycles 21 = .ok (.iload_n 3, 1) := by decide +kernel
theorem dX9_cycles_22 : decode cX9_cycles 22 = .ok (.i2l, 1) := by decide +kernel
theorem dX9_cycles_23 : decode cX9_cycles 23 = .ok (.lconst 0, 1) := by decide +kernel
theorem dX9_cycles_24 : decode cX9_cycles 24 = .ok (.lconst 1, 1) := by decide +kernel
theorem dX9_cycles_25 : decode cX9_cycles 25 = .ok (.invokestatic 92, 3) := by decide +kernel
theorem dX9_cycles_28 : decode cX9_cycles 28 = .ok (.ifCond .ne 5, 3) := by decide +kernel
theorem dX9_cycles_31 : decode cX9_cycles 31 = .ok (.iconst (-1), 1) := by decide +kernel
theorem dX9_cycles_32 : decode cX9_cycles 32 = .ok (.ireturn, 1) := by decide +kernel
theorem dX9_cycles_33 : decode cX9_cycles 33 = .ok (.iload_n 1, 1) := by decide +kernel
theorem dX9_cycles_34 : decode cX9_cycles 34 = .ok (.i2l, 1) := by decide +kernel
theorem dX9_cycles_35 : decode cX9_cycles 35 = .ok (.iload_n 2, 1) := by decide +kernel
theorem dX9_cycles_36 : decode cX9_cycles 36 = .ok (.i2l, 1) := by decide +kernel
theorem dX9_cycles_37 : decode cX9_cycles 37 = .ok (.invokestatic 129, 3) := by decide +kernel
theorem dX9_cycles_40 : decode cX9_cycles 40 = .ok (.lconst 1, 1) := by decide +kernel
theorem dX9_cycles_41 : decode cX9_cycles 41 = .ok (.lcmp, 1) := by decide +kernel
theorem dX9_cycles_42 : decode cX9_cycles 42 = .ok (.ifCond .le 6, 3) := by decide +kernel
theorem dX9_cycles_45 : decode cX9_cycles 45 = .ok (.bipush (-5), 2) := by decide +kernel
theorem dX9_cycles_47 : decode cX9_cycles 47 = .ok (.ireturn, 1) := by decide +kernel
theorem dX9_cycles_48 : decode cX9_cycles 48 = .ok (.iconst 0, 1) := by decide +kernel
theorem dX9_cycles_49 : decode cX9_cycles 49 = .ok (.istore 4, 2) := by decide +kernel
theorem dX9_cycles_51 : decode cX9_cycles 51 = .ok (.iload 4, 2) := by decide +kernel
theorem dX9_cycles_53 : decode cX9_cycles 53 = .ok (.iload_n 2, 1) := by decide +kernel
theorem dX9_cycles_54 : decode cX9_cycles 54 = .ok (.if_icmp .ge 17, 3) := by decide +kernel
theorem dX9_cycles_57 : decode cX9_cycles 57 = .ok (.aload_n 0, 1) := by decide +kernel
theorem dX9_cycles_58 : decode cX9_cycles 58 = .ok (.getfield 21, 3) := by decide +kernel
theorem dX9_cycles_61 : decode cX9_cycles 61 = .ok (.iload 4, 2) := by decide +kernel
theorem dX9_cycles_63 : decode cX9_cycles 63 = .ok (.iconst (-1), 1) := by decide +kernel
theorem dX9_cycles_64 : decode cX9_cycles 64 = .ok (.iastore, 1) := by decide +kernel
theorem dX9_cycles_65 : decode cX9_cycles 65 = .ok (.iinc 4 1, 3) := by decide +kernel
theorem dX9_cycles_68 : decode cX9_cycles 68 = .ok (.goto (-17), 3) := by decide +kernel
theorem dX9_cycles_71 : decode cX9_cycles 71 = .ok (.iconst 0, 1) := by decide +kernel
theorem dX9_cycles_72 : decode cX9_cycles 72 = .ok (.istore 4, 2) := by decide +kernel
theorem dX9_cycles_74 : decode cX9_cycles 74 = .ok (.iconst 0, 1) := by decide +kernel
theorem dX9_cycles_75 : decode cX9_cycles 75 = .ok (.istore 5, 2) := by decide +kernel
theorem dX9_cycles_77 : decode cX9_cycles 77 = .ok (.iconst 1, 1) := by decide +kernel
theorem dX9_cycles_78 : decode cX9_cycles 78 = .ok (.istore 6, 2) := by decide +kernel
theorem dX9_cycles_80 : decode cX9_cycles 80 = .ok (.iload 6, 2) := by decide +kernel
theorem dX9_cycles_82 : decode cX9_cycles 82 = .ok (.iload_n 2, 1) := by decide +kernel
theorem dX9_cycles_83 : decode cX9_cycles 83 = .ok (.if_icmp .ge 73, 3) := by decide +kernel
theorem dX9_cycles_86 : decode cX9_cycles 86 = .ok (.iconst 0, 1) := by decide +kernel
theorem dX9_cycles_87 : decode cX9_cycles 87 = .ok (.istore 7, 2) := by decide +kernel
theorem dX9_cycles_89 : decode cX9_cycles 89 = .ok (.iload 6, 2) := by decide +kernel
theorem dX9_cycles_91 : decode cX9_cycles 91 = .ok (.istore 8, 2) := by decide +kernel
theorem dX9_cycles_93 : decode cX9_cycles 93 = .ok (.aload_n 0, 1) := by decide +kernel
theorem dX9_cycles_94 : decode cX9_cycles 94 = .ok (.getfield 21, 3) := by decide +kernel
theorem dX9_cycles_97 : decode cX9_cycles 97 = .ok (.iload 8, 2) := by decide +kernel
theorem dX9_cycles_99 : decode cX9_cycles 99 = .ok (.iaload, 1) := by decide +kernel
theorem dX9_cycles_100 : decode cX9_cycles 100 = .ok (.iconst (-1), 1) := by decide +kernel
theorem dX9_cycles_101 : decode cX9_cycles 101 = .ok (.if_icmp .ne 25, 3) := by decide +kernel
theorem dX9_cycles_104 : decode cX9_cycles 104 = .ok (.aload_n 0, 1) := by decide +kernel
theorem dX9_cycles_105 : decode cX9_cycles 105 = .ok (.getfield 21, 3) := by decide +kernel
theorem dX9_cycles_108 : decode cX9_cycles 108 = .ok (.iload 8, 2) := by decide +kernel
theorem dX9_cycles_110 : decode cX9_cycles 110 = .ok (.iconst 0, 1) := by decide +kernel
theorem dX9_cycles_111 : decode cX9_cycles 111 = .ok (.iastore, 1) := by decide +kernel
theorem dX9_cycles_112 : decode cX9_cycles 112 = .ok (.iinc 7 1, 3) := by decide +kernel
theorem dX9_cycles_115 : decode cX9_cycles 115 = .ok (.iload 8, 2) := by decide +kernel
theorem dX9_cycles_117 : decode cX9_cycles 117 = .ok (.iload_n 1, 1) := by decide +kernel
theorem dX9_cycles_118 : decode cX9_cycles 118 = .ok (.imul, 1) := by decide +kernel
theorem dX9_cycles_119 : decode cX9_cycles 119 = .ok (.iload_n 2, 1) := by decide +kernel
theorem dX9_cycles_120 : decode cX9_cycles 120 = .ok (.irem, 1) := by decide +kernel
theorem dX9_cycles_121 : decode cX9_cycles 121 = .ok (.istore 8, 2) := by decide +kernel
theorem dX9_cycles_123 : decode cX9_cycles 123 = .ok (.goto (-30), 3) := by decide +kernel
theorem dX9_cycles_126 : decode cX9_cycles 126 = .ok (.iload 4, 2) := by decide +kernel
theorem dX9_cycles_128 : decode cX9_cycles 128 = .ok (.iload 7, 2) := by decide +kernel
theorem dX9_cycles_130 : decode cX9_cycles 130 = .ok (.ifCond .le 7, 3) := by decide +kernel
theorem dX9_cycles_133 : decode cX9_cycles 133 = .ok (.iconst 1, 1) := by decide +kernel
theorem dX9_cycles_134 : decode cX9_cycles 134 = .ok (.goto 4, 3) := by decide +kernel
theorem dX9_cycles_137 : decode cX9_cycles 137 = .ok (.iconst 0, 1) := by decide +kernel
theorem dX9_cycles_138 : decode cX9_cycles 138 = .ok (.iadd, 1) := by decide +kernel
theorem dX9_cycles_139 : decode cX9_cycles 139 = .ok (.istore 4, 2) := by decide +kernel
theorem dX9_cycles_141 : decode cX9_cycles 141 = .ok (.iload 5, 2) := by decide +kernel
theorem dX9_cycles_143 : decode cX9_cycles 143 = .ok (.iload 7, 2) := by decide +kernel
theorem dX9_cycles_145 : decode cX9_cycles 145 = .ok (.invokestatic 183, 3) := by decide +kernel
theorem dX9_cycles_148 : decode cX9_cycles 148 = .ok (.istore 5, 2) := by decide +kernel
theorem dX9_cycles_150 : decode cX9_cycles 150 = .ok (.iinc 6 1, 3) := by decide +kernel
theorem dX9_cycles_153 : decode cX9_cycles 153 = .ok (.goto (-73), 3) := by decide +kernel
theorem dX9_cycles_156 : decode cX9_cycles 156 = .ok (.iload_n 3, 1) := by decide +kernel
theorem dX9_cycles_157 : decode cX9_cycles 157 = .ok (.ifCond .ne 8, 3) := by decide +kernel
theorem dX9_cycles_160 : decode cX9_cycles 160 = .ok (.iload 4, 2) := by decide +kernel
theorem dX9_cycles_162 : decode cX9_cycles 162 = .ok (.goto 5, 3) := by decide +kernel
theorem dX9_cycles_165 : decode cX9_cycles 165 = .ok (.iload 5, 2) := by decide +kernel
theorem dX9_cycles_167 : decode cX9_cycles 167 = .ok (.ireturn, 1) := by decide +kernel
theorem dX9_isFull_0 : decode cX9_isFull 0 = .ok (.aload_n 0, 1) := by decide +kernel
theorem dX9_isFull_1 : decode cX9_isFull 1 = .ok (.lconst 1, 1) := by decide +kernel
theorem dX9_isFull_2 : decode cX9_isFull 2 = .ok (.iload_n 2, 1) := by decide +kernel
theorem dX9_isFull_3 : decode cX9_isFull 3 = .ok (.iload_n 1, 1) := by decide +kernel
theorem dX9_isFull_4 : decode cX9_isFull 4 = .ok (.invokevirtual 110, 3) := by decide +kernel
theorem dX9_isFull_7 : decode cX9_isFull 7 = .ok (.aload_n 0, 1) := by decide +kernel
theorem dX9_isFull_8 : decode cX9_isFull 8 = .ok (.getfield 106, 3) := by decide +kernel
theorem dX9_isFull_11 : decode cX9_isFull 11 = .ok (.ifCond .ne 17, 3) := by decide +kernel
theorem dX9_isFull_14 : decode cX9_isFull 14 = .ok (.aload_n 0, 1) := by decide +kernel
theorem dX9_isFull_15 : decode cX9_isFull 15 = .ok (.getfield 103, 3) := by decide +kernel
theorem dX9_isFull_18 : decode cX9_isFull 18 = .ok (.iload_n 2, 1) := by decide +kernel
theorem dX9_isFull_19 : decode cX9_isFull 19 = .ok (.iconst 1, 1) := by decide +kernel
theorem dX9_isFull_20 : decode cX9_isFull 20 = .ok (.isub, 1) := by decide +kernel
theorem dX9_isFull_21 : decode cX9_isFull 21 = .ok (.if_icmp .ne 7, 3) := by decide +kernel
theorem dX9_isFull_24 : decode cX9_isFull 24 = .ok (.iconst 1, 1) := by decide +kernel
theorem dX9_isFull_25 : decode cX9_isFull 25 = .ok (.goto 4, 3) := by decide +kernel
theorem dX9_isFull_28 : decode cX9_isFull 28 = .ok (.iconst 0, 1) := by decide +kernel
theorem dX9_isFull_29 : decode cX9_isFull 29 = .ok (.ireturn, 1) := by decide +kernel
theorem dX9_full_0 : decode cX9_full 0 = .ok (.iload_n 1, 1) := by decide +kernel
theorem dX9_full_1 : decode cX9_full 1 = .ok (.invokestatic 118, 3) := by decide +kernel
theorem dX9_full_4 : decode cX9_full 4 = .ok (.ifCond .eq 43, 3) := by decide +kernel
theorem dX9_full_7 : decode cX9_full 7 = .ok (.iload_n 2, 1) := by decide +kernel
theorem dX9_full_8 : decode cX9_full 8 = .ok (.i2l, 1) := by decide +kernel
theorem dX9_full_9 : decode cX9_full 9 = .ok (.ldc2_w 96, 3) := by decide +kernel
theorem dX9_full_12 : decode cX9_full 12 = .ok (.ldc2_w 116, 3) := by decide +kernel
theorem dX9_full_15 : decode cX9_full 15 = .ok (.invokestatic 92, 3) := by decide +kernel
theorem dX9_full_18 : decode cX9_full 18 = .ok (.ifCond .eq 29, 3) := by decide +kernel
theorem dX9_full_21 : decode cX9_full 21 = .ok (.iload_n 3, 1) := by decide +kernel
theorem dX9_full_22 : decode cX9_full 22 = .ok (.i2l, 1) := by decide +kernel
theorem dX9_full_23 : decode cX9_full 23 = .ok (.iload_n 2, 1) := by decide +kernel
theorem dX9_full_24 : decode cX9_full 24 = .ok (.i2l, 1) := by decide +kernel
theorem dX9_full_25 : decode cX9_full 25 = .ok (.ldc2_w 116, 3) := by decide +kernel
theorem dX9_full_28 : decode cX9_full 28 = .ok (.invokestatic 92, 3) := by decide +kernel
theorem dX9_full_31 : decode cX9_full 31 = .ok (.ifCond .eq 16, 3) := by decide +kernel
theorem dX9_full_34 : decode cX9_full 34 = .ok (.iload 4, 2) := by decide +kernel
theorem dX9_full_36 : decode cX9_full 36 = .ok (.i2l, 1) := by decide +kernel
theorem dX9_full_37 : decode cX9_full 37 = .ok (.lconst 0, 1) := by decide +kernel
theorem dX9_full_38 : decode cX9_full 38 = .ok (.ldc2_w 96, 3) := by decide +kernel
theorem dX9_full_41 : decode cX9_full 41 = .ok (.invokestatic 92, 3) := by decide +kernel
theorem dX9_full_44 : decode cX9_full 44 = .ok (.ifCond .ne 5, 3) := by decide +kernel
theorem dX9_full_47 : decode cX9_full 47 = .ok (.iconst (-1), 1) := by decide +kernel
theorem dX9_full_48 : decode cX9_full 48 = .ok (.ireturn, 1) := by decide +kernel
theorem dX9_full_49 : decode cX9_full 49 = .ok (.iconst 0, 1) := by decide +kernel
theorem dX9_full_50 : decode cX9_full 50 = .ok (.istore 5, 2) := by decide +kernel
theorem dX9_full_52 : decode cX9_full 52 = .ok (.bipush (-2), 2) := by decide +kernel
theorem dX9_full_54 : decode cX9_full 54 = .ok (.istore 6, 2) := by decide +kernel
theorem dX9_full_56 : decode cX9_full 56 = .ok (.bipush (-2), 2) := by decide +kernel
theorem dX9_full_58 : decode cX9_full 58 = .ok (.istore 7, 2) := by decide +kernel
theorem dX9_full_60 : decode cX9_full 60 = .ok (.iload_n 2, 1) := by decide +kernel
theorem dX9_full_61 : decode cX9_full 61 = .ok (.istore 8, 2) := by decide +kernel
theorem dX9_full_63 : decode cX9_full 63 = .ok (.iload 8, 2) := by decide +kernel
theorem dX9_full_65 : decode cX9_full 65 = .ok (.iload_n 3, 1) := by decide +kernel
theorem dX9_full_66 : decode cX9_full 66 = .ok (.if_icmp .gt 40, 3) := by decide +kernel
theorem dX9_full_69 : decode cX9_full 69 = .ok (.aload_n 0, 1) := by decide +kernel
theorem dX9_full_70 : decode cX9_full 70 = .ok (.iload_n 1, 1) := by decide +kernel
theorem dX9_full_71 : decode cX9_full 71 = .ok (.iload 8, 2) := by decide +kernel
theorem dX9_full_73 : decode cX9_full 73 = .ok (.invokevirtual 188, 3) := by decide +kernel
theorem dX9_full_76 : decode cX9_full 76 = .ok (.ifCond .eq 24, 3) := by decide +kernel
theorem dX9_full_79 : decode cX9_full 79 = .ok (.iload 5, 2) := by decide +kernel
theorem dX9_full_81 : decode cX9_full 81 = .ok (.ifCond .ne 8, 3) := by decide +kernel
theorem dX9_full_84 : decode cX9_full 84 = .ok (.iload 8, 2) := by decide +kernel
theorem dX9_full_86 : decode cX9_full 86 = .ok (.goto 5, 3) := by decide +kernel
theorem dX9_full_89 : decode cX9_full 89 = .ok (.iload 6, 2) := by decide +kernel
theorem dX9_full_91 : decode cX9_full 91 = .ok (.istore 6, 2) := by decide +kernel
theorem dX9_full_93 : decode cX9_full 93 = .ok (.iload 8, 2) := by decide +kernel
theorem dX9_full_95 : decode cX9_full 95 = .ok (.istore 7, 2) := by decide +kernel
theorem dX9_full_97 : decode cX9_full 97 = .ok (.iinc 5 1, 3) := by decide +kernel
theorem dX9_full_100 : decode cX9_full 100 = .ok (.iinc 8 1, 3) := by decide +kernel
theorem dX9_full_103 : decode cX9_full 103 = .ok (.goto (-40), 3) := by decide +kernel
theorem dX9_full_106 : decode cX9_full 106 = .ok (.iload 4, 2) := by decide +kernel
theorem dX9_full_108 : decode cX9_full 108 = .ok (.ifCond .ne 8, 3) := by decide +kernel
theorem dX9_full_111 : decode cX9_full 111 = .ok (.iload 5, 2) := by decide +kernel
theorem dX9_full_113 : decode cX9_full 113 = .ok (.goto 16, 3) := by decide +kernel
theorem dX9_full_116 : decode cX9_full 116 = .ok (.iload 4, 2) := by decide +kernel
theorem dX9_full_118 : decode cX9_full 118 = .ok (.iconst 1, 1) := by decide +kernel
theorem dX9_full_119 : decode cX9_full 119 = .ok (.if_icmp .ne 8, 3) := by decide +kernel
theorem dX9_full_122 : decode cX9_full 122 = .ok (.iload 6, 2) := by decide +kernel
theorem dX9_full_124 : decode cX9_full 124 = .ok (.goto 5, 3) := by decide +kernel
theorem dX9_full_127 : decode cX9_full 127 = .ok (.iload 7, 2) := by decide +kernel
theorem dX9_full_129 : decode cX9_full 129 = .ok (.ireturn, 1) := by decide +kernel
theorem dX9_list_0 : decode cX9_list 0 = .ok (.iload_n 1, 1) := by decide +kernel
theorem dX9_list_1 : decode cX9_list 1 = .ok (.i2l, 1) := by decide +kernel
theorem dX9_list_2 : decode cX9_list 2 = .ok (.ldc2_w 96, 3) := by decide +kernel
theorem dX9_list_5 : decode cX9_list 5 = .ok (.ldc2_w 192, 3) := by decide +kernel
theorem dX9_list_8 : decode cX9_list 8 = .ok (.invokestatic 92, 3) := by decide +kernel
theorem dX9_list_11 : decode cX9_list 11 = .ok (.ifCond .eq 10, 3) := by decide +kernel
theorem dX9_list_14 : decode cX9_list 14 = .ok (.iload_n 2, 1) := by decide +kernel
theorem dX9_list_15 : decode cX9_list 15 = .ok (.invokestatic 118, 3) := by decide +kernel
theorem dX9_list_18 : decode cX9_list 18 = .ok (.ifCond .ne 5, 3) := by decide +kernel
theorem dX9_list_21 : decode cX9_list 21 = .ok (.iconst (-1), 1) := by decide +kernel
theorem dX9_list_22 : decode cX9_list 22 = .ok (.ireturn, 1) := by decide +kernel
theorem dX9_list_23 : decode cX9_list 23 = .ok (.aload_n 0, 1) := by decide +kernel
theorem dX9_list_24 : decode cX9_list 24 = .ok (.iconst 0, 1) := by decide +kernel
theorem dX9_list_25 : decode cX9_list 25 = .ok (.putfield 194, 3) := by decide +kernel
theorem dX9_list_28 : decode cX9_list 28 = .ok (.aload_n 0, 1) := by decide +kernel
theorem dX9_list_29 : decode cX9_list 29 = .ok (.iload_n 2, 1) := by decide +kernel
theorem dX9_list_30 : decode cX9_list 30 = .ok (.putfield 36, 3) := by decide +kernel
theorem dX9_list_33 : decode cX9_list 33 = .ok (.iconst 2, 1) := by decide +kernel
theorem dX9_list_34 : decode cX9_list 34 = .ok (.istore_n 3, 1) := by decide +kernel
theorem dX9_list_35 : decode cX9_list 35 = .ok (.iload_n 3, 1) := by decide +kernel
theorem dX9_list_36 : decode cX9_list 36 = .ok (.iload_n 1, 1) := by decide +kernel
theorem dX9_list_37 : decode cX9_list 37 = .ok (.if_icmp .gt 29, 3) := by decide +kernel
theorem dX9_list_40 : decode cX9_list 40 = .ok (.aload_n 0, 1) := by decide +kernel
theorem dX9_list_41 : decode cX9_list 41 = .ok (.getfield 40, 3) := by decide +kernel
theorem dX9_list_44 : decode cX9_list 44 = .ok (.aload_n 0, 1) := by decide +kernel
theorem dX9_list_45 : decode cX9_list 45 = .ok (.getfield 194, 3) := by decide +kernel
theorem dX9_list_48 : decode cX9_list 48 = .ok (.iload_n 3, 1) := by decide +kernel
theorem dX9_list_49 : decode cX9_list 49 = .ok (.iastore, 1) := by decide +kernel
theorem dX9_list_50 : decode cX9_list 50 = .ok (.aload_n 0, 1) := by decide +kernel
theorem dX9_list_51 : decode cX9_list 51 = .ok (.dup, 1) := by decide +kernel
theorem dX9_list_52 : decode cX9_list 52 = .ok (.getfield 194, 3) := by decide +kernel
theorem dX9_list_55 : decode cX9_list 55 = .ok (.iconst 1, 1) := by decide +kernel
theorem dX9_list_56 : decode cX9_list 56 = .ok (.iadd, 1) := by decide +kernel
theorem dX9_list_57 : decode cX9_list 57 = .ok (.putfield 194, 3) := by decide +kernel
theorem dX9_list_60 : decode cX9_list 60 = .ok (.iinc 3 1, 3) := by decide +kernel
theorem dX9_list_63 : decode cX9_list 63 = .ok (.goto (-28), 3) := by decide +kernel
theorem dX9_list_66 : decode cX9_list 66 = .ok (.aload_n 0, 1) := by decide +kernel
theorem dX9_list_67 : decode cX9_list 67 = .ok (.getfield 194, 3) := by decide +kernel
theorem dX9_list_70 : decode cX9_list 70 = .ok (.ireturn, 1) := by decide +kernel
theorem dX9_isPrime_0 : decode cX9_isPrime 0 = .ok (.iconst 2, 1) := by decide +kernel
theorem dX9_isPrime_1 : decode cX9_isPrime 1 = .ok (.istore_n 1, 1) := by decide +kernel
theorem dX9_isPrime_2 : decode cX9_isPrime 2 = .ok (.iload_n 1, 1) := by decide +kernel
theorem dX9_isPrime_3 : decode cX9_isPrime 3 = .ok (.iload_n 1, 1) := by decide +kernel
theorem dX9_isPrime_4 : decode cX9_isPrime 4 = .ok (.imul, 1) := by decide +kernel
theorem dX9_isPrime_5 : decode cX9_isPrime 5 = .ok (.iload_n 0, 1) := by decide +kernel
theorem dX9_isPrime_6 : decode cX9_isPrime 6 = .ok (.if_icmp .gt 17, 3) := by decide +kernel
theorem dX9_isPrime_9 : decode cX9_isPrime 9 = .ok (.iload_n 0, 1) := by decide +kernel
theorem dX9_isPrime_10 : decode cX9_isPrime 10 = .ok (.iload_n 1, 1) := by decide +kernel
theorem dX9_isPrime_11 : decode cX9_isPrime 11 = .ok (.irem, 1) := by decide +kernel
theorem dX9_isPrime_12 : decode cX9_isPrime 12 = .ok (.ifCond .ne 5, 3) := by decide +kernel
theorem dX9_isPrime_15 : decode cX9_isPrime 15 = .ok (.iconst 0, 1) := by decide +kernel
theorem dX9_isPrime_16 : decode cX9_isPrime 16 = .ok (.ireturn, 1) := by decide +kernel
theorem dX9_isPrime_17 : decode cX9_isPrime 17 = .ok (.iinc 1 1, 3) := by decide +kernel
theorem dX9_isPrime_20 : decode cX9_isPrime 20 = .ok (.goto (-18), 3) := by decide +kernel
theorem dX9_isPrime_23 : decode cX9_isPrime 23 = .ok (.iconst 1, 1) := by decide +kernel
theorem dX9_isPrime_24 : decode cX9_isPrime 24 = .ok (.ireturn, 1) := by decide +kernel
theorem dX9_isSo_0 : decode cX9_isSo 0 = .ok (.aload_n 0, 1) := by decide +kernel
theorem dX9_isSo_1 : decode cX9_isSo 1 = .ok (.lconst 1, 1) := by decide +kernel
theorem dX9_isSo_2 : decode cX9_isSo 2 = .ok (.iload_n 2, 1) := by decide +kernel
theorem dX9_isSo_3 : decode cX9_isSo 3 = .ok (.aload_n 0, 1) := by decide +kernel
theorem dX9_isSo_4 : decode cX9_isSo 4 = .ok (.getfield 36, 3) := by decide +kernel
theorem dX9_isSo_7 : decode cX9_isSo 7 = .ok (.invokevirtual 110, 3) := by decide +kernel
theorem dX9_isSo_10 : decode cX9_isSo 10 = .ok (.iload_n 1, 1) := by decide +kernel
theorem dX9_isSo_11 : decode cX9_isSo 11 = .ok (.tableswitch 177 0 6 #[41, 46, 60, 74, 97, 119, 142], 41) := by decide +kernel
theorem dX9_isSo_52 : decode cX9_isSo 52 = .ok (.aload_n 0, 1) := by decide +kernel
theorem dX9_isSo_53 : decode cX9_isSo 53 = .ok (.getfield 106, 3) := by decide +kernel
theorem dX9_isSo_56 : decode cX9_isSo 56 = .ok (.ireturn, 1) := by decide +kernel
theorem dX9_isSo_57 : decode cX9_isSo 57 = .ok (.aload_n 0, 1) := by decide +kernel
theorem dX9_isSo_58 : decode cX9_isSo 58 = .ok (.invokevirtual 141, 3) := by decide +kernel
theorem dX9_isSo_61 : decode cX9_isSo 61 = .ok (.iconst 1, 1) := by decide +kernel
theorem dX9_isSo_62 : decode cX9_isSo 62 = .ok (.if_icmp .ne 7, 3) := by decide +kernel
theorem dX9_isSo_65 : decode cX9_isSo 65 = .ok (.iconst 1, 1) := by decide +kernel
theorem dX9_isSo_66 : decode cX9_isSo 66 = .ok (.goto 4, 3) := by decide +kernel
theorem dX9_isSo_69 : decode cX9_isSo 69 = .ok (.iconst 0, 1) := by decide +kernel
theorem dX9_isSo_70 : decode cX9_isSo 70 = .ok (.ireturn, 1) := by decide +kernel
theorem dX9_isSo_71 : decode cX9_isSo 71 = .ok (.aload_n 0, 1) := by decide +kernel
theorem dX9_isSo_72 : decode cX9_isSo 72 = .ok (.invokevirtual 141, 3) := by decide +kernel
theorem dX9_isSo_75 : decode cX9_isSo 75 = .ok (.iconst 2, 1) := by decide +kernel
theorem dX9_isSo_76 : decode cX9_isSo 76 = .ok (.if_icmp .ne 7, 3) := by decide +kernel
theorem dX9_isSo_79 : decode cX9_isSo 79 = .ok (.iconst 1, 1) := by decide +kernel
theorem dX9_isSo_80 : decode cX9_isSo 80 = .ok (.goto 4, 3) := by decide +kernel
theorem dX9_isSo_83 : decode cX9_isSo 83 = .ok (.iconst 0, 1) := by decide +kernel
theorem dX9_isSo_84 : decode cX9_isSo 84 = .ok (.ireturn, 1) := by decide +kernel
theorem dX9_isSo_85 : decode cX9_isSo 85 = .ok (.aload_n 0, 1) := by decide +kernel
theorem dX9_isSo_86 : decode cX9_isSo 86 = .ok (.getfield 106, 3) := by decide +kernel
theorem dX9_isSo_89 : decode cX9_isSo 89 = .ok (.ifCond .ne 17, 3) := by decide +kernel
theorem dX9_isSo_92 : decode cX9_isSo 92 = .ok (.aload_n 0, 1) := by decide +kernel
theorem dX9_isSo_93 : decode cX9_isSo 93 = .ok (.getfield 103, 3) := by decide +kernel
theorem dX9_isSo_96 : decode cX9_isSo 96 = .ok (.iload_n 2, 1) := by decide +kernel
theorem dX9_isSo_97 : decode cX9_isSo 97 = .ok (.iconst 1, 1) := by decide +kernel
theorem dX9_isSo_98 : decode cX9_isSo 98 = .ok (.isub, 1) := by decide +kernel
theorem dX9_isSo_99 : decode cX9_isSo 99 = .ok (.if_icmp .ne 7, 3) := by decide +kernel
theorem dX9_isSo_102 : decode cX9_isSo 102 = .ok (.iconst 1, 1) := by decide +kernel
theorem dX9_isSo_103 : decode cX9_isSo 103 = .ok (.goto 4, 3) := by decide +kernel
theorem dX9_isSo_106 : decode cX9_isSo 106 = .ok (.iconst 0, 1) := by decide +kernel
theorem dX9_isSo_107 : decode cX9_isSo 107 = .ok (.ireturn, 1) := by decide +kernel
theorem dX9_isSo_108 : decode cX9_isSo 108 = .ok (.aload_n 0, 1) := by decide +kernel
theorem dX9_isSo_109 : decode cX9_isSo 109 = .ok (.getfield 106, 3) := by decide +kernel
theorem dX9_isSo_112 : decode cX9_isSo 112 = .ok (.ifCond .ne 16, 3) := by decide +kernel
theorem dX9_isSo_115 : decode cX9_isSo 115 = .ok (.aload_n 0, 1) := by decide +kernel
theorem dX9_isSo_116 : decode cX9_isSo 116 = .ok (.getfield 103, 3) := by decide +kernel
theorem dX9_isSo_119 : decode cX9_isSo 119 = .ok (.iconst 2, 1) := by decide +kernel
theorem dX9_isSo_120 : decode cX9_isSo 120 = .ok (.irem, 1) := by decide +kernel
theorem dX9_isSo_121 : decode cX9_isSo 121 = .ok (.ifCond .ne 7, 3) := by decide +kernel
theorem dX9_isSo_124 : decode cX9_isSo 124 = .ok (.iconst 1, 1) := by decide +kernel
theorem dX9_isSo_125 : decode cX9_isSo 125 = .ok (.goto 4, 3) := by decide +kernel
theorem dX9_isSo_128 : decode cX9_isSo 128 = .ok (.iconst 0, 1) := by decide +kernel
theorem dX9_isSo_129 : decode cX9_isSo 129 = .ok (.ireturn, 1) := by decide +kernel
theorem dX9_isSo_130 : decode cX9_isSo 130 = .ok (.aload_n 0, 1) := by decide +kernel
theorem dX9_isSo_131 : decode cX9_isSo 131 = .ok (.getfield 106, 3) := by decide +kernel
theorem dX9_isSo_134 : decode cX9_isSo 134 = .ok (.ifCond .ne 17, 3) := by decide +kernel
theorem dX9_isSo_137 : decode cX9_isSo 137 = .ok (.aload_n 0, 1) := by decide +kernel
theorem dX9_isSo_138 : decode cX9_isSo 138 = .ok (.getfield 103, 3) := by decide +kernel
theorem dX9_isSo_141 : decode cX9_isSo 141 = .ok (.iconst 2, 1) := by decide +kernel
theorem dX9_isSo_142 : decode cX9_isSo 142 = .ok (.irem, 1) := by decide +kernel
theorem dX9_isSo_143 : decode cX9_isSo 143 = .ok (.iconst 1, 1) := by decide +kernel
theorem dX9_isSo_144 : decode cX9_isSo 144 = .ok (.if_icmp .ne 7, 3) := by decide +kernel
theorem dX9_isSo_147 : decode cX9_isSo 147 = .ok (.iconst 1, 1) := by decide +kernel
theorem dX9_isSo_148 : decode cX9_isSo 148 = .ok (.goto 4, 3) := by decide +kernel
theorem dX9_isSo_151 : decode cX9_isSo 151 = .ok (.iconst 0, 1) := by decide +kernel
theorem dX9_isSo_152 : decode cX9_isSo 152 = .ok (.ireturn, 1) := by decide +kernel
theorem dX9_isSo_153 : decode cX9_isSo 153 = .ok (.aload_n 0, 1) := by decide +kernel
theorem dX9_isSo_154 : decode cX9_isSo 154 = .ok (.getfield 106, 3) := by decide +kernel
theorem dX9_isSo_157 : decode cX9_isSo 157 = .ok (.ifCond .ne 29, 3) := by decide +kernel
theorem dX9_isSo_160 : decode cX9_isSo 160 = .ok (.aload_n 0, 1) := by decide +kernel
theorem dX9_isSo_161 : decode cX9_isSo 161 = .ok (.getfield 103, 3) := by decide +kernel
theorem dX9_isSo_164 : decode cX9_isSo 164 = .ok (.iconst 2, 1) := by decide +kernel
theorem dX9_isSo_165 : decode cX9_isSo 165 = .ok (.irem, 1) := by decide +kernel
theorem dX9_isSo_166 : decode cX9_isSo 166 = .ok (.ifCond .ne 20, 3) := by decide +kernel
theorem dX9_isSo_169 : decode cX9_isSo 169 = .ok (.aload_n 0, 1) := by decide +kernel
theorem dX9_isSo_170 : decode cX9_isSo 170 = .ok (.iconst 2, 1) := by decide +kernel
theorem dX9_isSo_171 : decode cX9_isSo 171 = .ok (.aload_n 0, 1) := by decide +kernel
theorem dX9_isSo_172 : decode cX9_isSo 172 = .ok (.getfield 36, 3) := by decide +kernel
theorem dX9_isSo_175 : decode cX9_isSo 175 = .ok (.invokevirtual 171, 3) := by decide +kernel
theorem dX9_isSo_178 : decode cX9_isSo 178 = .ok (.iconst 1, 1) := by decide +kernel
theorem dX9_isSo_179 : decode cX9_isSo 179 = .ok (.if_icmp .ne 7, 3) := by decide +kernel
theorem dX9_isSo_182 : decode cX9_isSo 182 = .ok (.iconst 1, 1) := by decide +kernel
theorem dX9_isSo_183 : decode cX9_isSo 183 = .ok (.goto 4, 3) := by decide +kernel
theorem dX9_isSo_186 : decode cX9_isSo 186 = .ok (.iconst 0, 1) := by decide +kernel
theorem dX9_isSo_187 : decode cX9_isSo 187 = .ok (.ireturn, 1) := by decide +kernel
theorem dX9_isSo_188 : decode cX9_isSo 188 = .ok (.iload_n 2, 1) := by decide +kernel
theorem dX9_isSo_189 : decode cX9_isSo 189 = .ok (.invokestatic 197, 3) := by decide +kernel
theorem dX9_isSo_192 : decode cX9_isSo 192 = .ok (.ireturn, 1) := by decide +kernel
theorem dX9_listed_0 : decode cX9_listed 0 = .ok (.iload_n 1, 1) := by decide +kernel
theorem dX9_listed_1 : decode cX9_listed 1 = .ok (.ifCond .ge 5, 3) := by decide +kernel
theorem dX9_listed_4 : decode cX9_listed 4 = .ok (.iconst (-1), 1) := by decide +kernel
theorem dX9_listed_5 : decode cX9_listed 5 = .ok (.ireturn, 1) := by decide +kernel
theorem dX9_listed_6 : decode cX9_listed 6 = .ok (.iload_n 1, 1) := by decide +kernel
theorem dX9_listed_7 : decode cX9_listed 7 = .ok (.aload_n 0, 1) := by decide +kernel
theorem dX9_listed_8 : decode cX9_listed 8 = .ok (.getfield 194, 3) := by decide +kernel
theorem dX9_listed_11 : decode cX9_listed 11 = .ok (.if_icmp .ge 12, 3) := by decide +kernel
theorem dX9_listed_14 : decode cX9_listed 14 = .ok (.aload_n 0, 1) := by decide +kernel
theorem dX9_listed_15 : decode cX9_listed 15 = .ok (.getfield 40, 3) := by decide +kernel
theorem dX9_listed_18 : decode cX9_listed 18 = .ok (.iload_n 1, 1) := by decide +kernel
theorem dX9_listed_19 : decode cX9_listed 19 = .ok (.iaload, 1) := by decide +kernel
theorem dX9_listed_20 : decode cX9_listed 20 = .ok (.goto 5, 3) := by decide +kernel
theorem dX9_listed_23 : decode cX9_listed 23 = .ok (.bipush (-2), 2) := by decide +kernel
theorem dX9_listed_25 : decode cX9_listed 25 = .ok (.ireturn, 1) := by decide +kernel
theorem dX9_worth_0 : decode cX9_worth 0 = .ok (.iload_n 0, 1) := by decide +kernel
theorem dX9_worth_1 : decode cX9_worth 1 = .ok (.tableswitch 88 0 4 #[35, 38, 46, 71, 77], 35) := by decide +kernel
theorem dX9_worth_36 : decode cX9_worth 36 = .ok (.iload_n 1, 1) := by decide +kernel
theorem dX9_worth_37 : decode cX9_worth 37 = .ok (.i2l, 1) := by decide +kernel
theorem dX9_worth_38 : decode cX9_worth 38 = .ok (.lreturn, 1) := by decide +kernel
theorem dX9_worth_39 : decode cX9_worth 39 = .ok (.iload_n 1, 1) := by decide +kernel
theorem dX9_worth_40 : decode cX9_worth 40 = .ok (.i2l, 1) := by decide +kernel
theorem dX9_worth_41 : decode cX9_worth 41 = .ok (.iload_n 2, 1) := by decide +kernel
theorem dX9_worth_42 : decode cX9_worth 42 = .ok (.i2l, 1) := by decide +kernel
theorem dX9_worth_43 : decode cX9_worth 43 = .ok (.lconst 1, 1) := by decide +kernel
theorem dX9_worth_44 : decode cX9_worth 44 = .ok (.ladd, 1) := by decide +kernel
theorem dX9_worth_45 : decode cX9_worth 45 = .ok (.lmul, 1) := by decide +kernel
theorem dX9_worth_46 : decode cX9_worth 46 = .ok (.lreturn, 1) := by decide +kernel
theorem dX9_worth_47 : decode cX9_worth 47 = .ok (.iload_n 2, 1) := by decide +kernel
theorem dX9_worth_48 : decode cX9_worth 48 = .ok (.iconst 2, 1) := by decide +kernel
theorem dX9_worth_49 : decode cX9_worth 49 = .ok (.irem, 1) := by decide +kernel
theorem dX9_worth_50 : decode cX9_worth 50 = .ok (.ifCond .ne 13, 3) := by decide +kernel
theorem dX9_worth_53 : decode cX9_worth 53 = .ok (.iload_n 1, 1) := by decide +kernel
theorem dX9_worth_54 : decode cX9_worth 54 = .ok (.i2l, 1) := by decide +kernel
theorem dX9_worth_55 : decode cX9_worth 55 = .ok (.iload_n 2, 1) := by decide +kernel
theorem dX9_worth_56 : decode cX9_worth 56 = .ok (.i2l, 1) := by decide +kernel
theorem dX9_worth_57 : decode cX9_worth 57 = .ok (.lconst 1, 1) := by decide +kernel
theorem dX9_worth_58 : decode cX9_worth 58 = .ok (.ladd, 1) := by decide +kernel
theorem dX9_worth_59 : decode cX9_worth 59 = .ok (.lmul, 1) := by decide +kernel
theorem dX9_worth_60 : decode cX9_worth 60 = .ok (.goto 11, 3) := by decide +kernel
theorem dX9_worth_63 : decode cX9_worth 63 = .ok (.iload_n 1, 1) := by decide +kernel
theorem dX9_worth_64 : decode cX9_worth 64 = .ok (.ineg, 1) := by decide +kernel
theorem dX9_worth_65 : decode cX9_worth 65 = .ok (.i2l, 1) := by decide +kernel
theorem dX9_worth_66 : decode cX9_worth 66 = .ok (.iload_n 2, 1) := by decide +kernel
theorem dX9_worth_67 : decode cX9_worth 67 = .ok (.i2l, 1) := by decide +kernel
theorem dX9_worth_68 : decode cX9_worth 68 = .ok (.lconst 1, 1) := by decide +kernel
theorem dX9_worth_69 : decode cX9_worth 69 = .ok (.ladd, 1) := by decide +kernel
theorem dX9_worth_70 : decode cX9_worth 70 = .ok (.lmul, 1) := by decide +kernel
theorem dX9_worth_71 : decode cX9_worth 71 = .ok (.lreturn, 1) := by decide +kernel
theorem dX9_worth_72 : decode cX9_worth 72 = .ok (.iload_n 1, 1) := by decide +kernel
theorem dX9_worth_73 : decode cX9_worth 73 = .ok (.i2l, 1) := by decide +kernel
theorem dX9_worth_74 : decode cX9_worth 74 = .ok (.iload_n 1, 1) := by decide +kernel
theorem dX9_worth_75 : decode cX9_worth 75 = .ok (.i2l, 1) := by decide +kernel
theorem dX9_worth_76 : decode cX9_worth 76 = .ok (.lmul, 1) := by decide +kernel
theorem dX9_worth_77 : decode cX9_worth 77 = .ok (.lreturn, 1) := by decide +kernel
theorem dX9_worth_78 : decode cX9_worth 78 = .ok (.iload_n 1, 1) := by decide +kernel
theorem dX9_worth_79 : decode cX9_worth 79 = .ok (.i2l, 1) := by decide +kernel
theorem dX9_worth_80 : decode cX9_worth 80 = .ok (.iload_n 1, 1) := by decide +kernel
theorem dX9_worth_81 : decode cX9_worth 81 = .ok (.i2l, 1) := by decide +kernel
theorem dX9_worth_82 : decode cX9_worth 82 = .ok (.lmul, 1) := by decide +kernel
theorem dX9_worth_83 : decode cX9_worth 83 = .ok (.iload_n 3, 1) := by decide +kernel
theorem dX9_worth_84 : decode cX9_worth 84 = .ok (.i2l, 1) := by decide +kernel
theorem dX9_worth_85 : decode cX9_worth 85 = .ok (.invokestatic 200, 3) := by decide +kernel
theorem dX9_worth_88 : decode cX9_worth 88 = .ok (.lreturn, 1) := by decide +kernel
theorem dX9_worth_89 : decode cX9_worth 89 = .ok (.iload_n 1, 1) := by decide +kernel
theorem dX9_worth_90 : decode cX9_worth 90 = .ok (.iload_n 3, 1) := by decide +kernel
theorem dX9_worth_91 : decode cX9_worth 91 = .ok (.if_icmp .le 7, 3) := by decide +kernel
theorem dX9_worth_94 : decode cX9_worth 94 = .ok (.lconst 1, 1) := by decide +kernel
theorem dX9_worth_95 : decode cX9_worth 95 = .ok (.goto 4, 3) := by decide +kernel
theorem dX9_worth_98 : decode cX9_worth 98 = .ok (.lconst 0, 1) := by decide +kernel
theorem dX9_worth_99 : decode cX9_worth 99 = .ok (.lreturn, 1) := by decide +kernel
theorem dX9_tells_0 : decode cX9_tells 0 = .ok (.aload_n 0, 1) := by decide +kernel
theorem dX9_tells_1 : decode cX9_tells 1 = .ok (.iload_n 1, 1) := by decide +kernel
theorem dX9_tells_2 : decode cX9_tells 2 = .ok (.invokevirtual 126, 3) := by decide +kernel
theorem dX9_tells_5 : decode cX9_tells 5 = .ok (.ifCond .eq 27, 3) := by decide +kernel
theorem dX9_tells_8 : decode cX9_tells 8 = .ok (.iload_n 2, 1) := by decide +kernel
theorem dX9_tells_9 : decode cX9_tells 9 = .ok (.i2l, 1) := by decide +kernel
theorem dX9_tells_10 : decode cX9_tells 10 = .ok (.lconst 0, 1) := by decide +kernel
theorem dX9_tells_11 : decode cX9_tells 11 = .ok (.ldc2_w 203, 3) := by decide +kernel
theorem dX9_tells_14 : decode cX9_tells 14 = .ok (.invokestatic 92, 3) := by decide +kernel
theorem dX9_tells_17 : decode cX9_tells 17 = .ok (.ifCond .eq 15, 3) := by decide +kernel
theorem dX9_tells_20 : decode cX9_tells 20 = .ok (.iload_n 3, 1) := by decide +kernel
theorem dX9_tells_21 : decode cX9_tells 21 = .ok (.i2l, 1) := by decide +kernel
theorem dX9_tells_22 : decode cX9_tells 22 = .ok (.lconst 0, 1) := by decide +kernel
theorem dX9_tells_23 : decode cX9_tells 23 = .ok (.ldc2_w 205, 3) := by decide +kernel
theorem dX9_tells_26 : decode cX9_tells 26 = .ok (.invokestatic 92, 3) := by decide +kernel
theorem dX9_tells_29 : decode cX9_tells 29 = .ok (.ifCond .ne 7, 3) := by decide +kernel
theorem dX9_tells_32 : decode cX9_tells 32 = .ok (.ldc2_w 207, 3) := by decide +kernel
theorem dX9_tells_35 : decode cX9_tells 35 = .ok (.lreturn, 1) := by decide +kernel
theorem dX9_tells_36 : decode cX9_tells 36 = .ok (.aload_n 0, 1) := by decide +kernel
theorem dX9_tells_37 : decode cX9_tells 37 = .ok (.iload_n 1, 1) := by decide +kernel
theorem dX9_tells_38 : decode cX9_tells 38 = .ok (.invokevirtual 137, 3) := by decide +kernel
theorem dX9_tells_41 : decode cX9_tells 41 = .ok (.lconst 0, 1) := by decide +kernel
theorem dX9_tells_42 : decode cX9_tells 42 = .ok (.lstore 4, 2) := by decide +kernel
theorem dX9_tells_44 : decode cX9_tells 44 = .ok (.iconst 0, 1) := by decide +kernel
theorem dX9_tells_45 : decode cX9_tells 45 = .ok (.istore 6, 2) := by decide +kernel
theorem dX9_tells_47 : decode cX9_tells 47 = .ok (.iload 6, 2) := by decide +kernel
theorem dX9_tells_49 : decode cX9_tells 49 = .ok (.aload_n 0, 1) := by decide +kernel
theorem dX9_tells_50 : decode cX9_tells 50 = .ok (.getfield 103, 3) := by decide +kernel
theorem dX9_tells_53 : decode cX9_tells 53 = .ok (.if_icmp .ge 33, 3) := by decide +kernel
theorem dX9_tells_56 : decode cX9_tells 56 = .ok (.lload 4, 2) := by decide +kernel
theorem dX9_tells_58 : decode cX9_tells 58 = .ok (.iload_n 2, 1) := by decide +kernel
theorem dX9_tells_59 : decode cX9_tells 59 = .ok (.aload_n 0, 1) := by decide +kernel
theorem dX9_tells_60 : decode cX9_tells 60 = .ok (.getfield 27, 3) := by decide +kernel
theorem dX9_tells_63 : decode cX9_tells 63 = .ok (.aload_n 0, 1) := by decide +kernel
theorem dX9_tells_64 : decode cX9_tells 64 = .ok (.getfield 100, 3) := by decide +kernel
theorem dX9_tells_67 : decode cX9_tells 67 = .ok (.iload 6, 2) := by decide +kernel
theorem dX9_tells_69 : decode cX9_tells 69 = .ok (.iadd, 1) := by decide +kernel
theorem dX9_tells_70 : decode cX9_tells 70 = .ok (.iaload, 1) := by decide +kernel
theorem dX9_tells_71 : decode cX9_tells 71 = .ok (.iload 6, 2) := by decide +kernel
theorem dX9_tells_73 : decode cX9_tells 73 = .ok (.iload_n 3, 1) := by decide +kernel
theorem dX9_tells_74 : decode cX9_tells 74 = .ok (.invokestatic 209, 3) := by decide +kernel
theorem dX9_tells_77 : decode cX9_tells 77 = .ok (.ladd, 1) := by decide +kernel
theorem dX9_tells_78 : decode cX9_tells 78 = .ok (.lstore 4, 2) := by decide +kernel
theorem dX9_tells_80 : decode cX9_tells 80 = .ok (.iinc 6 1, 3) := by decide +kernel
theorem dX9_tells_83 : decode cX9_tells 83 = .ok (.goto (-36), 3) := by decide +kernel
theorem dX9_tells_86 : decode cX9_tells 86 = .ok (.lload 4, 2) := by decide +kernel
theorem dX9_tells_88 : decode cX9_tells 88 = .ok (.lreturn, 1) := by decide +kernel
theorem dX9_feed_0 : decode cX9_feed 0 = .ok (.iload_n 2, 1) := by decide +kernel
theorem dX9_feed_1 : decode cX9_feed 1 = .ok (.i2l, 1) := by decide +kernel
theorem dX9_feed_2 : decode cX9_feed 2 = .ok (.lconst 1, 1) := by decide +kernel
theorem dX9_feed_3 : decode cX9_feed 3 = .ok (.ldc2_w 213, 3) := by decide +kernel
theorem dX9_feed_6 : decode cX9_feed 6 = .ok (.invokestatic 92, 3) := by decide +kernel
theorem dX9_feed_9 : decode cX9_feed 9 = .ok (.ifCond .ne 5, 3) := by decide +kernel
theorem dX9_feed_12 : decode cX9_feed 12 = .ok (.iconst (-1), 1) := by decide +kernel
theorem dX9_feed_13 : decode cX9_feed 13 = .ok (.ireturn, 1) := by decide +kernel
theorem dX9_feed_14 : decode cX9_feed 14 = .ok (.aload_n 0, 1) := by decide +kernel
theorem dX9_feed_15 : decode cX9_feed 15 = .ok (.getfield 215, 3) := by decide +kernel
theorem dX9_feed_18 : decode cX9_feed 18 = .ok (.iload_n 2, 1) := by decide +kernel
theorem dX9_feed_19 : decode cX9_feed 19 = .ok (.iadd, 1) := by decide +kernel
theorem dX9_feed_20 : decode cX9_feed 20 = .ok (.bipush 80, 2) := by decide +kernel
theorem dX9_feed_22 : decode cX9_feed 22 = .ok (.if_icmp .le 6, 3) := by decide +kernel
theorem dX9_feed_25 : decode cX9_feed 25 = .ok (.bipush (-3), 2) := by decide +kernel
theorem dX9_feed_27 : decode cX9_feed 27 = .ok (.ireturn, 1) := by decide +kernel
theorem dX9_feed_28 : decode cX9_feed 28 = .ok (.iload_n 2, 1) := by decide +kernel
theorem dX9_feed_29 : decode cX9_feed 29 = .ok (.iconst 1, 1) := by decide +kernel
theorem dX9_feed_30 : decode cX9_feed 30 = .ok (.isub, 1) := by decide +kernel
theorem dX9_feed_31 : decode cX9_feed 31 = .ok (.istore_n 3, 1) := by decide +kernel
theorem dX9_feed_32 : decode cX9_feed 32 = .ok (.iload_n 3, 1) := by decide +kernel
theorem dX9_feed_33 : decode cX9_feed 33 = .ok (.ifCond .lt 38, 3) := by decide +kernel
theorem dX9_feed_36 : decode cX9_feed 36 = .ok (.aload_n 0, 1) := by decide +kernel
theorem dX9_feed_37 : decode cX9_feed 37 = .ok (.getfield 53, 3) := by decide +kernel
theorem dX9_feed_40 : decode cX9_feed 40 = .ok (.aload_n 0, 1) := by decide +kernel
theorem dX9_feed_41 : decode cX9_feed 41 = .ok (.getfield 215, 3) := by decide +kernel
theorem dX9_feed_44 : decode cX9_feed 44 = .ok (.iload_n 1, 1) := by decide +kernel
theorem dX9_feed_45 : decode cX9_feed 45 = .ok (.bipush 8, 2) := by decide +kernel
theorem dX9_feed_47 : decode cX9_feed 47 = .ok (.iload_n 3, 1) := by decide +kernel
theorem dX9_feed_48 : decode cX9_feed 48 = .ok (.imul, 1) := by decide +kernel
theorem dX9_feed_49 : decode cX9_feed 49 = .ok (.iushr, 1) := by decide +kernel
theorem dX9_feed_50 : decode cX9_feed 50 = .ok (.sipush 255, 3) := by decide +kernel
theorem dX9_feed_53 : decode cX9_feed 53 = .ok (.iand, 1) := by decide +kernel
theorem dX9_feed_54 : decode cX9_feed 54 = .ok (.iastore, 1) := by decide +kernel
theorem dX9_feed_55 : decode cX9_feed 55 = .ok (.aload_n 0, 1) := by decide +kernel
theorem dX9_feed_56 : decode cX9_feed 56 = .ok (.dup, 1) := by decide +kernel
theorem dX9_feed_57 : decode cX9_feed 57 = .ok (.getfield 215, 3) := by decide +kernel
theorem dX9_feed_60 : decode cX9_feed 60 = .ok (.iconst 1, 1) := by decide +kernel
theorem dX9_feed_61 : decode cX9_feed 61 = .ok (.iadd, 1) := by decide +kernel
theorem dX9_feed_62 : decode cX9_feed 62 = .ok (.putfield 215, 3) := by decide +kernel
theorem dX9_feed_65 : decode cX9_feed 65 = .ok (.iinc 3 (-1), 3) := by decide +kernel
theorem dX9_feed_68 : decode cX9_feed 68 = .ok (.goto (-36), 3) := by decide +kernel
theorem dX9_feed_71 : decode cX9_feed 71 = .ok (.aload_n 0, 1) := by decide +kernel
theorem dX9_feed_72 : decode cX9_feed 72 = .ok (.getfield 215, 3) := by decide +kernel
theorem dX9_feed_75 : decode cX9_feed 75 = .ok (.ireturn, 1) := by decide +kernel
theorem dX9_wipe_0 : decode cX9_wipe 0 = .ok (.aload_n 0, 1) := by decide +kernel
theorem dX9_wipe_1 : decode cX9_wipe 1 = .ok (.getfield 215, 3) := by decide +kernel
theorem dX9_wipe_4 : decode cX9_wipe 4 = .ok (.istore_n 1, 1) := by decide +kernel
theorem dX9_wipe_5 : decode cX9_wipe 5 = .ok (.aload_n 0, 1) := by decide +kernel
theorem dX9_wipe_6 : decode cX9_wipe 6 = .ok (.iconst 0, 1) := by decide +kernel
theorem dX9_wipe_7 : decode cX9_wipe 7 = .ok (.putfield 215, 3) := by decide +kernel
theorem dX9_wipe_10 : decode cX9_wipe 10 = .ok (.iload_n 1, 1) := by decide +kernel
theorem dX9_wipe_11 : decode cX9_wipe 11 = .ok (.ireturn, 1) := by decide +kernel
theorem dX9_isAt_0 : decode cX9_isAt 0 = .ok (.aload_n 0, 1) := by decide +kernel
theorem dX9_isAt_1 : decode cX9_isAt 1 = .ok (.getfield 218, 3) := by decide +kernel
theorem dX9_isAt_4 : decode cX9_isAt 4 = .ok (.aload_n 0, 1) := by decide +kernel
theorem dX9_isAt_5 : decode cX9_isAt 5 = .ok (.getfield 221, 3) := by decide +kernel
theorem dX9_isAt_8 : decode cX9_isAt 8 = .ok (.if_icmp .ge 27, 3) := by decide +kernel
theorem dX9_isAt_11 : decode cX9_isAt 11 = .ok (.aload_n 0, 1) := by decide +kernel
theorem dX9_isAt_12 : decode cX9_isAt 12 = .ok (.getfield 53, 3) := by decide +kernel
theorem dX9_isAt_15 : decode cX9_isAt 15 = .ok (.aload_n 0, 1) := by decide +kernel
theorem dX9_isAt_16 : decode cX9_isAt 16 = .ok (.getfield 218, 3) := by decide +kernel
theorem dX9_isAt_19 : decode cX9_isAt 19 = .ok (.iaload, 1) := by decide +kernel
theorem dX9_isAt_20 : decode cX9_isAt 20 = .ok (.i2l, 1) := by decide +kernel
theorem dX9_isAt_21 : decode cX9_isAt 21 = .ok (.iload_n 1, 1) := by decide +kernel
theorem dX9_isAt_22 : decode cX9_isAt 22 = .ok (.i2l, 1) := by decide +kernel
theorem dX9_isAt_23 : decode cX9_isAt 23 = .ok (.iload_n 2, 1) := by decide +kernel
theorem dX9_isAt_24 : decode cX9_isAt 24 = .ok (.i2l, 1) := by decide +kernel
theorem dX9_isAt_25 : decode cX9_isAt 25 = .ok (.invokestatic 92, 3) := by decide +kernel
theorem dX9_isAt_28 : decode cX9_isAt 28 = .ok (.ifCond .eq 7, 3) := by decide +kernel
theorem dX9_isAt_31 : decode cX9_isAt 31 = .ok (.iconst 1, 1) := by decide +kernel
theorem dX9_isAt_32 : decode cX9_isAt 32 = .ok (.goto 4, 3) := by decide +kernel
theorem dX9_isAt_35 : decode cX9_isAt 35 = .ok (.iconst 0, 1) := by decide +kernel
theorem dX9_isAt_36 : decode cX9_isAt 36 = .ok (.ireturn, 1) := by decide +kernel
theorem dX9_wordOf_0 : decode cX9_wordOf 0 = .ok (.iconst 0, 1) := by decide +kernel
theorem dX9_wordOf_1 : decode cX9_wordOf 1 = .ok (.istore_n 3, 1) := by decide +kernel
theorem dX9_wordOf_2 : decode cX9_wordOf 2 = .ok (.iconst 0, 1) := by decide +kernel
theorem dX9_wordOf_3 : decode cX9_wordOf 3 = .ok (.istore 4, 2) := by decide +kernel
theorem dX9_wordOf_5 : decode cX9_wordOf 5 = .ok (.iload 4, 2) := by decide +kernel
theorem dX9_wordOf_7 : decode cX9_wordOf 7 = .ok (.bipush 8, 2) := by decide +kernel
theorem dX9_wordOf_9 : decode cX9_wordOf 9 = .ok (.if_icmp .ge 99, 3) := by decide +kernel
theorem dX9_wordOf_12 : decode cX9_wordOf 12 = .ok (.iload_n 3, 1) := by decide +kernel
theorem dX9_wordOf_13 : decode cX9_wordOf 13 = .ok (.istore 5, 2) := by decide +kernel
theorem dX9_wordOf_15 : decode cX9_wordOf 15 = .ok (.iconst 1, 1) := by decide +kernel
theorem dX9_wordOf_16 : decode cX9_wordOf 16 = .ok (.istore 6, 2) := by decide +kernel
theorem dX9_wordOf_18 : decode cX9_wordOf 18 = .ok (.aload_n 0, 1) := by decide +kernel
theorem dX9_wordOf_19 : decode cX9_wordOf 19 = .ok (.getfield 43, 3) := by decide +kernel
theorem dX9_wordOf_22 : decode cX9_wordOf 22 = .ok (.iload 5, 2) := by decide +kernel
theorem dX9_wordOf_24 : decode cX9_wordOf 24 = .ok (.caload, 1) := by decide +kernel
theorem dX9_wordOf_25 : decode cX9_wordOf 25 = .ok (.bipush 32, 2) := by decide +kernel
theorem dX9_wordOf_27 : decode cX9_wordOf 27 = .ok (.if_icmp .eq 52, 3) := by decide +kernel
theorem dX9_wordOf_30 : decode cX9_wordOf 30 = .ok (.iload 6, 2) := by decide +kernel
theorem dX9_wordOf_32 : decode cX9_wordOf 32 = .ok (.ifCond .eq 38, 3) := by decide +kernel
theorem dX9_wordOf_35 : decode cX9_wordOf 35 = .ok (.iload_n 1, 1) := by decide +kernel
theorem dX9_wordOf_36 : decode cX9_wordOf 36 = .ok (.iload 5, 2) := by decide +kernel
theorem dX9_wordOf_38 : decode cX9_wordOf 38 = .ok (.iadd, 1) := by decide +kernel
theorem dX9_wordOf_39 : decode cX9_wordOf 39 = .ok (.iload_n 3, 1) := by decide +kernel
theorem dX9_wordOf_40 : decode cX9_wordOf 40 = .ok (.isub, 1) := by decide +kernel
theorem dX9_wordOf_41 : decode cX9_wordOf 41 = .ok (.iload_n 2, 1) := by decide +kernel
theorem dX9_wordOf_42 : decode cX9_wordOf 42 = .ok (.if_icmp .ge 28, 3) := by decide +kernel
theorem dX9_wordOf_45 : decode cX9_wordOf 45 = .ok (.aload_n 0, 1) := by decide +kernel
theorem dX9_wordOf_46 : decode cX9_wordOf 46 = .ok (.getfield 53, 3) := by decide +kernel
theorem dX9_wordOf_49 : decode cX9_wordOf 49 = .ok (.iload_n 1, 1) := by decide +kernel
theorem dX9_wordOf_50 : decode cX9_wordOf 50 = .ok (.iload 5, 2) := by decide +kernel
theorem dX9_wordOf_52 : decode cX9_wordOf 52 = .ok (.iadd, 1) := by decide +kernel
theorem dX9_wordOf_53 : decode cX9_wordOf 53 = .ok (.iload_n 3, 1) := by decide +kernel
theorem dX9_wordOf_54 : decode cX9_wordOf 54 = .ok (.isub, 1) := by decide +kernel
theorem dX9_wordOf_55 : decode cX9_wordOf 55 = .ok (.iaload, 1) := by decide +kernel
theorem dX9_wordOf_56 : decode cX9_wordOf 56 = .ok (.aload_n 0, 1) := by decide +kernel
theorem dX9_wordOf_57 : decode cX9_wordOf 57 = .ok (.getfield 43, 3) := by decide +kernel
theorem dX9_wordOf_60 : decode cX9_wordOf 60 = .ok (.iload 5, 2) := by decide +kernel
theorem dX9_wordOf_62 : decode cX9_wordOf 62 = .ok (.caload, 1) := by decide +kernel
theorem dX9_wordOf_63 : decode cX9_wordOf 63 = .ok (.if_icmp .ne 7, 3) := by decide +kernel
theorem dX9_wordOf_66 : decode cX9_wordOf 66 = .ok (.iconst 1, 1) := by decide +kernel
theorem dX9_wordOf_67 : decode cX9_wordOf 67 = .ok (.goto 4, 3) := by decide +kernel
theorem dX9_wordOf_70 : decode cX9_wordOf 70 = .ok (.iconst 0, 1) := by decide +kernel
theorem dX9_wordOf_71 : decode cX9_wordOf 71 = .ok (.istore 6, 2) := by decide +kernel
theorem dX9_wordOf_73 : decode cX9_wordOf 73 = .ok (.iinc 5 1, 3) := by decide +kernel
theorem dX9_wordOf_76 : decode cX9_wordOf 76 = .ok (.goto (-58), 3) := by decide +kernel
theorem dX9_wordOf_79 : decode cX9_wordOf 79 = .ok (.iload 6, 2) := by decide +kernel
theorem dX9_wordOf_81 : decode cX9_wordOf 81 = .ok (.ifCond .eq 16, 3) := by decide +kernel
theorem dX9_wordOf_84 : decode cX9_wordOf 84 = .ok (.iload 5, 2) := by decide +kernel
theorem dX9_wordOf_86 : decode cX9_wordOf 86 = .ok (.iload_n 3, 1) := by decide +kernel
theorem dX9_wordOf_87 : decode cX9_wordOf 87 = .ok (.isub, 1) := by decide +kernel
theorem dX9_wordOf_88 : decode cX9_wordOf 88 = .ok (.iload_n 2, 1) := by decide +kernel
theorem dX9_wordOf_89 : decode cX9_wordOf 89 = .ok (.iload_n 1, 1) := by decide +kernel
theorem dX9_wordOf_90 : decode cX9_wordOf 90 = .ok (.isub, 1) := by decide +kernel
theorem dX9_wordOf_91 : decode cX9_wordOf 91 = .ok (.if_icmp .ne 6, 3) := by decide +kernel
theorem dX9_wordOf_94 : decode cX9_wordOf 94 = .ok (.iload 4, 2) := by decide +kernel
theorem dX9_wordOf_96 : decode cX9_wordOf 96 = .ok (.ireturn, 1) := by decide +kernel
theorem dX9_wordOf_97 : decode cX9_wordOf 97 = .ok (.iload 5, 2) := by decide +kernel
theorem dX9_wordOf_99 : decode cX9_wordOf 99 = .ok (.iconst 1, 1) := by decide +kernel
theorem dX9_wordOf_100 : decode cX9_wordOf 100 = .ok (.iadd, 1) := by decide +kernel
theorem dX9_wordOf_101 : decode cX9_wordOf 101 = .ok (.istore_n 3, 1) := by decide +kernel
theorem dX9_wordOf_102 : decode cX9_wordOf 102 = .ok (.iinc 4 1, 3) := by decide +kernel
theorem dX9_wordOf_105 : decode cX9_wordOf 105 = .ok (.goto (-100), 3) := by decide +kernel
theorem dX9_wordOf_108 : decode cX9_wordOf 108 = .ok (.iconst (-1), 1) := by decide +kernel
theorem dX9_wordOf_109 : decode cX9_wordOf 109 = .ok (.ireturn, 1) := by decide +kernel
theorem dX9_commandOf_0 : decode cX9_commandOf 0 = .ok (.iconst 0, 1) := by decide +kernel
theorem dX9_commandOf_1 : decode cX9_commandOf 1 = .ok (.istore_n 3, 1) := by decide +kernel
theorem dX9_commandOf_2 : decode cX9_commandOf 2 = .ok (.iconst 0, 1) := by decide +kernel
theorem dX9_commandOf_3 : decode cX9_commandOf 3 = .ok (.istore 4, 2) := by decide +kernel
theorem dX9_commandOf_5 : decode cX9_commandOf 5 = .ok (.iload 4, 2) := by decide +kernel
theorem dX9_commandOf_7 : decode cX9_commandOf 7 = .ok (.iconst 5, 1) := by decide +kernel
theorem dX9_commandOf_8 : decode cX9_commandOf 8 = .ok (.if_icmp .ge 99, 3) := by decide +kernel
theorem dX9_commandOf_11 : decode cX9_commandOf 11 = .ok (.iload_n 3, 1) := by decide +kernel
theorem dX9_commandOf_12 : decode cX9_commandOf 12 = .ok (.istore 5, 2) := by decide +kernel
theorem dX9_commandOf_14 : decode cX9_commandOf 14 = .ok (.iconst 1, 1) := by decide +kernel
theorem dX9_commandOf_15 : decode cX9_commandOf 15 = .ok (.istore 6, 2) := by decide +kernel
theorem dX9_commandOf_17 : decode cX9_commandOf 17 = .ok (.aload_n 0, 1) := by decide +kernel
theorem dX9_commandOf_18 : decode cX9_commandOf 18 = .ok (.getfield 47, 3) := by decide +kernel
theorem dX9_commandOf_21 : decode cX9_commandOf 21 = .ok (.iload 5, 2) := by decide +kernel
theorem dX9_commandOf_23 : decode cX9_commandOf 23 = .ok (.caload, 1) := by decide +kernel
theorem dX9_commandOf_24 : decode cX9_commandOf 24 = .ok (.bipush 32, 2) := by decide +kernel
theorem dX9_commandOf_26 : decode cX9_commandOf 26 = .ok (.if_icmp .eq 52, 3) := by decide +kernel
theorem dX9_commandOf_29 : decode cX9_commandOf 29 = .ok (.iload 6, 2) := by decide +kernel
theorem dX9_commandOf_31 : decode cX9_commandOf 31 = .ok (.ifCond .eq 38, 3) := by decide +kernel
theorem dX9_commandOf_34 : decode cX9_commandOf 34 = .ok (.iload_n 1, 1) := by decide +kernel
theorem dX9_commandOf_35 : decode cX9_commandOf 35 = .ok (.iload 5, 2) := by decide +kernel
theorem dX9_commandOf_37 : decode cX9_commandOf 37 = .ok (.iadd, 1) := by decide +kernel
theorem dX9_commandOf_38 : decode cX9_commandOf 38 = .ok (.iload_n 3, 1) := by decide +kernel
theorem dX9_commandOf_39 : decode cX9_commandOf 39 = .ok (.isub, 1) := by decide +kernel
theorem dX9_commandOf_40 : decode cX9_commandOf 40 = .ok (.iload_n 2, 1) := by decide +kernel
theorem dX9_commandOf_41 : decode cX9_commandOf 41 = .ok (.if_icmp .ge 28, 3) := by decide +kernel
theorem dX9_commandOf_44 : decode cX9_commandOf 44 = .ok (.aload_n 0, 1) := by decide +kernel
theorem dX9_commandOf_45 : decode cX9_commandOf 45 = .ok (.getfield 53, 3) := by decide +kernel
theorem dX9_commandOf_48 : decode cX9_commandOf 48 = .ok (.iload_n 1, 1) := by decide +kernel
theorem dX9_commandOf_49 : decode cX9_commandOf 49 = .ok (.iload 5, 2) := by decide +kernel
theorem dX9_commandOf_51 : decode cX9_commandOf 51 = .ok (.iadd, 1) := by decide +kernel
theorem dX9_commandOf_52 : decode cX9_commandOf 52 = .ok (.iload_n 3, 1) := by decide +kernel
theorem dX9_commandOf_53 : decode cX9_commandOf 53 = .ok (.isub, 1) := by decide +kernel
theorem dX9_commandOf_54 : decode cX9_commandOf 54 = .ok (.iaload, 1) := by decide +kernel
theorem dX9_commandOf_55 : decode cX9_commandOf 55 = .ok (.aload_n 0, 1) := by decide +kernel
theorem dX9_commandOf_56 : decode cX9_commandOf 56 = .ok (.getfield 47, 3) := by decide +kernel
theorem dX9_commandOf_59 : decode cX9_commandOf 59 = .ok (.iload 5, 2) := by decide +kernel
theorem dX9_commandOf_61 : decode cX9_commandOf 61 = .ok (.caload, 1) := by decide +kernel
theorem dX9_commandOf_62 : decode cX9_commandOf 62 = .ok (.if_icmp .ne 7, 3) := by decide +kernel
theorem dX9_commandOf_65 : decode cX9_commandOf 65 = .ok (.iconst 1, 1) := by decide +kernel
theorem dX9_commandOf_66 : decode cX9_commandOf 66 = .ok (.goto 4, 3) := by decide +kernel
theorem dX9_commandOf_69 : decode cX9_commandOf 69 = .ok (.iconst 0, 1) := by decide +kernel
theorem dX9_commandOf_70 : decode cX9_commandOf 70 = .ok (.istore 6, 2) := by decide +kernel
theorem dX9_commandOf_72 : decode cX9_commandOf 72 = .ok (.iinc 5 1, 3) := by decide +kernel
theorem dX9_commandOf_75 : decode cX9_commandOf 75 = .ok (.goto (-58), 3) := by decide +kernel
theorem dX9_commandOf_78 : decode cX9_commandOf 78 = .ok (.iload 6, 2) := by decide +kernel
theorem dX9_commandOf_80 : decode cX9_commandOf 80 = .ok (.ifCond .eq 16, 3) := by decide +kernel
theorem dX9_commandOf_83 : decode cX9_commandOf 83 = .ok (.iload 5, 2) := by decide +kernel
theorem dX9_commandOf_85 : decode cX9_commandOf 85 = .ok (.iload_n 3, 1) := by decide +kernel
theorem dX9_commandOf_86 : decode cX9_commandOf 86 = .ok (.isub, 1) := by decide +kernel
theorem dX9_commandOf_87 : decode cX9_commandOf 87 = .ok (.iload_n 2, 1) := by decide +kernel
theorem dX9_commandOf_88 : decode cX9_commandOf 88 = .ok (.iload_n 1, 1) := by decide +kernel
theorem dX9_commandOf_89 : decode cX9_commandOf 89 = .ok (.isub, 1) := by decide +kernel
theorem dX9_commandOf_90 : decode cX9_commandOf 90 = .ok (.if_icmp .ne 6, 3) := by decide +kernel
theorem dX9_commandOf_93 : decode cX9_commandOf 93 = .ok (.iload 4, 2) := by decide +kernel
theorem dX9_commandOf_95 : decode cX9_commandOf 95 = .ok (.ireturn, 1) := by decide +kernel
theorem dX9_commandOf_96 : decode cX9_commandOf 96 = .ok (.iload 5, 2) := by decide +kernel
theorem dX9_commandOf_98 : decode cX9_commandOf 98 = .ok (.iconst 1, 1) := by decide +kernel
theorem dX9_commandOf_99 : decode cX9_commandOf 99 = .ok (.iadd, 1) := by decide +kernel
theorem dX9_commandOf_100 : decode cX9_commandOf 100 = .ok (.istore_n 3, 1) := by decide +kernel
theorem dX9_commandOf_101 : decode cX9_commandOf 101 = .ok (.iinc 4 1, 3) := by decide +kernel
theorem dX9_commandOf_104 : decode cX9_commandOf 104 = .ok (.goto (-99), 3) := by decide +kernel
theorem dX9_commandOf_107 : decode cX9_commandOf 107 = .ok (.iconst (-1), 1) := by decide +kernel
theorem dX9_commandOf_108 : decode cX9_commandOf 108 = .ok (.ireturn, 1) := by decide +kernel
theorem dX9_thin_0 : decode cX9_thin 0 = .ok (.aload_n 0, 1) := by decide +kernel
theorem dX9_thin_1 : decode cX9_thin 1 = .ok (.aload_n 0, 1) := by decide +kernel
theorem dX9_thin_2 : decode cX9_thin 2 = .ok (.getfield 215, 3) := by decide +kernel
theorem dX9_thin_5 : decode cX9_thin 5 = .ok (.putfield 221, 3) := by decide +kernel
theorem dX9_thin_8 : decode cX9_thin 8 = .ok (.aload_n 0, 1) := by decide +kernel
theorem dX9_thin_9 : decode cX9_thin 9 = .ok (.iconst 0, 1) := by decide +kernel
theorem dX9_thin_10 : decode cX9_thin 10 = .ok (.putfield 215, 3) := by decide +kernel
theorem dX9_thin_13 : decode cX9_thin 13 = .ok (.aload_n 0, 1) := by decide +kernel
theorem dX9_thin_14 : decode cX9_thin 14 = .ok (.getfield 221, 3) := by decide +kernel
theorem dX9_thin_17 : decode cX9_thin 17 = .ok (.iconst 4, 1) := by decide +kernel
theorem dX9_thin_18 : decode cX9_thin 18 = .ok (.if_icmp .lt 7, 3) := by decide +kernel
theorem dX9_thin_21 : decode cX9_thin 21 = .ok (.iconst 1, 1) := by decide +kernel
theorem dX9_thin_22 : decode cX9_thin 22 = .ok (.goto 4, 3) := by decide +kernel
theorem dX9_thin_25 : decode cX9_thin 25 = .ok (.iconst 0, 1) := by decide +kernel
theorem dX9_thin_26 : decode cX9_thin 26 = .ok (.istore_n 1, 1) := by decide +kernel
theorem dX9_thin_27 : decode cX9_thin 27 = .ok (.iconst 0, 1) := by decide +kernel
theorem dX9_thin_28 : decode cX9_thin 28 = .ok (.istore_n 2, 1) := by decide +kernel
theorem dX9_thin_29 : decode cX9_thin 29 = .ok (.iload_n 2, 1) := by decide +kernel
theorem dX9_thin_30 : decode cX9_thin 30 = .ok (.iconst 4, 1) := by decide +kernel
theorem dX9_thin_31 : decode cX9_thin 31 = .ok (.if_icmp .ge 34, 3) := by decide +kernel
theorem dX9_thin_34 : decode cX9_thin 34 = .ok (.iload_n 1, 1) := by decide +kernel
theorem dX9_thin_35 : decode cX9_thin 35 = .ok (.ifCond .eq 30, 3) := by decide +kernel
theorem dX9_thin_38 : decode cX9_thin 38 = .ok (.aload_n 0, 1) := by decide +kernel
theorem dX9_thin_39 : decode cX9_thin 39 = .ok (.getfield 53, 3) := by decide +kernel
theorem dX9_thin_42 : decode cX9_thin 42 = .ok (.iload_n 2, 1) := by decide +kernel
theorem dX9_thin_43 : decode cX9_thin 43 = .ok (.iaload, 1) := by decide +kernel
theorem dX9_thin_44 : decode cX9_thin 44 = .ok (.aload_n 0, 1) := by decide +kernel
theorem dX9_thin_45 : decode cX9_thin 45 = .ok (.getfield 50, 3) := by decide +kernel
theorem dX9_thin_48 : decode cX9_thin 48 = .ok (.iload_n 2, 1) := by decide +kernel
theorem dX9_thin_49 : decode cX9_thin 49 = .ok (.caload, 1) := by decide +kernel
theorem dX9_thin_50 : decode cX9_thin 50 = .ok (.if_icmp .ne 7, 3) := by decide +kernel
theorem dX9_thin_53 : decode cX9_thin 53 = .ok (.iconst 1, 1) := by decide +kernel
theorem dX9_thin_54 : decode cX9_thin 54 = .ok (.goto 4, 3) := by decide +kernel
theorem dX9_thin_57 : decode cX9_thin 57 = .ok (.iconst 0, 1) := by decide +kernel
theorem dX9_thin_58 : decode cX9_thin 58 = .ok (.istore_n 1, 1) := by decide +kernel
theorem dX9_thin_59 : decode cX9_thin 59 = .ok (.iinc 2 1, 3) := by decide +kernel
theorem dX9_thin_62 : decode cX9_thin 62 = .ok (.goto (-33), 3) := by decide +kernel
theorem dX9_thin_65 : decode cX9_thin 65 = .ok (.aload_n 0, 1) := by decide +kernel
theorem dX9_thin_66 : decode cX9_thin 66 = .ok (.iload_n 1, 1) := by decide +kernel
theorem dX9_thin_67 : decode cX9_thin 67 = .ok (.ifCond .eq 7, 3) := by decide +kernel
theorem dX9_thin_70 : decode cX9_thin 70 = .ok (.iconst 4, 1) := by decide +kernel
theorem dX9_thin_71 : decode cX9_thin 71 = .ok (.goto 4, 3) := by decide +kernel
theorem dX9_thin_74 : decode cX9_thin 74 = .ok (.iconst 0, 1) := by decide +kernel
theorem dX9_thin_75 : decode cX9_thin 75 = .ok (.aload_n 0, 1) := by decide +kernel
theorem dX9_thin_76 : decode cX9_thin 76 = .ok (.getfield 221, 3) := by decide +kernel
theorem dX9_thin_79 : decode cX9_thin 79 = .ok (.invokevirtual 224, 3) := by decide +kernel
theorem dX9_thin_82 : decode cX9_thin 82 = .ok (.istore_n 2, 1) := by decide +kernel
theorem dX9_thin_83 : decode cX9_thin 83 = .ok (.iload_n 2, 1) := by decide +kernel
theorem dX9_thin_84 : decode cX9_thin 84 = .ok (.iconst (-1), 1) := by decide +kernel
theorem dX9_thin_85 : decode cX9_thin 85 = .ok (.if_icmp .ne 5, 3) := by decide +kernel
theorem dX9_thin_88 : decode cX9_thin 88 = .ok (.iconst (-1), 1) := by decide +kernel
theorem dX9_thin_89 : decode cX9_thin 89 = .ok (.ireturn, 1) := by decide +kernel
theorem dX9_thin_90 : decode cX9_thin 90 = .ok (.iconst 0, 1) := by decide +kernel
theorem dX9_thin_91 : decode cX9_thin 91 = .ok (.istore_n 3, 1) := by decide +kernel
theorem dX9_thin_92 : decode cX9_thin 92 = .ok (.iconst 0, 1) := by decide +kernel
theorem dX9_thin_93 : decode cX9_thin 93 = .ok (.istore 4, 2) := by decide +kernel
theorem dX9_thin_95 : decode cX9_thin 95 = .ok (.iload 4, 2) := by decide +kernel
theorem dX9_thin_97 : decode cX9_thin 97 = .ok (.aload_n 0, 1) := by decide +kernel
theorem dX9_thin_98 : decode cX9_thin 98 = .ok (.getfield 194, 3) := by decide +kernel
theorem dX9_thin_101 : decode cX9_thin 101 = .ok (.if_icmp .ge 41, 3) := by decide +kernel
theorem dX9_thin_104 : decode cX9_thin 104 = .ok (.aload_n 0, 1) := by decide +kernel
theorem dX9_thin_105 : decode cX9_thin 105 = .ok (.iload_n 2, 1) := by decide +kernel
theorem dX9_thin_106 : decode cX9_thin 106 = .ok (.aload_n 0, 1) := by decide +kernel
theorem dX9_thin_107 : decode cX9_thin 107 = .ok (.getfield 40, 3) := by decide +kernel
theorem dX9_thin_110 : decode cX9_thin 110 = .ok (.iload 4, 2) := by decide +kernel
theorem dX9_thin_112 : decode cX9_thin 112 = .ok (.iaload, 1) := by decide +kernel
theorem dX9_thin_113 : decode cX9_thin 113 = .ok (.invokevirtual 227, 3) := by decide +kernel
theorem dX9_thin_116 : decode cX9_thin 116 = .ok (.iload_n 1, 1) := by decide +kernel
theorem dX9_thin_117 : decode cX9_thin 117 = .ok (.if_icmp .eq 19, 3) := by decide +kernel
theorem dX9_thin_120 : decode cX9_thin 120 = .ok (.aload_n 0, 1) := by decide +kernel
theorem dX9_thin_121 : decode cX9_thin 121 = .ok (.getfield 40, 3) := by decide +kernel
theorem dX9_thin_124 : decode cX9_thin 124 = .ok (.iload_n 3, 1) := by decide +kernel
theorem dX9_thin_125 : decode cX9_thin 125 = .ok (.aload_n 0, 1) := by decide +kernel
theorem dX9_thin_126 : decode cX9_thin 126 = .ok (.getfield 40, 3) := by decide +kernel
theorem dX9_thin_129 : decode cX9_thin 129 = .ok (.iload 4, 2) := by decide +kernel
theorem dX9_thin_131 : decode cX9_thin 131 = .ok (.iaload, 1) := by decide +kernel
theorem dX9_thin_132 : decode cX9_thin 132 = .ok (.iastore, 1) := by decide +kernel
theorem dX9_thin_133 : decode cX9_thin 133 = .ok (.iinc 3 1, 3) := by decide +kernel
theorem dX9_thin_136 : decode cX9_thin 136 = .ok (.iinc 4 1, 3) := by decide +kernel
theorem dX9_thin_139 : decode cX9_thin 139 = .ok (.goto (-44), 3) := by decide +kernel
theorem dX9_thin_142 : decode cX9_thin 142 = .ok (.aload_n 0, 1) := by decide +kernel
theorem dX9_thin_143 : decode cX9_thin 143 = .ok (.iload_n 3, 1) := by decide +kernel
theorem dX9_thin_144 : decode cX9_thin 144 = .ok (.putfield 194, 3) := by decide +kernel
theorem dX9_thin_147 : decode cX9_thin 147 = .ok (.iload_n 3, 1) := by decide +kernel
theorem dX9_thin_148 : decode cX9_thin 148 = .ok (.ireturn, 1) := by decide +kernel
theorem dX9_signOf_0 : decode cX9_signOf 0 = .ok (.iload_n 0, 1) := by decide +kernel
theorem dX9_signOf_1 : decode cX9_signOf 1 = .ok (.bipush 10, 2) := by decide +kernel
theorem dX9_signOf_3 : decode cX9_signOf 3 = .ok (.if_icmp .ge 10, 3) := by decide +kernel
theorem dX9_signOf_6 : decode cX9_signOf 6 = .ok (.bipush 48, 2) := by decide +kernel
theorem dX9_signOf_8 : decode cX9_signOf 8 = .ok (.iload_n 0, 1) := by decide +kernel
theorem dX9_signOf_9 : decode cX9_signOf 9 = .ok (.iadd, 1) := by decide +kernel
theorem dX9_signOf_10 : decode cX9_signOf 10 = .ok (.goto 10, 3) := by decide +kernel
theorem dX9_signOf_13 : decode cX9_signOf 13 = .ok (.bipush 97, 2) := by decide +kernel
theorem dX9_signOf_15 : decode cX9_signOf 15 = .ok (.iload_n 0, 1) := by decide +kernel
theorem dX9_signOf_16 : decode cX9_signOf 16 = .ok (.iadd, 1) := by decide +kernel
theorem dX9_signOf_17 : decode cX9_signOf 17 = .ok (.bipush 10, 2) := by decide +kernel
theorem dX9_signOf_19 : decode cX9_signOf 19 = .ok (.isub, 1) := by decide +kernel
theorem dX9_signOf_20 : decode cX9_signOf 20 = .ok (.ireturn, 1) := by decide +kernel
theorem dX9_wholeSize_0 : decode cX9_wholeSize 0 = .ok (.iconst 1, 1) := by decide +kernel
theorem dX9_wholeSize_1 : decode cX9_wholeSize 1 = .ok (.istore_n 2, 1) := by decide +kernel
theorem dX9_wholeSize_2 : decode cX9_wholeSize 2 = .ok (.aload_n 0, 1) := by decide +kernel
theorem dX9_wholeSize_3 : decode cX9_wholeSize 3 = .ok (.getfield 11, 3) := by decide +kernel
theorem dX9_wholeSize_6 : decode cX9_wholeSize 6 = .ok (.iload_n 1, 1) := by decide +kernel
theorem dX9_wholeSize_7 : decode cX9_wholeSize 7 = .ok (.iaload, 1) := by decide +kernel
theorem dX9_wholeSize_8 : decode cX9_wholeSize 8 = .ok (.aload_n 0, 1) := by decide +kernel
theorem dX9_wholeSize_9 : decode cX9_wholeSize 9 = .ok (.getfield 15, 3) := by decide +kernel
theorem dX9_wholeSize_12 : decode cX9_wholeSize 12 = .ok (.iload_n 1, 1) := by decide +kernel
theorem dX9_wholeSize_13 : decode cX9_wholeSize 13 = .ok (.iaload, 1) := by decide +kernel
theorem dX9_wholeSize_14 : decode cX9_wholeSize 14 = .ok (.idiv, 1) := by decide +kernel
theorem dX9_wholeSize_15 : decode cX9_wholeSize 15 = .ok (.aload_n 0, 1) := by decide +kernel
theorem dX9_wholeSize_16 : decode cX9_wholeSize 16 = .ok (.getfield 18, 3) := by decide +kernel
theorem dX9_wholeSize_19 : decode cX9_wholeSize 19 = .ok (.iload_n 1, 1) := by decide +kernel
theorem dX9_wholeSize_20 : decode cX9_wholeSize 20 = .ok (.iaload, 1) := by decide +kernel
theorem dX9_wholeSize_21 : decode cX9_wholeSize 21 = .ok (.idiv, 1) := by decide +kernel
theorem dX9_wholeSize_22 : decode cX9_wholeSize 22 = .ok (.istore_n 3, 1) := by decide +kernel
theorem dX9_wholeSize_23 : decode cX9_wholeSize 23 = .ok (.iload_n 3, 1) := by decide +kernel
theorem dX9_wholeSize_24 : decode cX9_wholeSize 24 = .ok (.ifCond .le 18, 3) := by decide +kernel
theorem dX9_wholeSize_27 : decode cX9_wholeSize 27 = .ok (.iinc 2 1, 3) := by decide +kernel
theorem dX9_wholeSize_30 : decode cX9_wholeSize 30 = .ok (.iload_n 3, 1) := by decide +kernel
theorem dX9_wholeSize_31 : decode cX9_wholeSize 31 = .ok (.aload_n 0, 1) := by decide +kernel
theorem dX9_wholeSize_32 : decode cX9_wholeSize 32 = .ok (.getfield 18, 3) := by decide +kernel
theorem dX9_wholeSize_35 : decode cX9_wholeSize 35 = .ok (.iload_n 1, 1) := by decide +kernel
theorem dX9_wholeSize_36 : decode cX9_wholeSize 36 = .ok (.iaload, 1) := by decide +kernel
theorem dX9_wholeSize_37 : decode cX9_wholeSize 37 = .ok (.idiv, 1) := by decide +kernel
theorem dX9_wholeSize_38 : decode cX9_wholeSize 38 = .ok (.istore_n 3, 1) := by decide +kernel
theorem dX9_wholeSize_39 : decode cX9_wholeSize 39 = .ok (.goto (-16), 3) := by decide +kernel
theorem dX9_wholeSize_42 : decode cX9_wholeSize 42 = .ok (.iload_n 2, 1) := by decide +kernel
theorem dX9_wholeSize_43 : decode cX9_wholeSize 43 = .ok (.ireturn, 1) := by decide +kernel
theorem dX9_wholeDigit_0 : decode cX9_wholeDigit 0 = .ok (.aload_n 0, 1) := by decide +kernel
theorem dX9_wholeDigit_1 : decode cX9_wholeDigit 1 = .ok (.getfield 11, 3) := by decide +kernel
theorem dX9_wholeDigit_4 : decode cX9_wholeDigit 4 = .ok (.iload_n 1, 1) := by decide +kernel
theorem dX9_wholeDigit_5 : decode cX9_wholeDigit 5 = .ok (.iaload, 1) := by decide +kernel
theorem dX9_wholeDigit_6 : decode cX9_wholeDigit 6 = .ok (.aload_n 0, 1) := by decide +kernel
theorem dX9_wholeDigit_7 : decode cX9_wholeDigit 7 = .ok (.getfield 15, 3) := by decide +kernel
theorem dX9_wholeDigit_10 : decode cX9_wholeDigit 10 = .ok (.iload_n 1, 1) := by decide +kernel
theorem dX9_wholeDigit_11 : decode cX9_wholeDigit 11 = .ok (.iaload, 1) := by decide +kernel
theorem dX9_wholeDigit_12 : decode cX9_wholeDigit 12 = .ok (.idiv, 1) := by decide +kernel
theorem dX9_wholeDigit_13 : decode cX9_wholeDigit 13 = .ok (.istore_n 3, 1) := by decide +kernel
theorem dX9_wholeDigit_14 : decode cX9_wholeDigit 14 = .ok (.iconst 0, 1) := by decide +kernel
theorem dX9_wholeDigit_15 : decode cX9_wholeDigit 15 = .ok (.istore 4, 2) := by decide +kernel
theorem dX9_wholeDigit_17 : decode cX9_wholeDigit 17 = .ok (.iload 4, 2) := by decide +kernel
theorem dX9_wholeDigit_19 : decode cX9_wholeDigit 19 = .ok (.iload_n 2, 1) := by decide +kernel
theorem dX9_wholeDigit_20 : decode cX9_wholeDigit 20 = .ok (.if_icmp .ge 18, 3) := by decide +kernel
theorem dX9_wholeDigit_23 : decode cX9_wholeDigit 23 = .ok (.iload_n 3, 1) := by decide +kernel
theorem dX9_wholeDigit_24 : decode cX9_wholeDigit 24 = .ok (.aload_n 0, 1) := by decide +kernel
theorem dX9_wholeDigit_25 : decode cX9_wholeDigit 25 = .ok (.getfield 18, 3) := by decide +kernel
theorem dX9_wholeDigit_28 : decode cX9_wholeDigit 28 = .ok (.iload_n 1, 1) := by decide +kernel
theorem dX9_wholeDigit_29 : decode cX9_wholeDigit 29 = .ok (.iaload, 1) := by decide +kernel
theorem dX9_wholeDigit_30 : decode cX9_wholeDigit 30 = .ok (.idiv, 1) := by decide +kernel
theorem dX9_wholeDigit_31 : decode cX9_wholeDigit 31 = .ok (.istore_n 3, 1) := by decide +kernel
theorem dX9_wholeDigit_32 : decode cX9_wholeDigit 32 = .ok (.iinc 4 1, 3) := by decide +kernel
theorem dX9_wholeDigit_35 : decode cX9_wholeDigit 35 = .ok (.goto (-18), 3) := by decide +kernel
theorem dX9_wholeDigit_38 : decode cX9_wholeDigit 38 = .ok (.iload_n 3, 1) := by decide +kernel
theorem dX9_wholeDigit_39 : decode cX9_wholeDigit 39 = .ok (.aload_n 0, 1) := by decide +kernel
theorem dX9_wholeDigit_40 : decode cX9_wholeDigit 40 = .ok (.getfield 18, 3) := by decide +kernel
theorem dX9_wholeDigit_43 : decode cX9_wholeDigit 43 = .ok (.iload_n 1, 1) := by decide +kernel
theorem dX9_wholeDigit_44 : decode cX9_wholeDigit 44 = .ok (.iaload, 1) := by decide +kernel
theorem dX9_wholeDigit_45 : decode cX9_wholeDigit 45 = .ok (.irem, 1) := by decide +kernel
theorem dX9_wholeDigit_46 : decode cX9_wholeDigit 46 = .ok (.ireturn, 1) := by decide +kernel
theorem dX9_spell_0 : decode cX9_spell 0 = .ok (.aload_n 0, 1) := by decide +kernel
theorem dX9_spell_1 : decode cX9_spell 1 = .ok (.iload_n 1, 1) := by decide +kernel
theorem dX9_spell_2 : decode cX9_spell 2 = .ok (.invokevirtual 126, 3) := by decide +kernel
theorem dX9_spell_5 : decode cX9_spell 5 = .ok (.ifCond .eq 8, 3) := by decide +kernel
theorem dX9_spell_8 : decode cX9_spell 8 = .ok (.iload_n 2, 1) := by decide +kernel
theorem dX9_spell_9 : decode cX9_spell 9 = .ok (.iconst (-1), 1) := by decide +kernel
theorem dX9_spell_10 : decode cX9_spell 10 = .ok (.if_icmp .ge 5, 3) := by decide +kernel
theorem dX9_spell_13 : decode cX9_spell 13 = .ok (.iconst (-1), 1) := by decide +kernel
theorem dX9_spell_14 : decode cX9_spell 14 = .ok (.ireturn, 1) := by decide +kernel
theorem dX9_spell_15 : decode cX9_spell 15 = .ok (.aload_n 0, 1) := by decide +kernel
theorem dX9_spell_16 : decode cX9_spell 16 = .ok (.iload_n 1, 1) := by decide +kernel
theorem dX9_spell_17 : decode cX9_spell 17 = .ok (.invokevirtual 137, 3) := by decide +kernel
theorem dX9_spell_20 : decode cX9_spell 20 = .ok (.aload_n 0, 1) := by decide +kernel
theorem dX9_spell_21 : decode cX9_spell 21 = .ok (.iload_n 1, 1) := by decide +kernel
theorem dX9_spell_22 : decode cX9_spell 22 = .ok (.invokevirtual 230, 3) := by decide +kernel
theorem dX9_spell_25 : decode cX9_spell 25 = .ok (.istore_n 3, 1) := by decide +kernel
theorem dX9_spell_26 : decode cX9_spell 26 = .ok (.aload_n 0, 1) := by decide +kernel
theorem dX9_spell_27 : decode cX9_spell 27 = .ok (.getfield 24, 3) := by decide +kernel
theorem dX9_spell_30 : decode cX9_spell 30 = .ok (.iconst 0, 1) := by decide +kernel
theorem dX9_spell_31 : decode cX9_spell 31 = .ok (.iaload, 1) := by decide +kernel
theorem dX9_spell_32 : decode cX9_spell 32 = .ok (.ifCond .eq 7, 3) := by decide +kernel
theorem dX9_spell_35 : decode cX9_spell 35 = .ok (.iconst 1, 1) := by decide +kernel
theorem dX9_spell_36 : decode cX9_spell 36 = .ok (.goto 4, 3) := by decide +kernel
theorem dX9_spell_39 : decode cX9_spell 39 = .ok (.iconst 0, 1) := by decide +kernel
theorem dX9_spell_40 : decode cX9_spell 40 = .ok (.istore 4, 2) := by decide +kernel
theorem dX9_spell_42 : decode cX9_spell 42 = .ok (.iload_n 3, 1) := by decide +kernel
theorem dX9_spell_43 : decode cX9_spell 43 = .ok (.iload 4, 2) := by decide +kernel
theorem dX9_spell_45 : decode cX9_spell 45 = .ok (.ifCond .eq 12, 3) := by decide +kernel
theorem dX9_spell_48 : decode cX9_spell 48 = .ok (.iconst 1, 1) := by decide +kernel
theorem dX9_spell_49 : decode cX9_spell 49 = .ok (.aload_n 0, 1) := by decide +kernel
theorem dX9_spell_50 : decode cX9_spell 50 = .ok (.getfield 100, 3) := by decide +kernel
theorem dX9_spell_53 : decode cX9_spell 53 = .ok (.iadd, 1) := by decide +kernel
theorem dX9_spell_54 : decode cX9_spell 54 = .ok (.goto 4, 3) := by decide +kernel
theorem dX9_spell_57 : decode cX9_spell 57 = .ok (.iconst 0, 1) := by decide +kernel
theorem dX9_spell_58 : decode cX9_spell 58 = .ok (.iadd, 1) := by decide +kernel
theorem dX9_spell_59 : decode cX9_spell 59 = .ok (.aload_n 0, 1) := by decide +kernel
theorem dX9_spell_60 : decode cX9_spell 60 = .ok (.getfield 106, 3) := by decide +kernel
theorem dX9_spell_63 : decode cX9_spell 63 = .ok (.ifCond .eq 7, 3) := by decide +kernel
theorem dX9_spell_66 : decode cX9_spell 66 = .ok (.iconst 0, 1) := by decide +kernel
theorem dX9_spell_67 : decode cX9_spell 67 = .ok (.goto 9, 3) := by decide +kernel
theorem dX9_spell_70 : decode cX9_spell 70 = .ok (.iconst 2, 1) := by decide +kernel
theorem dX9_spell_71 : decode cX9_spell 71 = .ok (.aload_n 0, 1) := by decide +kernel
theorem dX9_spell_72 : decode cX9_spell 72 = .ok (.getfield 103, 3) := by decide +kernel
theorem dX9_spell_75 : decode cX9_spell 75 = .ok (.iadd, 1) := by decide +kernel
theorem dX9_spell_76 : decode cX9_spell 76 = .ok (.iadd, 1) := by decide +kernel
theorem dX9_spell_77 : decode cX9_spell 77 = .ok (.istore 5, 2) := by decide +kernel
theorem dX9_spell_79 : decode cX9_spell 79 = .ok (.iload_n 2, 1) := by decide +kernel
theorem dX9_spell_80 : decode cX9_spell 80 = .ok (.iconst (-1), 1) := by decide +kernel
theorem dX9_spell_81 : decode cX9_spell 81 = .ok (.if_icmp .ne 6, 3) := by decide +kernel
theorem dX9_spell_84 : decode cX9_spell 84 = .ok (.iload 5, 2) := by decide +kernel
theorem dX9_spell_86 : decode cX9_spell 86 = .ok (.ireturn, 1) := by decide +kernel
theorem dX9_spell_87 : decode cX9_spell 87 = .ok (.iload_n 2, 1) := by decide +kernel
theorem dX9_spell_88 : decode cX9_spell 88 = .ok (.iload 5, 2) := by decide +kernel
theorem dX9_spell_90 : decode cX9_spell 90 = .ok (.if_icmp .lt 6, 3) := by decide +kernel
theorem dX9_spell_93 : decode cX9_spell 93 = .ok (.bipush (-2), 2) := by decide +kernel
theorem dX9_spell_95 : decode cX9_spell 95 = .ok (.ireturn, 1) := by decide +kernel
theorem dX9_spell_96 : decode cX9_spell 96 = .ok (.iload_n 2, 1) := by decide +kernel
theorem dX9_spell_97 : decode cX9_spell 97 = .ok (.iload_n 3, 1) := by decide +kernel
theorem dX9_spell_98 : decode cX9_spell 98 = .ok (.if_icmp .ge 17, 3) := by decide +kernel
theorem dX9_spell_101 : decode cX9_spell 101 = .ok (.aload_n 0, 1) := by decide +kernel
theorem dX9_spell_102 : decode cX9_spell 102 = .ok (.iload_n 1, 1) := by decide +kernel
theorem dX9_spell_103 : decode cX9_spell 103 = .ok (.iload_n 3, 1) := by decide +kernel
theorem dX9_spell_104 : decode cX9_spell 104 = .ok (.iconst 1, 1) := by decide +kernel
theorem dX9_spell_105 : decode cX9_spell 105 = .ok (.isub, 1) := by decide +kernel
theorem dX9_spell_106 : decode cX9_spell 106 = .ok (.iload_n 2, 1) := by decide +kernel
theorem dX9_spell_107 : decode cX9_spell 107 = .ok (.isub, 1) := by decide +kernel
theorem dX9_spell_108 : decode cX9_spell 108 = .ok (.invokevirtual 233, 3) := by decide +kernel
theorem dX9_spell_111 : decode cX9_spell 111 = .ok (.invokestatic 236, 3) := by decide +kernel
theorem dX9_spell_114 : decode cX9_spell 114 = .ok (.ireturn, 1) := by decide +kernel
theorem dX9_spell_115 : decode cX9_spell 115 = .ok (.iload_n 2, 1) := by decide +kernel
theorem dX9_spell_116 : decode cX9_spell 116 = .ok (.iload_n 3, 1) := by decide +kernel
theorem dX9_spell_117 : decode cX9_spell 117 = .ok (.isub, 1) := by decide +kernel
theorem dX9_spell_118 : decode cX9_spell 118 = .ok (.iconst 1, 1) := by decide +kernel
theorem dX9_spell_119 : decode cX9_spell 119 = .ok (.isub, 1) := by decide +kernel
theorem dX9_spell_120 : decode cX9_spell 120 = .ok (.istore 6, 2) := by decide +kernel
theorem dX9_spell_122 : decode cX9_spell 122 = .ok (.iload 6, 2) := by decide +kernel
theorem dX9_spell_124 : decode cX9_spell 124 = .ok (.ifCond .ge 6, 3) := by decide +kernel
theorem dX9_spell_127 : decode cX9_spell 127 = .ok (.bipush 46, 2) := by decide +kernel
theorem dX9_spell_129 : decode cX9_spell 129 = .ok (.ireturn, 1) := by decide +kernel
theorem dX9_spell_130 : decode cX9_spell 130 = .ok (.iload 6, 2) := by decide +kernel
theorem dX9_spell_132 : decode cX9_spell 132 = .ok (.aload_n 0, 1) := by decide +kernel
theorem dX9_spell_133 : decode cX9_spell 133 = .ok (.getfield 100, 3) := by decide +kernel
theorem dX9_spell_136 : decode cX9_spell 136 = .ok (.if_icmp .ge 14, 3) := by decide +kernel
theorem dX9_spell_139 : decode cX9_spell 139 = .ok (.aload_n 0, 1) := by decide +kernel
theorem dX9_spell_140 : decode cX9_spell 140 = .ok (.getfield 27, 3) := by decide +kernel
theorem dX9_spell_143 : decode cX9_spell 143 = .ok (.iload 6, 2) := by decide +kernel
theorem dX9_spell_145 : decode cX9_spell 145 = .ok (.iaload, 1) := by decide +kernel
theorem dX9_spell_146 : decode cX9_spell 146 = .ok (.invokestatic 236, 3) := by decide +kernel
theorem dX9_spell_149 : decode cX9_spell 149 = .ok (.ireturn, 1) := by decide +kernel
theorem dX9_spell_150 : decode cX9_spell 150 = .ok (.iload 6, 2) := by decide +kernel
theorem dX9_spell_152 : decode cX9_spell 152 = .ok (.aload_n 0, 1) := by decide +kernel
theorem dX9_spell_153 : decode cX9_spell 153 = .ok (.getfield 100, 3) := by decide +kernel
theorem dX9_spell_156 : decode cX9_spell 156 = .ok (.if_icmp .ne 8, 3) := by decide +kernel
theorem dX9_spell_159 : decode cX9_spell 159 = .ok (.bipush 40, 2) := by decide +kernel
theorem dX9_spell_161 : decode cX9_spell 161 = .ok (.goto 28, 3) := by decide +kernel
theorem dX9_spell_164 : decode cX9_spell 164 = .ok (.iload_n 2, 1) := by decide +kernel
theorem dX9_spell_165 : decode cX9_spell 165 = .ok (.iload 5, 2) := by decide +kernel
theorem dX9_spell_167 : decode cX9_spell 167 = .ok (.iconst 1, 1) := by decide +kernel
theorem dX9_spell_168 : decode cX9_spell 168 = .ok (.isub, 1) := by decide +kernel
theorem dX9_spell_169 : decode cX9_spell 169 = .ok (.if_icmp .ne 8, 3) := by decide +kernel
theorem dX9_spell_172 : decode cX9_spell 172 = .ok (.bipush 41, 2) := by decide +kernel
theorem dX9_spell_174 : decode cX9_spell 174 = .ok (.goto 15, 3) := by decide +kernel
theorem dX9_spell_177 : decode cX9_spell 177 = .ok (.aload_n 0, 1) := by decide +kernel
theorem dX9_spell_178 : decode cX9_spell 178 = .ok (.getfield 27, 3) := by decide +kernel
theorem dX9_spell_181 : decode cX9_spell 181 = .ok (.iload 6, 2) := by decide +kernel
theorem dX9_spell_183 : decode cX9_spell 183 = .ok (.iconst 1, 1) := by decide +kernel
theorem dX9_spell_184 : decode cX9_spell 184 = .ok (.isub, 1) := by decide +kernel
theorem dX9_spell_185 : decode cX9_spell 185 = .ok (.iaload, 1) := by decide +kernel
theorem dX9_spell_186 : decode cX9_spell 186 = .ok (.invokestatic 236, 3) := by decide +kernel
theorem dX9_spell_189 : decode cX9_spell 189 = .ok (.ireturn, 1) := by decide +kernel
theorem dX9_digitAt_0 : decode cX9_digitAt 0 = .ok (.aload_n 0, 1) := by decide +kernel
theorem dX9_digitAt_1 : decode cX9_digitAt 1 = .ok (.bipush 48, 2) := by decide +kernel
theorem dX9_digitAt_3 : decode cX9_digitAt 3 = .ok (.bipush 57, 2) := by decide +kernel
theorem dX9_digitAt_5 : decode cX9_digitAt 5 = .ok (.invokevirtual 239, 3) := by decide +kernel
theorem dX9_digitAt_8 : decode cX9_digitAt 8 = .ok (.ifCond .eq 18, 3) := by decide +kernel
theorem dX9_digitAt_11 : decode cX9_digitAt 11 = .ok (.aload_n 0, 1) := by decide +kernel
theorem dX9_digitAt_12 : decode cX9_digitAt 12 = .ok (.getfield 53, 3) := by decide +kernel
theorem dX9_digitAt_15 : decode cX9_digitAt 15 = .ok (.aload_n 0, 1) := by decide +kernel
theorem dX9_digitAt_16 : decode cX9_digitAt 16 = .ok (.getfield 218, 3) := by decide +kernel
theorem dX9_digitAt_19 : decode cX9_digitAt 19 = .ok (.iaload, 1) := by decide +kernel
theorem dX9_digitAt_20 : decode cX9_digitAt 20 = .ok (.bipush 48, 2) := by decide +kernel
theorem dX9_digitAt_22 : decode cX9_digitAt 22 = .ok (.isub, 1) := by decide +kernel
theorem dX9_digitAt_23 : decode cX9_digitAt 23 = .ok (.goto 34, 3) := by decide +kernel
theorem dX9_digitAt_26 : decode cX9_digitAt 26 = .ok (.aload_n 0, 1) := by decide +kernel
theorem dX9_digitAt_27 : decode cX9_digitAt 27 = .ok (.bipush 97, 2) := by decide +kernel
theorem dX9_digitAt_29 : decode cX9_digitAt 29 = .ok (.bipush 102, 2) := by decide +kernel
theorem dX9_digitAt_31 : decode cX9_digitAt 31 = .ok (.invokevirtual 239, 3) := by decide +kernel
theorem dX9_digitAt_34 : decode cX9_digitAt 34 = .ok (.ifCond .eq 21, 3) := by decide +kernel
theorem dX9_digitAt_37 : decode cX9_digitAt 37 = .ok (.aload_n 0, 1) := by decide +kernel
theorem dX9_digitAt_38 : decode cX9_digitAt 38 = .ok (.getfield 53, 3) := by decide +kernel
theorem dX9_digitAt_41 : decode cX9_digitAt 41 = .ok (.aload_n 0, 1) := by decide +kernel
theorem dX9_digitAt_42 : decode cX9_digitAt 42 = .ok (.getfield 218, 3) := by decide +kernel
theorem dX9_digitAt_45 : decode cX9_digitAt 45 = .ok (.iaload, 1) := by decide +kernel
theorem dX9_digitAt_46 : decode cX9_digitAt 46 = .ok (.bipush 97, 2) := by decide +kernel
theorem dX9_digitAt_48 : decode cX9_digitAt 48 = .ok (.isub, 1) := by decide +kernel
theorem dX9_digitAt_49 : decode cX9_digitAt 49 = .ok (.bipush 10, 2) := by decide +kernel
theorem dX9_digitAt_51 : decode cX9_digitAt 51 = .ok (.iadd, 1) := by decide +kernel
theorem dX9_digitAt_52 : decode cX9_digitAt 52 = .ok (.goto 5, 3) := by decide +kernel
theorem dX9_digitAt_55 : decode cX9_digitAt 55 = .ok (.bipush 99, 2) := by decide +kernel
theorem dX9_digitAt_57 : decode cX9_digitAt 57 = .ok (.ireturn, 1) := by decide +kernel
theorem dX9_readsDigits_0 : decode cX9_readsDigits 0 = .ok (.aload_n 0, 1) := by decide +kernel
theorem dX9_readsDigits_1 : decode cX9_readsDigits 1 = .ok (.lconst 0, 1) := by decide +kernel
theorem dX9_readsDigits_2 : decode cX9_readsDigits 2 = .ok (.putfield 242, 3) := by decide +kernel
theorem dX9_readsDigits_5 : decode cX9_readsDigits 5 = .ok (.aload_n 0, 1) := by decide +kernel
theorem dX9_readsDigits_6 : decode cX9_readsDigits 6 = .ok (.lconst 1, 1) := by decide +kernel
theorem dX9_readsDigits_7 : decode cX9_readsDigits 7 = .ok (.putfield 246, 3) := by decide +kernel
theorem dX9_readsDigits_10 : decode cX9_readsDigits 10 = .ok (.aload_n 0, 1) := by decide +kernel
theorem dX9_readsDigits_11 : decode cX9_readsDigits 11 = .ok (.iconst 0, 1) := by decide +kernel
theorem dX9_readsDigits_12 : decode cX9_readsDigits 12 = .ok (.putfield 249, 3) := by decide +kernel
theorem dX9_readsDigits_15 : decode cX9_readsDigits 15 = .ok (.aload_n 0, 1) := by decide +kernel
theorem dX9_readsDigits_16 : decode cX9_readsDigits 16 = .ok (.getfield 249, 3) := by decide +kernel
theorem dX9_readsDigits_19 : decode cX9_readsDigits 19 = .ok (.iconst 4, 1) := by decide +kernel
theorem dX9_readsDigits_20 : decode cX9_readsDigits 20 = .ok (.if_icmp .ge 62, 3) := by decide +kernel
theorem dX9_readsDigits_23 : decode cX9_readsDigits 23 = .ok (.aload_n 0, 1) := by decide +kernel
theorem dX9_readsDigits_24 : decode cX9_readsDigits 24 = .ok (.invokevirtual 252, 3) := by decide +kernel
theorem dX9_readsDigits_27 : decode cX9_readsDigits 27 = .ok (.iload_n 1, 1) := by decide +kernel
theorem dX9_readsDigits_28 : decode cX9_readsDigits 28 = .ok (.if_icmp .ge 54, 3) := by decide +kernel
theorem dX9_readsDigits_31 : decode cX9_readsDigits 31 = .ok (.aload_n 0, 1) := by decide +kernel
theorem dX9_readsDigits_32 : decode cX9_readsDigits 32 = .ok (.aload_n 0, 1) := by decide +kernel
theorem dX9_readsDigits_33 : decode cX9_readsDigits 33 = .ok (.getfield 242, 3) := by decide +kernel
theorem dX9_readsDigits_36 : decode cX9_readsDigits 36 = .ok (.iload_n 1, 1) := by decide +kernel
theorem dX9_readsDigits_37 : decode cX9_readsDigits 37 = .ok (.i2l, 1) := by decide +kernel
theorem dX9_readsDigits_38 : decode cX9_readsDigits 38 = .ok (.lmul, 1) := by decide +kernel
theorem dX9_readsDigits_39 : decode cX9_readsDigits 39 = .ok (.aload_n 0, 1) := by decide +kernel
theorem dX9_readsDigits_40 : decode cX9_readsDigits 40 = .ok (.invokevirtual 252, 3) := by decide +kernel
theorem dX9_readsDigits_43 : decode cX9_readsDigits 43 = .ok (.i2l, 1) := by decide +kernel
theorem dX9_readsDigits_44 : decode cX9_readsDigits 44 = .ok (.ladd, 1) := by decide +kernel
theorem dX9_readsDigits_45 : decode cX9_readsDigits 45 = .ok (.putfield 242, 3) := by decide +kernel
theorem dX9_readsDigits_48 : decode cX9_readsDigits 48 = .ok (.aload_n 0, 1) := by decide +kernel
theorem dX9_readsDigits_49 : decode cX9_readsDigits 49 = .ok (.dup, 1) := by decide +kernel
theorem dX9_readsDigits_50 : decode cX9_readsDigits 50 = .ok (.getfield 246, 3) := by decide +kernel
theorem dX9_readsDigits_53 : decode cX9_readsDigits 53 = .ok (.iload_n 1, 1) := by decide +kernel
theorem dX9_readsDigits_54 : decode cX9_readsDigits 54 = .ok (.i2l, 1) := by decide +kernel
theorem dX9_readsDigits_55 : decode cX9_readsDigits 55 = .ok (.lmul, 1) := by decide +kernel
theorem dX9_readsDigits_56 : decode cX9_readsDigits 56 = .ok (.putfield 246, 3) := by decide +kernel
theorem dX9_readsDigits_59 : decode cX9_readsDigits 59 = .ok (.aload_n 0, 1) := by decide +kernel
theorem dX9_readsDigits_60 : decode cX9_readsDigits 60 = .ok (.dup, 1) := by decide +kernel
theorem dX9_readsDigits_61 : decode cX9_readsDigits 61 = .ok (.getfield 249, 3) := by decide +kernel
theorem dX9_readsDigits_64 : decode cX9_readsDigits 64 = .ok (.iconst 1, 1) := by decide +kernel
theorem dX9_readsDigits_65 : decode cX9_readsDigits 65 = .ok (.iadd, 1) := by decide +kernel
theorem dX9_readsDigits_66 : decode cX9_readsDigits 66 = .ok (.putfield 249, 3) := by decide +kernel
theorem dX9_readsDigits_69 : decode cX9_readsDigits 69 = .ok (.aload_n 0, 1) := by decide +kernel
theorem dX9_readsDigits_70 : decode cX9_readsDigits 70 = .ok (.dup, 1) := by decide +kernel
theorem dX9_readsDigits_71 : decode cX9_readsDigits 71 = .ok (.getfield 218, 3) := by decide +kernel
theorem dX9_readsDigits_74 : decode cX9_readsDigits 74 = .ok (.iconst 1, 1) := by decide +kernel
theorem dX9_readsDigits_75 : decode cX9_readsDigits 75 = .ok (.iadd, 1) := by decide +kernel
theorem dX9_readsDigits_76 : decode cX9_readsDigits 76 = .ok (.putfield 218, 3) := by decide +kernel
theorem dX9_readsDigits_79 : decode cX9_readsDigits 79 = .ok (.goto (-64), 3) := by decide +kernel
theorem dX9_readsDigits_82 : decode cX9_readsDigits 82 = .ok (.return_, 1) := by decide +kernel
theorem dX9_isNumeral_0 : decode cX9_isNumeral 0 = .ok (.aload_n 0, 1) := by decide +kernel
theorem dX9_isNumeral_1 : decode cX9_isNumeral 1 = .ok (.iload_n 1, 1) := by decide +kernel
theorem dX9_isNumeral_2 : decode cX9_isNumeral 2 = .ok (.invokevirtual 255, 3) := by decide +kernel
theorem dX9_isNumeral_5 : decode cX9_isNumeral 5 = .ok (.aload_n 0, 1) := by decide +kernel
theorem dX9_isNumeral_6 : decode cX9_isNumeral 6 = .ok (.getfield 249, 3) := by decide +kernel
theorem dX9_isNumeral_9 : decode cX9_isNumeral 9 = .ok (.ifCond .ne 5, 3) := by decide +kernel
theorem dX9_isNumeral_12 : decode cX9_isNumeral 12 = .ok (.iconst 0, 1) := by decide +kernel
theorem dX9_isNumeral_13 : decode cX9_isNumeral 13 = .ok (.ireturn, 1) := by decide +kernel
theorem dX9_isNumeral_14 : decode cX9_isNumeral 14 = .ok (.aload_n 0, 1) := by decide +kernel
theorem dX9_isNumeral_15 : decode cX9_isNumeral 15 = .ok (.aload_n 0, 1) := by decide +kernel
theorem dX9_isNumeral_16 : decode cX9_isNumeral 16 = .ok (.getfield 242, 3) := by decide +kernel
theorem dX9_isNumeral_19 : decode cX9_isNumeral 19 = .ok (.putfield 258, 3) := by decide +kernel
theorem dX9_isNumeral_22 : decode cX9_isNumeral 22 = .ok (.aload_n 0, 1) := by decide +kernel
theorem dX9_isNumeral_23 : decode cX9_isNumeral 23 = .ok (.lconst 1, 1) := by decide +kernel
theorem dX9_isNumeral_24 : decode cX9_isNumeral 24 = .ok (.putfield 261, 3) := by decide +kernel
theorem dX9_isNumeral_27 : decode cX9_isNumeral 27 = .ok (.aload_n 0, 1) := by decide +kernel
theorem dX9_isNumeral_28 : decode cX9_isNumeral 28 = .ok (.bipush 46, 2) := by decide +kernel
theorem dX9_isNumeral_30 : decode cX9_isNumeral 30 = .ok (.bipush 46, 2) := by decide +kernel
theorem dX9_isNumeral_32 : decode cX9_isNumeral 32 = .ok (.invokevirtual 239, 3) := by decide +kernel
theorem dX9_isNumeral_35 : decode cX9_isNumeral 35 = .ok (.ifCond .ne 20, 3) := by decide +kernel
theorem dX9_isNumeral_38 : decode cX9_isNumeral 38 = .ok (.aload_n 0, 1) := by decide +kernel
theorem dX9_isNumeral_39 : decode cX9_isNumeral 39 = .ok (.getfield 218, 3) := by decide +kernel
theorem dX9_isNumeral_42 : decode cX9_isNumeral 42 = .ok (.aload_n 0, 1) := by decide +kernel
theorem dX9_isNumeral_43 : decode cX9_isNumeral 43 = .ok (.getfield 221, 3) := by decide +kernel
theorem dX9_isNumeral_46 : decode cX9_isNumeral 46 = .ok (.if_icmp .ne 7, 3) := by decide +kernel
theorem dX9_isNumeral_49 : decode cX9_isNumeral 49 = .ok (.iconst 1, 1) := by decide +kernel
theorem dX9_isNumeral_50 : decode cX9_isNumeral 50 = .ok (.goto 4, 3) := by decide +kernel
theorem dX9_isNumeral_53 : decode cX9_isNumeral 53 = .ok (.iconst 0, 1) := by decide +kernel
theorem dX9_isNumeral_54 : decode cX9_isNumeral 54 = .ok (.ireturn, 1) := by decide +kernel
theorem dX9_isNumeral_55 : decode cX9_isNumeral 55 = .ok (.aload_n 0, 1) := by decide +kernel
theorem dX9_isNumeral_56 : decode cX9_isNumeral 56 = .ok (.dup, 1) := by decide +kernel
theorem dX9_isNumeral_57 : decode cX9_isNumeral 57 = .ok (.getfield 218, 3) := by decide +kernel
theorem dX9_isNumeral_60 : decode cX9_isNumeral 60 = .ok (.iconst 1, 1) := by decide +kernel
theorem dX9_isNumeral_61 : decode cX9_isNumeral 61 = .ok (.iadd, 1) := by decide +kernel
theorem dX9_isNumeral_62 : decode cX9_isNumeral 62 = .ok (.putfield 218, 3) := by decide +kernel
theorem dX9_isNumeral_65 : decode cX9_isNumeral 65 = .ok (.aload_n 0, 1) := by decide +kernel
theorem dX9_isNumeral_66 : decode cX9_isNumeral 66 = .ok (.iload_n 1, 1) := by decide +kernel
theorem dX9_isNumeral_67 : decode cX9_isNumeral 67 = .ok (.invokevirtual 255, 3) := by decide +kernel
theorem dX9_isNumeral_70 : decode cX9_isNumeral 70 = .ok (.aload_n 0, 1) := by decide +kernel
theorem dX9_isNumeral_71 : decode cX9_isNumeral 71 = .ok (.getfield 249, 3) := by decide +kernel
theorem dX9_isNumeral_74 : decode cX9_isNumeral 74 = .ok (.istore_n 2, 1) := by decide +kernel
theorem dX9_isNumeral_75 : decode cX9_isNumeral 75 = .ok (.aload_n 0, 1) := by decide +kernel
theorem dX9_isNumeral_76 : decode cX9_isNumeral 76 = .ok (.aload_n 0, 1) := by decide +kernel
theorem dX9_isNumeral_77 : decode cX9_isNumeral 77 = .ok (.getfield 258, 3) := by decide +kernel
theorem dX9_isNumeral_80 : decode cX9_isNumeral 80 = .ok (.aload_n 0, 1) := by decide +kernel
theorem dX9_isNumeral_81 : decode cX9_isNumeral 81 = .ok (.getfield 246, 3) := by decide +kernel
theorem dX9_isNumeral_84 : decode cX9_isNumeral 84 = .ok (.lmul, 1) := by decide +kernel
theorem dX9_isNumeral_85 : decode cX9_isNumeral 85 = .ok (.aload_n 0, 1) := by decide +kernel
theorem dX9_isNumeral_86 : decode cX9_isNumeral 86 = .ok (.getfield 242, 3) := by decide +kernel
theorem dX9_isNumeral_89 : decode cX9_isNumeral 89 = .ok (.ladd, 1) := by decide +kernel
theorem dX9_isNumeral_90 : decode cX9_isNumeral 90 = .ok (.putfield 258, 3) := by decide +kernel
theorem dX9_isNumeral_93 : decode cX9_isNumeral 93 = .ok (.aload_n 0, 1) := by decide +kernel
theorem dX9_isNumeral_94 : decode cX9_isNumeral 94 = .ok (.aload_n 0, 1) := by decide +kernel
theorem dX9_isNumeral_95 : decode cX9_isNumeral 95 = .ok (.getfield 246, 3) := by decide +kernel
theorem dX9_isNumeral_98 : decode cX9_isNumeral 98 = .ok (.putfield 261, 3) := by decide +kernel
theorem dX9_isNumeral_101 : decode cX9_isNumeral 101 = .ok (.aload_n 0, 1) := by decide +kernel
theorem dX9_isNumeral_102 : decode cX9_isNumeral 102 = .ok (.bipush 40, 2) := by decide +kernel
theorem dX9_isNumeral_104 : decode cX9_isNumeral 104 = .ok (.bipush 40, 2) := by decide +kernel
theorem dX9_isNumeral_106 : decode cX9_isNumeral 106 = .ok (.invokevirtual 239, 3) := by decide +kernel
theorem dX9_isNumeral_109 : decode cX9_isNumeral 109 = .ok (.ifCond .ne 24, 3) := by decide +kernel
theorem dX9_isNumeral_112 : decode cX9_isNumeral 112 = .ok (.iload_n 2, 1) := by decide +kernel
theorem dX9_isNumeral_113 : decode cX9_isNumeral 113 = .ok (.ifCond .le 18, 3) := by decide +kernel
theorem dX9_isNumeral_116 : decode cX9_isNumeral 116 = .ok (.aload_n 0, 1) := by decide +kernel
theorem dX9_isNumeral_117 : decode cX9_isNumeral 117 = .ok (.getfield 218, 3) := by decide +kernel
theorem dX9_isNumeral_120 : decode cX9_isNumeral 120 = .ok (.aload_n 0, 1) := by decide +kernel
theorem dX9_isNumeral_121 : decode cX9_isNumeral 121 = .ok (.getfield 221, 3) := by decide +kernel
theorem dX9_isNumeral_124 : decode cX9_isNumeral 124 = .ok (.if_icmp .ne 7, 3) := by decide +kernel
theorem dX9_isNumeral_127 : decode cX9_isNumeral 127 = .ok (.iconst 1, 1) := by decide +kernel
theorem dX9_isNumeral_128 : decode cX9_isNumeral 128 = .ok (.goto 4, 3) := by decide +kernel
theorem dX9_isNumeral_131 : decode cX9_isNumeral 131 = .ok (.iconst 0, 1) := by decide +kernel
theorem dX9_isNumeral_132 : decode cX9_isNumeral 132 = .ok (.ireturn, 1) := by decide +kernel
theorem dX9_isNumeral_133 : decode cX9_isNumeral 133 = .ok (.aload_n 0, 1) := by decide +kernel
theorem dX9_isNumeral_134 : decode cX9_isNumeral 134 = .ok (.dup, 1) := by decide +kernel
theorem dX9_isNumeral_135 : decode cX9_isNumeral 135 = .ok (.getfield 218, 3) := by decide +kernel
theorem dX9_isNumeral_138 : decode cX9_isNumeral 138 = .ok (.iconst 1, 1) := by decide +kernel
theorem dX9_isNumeral_139 : decode cX9_isNumeral 139 = .ok (.iadd, 1) := by decide +kernel
theorem dX9_isNumeral_140 : decode cX9_isNumeral 140 = .ok (.putfield 218, 3) := by decide +kernel
theorem dX9_isNumeral_143 : decode cX9_isNumeral 143 = .ok (.aload_n 0, 1) := by decide +kernel
theorem dX9_isNumeral_144 : decode cX9_isNumeral 144 = .ok (.iload_n 1, 1) := by decide +kernel
theorem dX9_isNumeral_145 : decode cX9_isNumeral 145 = .ok (.invokevirtual 255, 3) := by decide +kernel
theorem dX9_isNumeral_148 : decode cX9_isNumeral 148 = .ok (.aload_n 0, 1) := by decide +kernel
theorem dX9_isNumeral_149 : decode cX9_isNumeral 149 = .ok (.getfield 249, 3) := by decide +kernel
theorem dX9_isNumeral_152 : decode cX9_isNumeral 152 = .ok (.ifCond .eq 14, 3) := by decide +kernel
theorem dX9_isNumeral_155 : decode cX9_isNumeral 155 = .ok (.aload_n 0, 1) := by decide +kernel
theorem dX9_isNumeral_156 : decode cX9_isNumeral 156 = .ok (.bipush 41, 2) := by decide +kernel
theorem dX9_isNumeral_158 : decode cX9_isNumeral 158 = .ok (.bipush 41, 2) := by decide +kernel
theorem dX9_isNumeral_160 : decode cX9_isNumeral 160 = .ok (.invokevirtual 239, 3) := by decide +kernel
theorem dX9_isNumeral_163 : decode cX9_isNumeral 163 = .ok (.ifCond .ne 5, 3) := by decide +kernel
theorem dX9_isNumeral_166 : decode cX9_isNumeral 166 = .ok (.iconst 0, 1) := by decide +kernel
theorem dX9_isNumeral_167 : decode cX9_isNumeral 167 = .ok (.ireturn, 1) := by decide +kernel
theorem dX9_isNumeral_168 : decode cX9_isNumeral 168 = .ok (.aload_n 0, 1) := by decide +kernel
theorem dX9_isNumeral_169 : decode cX9_isNumeral 169 = .ok (.dup, 1) := by decide +kernel
theorem dX9_isNumeral_170 : decode cX9_isNumeral 170 = .ok (.getfield 218, 3) := by decide +kernel
theorem dX9_isNumeral_173 : decode cX9_isNumeral 173 = .ok (.iconst 1, 1) := by decide +kernel
theorem dX9_isNumeral_174 : decode cX9_isNumeral 174 = .ok (.iadd, 1) := by decide +kernel
theorem dX9_isNumeral_175 : decode cX9_isNumeral 175 = .ok (.putfield 218, 3) := by decide +kernel
theorem dX9_isNumeral_178 : decode cX9_isNumeral 178 = .ok (.aload_n 0, 1) := by decide +kernel
theorem dX9_isNumeral_179 : decode cX9_isNumeral 179 = .ok (.aload_n 0, 1) := by decide +kernel
theorem dX9_isNumeral_180 : decode cX9_isNumeral 180 = .ok (.getfield 258, 3) := by decide +kernel
theorem dX9_isNumeral_183 : decode cX9_isNumeral 183 = .ok (.aload_n 0, 1) := by decide +kernel
theorem dX9_isNumeral_184 : decode cX9_isNumeral 184 = .ok (.getfield 246, 3) := by decide +kernel
theorem dX9_isNumeral_187 : decode cX9_isNumeral 187 = .ok (.lconst 1, 1) := by decide +kernel
theorem dX9_isNumeral_188 : decode cX9_isNumeral 188 = .ok (.lsub, 1) := by decide +kernel
theorem dX9_isNumeral_189 : decode cX9_isNumeral 189 = .ok (.lmul, 1) := by decide +kernel
theorem dX9_isNumeral_190 : decode cX9_isNumeral 190 = .ok (.aload_n 0, 1) := by decide +kernel
theorem dX9_isNumeral_191 : decode cX9_isNumeral 191 = .ok (.getfield 242, 3) := by decide +kernel
theorem dX9_isNumeral_194 : decode cX9_isNumeral 194 = .ok (.ladd, 1) := by decide +kernel
theorem dX9_isNumeral_195 : decode cX9_isNumeral 195 = .ok (.putfield 258, 3) := by decide +kernel
theorem dX9_isNumeral_198 : decode cX9_isNumeral 198 = .ok (.aload_n 0, 1) := by decide +kernel
theorem dX9_isNumeral_199 : decode cX9_isNumeral 199 = .ok (.aload_n 0, 1) := by decide +kernel
theorem dX9_isNumeral_200 : decode cX9_isNumeral 200 = .ok (.getfield 261, 3) := by decide +kernel
theorem dX9_isNumeral_203 : decode cX9_isNumeral 203 = .ok (.aload_n 0, 1) := by decide +kernel
theorem dX9_isNumeral_204 : decode cX9_isNumeral 204 = .ok (.getfield 246, 3) := by decide +kernel
theorem dX9_isNumeral_207 : decode cX9_isNumeral 207 = .ok (.lconst 1, 1) := by decide +kernel
theorem dX9_isNumeral_208 : decode cX9_isNumeral 208 = .ok (.lsub, 1) := by decide +kernel
theorem dX9_isNumeral_209 : decode cX9_isNumeral 209 = .ok (.lmul, 1) := by decide +kernel
theorem dX9_isNumeral_210 : decode cX9_isNumeral 210 = .ok (.putfield 261, 3) := by decide +kernel
theorem dX9_isNumeral_213 : decode cX9_isNumeral 213 = .ok (.aload_n 0, 1) := by decide +kernel
theorem dX9_isNumeral_214 : decode cX9_isNumeral 214 = .ok (.getfield 218, 3) := by decide +kernel
theorem dX9_isNumeral_217 : decode cX9_isNumeral 217 = .ok (.aload_n 0, 1) := by decide +kernel
theorem dX9_isNumeral_218 : decode cX9_isNumeral 218 = .ok (.getfield 221, 3) := by decide +kernel
theorem dX9_isNumeral_221 : decode cX9_isNumeral 221 = .ok (.if_icmp .ne 7, 3) := by decide +kernel
theorem dX9_isNumeral_224 : decode cX9_isNumeral 224 = .ok (.iconst 1, 1) := by decide +kernel
theorem dX9_isNumeral_225 : decode cX9_isNumeral 225 = .ok (.goto 4, 3) := by decide +kernel
theorem dX9_isNumeral_228 : decode cX9_isNumeral 228 = .ok (.iconst 0, 1) := by decide +kernel
theorem dX9_isNumeral_229 : decode cX9_isNumeral 229 = .ok (.ireturn, 1) := by decide +kernel
theorem dX9_read_0 : decode cX9_read 0 = .ok (.iload_n 1, 1) := by decide +kernel
theorem dX9_read_1 : decode cX9_read 1 = .ok (.invokestatic 118, 3) := by decide +kernel
theorem dX9_read_4 : decode cX9_read 4 = .ok (.ifCond .ne 5, 3) := by decide +kernel
theorem dX9_read_7 : decode cX9_read 7 = .ok (.iconst (-1), 1) := by decide +kernel
theorem dX9_read_8 : decode cX9_read 8 = .ok (.ireturn, 1) := by decide +kernel
theorem dX9_read_9 : decode cX9_read 9 = .ok (.aload_n 0, 1) := by decide +kernel
theorem dX9_read_10 : decode cX9_read 10 = .ok (.aload_n 0, 1) := by decide +kernel
theorem dX9_read_11 : decode cX9_read 11 = .ok (.getfield 215, 3) := by decide +kernel
theorem dX9_read_14 : decode cX9_read 14 = .ok (.putfield 221, 3) := by decide +kernel
theorem dX9_read_17 : decode cX9_read 17 = .ok (.aload_n 0, 1) := by decide +kernel
theorem dX9_read_18 : decode cX9_read 18 = .ok (.iconst 0, 1) := by decide +kernel
theorem dX9_read_19 : decode cX9_read 19 = .ok (.putfield 215, 3) := by decide +kernel
theorem dX9_read_22 : decode cX9_read 22 = .ok (.aload_n 0, 1) := by decide +kernel
theorem dX9_read_23 : decode cX9_read 23 = .ok (.iconst 0, 1) := by decide +kernel
theorem dX9_read_24 : decode cX9_read 24 = .ok (.putfield 218, 3) := by decide +kernel
theorem dX9_read_27 : decode cX9_read 27 = .ok (.aload_n 0, 1) := by decide +kernel
theorem dX9_read_28 : decode cX9_read 28 = .ok (.iload_n 1, 1) := by decide +kernel
theorem dX9_read_29 : decode cX9_read 29 = .ok (.invokevirtual 264, 3) := by decide +kernel
theorem dX9_read_32 : decode cX9_read 32 = .ok (.ifCond .ne 12, 3) := by decide +kernel
theorem dX9_read_35 : decode cX9_read 35 = .ok (.sipush (-1000), 3) := by decide +kernel
theorem dX9_read_38 : decode cX9_read 38 = .ok (.aload_n 0, 1) := by decide +kernel
theorem dX9_read_39 : decode cX9_read 39 = .ok (.getfield 218, 3) := by decide +kernel
theorem dX9_read_42 : decode cX9_read 42 = .ok (.isub, 1) := by decide +kernel
theorem dX9_read_43 : decode cX9_read 43 = .ok (.ireturn, 1) := by decide +kernel
theorem dX9_read_44 : decode cX9_read 44 = .ok (.aload_n 0, 1) := by decide +kernel
theorem dX9_read_45 : decode cX9_read 45 = .ok (.aload_n 0, 1) := by decide +kernel
theorem dX9_read_46 : decode cX9_read 46 = .ok (.getfield 258, 3) := by decide +kernel
theorem dX9_read_49 : decode cX9_read 49 = .ok (.aload_n 0, 1) := by decide +kernel
theorem dX9_read_50 : decode cX9_read 50 = .ok (.getfield 261, 3) := by decide +kernel
theorem dX9_read_53 : decode cX9_read 53 = .ok (.iload_n 1, 1) := by decide +kernel
theorem dX9_read_54 : decode cX9_read 54 = .ok (.invokevirtual 133, 3) := by decide +kernel
theorem dX9_read_57 : decode cX9_read 57 = .ok (.ireturn, 1) := by decide +kernel
theorem dX9_numbersOf_0 : decode cX9_numbersOf 0 = .ok (.iload_n 0, 1) := by decide +kernel
theorem dX9_numbersOf_1 : decode cX9_numbersOf 1 = .ok (.ifCond .ne 7, 3) := by decide +kernel
theorem dX9_numbersOf_4 : decode cX9_numbersOf 4 = .ok (.iconst 3, 1) := by decide +kernel
theorem dX9_numbersOf_5 : decode cX9_numbersOf 5 = .ok (.goto 18, 3) := by decide +kernel
theorem dX9_numbersOf_8 : decode cX9_numbersOf 8 = .ok (.iload_n 0, 1) := by decide +kernel
theorem dX9_numbersOf_9 : decode cX9_numbersOf 9 = .ok (.iconst 1, 1) := by decide +kernel
theorem dX9_numbersOf_10 : decode cX9_numbersOf 10 = .ok (.if_icmp .eq 8, 3) := by decide +kernel
theorem dX9_numbersOf_13 : decode cX9_numbersOf 13 = .ok (.iload_n 0, 1) := by decide +kernel
theorem dX9_numbersOf_14 : decode cX9_numbersOf 14 = .ok (.iconst 4, 1) := by decide +kernel
theorem dX9_numbersOf_15 : decode cX9_numbersOf 15 = .ok (.if_icmp .ne 7, 3) := by decide +kernel
theorem dX9_numbersOf_18 : decode cX9_numbersOf 18 = .ok (.iconst 1, 1) := by decide +kernel
theorem dX9_numbersOf_19 : decode cX9_numbersOf 19 = .ok (.goto 4, 3) := by decide +kernel
theorem dX9_numbersOf_22 : decode cX9_numbersOf 22 = .ok (.iconst 2, 1) := by decide +kernel
theorem dX9_numbersOf_23 : decode cX9_numbersOf 23 = .ok (.ireturn, 1) := by decide +kernel
theorem dX9_command_0 : decode cX9_command 0 = .ok (.aload_n 0, 1) := by decide +kernel
theorem dX9_command_1 : decode cX9_command 1 = .ok (.getfield 218, 3) := by decide +kernel
theorem dX9_command_4 : decode cX9_command 4 = .ok (.istore_n 1, 1) := by decide +kernel
theorem dX9_command_5 : decode cX9_command 5 = .ok (.aload_n 0, 1) := by decide +kernel
theorem dX9_command_6 : decode cX9_command 6 = .ok (.bipush 97, 2) := by decide +kernel
theorem dX9_command_8 : decode cX9_command 8 = .ok (.bipush 122, 2) := by decide +kernel
theorem dX9_command_10 : decode cX9_command 10 = .ok (.invokevirtual 239, 3) := by decide +kernel
theorem dX9_command_13 : decode cX9_command 13 = .ok (.ifCond .eq 16, 3) := by decide +kernel
theorem dX9_command_16 : decode cX9_command 16 = .ok (.aload_n 0, 1) := by decide +kernel
theorem dX9_command_17 : decode cX9_command 17 = .ok (.dup, 1) := by decide +kernel
theorem dX9_command_18 : decode cX9_command 18 = .ok (.getfield 218, 3) := by decide +kernel
theorem dX9_command_21 : decode cX9_command 21 = .ok (.iconst 1, 1) := by decide +kernel
theorem dX9_command_22 : decode cX9_command 22 = .ok (.iadd, 1) := by decide +kernel
theorem dX9_command_23 : decode cX9_command 23 = .ok (.putfield 218, 3) := by decide +kernel
theorem dX9_command_26 : decode cX9_command 26 = .ok (.goto (-21), 3) := by decide +kernel
theorem dX9_command_29 : decode cX9_command 29 = .ok (.aload_n 0, 1) := by decide +kernel
theorem dX9_command_30 : decode cX9_command 30 = .ok (.iload_n 1, 1) := by decide +kernel
theorem dX9_command_31 : decode cX9_command 31 = .ok (.aload_n 0, 1) := by decide +kernel
theorem dX9_command_32 : decode cX9_command 32 = .ok (.getfield 218, 3) := by decide +kernel
theorem dX9_command_35 : decode cX9_command 35 = .ok (.invokevirtual 267, 3) := by decide +kernel
theorem dX9_command_38 : decode cX9_command 38 = .ok (.istore_n 2, 1) := by decide +kernel
theorem dX9_command_39 : decode cX9_command 39 = .ok (.iload_n 2, 1) := by decide +kernel
theorem dX9_command_40 : decode cX9_command 40 = .ok (.iconst (-1), 1) := by decide +kernel
theorem dX9_command_41 : decode cX9_command 41 = .ok (.if_icmp .ne 10, 3) := by decide +kernel
theorem dX9_command_44 : decode cX9_command 44 = .ok (.aload_n 0, 1) := by decide +kernel
theorem dX9_command_45 : decode cX9_command 45 = .ok (.iload_n 1, 1) := by decide +kernel
theorem dX9_command_46 : decode cX9_command 46 = .ok (.putfield 218, 3) := by decide +kernel
theorem dX9_command_49 : decode cX9_command 49 = .ok (.iconst (-1), 1) := by decide +kernel
theorem dX9_command_50 : decode cX9_command 50 = .ok (.ireturn, 1) := by decide +kernel
theorem dX9_command_51 : decode cX9_command 51 = .ok (.iconst 0, 1) := by decide +kernel
theorem dX9_command_52 : decode cX9_command 52 = .ok (.istore_n 3, 1) := by decide +kernel
theorem dX9_command_53 : decode cX9_command 53 = .ok (.iload_n 3, 1) := by decide +kernel
theorem dX9_command_54 : decode cX9_command 54 = .ok (.iload_n 2, 1) := by decide +kernel
theorem dX9_command_55 : decode cX9_command 55 = .ok (.invokestatic 270, 3) := by decide +kernel
theorem dX9_command_58 : decode cX9_command 58 = .ok (.if_icmp .ge 116, 3) := by decide +kernel
theorem dX9_command_61 : decode cX9_command 61 = .ok (.aload_n 0, 1) := by decide +kernel
theorem dX9_command_62 : decode cX9_command 62 = .ok (.bipush 32, 2) := by decide +kernel
theorem dX9_command_64 : decode cX9_command 64 = .ok (.bipush 32, 2) := by decide +kernel
theorem dX9_command_66 : decode cX9_command 66 = .ok (.invokevirtual 239, 3) := by decide +kernel
theorem dX9_command_69 : decode cX9_command 69 = .ok (.ifCond .ne 5, 3) := by decide +kernel
theorem dX9_command_72 : decode cX9_command 72 = .ok (.iconst (-1), 1) := by decide +kernel
theorem dX9_command_73 : decode cX9_command 73 = .ok (.ireturn, 1) := by decide +kernel
theorem dX9_command_74 : decode cX9_command 74 = .ok (.aload_n 0, 1) := by decide +kernel
theorem dX9_command_75 : decode cX9_command 75 = .ok (.dup, 1) := by decide +kernel
theorem dX9_command_76 : decode cX9_command 76 = .ok (.getfield 218, 3) := by decide +kernel
theorem dX9_command_79 : decode cX9_command 79 = .ok (.iconst 1, 1) := by decide +kernel
theorem dX9_command_80 : decode cX9_command 80 = .ok (.iadd, 1) := by decide +kernel
theorem dX9_command_81 : decode cX9_command 81 = .ok (.putfield 218, 3) := by decide +kernel
theorem dX9_command_84 : decode cX9_command 84 = .ok (.aload_n 0, 1) := by decide +kernel
theorem dX9_command_85 : decode cX9_command 85 = .ok (.bipush 48, 2) := by decide +kernel
theorem dX9_command_87 : decode cX9_command 87 = .ok (.bipush 57, 2) := by decide +kernel
theorem dX9_command_89 : decode cX9_command 89 = .ok (.invokevirtual 239, 3) := by decide +kernel
theorem dX9_command_92 : decode cX9_command 92 = .ok (.ifCond .ne 5, 3) := by decide +kernel
theorem dX9_command_95 : decode cX9_command 95 = .ok (.iconst (-1), 1) := by decide +kernel
theorem dX9_command_96 : decode cX9_command 96 = .ok (.ireturn, 1) := by decide +kernel
theorem dX9_command_97 : decode cX9_command 97 = .ok (.aload_n 0, 1) := by decide +kernel
theorem dX9_command_98 : decode cX9_command 98 = .ok (.getfield 56, 3) := by decide +kernel
theorem dX9_command_101 : decode cX9_command 101 = .ok (.iload_n 3, 1) := by decide +kernel
theorem dX9_command_102 : decode cX9_command 102 = .ok (.iconst 0, 1) := by decide +kernel
theorem dX9_command_103 : decode cX9_command 103 = .ok (.iastore, 1) := by decide +kernel
theorem dX9_command_104 : decode cX9_command 104 = .ok (.iconst 0, 1) := by decide +kernel
theorem dX9_command_105 : decode cX9_command 105 = .ok (.istore 4, 2) := by decide +kernel
theorem dX9_command_107 : decode cX9_command 107 = .ok (.iload 4, 2) := by decide +kernel
theorem dX9_command_109 : decode cX9_command 109 = .ok (.iconst 4, 1) := by decide +kernel
theorem dX9_command_110 : decode cX9_command 110 = .ok (.if_icmp .ge 58, 3) := by decide +kernel
theorem dX9_command_113 : decode cX9_command 113 = .ok (.aload_n 0, 1) := by decide +kernel
theorem dX9_command_114 : decode cX9_command 114 = .ok (.bipush 48, 2) := by decide +kernel
theorem dX9_command_116 : decode cX9_command 116 = .ok (.bipush 57, 2) := by decide +kernel
theorem dX9_command_118 : decode cX9_command 118 = .ok (.invokevirtual 239, 3) := by decide +kernel
theorem dX9_command_121 : decode cX9_command 121 = .ok (.ifCond .eq 47, 3) := by decide +kernel
theorem dX9_command_124 : decode cX9_command 124 = .ok (.aload_n 0, 1) := by decide +kernel
theorem dX9_command_125 : decode cX9_command 125 = .ok (.getfield 56, 3) := by decide +kernel
theorem dX9_command_128 : decode cX9_command 128 = .ok (.iload_n 3, 1) := by decide +kernel
theorem dX9_command_129 : decode cX9_command 129 = .ok (.bipush 10, 2) := by decide +kernel
theorem dX9_command_131 : decode cX9_command 131 = .ok (.aload_n 0, 1) := by decide +kernel
theorem dX9_command_132 : decode cX9_command 132 = .ok (.getfield 56, 3) := by decide +kernel
theorem dX9_command_135 : decode cX9_command 135 = .ok (.iload_n 3, 1) := by decide +kernel
theorem dX9_command_136 : decode cX9_command 136 = .ok (.iaload, 1) := by decide +kernel
theorem dX9_command_137 : decode cX9_command 137 = .ok (.imul, 1) := by decide +kernel
theorem dX9_command_138 : decode cX9_command 138 = .ok (.aload_n 0, 1) := by decide +kernel
theorem dX9_command_139 : decode cX9_command 139 = .ok (.getfield 53, 3) := by decide +kernel
theorem dX9_command_142 : decode cX9_command 142 = .ok (.aload_n 0, 1) := by decide +kernel
theorem dX9_command_143 : decode cX9_command 143 = .ok (.getfield 218, 3) := by decide +kernel
theorem dX9_command_146 : decode cX9_command 146 = .ok (.iaload, 1) := by decide +kernel
theorem dX9_command_147 : decode cX9_command 147 = .ok (.iadd, 1) := by decide +kernel
theorem dX9_command_148 : decode cX9_command 148 = .ok (.bipush 48, 2) := by decide +kernel
theorem dX9_command_150 : decode cX9_command 150 = .ok (.isub, 1) := by decide +kernel
theorem dX9_command_151 : decode cX9_command 151 = .ok (.iastore, 1) := by decide +kernel
theorem dX9_command_152 : decode cX9_command 152 = .ok (.aload_n 0, 1) := by decide +kernel
theorem dX9_command_153 : decode cX9_command 153 = .ok (.dup, 1) := by decide +kernel
theorem dX9_command_154 : decode cX9_command 154 = .ok (.getfield 218, 3) := by decide +kernel
theorem dX9_command_157 : decode cX9_command 157 = .ok (.iconst 1, 1) := by decide +kernel
theorem dX9_command_158 : decode cX9_command 158 = .ok (.iadd, 1) := by decide +kernel
theorem dX9_command_159 : decode cX9_command 159 = .ok (.putfield 218, 3) := by decide +kernel
theorem dX9_command_162 : decode cX9_command 162 = .ok (.iinc 4 1, 3) := by decide +kernel
theorem dX9_command_165 : decode cX9_command 165 = .ok (.goto (-58), 3) := by decide +kernel
theorem dX9_command_168 : decode cX9_command 168 = .ok (.iinc 3 1, 3) := by decide +kernel
theorem dX9_command_171 : decode cX9_command 171 = .ok (.goto (-118), 3) := by decide +kernel
theorem dX9_command_174 : decode cX9_command 174 = .ok (.iload_n 2, 1) := by decide +kernel
theorem dX9_command_175 : decode cX9_command 175 = .ok (.ireturn, 1) := by decide +kernel
theorem dX9_done_0 : decode cX9_done 0 = .ok (.iload_n 1, 1) := by decide +kernel
theorem dX9_done_1 : decode cX9_done 1 = .ok (.tableswitch 99 0 3 #[31, 54, 65, 82], 31) := by decide +kernel
theorem dX9_done_32 : decode cX9_done 32 = .ok (.aload_n 0, 1) := by decide +kernel
theorem dX9_done_33 : decode cX9_done 33 = .ok (.aload_n 0, 1) := by decide +kernel
theorem dX9_done_34 : decode cX9_done 34 = .ok (.getfield 56, 3) := by decide +kernel
theorem dX9_done_37 : decode cX9_done 37 = .ok (.iconst 0, 1) := by decide +kernel
theorem dX9_done_38 : decode cX9_done 38 = .ok (.iaload, 1) := by decide +kernel
theorem dX9_done_39 : decode cX9_done 39 = .ok (.aload_n 0, 1) := by decide +kernel
theorem dX9_done_40 : decode cX9_done 40 = .ok (.getfield 56, 3) := by decide +kernel
theorem dX9_done_43 : decode cX9_done 43 = .ok (.iconst 1, 1) := by decide +kernel
theorem dX9_done_44 : decode cX9_done 44 = .ok (.iaload, 1) := by decide +kernel
theorem dX9_done_45 : decode cX9_done 45 = .ok (.aload_n 0, 1) := by decide +kernel
theorem dX9_done_46 : decode cX9_done 46 = .ok (.getfield 56, 3) := by decide +kernel
theorem dX9_done_49 : decode cX9_done 49 = .ok (.iconst 2, 1) := by decide +kernel
theorem dX9_done_50 : decode cX9_done 50 = .ok (.iaload, 1) := by decide +kernel
theorem dX9_done_51 : decode cX9_done 51 = .ok (.invokevirtual 273, 3) := by decide +kernel
theorem dX9_done_54 : decode cX9_done 54 = .ok (.ireturn, 1) := by decide +kernel
theorem dX9_done_55 : decode cX9_done 55 = .ok (.aload_n 0, 1) := by decide +kernel
theorem dX9_done_56 : decode cX9_done 56 = .ok (.aload_n 0, 1) := by decide +kernel
theorem dX9_done_57 : decode cX9_done 57 = .ok (.getfield 56, 3) := by decide +kernel
theorem dX9_done_60 : decode cX9_done 60 = .ok (.iconst 0, 1) := by decide +kernel
theorem dX9_done_61 : decode cX9_done 61 = .ok (.iaload, 1) := by decide +kernel
theorem dX9_done_62 : decode cX9_done 62 = .ok (.invokevirtual 276, 3) := by decide +kernel
theorem dX9_done_65 : decode cX9_done 65 = .ok (.ireturn, 1) := by decide +kernel
theorem dX9_done_66 : decode cX9_done 66 = .ok (.aload_n 0, 1) := by decide +kernel
theorem dX9_done_67 : decode cX9_done 67 = .ok (.aload_n 0, 1) := by decide +kernel
theorem dX9_done_68 : decode cX9_done 68 = .ok (.getfield 56, 3) := by decide +kernel
theorem dX9_done_71 : decode cX9_done 71 = .ok (.iconst 0, 1) := by decide +kernel
theorem dX9_done_72 : decode cX9_done 72 = .ok (.iaload, 1) := by decide +kernel
theorem dX9_done_73 : decode cX9_done 73 = .ok (.aload_n 0, 1) := by decide +kernel
