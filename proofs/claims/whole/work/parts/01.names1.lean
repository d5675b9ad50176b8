theorem dX0_init_0 : decode cX0_init 0 = .ok (.aload_n 0, 1) := by decide +kernel
theorem dX0_init_1 : decode cX0_init 1 = .ok (.invokespecial 3, 3) := by decide +kernel
theorem dX0_init_4 : decode cX0_init 4 = .ok (.aload_n 0, 1) := by decide +kernel
theorem dX0_init_5 : decode cX0_init 5 = .ok (.sipush 399, 3) := by decide +kernel
theorem dX0_init_8 : decode cX0_init 8 = .ok (.newarray .int, 2) := by decide +kernel
theorem dX0_init_10 : decode cX0_init 10 = .ok (.putfield 9, 3) := by decide +kernel
theorem dX0_init_13 : decode cX0_init 13 = .ok (.aload_n 0, 1) := by decide +kernel
theorem dX0_init_14 : decode cX0_init 14 = .ok (.iconst 0, 1) := by decide +kernel
theorem dX0_init_15 : decode cX0_init 15 = .ok (.putfield 15, 3) := by decide +kernel
theorem dX0_init_18 : decode cX0_init 18 = .ok (.aload_n 0, 1) := by decide +kernel
theorem dX0_init_19 : decode cX0_init 19 = .ok (.bipush 10, 2) := by decide +kernel
theorem dX0_init_21 : decode cX0_init 21 = .ok (.putfield 19, 3) := by decide +kernel
theorem dX0_init_24 : decode cX0_init 24 = .ok (.aload_n 0, 1) := by decide +kernel
theorem dX0_init_25 : decode cX0_init 25 = .ok (.new 22, 3) := by decide +kernel
theorem dX0_init_28 : decode cX0_init 28 = .ok (.dup, 1) := by decide +kernel
theorem dX0_init_29 : decode cX0_init 29 = .ok (.invokespecial 24, 3) := by decide +kernel
theorem dX0_init_32 : decode cX0_init 32 = .ok (.putfield 25, 3) := by decide +kernel
theorem dX0_init_35 : decode cX0_init 35 = .ok (.return_, 1) := by decide +kernel
theorem dX0_fillTo_0 : decode cX0_fillTo 0 = .ok (.aload_n 0, 1) := by decide +kernel
theorem dX0_fillTo_1 : decode cX0_fillTo 1 = .ok (.iload_n 2, 1) := by decide +kernel
theorem dX0_fillTo_2 : decode cX0_fillTo 2 = .ok (.putfield 19, 3) := by decide +kernel
theorem dX0_fillTo_5 : decode cX0_fillTo 5 = .ok (.aload_n 0, 1) := by decide +kernel
theorem dX0_fillTo_6 : decode cX0_fillTo 6 = .ok (.iload_n 1, 1) := by decide +kernel
theorem dX0_fillTo_7 : decode cX0_fillTo 7 = .ok (.iconst 1, 1) := by decide +kernel
theorem dX0_fillTo_8 : decode cX0_fillTo 8 = .ok (.isub, 1) := by decide +kernel
theorem dX0_fillTo_9 : decode cX0_fillTo 9 = .ok (.putfield 15, 3) := by decide +kernel
theorem dX0_fillTo_12 : decode cX0_fillTo 12 = .ok (.iconst 0, 1) := by decide +kernel
theorem dX0_fillTo_13 : decode cX0_fillTo 13 = .ok (.istore_n 3, 1) := by decide +kernel
theorem dX0_fillTo_14 : decode cX0_fillTo 14 = .ok (.iload_n 3, 1) := by decide +kernel
theorem dX0_fillTo_15 : decode cX0_fillTo 15 = .ok (.aload_n 0, 1) := by decide +kernel
theorem dX0_fillTo_16 : decode cX0_fillTo 16 = .ok (.getfield 15, 3) := by decide +kernel
theorem dX0_fillTo_19 : decode cX0_fillTo 19 = .ok (.if_icmp .ge 20, 3) := by decide +kernel
theorem dX0_fillTo_22 : decode cX0_fillTo 22 = .ok (.aload_n 0, 1) := by decide +kernel
theorem dX0_fillTo_23 : decode cX0_fillTo 23 = .ok (.getfield 9, 3) := by decide +kernel
theorem dX0_fillTo_26 : decode cX0_fillTo 26 = .ok (.iload_n 3, 1) := by decide +kernel
theorem dX0_fillTo_27 : decode cX0_fillTo 27 = .ok (.iload_n 3, 1) := by decide +kernel
theorem dX0_fillTo_28 : decode cX0_fillTo 28 = .ok (.iconst 2, 1) := by decide +kernel
theorem dX0_fillTo_29 : decode cX0_fillTo 29 = .ok (.iadd, 1) := by decide +kernel
theorem dX0_fillTo_30 : decode cX0_fillTo 30 = .ok (.invokestatic 29, 3) := by decide +kernel
theorem dX0_fillTo_33 : decode cX0_fillTo 33 = .ok (.iinc 3 1, 3) := by decide +kernel
theorem dX0_fillTo_36 : decode cX0_fillTo 36 = .ok (.goto (-22), 3) := by decide +kernel
theorem dX0_fillTo_39 : decode cX0_fillTo 39 = .ok (.return_, 1) := by decide +kernel
theorem dX0_becomeLike_0 : decode cX0_becomeLike 0 = .ok (.aload_n 0, 1) := by decide +kernel
theorem dX0_becomeLike_1 : decode cX0_becomeLike 1 = .ok (.aload_n 1, 1) := by decide +kernel
theorem dX0_becomeLike_2 : decode cX0_becomeLike 2 = .ok (.getfield 19, 3) := by decide +kernel
theorem dX0_becomeLike_5 : decode cX0_becomeLike 5 = .ok (.putfield 19, 3) := by decide +kernel
theorem dX0_becomeLike_8 : decode cX0_becomeLike 8 = .ok (.aload_n 0, 1) := by decide +kernel
theorem dX0_becomeLike_9 : decode cX0_becomeLike 9 = .ok (.aload_n 1, 1) := by decide +kernel
theorem dX0_becomeLike_10 : decode cX0_becomeLike 10 = .ok (.getfield 15, 3) := by decide +kernel
theorem dX0_becomeLike_13 : decode cX0_becomeLike 13 = .ok (.putfield 15, 3) := by decide +kernel
theorem dX0_becomeLike_16 : decode cX0_becomeLike 16 = .ok (.iconst 0, 1) := by decide +kernel
theorem dX0_becomeLike_17 : decode cX0_becomeLike 17 = .ok (.istore_n 2, 1) := by decide +kernel
theorem dX0_becomeLike_18 : decode cX0_becomeLike 18 = .ok (.iload_n 2, 1) := by decide +kernel
theorem dX0_becomeLike_19 : decode cX0_becomeLike 19 = .ok (.aload_n 0, 1) := by decide +kernel
theorem dX0_becomeLike_20 : decode cX0_becomeLike 20 = .ok (.getfield 15, 3) := by decide +kernel
theorem dX0_becomeLike_23 : decode cX0_becomeLike 23 = .ok (.if_icmp .ge 25, 3) := by decide +kernel
theorem dX0_becomeLike_26 : decode cX0_becomeLike 26 = .ok (.aload_n 0, 1) := by decide +kernel
theorem dX0_becomeLike_27 : decode cX0_becomeLike 27 = .ok (.getfield 9, 3) := by decide +kernel
theorem dX0_becomeLike_30 : decode cX0_becomeLike 30 = .ok (.iload_n 2, 1) := by decide +kernel
theorem dX0_becomeLike_31 : decode cX0_becomeLike 31 = .ok (.aload_n 1, 1) := by decide +kernel
theorem dX0_becomeLike_32 : decode cX0_becomeLike 32 = .ok (.getfield 9, 3) := by decide +kernel
theorem dX0_becomeLike_35 : decode cX0_becomeLike 35 = .ok (.iload_n 2, 1) := by decide +kernel
theorem dX0_becomeLike_36 : decode cX0_becomeLike 36 = .ok (.invokestatic 33, 3) := by decide +kernel
theorem dX0_becomeLike_39 : decode cX0_becomeLike 39 = .ok (.invokestatic 29, 3) := by decide +kernel
theorem dX0_becomeLike_42 : decode cX0_becomeLike 42 = .ok (.iinc 2 1, 3) := by decide +kernel
theorem dX0_becomeLike_45 : decode cX0_becomeLike 45 = .ok (.goto (-27), 3) := by decide +kernel
theorem dX0_becomeLike_48 : decode cX0_becomeLike 48 = .ok (.return_, 1) := by decide +kernel
theorem dX0_wordOn_0 : decode cX0_wordOn 0 = .ok (.iconst 0, 1) := by decide +kernel
theorem dX0_wordOn_1 : decode cX0_wordOn 1 = .ok (.istore_n 2, 1) := by decide +kernel
theorem dX0_wordOn_2 : decode cX0_wordOn 2 = .ok (.iload_n 2, 1) := by decide +kernel
theorem dX0_wordOn_3 : decode cX0_wordOn 3 = .ok (.bipush 8, 2) := by decide +kernel
theorem dX0_wordOn_5 : decode cX0_wordOn 5 = .ok (.if_icmp .ge 27, 3) := by decide +kernel
theorem dX0_wordOn_8 : decode cX0_wordOn 8 = .ok (.aload_n 0, 1) := by decide +kernel
theorem dX0_wordOn_9 : decode cX0_wordOn 9 = .ok (.iload_n 1, 1) := by decide +kernel
theorem dX0_wordOn_10 : decode cX0_wordOn 10 = .ok (.aload_n 0, 1) := by decide +kernel
theorem dX0_wordOn_11 : decode cX0_wordOn 11 = .ok (.getfield 37, 3) := by decide +kernel
theorem dX0_wordOn_14 : decode cX0_wordOn 14 = .ok (.iload_n 2, 1) := by decide +kernel
theorem dX0_wordOn_15 : decode cX0_wordOn 15 = .ok (.invokestatic 40, 3) := by decide +kernel
theorem dX0_wordOn_18 : decode cX0_wordOn 18 = .ok (.invokevirtual 44, 3) := by decide +kernel
theorem dX0_wordOn_21 : decode cX0_wordOn 21 = .ok (.ifCond .eq 5, 3) := by decide +kernel
theorem dX0_wordOn_24 : decode cX0_wordOn 24 = .ok (.iload_n 2, 1) := by decide +kernel
theorem dX0_wordOn_25 : decode cX0_wordOn 25 = .ok (.ireturn, 1) := by decide +kernel
theorem dX0_wordOn_26 : decode cX0_wordOn 26 = .ok (.iinc 2 1, 3) := by decide +kernel
theorem dX0_wordOn_29 : decode cX0_wordOn 29 = .ok (.goto (-27), 3) := by decide +kernel
theorem dX0_wordOn_32 : decode cX0_wordOn 32 = .ok (.iconst (-1), 1) := by decide +kernel
theorem dX0_wordOn_33 : decode cX0_wordOn 33 = .ok (.ireturn, 1) := by decide +kernel
theorem dX0_wordText_0 : decode cX0_wordText 0 = .ok (.iload_n 0, 1) := by decide +kernel
theorem dX0_wordText_1 : decode cX0_wordText 1 = .ok (.tableswitch 64 0 6 #[43, 46, 49, 52, 55, 58, 61], 43) := by decide +kernel
theorem dX0_wordText_44 : decode cX0_wordText 44 = .ok (.ldc 48, 2) := by decide +kernel
theorem dX0_wordText_46 : decode cX0_wordText 46 = .ok (.areturn, 1) := by decide +kernel
theorem dX0_wordText_47 : decode cX0_wordText 47 = .ok (.ldc 50, 2) := by decide +kernel
theorem dX0_wordText_49 : decode cX0_wordText 49 = .ok (.areturn, 1) := by decide +kernel
theorem dX0_wordText_50 : decode cX0_wordText 50 = .ok (.ldc 52, 2) := by decide +kernel
theorem dX0_wordText_52 : decode cX0_wordText 52 = .ok (.areturn, 1) := by decide +kernel
theorem dX0_wordText_53 : decode cX0_wordText 53 = .ok (.ldc 54, 2) := by decide +kernel
theorem dX0_wordText_55 : decode cX0_wordText 55 = .ok (.areturn, 1) := by decide +kernel
theorem dX0_wordText_56 : decode cX0_wordText 56 = .ok (.ldc 56, 2) := by decide +kernel
theorem dX0_wordText_58 : decode cX0_wordText 58 = .ok (.areturn, 1) := by decide +kernel
theorem dX0_wordText_59 : decode cX0_wordText 59 = .ok (.ldc 58, 2) := by decide +kernel
theorem dX0_wordText_61 : decode cX0_wordText 61 = .ok (.areturn, 1) := by decide +kernel
theorem dX0_wordText_62 : decode cX0_wordText 62 = .ok (.ldc 60, 2) := by decide +kernel
theorem dX0_wordText_64 : decode cX0_wordText 64 = .ok (.areturn, 1) := by decide +kernel
theorem dX0_wordText_65 : decode cX0_wordText 65 = .ok (.ldc 62, 2) := by decide +kernel
theorem dX0_wordText_67 : decode cX0_wordText 67 = .ok (.areturn, 1) := by decide +kernel
theorem dX0_keepOnly_0 : decode cX0_keepOnly 0 = .ok (.iconst 0, 1) := by decide +kernel
theorem dX0_keepOnly_1 : decode cX0_keepOnly 1 = .ok (.istore_n 3, 1) := by decide +kernel
theorem dX0_keepOnly_2 : decode cX0_keepOnly 2 = .ok (.iconst 0, 1) := by decide +kernel
theorem dX0_keepOnly_3 : decode cX0_keepOnly 3 = .ok (.istore 4, 2) := by decide +kernel
theorem dX0_keepOnly_5 : decode cX0_keepOnly 5 = .ok (.iload 4, 2) := by decide +kernel
theorem dX0_keepOnly_7 : decode cX0_keepOnly 7 = .ok (.aload_n 0, 1) := by decide +kernel
theorem dX0_keepOnly_8 : decode cX0_keepOnly 8 = .ok (.getfield 15, 3) := by decide +kernel
theorem dX0_keepOnly_11 : decode cX0_keepOnly 11 = .ok (.if_icmp .ge 44, 3) := by decide +kernel
theorem dX0_keepOnly_14 : decode cX0_keepOnly 14 = .ok (.aload_n 0, 1) := by decide +kernel
theorem dX0_keepOnly_15 : decode cX0_keepOnly 15 = .ok (.getfield 9, 3) := by decide +kernel
theorem dX0_keepOnly_18 : decode cX0_keepOnly 18 = .ok (.iload 4, 2) := by decide +kernel
theorem dX0_keepOnly_20 : decode cX0_keepOnly 20 = .ok (.invokestatic 33, 3) := by decide +kernel
theorem dX0_keepOnly_23 : decode cX0_keepOnly 23 = .ok (.istore 5, 2) := by decide +kernel
theorem dX0_keepOnly_25 : decode cX0_keepOnly 25 = .ok (.aload_n 0, 1) := by decide +kernel
theorem dX0_keepOnly_26 : decode cX0_keepOnly 26 = .ok (.iload_n 1, 1) := by decide +kernel
theorem dX0_keepOnly_27 : decode cX0_keepOnly 27 = .ok (.iload 5, 2) := by decide +kernel
theorem dX0_keepOnly_29 : decode cX0_keepOnly 29 = .ok (.invokevirtual 64, 3) := by decide +kernel
theorem dX0_keepOnly_32 : decode cX0_keepOnly 32 = .ok (.iload_n 2, 1) := by decide +kernel
theorem dX0_keepOnly_33 : decode cX0_keepOnly 33 = .ok (.if_icmp .ne 16, 3) := by decide +kernel
theorem dX0_keepOnly_36 : decode cX0_keepOnly 36 = .ok (.aload_n 0, 1) := by decide +kernel
theorem dX0_keepOnly_37 : decode cX0_keepOnly 37 = .ok (.getfield 9, 3) := by decide +kernel
theorem dX0_keepOnly_40 : decode cX0_keepOnly 40 = .ok (.iload_n 3, 1) := by decide +kernel
theorem dX0_keepOnly_41 : decode cX0_keepOnly 41 = .ok (.iload 5, 2) := by decide +kernel
theorem dX0_keepOnly_43 : decode cX0_keepOnly 43 = .ok (.invokestatic 29, 3) := by decide +kernel
theorem dX0_keepOnly_46 : decode cX0_keepOnly 46 = .ok (.iinc 3 1, 3) := by decide +kernel
theorem dX0_keepOnly_49 : decode cX0_keepOnly 49 = .ok (.iinc 4 1, 3) := by decide +kernel
theorem dX0_keepOnly_52 : decode cX0_keepOnly 52 = .ok (.goto (-47), 3) := by decide +kernel
theorem dX0_keepOnly_55 : decode cX0_keepOnly 55 = .ok (.aload_n 0, 1) := by decide +kernel
theorem dX0_keepOnly_56 : decode cX0_keepOnly 56 = .ok (.iload_n 3, 1) := by decide +kernel
theorem dX0_keepOnly_57 : decode cX0_keepOnly 57 = .ok (.putfield 15, 3) := by decide +kernel
theorem dX0_keepOnly_60 : decode cX0_keepOnly 60 = .ok (.return_, 1) := by decide +kernel
theorem dX0_isSo_0 : decode cX0_isSo 0 = .ok (.aload_n 0, 1) := by decide +kernel
theorem dX0_isSo_1 : decode cX0_isSo 1 = .ok (.getfield 25, 3) := by decide +kernel
theorem dX0_isSo_4 : decode cX0_isSo 4 = .ok (.iconst 1, 1) := by decide +kernel
theorem dX0_isSo_5 : decode cX0_isSo 5 = .ok (.iload_n 2, 1) := by decide +kernel
theorem dX0_isSo_6 : decode cX0_isSo 6 = .ok (.aload_n 0, 1) := by decide +kernel
theorem dX0_isSo_7 : decode cX0_isSo 7 = .ok (.getfield 19, 3) := by decide +kernel
theorem dX0_isSo_10 : decode cX0_isSo 10 = .ok (.invokevirtual 68, 3) := by decide +kernel
theorem dX0_isSo_13 : decode cX0_isSo 13 = .ok (.aload_n 0, 1) := by decide +kernel
theorem dX0_isSo_14 : decode cX0_isSo 14 = .ok (.getfield 25, 3) := by decide +kernel
theorem dX0_isSo_17 : decode cX0_isSo 17 = .ok (.getfield 72, 3) := by decide +kernel
theorem dX0_isSo_20 : decode cX0_isSo 20 = .ok (.iconst 2, 1) := by decide +kernel
theorem dX0_isSo_21 : decode cX0_isSo 21 = .ok (.irem, 1) := by decide +kernel
theorem dX0_isSo_22 : decode cX0_isSo 22 = .ok (.ifCond .ne 7, 3) := by decide +kernel
theorem dX0_isSo_25 : decode cX0_isSo 25 = .ok (.iconst 1, 1) := by decide +kernel
theorem dX0_isSo_26 : decode cX0_isSo 26 = .ok (.goto 4, 3) := by decide +kernel
theorem dX0_isSo_29 : decode cX0_isSo 29 = .ok (.iconst 0, 1) := by decide +kernel
theorem dX0_isSo_30 : decode cX0_isSo 30 = .ok (.istore_n 3, 1) := by decide +kernel
theorem dX0_isSo_31 : decode cX0_isSo 31 = .ok (.iload_n 1, 1) := by decide +kernel
theorem dX0_isSo_32 : decode cX0_isSo 32 = .ok (.tableswitch 175 0 7 #[48, 56, 73, 90, 98, 118, 138, 170], 48) := by decide +kernel
theorem dX0_isSo_80 : decode cX0_isSo 80 = .ok (.aload_n 0, 1) := by decide +kernel
theorem dX0_isSo_81 : decode cX0_isSo 81 = .ok (.getfield 25, 3) := by decide +kernel
theorem dX0_isSo_84 : decode cX0_isSo 84 = .ok (.invokevirtual 73, 3) := by decide +kernel
theorem dX0_isSo_87 : decode cX0_isSo 87 = .ok (.ireturn, 1) := by decide +kernel
theorem dX0_isSo_88 : decode cX0_isSo 88 = .ok (.aload_n 0, 1) := by decide +kernel
theorem dX0_isSo_89 : decode cX0_isSo 89 = .ok (.getfield 25, 3) := by decide +kernel
theorem dX0_isSo_92 : decode cX0_isSo 92 = .ok (.invokevirtual 76, 3) := by decide +kernel
theorem dX0_isSo_95 : decode cX0_isSo 95 = .ok (.iconst 1, 1) := by decide +kernel
theorem dX0_isSo_96 : decode cX0_isSo 96 = .ok (.if_icmp .ne 7, 3) := by decide +kernel
theorem dX0_isSo_99 : decode cX0_isSo 99 = .ok (.iconst 1, 1) := by decide +kernel
theorem dX0_isSo_100 : decode cX0_isSo 100 = .ok (.goto 4, 3) := by decide +kernel
theorem dX0_isSo_103 : decode cX0_isSo 103 = .ok (.iconst 0, 1) := by decide +kernel
theorem dX0_isSo_104 : decode cX0_isSo 104 = .ok (.ireturn, 1) := by decide +kernel
theorem dX0_isSo_105 : decode cX0_isSo 105 = .ok (.aload_n 0, 1) := by decide +kernel
theorem dX0_isSo_106 : decode cX0_isSo 106 = .ok (.getfield 25, 3) := by decide +kernel
theorem dX0_isSo_109 : decode cX0_isSo 109 = .ok (.invokevirtual 76, 3) := by decide +kernel
theorem dX0_isSo_112 : decode cX0_isSo 112 = .ok (.iconst 2, 1) := by decide +kernel
theorem dX0_isSo_113 : decode cX0_isSo 113 = .ok (.if_icmp .ne 7, 3) := by decide +kernel
theorem dX0_isSo_116 : decode cX0_isSo 116 = .ok (.iconst 1, 1) := by decide +kernel
theorem dX0_isSo_117 : decode cX0_isSo 117 = .ok (.goto 4, 3) := by decide +kernel
theorem dX0_isSo_120 : decode cX0_isSo 120 = .ok (.iconst 0, 1) := by decide +kernel
theorem dX0_isSo_121 : decode cX0_isSo 121 = .ok (.ireturn, 1) := by decide +kernel
theorem dX0_isSo_122 : decode cX0_isSo 122 = .ok (.aload_n 0, 1) := by decide +kernel
theorem dX0_isSo_123 : decode cX0_isSo 123 = .ok (.getfield 25, 3) := by decide +kernel
theorem dX0_isSo_126 : decode cX0_isSo 126 = .ok (.invokevirtual 80, 3) := by decide +kernel
theorem dX0_isSo_129 : decode cX0_isSo 129 = .ok (.ireturn, 1) := by decide +kernel
theorem dX0_isSo_130 : decode cX0_isSo 130 = .ok (.aload_n 0, 1) := by decide +kernel
theorem dX0_isSo_131 : decode cX0_isSo 131 = .ok (.getfield 25, 3) := by decide +kernel
theorem dX0_isSo_134 : decode cX0_isSo 134 = .ok (.invokevirtual 73, 3) := by decide +kernel
theorem dX0_isSo_137 : decode cX0_isSo 137 = .ok (.ifCond .ne 11, 3) := by decide +kernel
theorem dX0_isSo_140 : decode cX0_isSo 140 = .ok (.iload_n 3, 1) := by decide +kernel
theorem dX0_isSo_141 : decode cX0_isSo 141 = .ok (.ifCond .eq 7, 3) := by decide +kernel
theorem dX0_isSo_144 : decode cX0_isSo 144 = .ok (.iconst 1, 1) := by decide +kernel
theorem dX0_isSo_145 : decode cX0_isSo 145 = .ok (.goto 4, 3) := by decide +kernel
theorem dX0_isSo_148 : decode cX0_isSo 148 = .ok (.iconst 0, 1) := by decide +kernel
theorem dX0_isSo_149 : decode cX0_isSo 149 = .ok (.ireturn, 1) := by decide +kernel
theorem dX0_isSo_150 : decode cX0_isSo 150 = .ok (.aload_n 0, 1) := by decide +kernel
theorem dX0_isSo_151 : decode cX0_isSo 151 = .ok (.getfield 25, 3) := by decide +kernel
theorem dX0_isSo_154 : decode cX0_isSo 154 = .ok (.invokevirtual 73, 3) := by decide +kernel
theorem dX0_isSo_157 : decode cX0_isSo 157 = .ok (.ifCond .ne 11, 3) := by decide +kernel
theorem dX0_isSo_160 : decode cX0_isSo 160 = .ok (.iload_n 3, 1) := by decide +kernel
theorem dX0_isSo_161 : decode cX0_isSo 161 = .ok (.ifCond .ne 7, 3) := by decide +kernel
theorem dX0_isSo_164 : decode cX0_isSo 164 = .ok (.iconst 1, 1) := by decide +kernel
theorem dX0_isSo_165 : decode cX0_isSo 165 = .ok (.goto 4, 3) := by decide +kernel
theorem dX0_isSo_168 : decode cX0_isSo 168 = .ok (.iconst 0, 1) := by decide +kernel
theorem dX0_isSo_169 : decode cX0_isSo 169 = .ok (.ireturn, 1) := by decide +kernel
theorem dX0_isSo_170 : decode cX0_isSo 170 = .ok (.aload_n 0, 1) := by decide +kernel
theorem dX0_isSo_171 : decode cX0_isSo 171 = .ok (.getfield 25, 3) := by decide +kernel
theorem dX0_isSo_174 : decode cX0_isSo 174 = .ok (.invokevirtual 73, 3) := by decide +kernel
theorem dX0_isSo_177 : decode cX0_isSo 177 = .ok (.ifCond .ne 23, 3) := by decide +kernel
theorem dX0_isSo_180 : decode cX0_isSo 180 = .ok (.iload_n 3, 1) := by decide +kernel
theorem dX0_isSo_181 : decode cX0_isSo 181 = .ok (.ifCond .eq 19, 3) := by decide +kernel
theorem dX0_isSo_184 : decode cX0_isSo 184 = .ok (.aload_n 0, 1) := by decide +kernel
theorem dX0_isSo_185 : decode cX0_isSo 185 = .ok (.getfield 25, 3) := by decide +kernel
theorem dX0_isSo_188 : decode cX0_isSo 188 = .ok (.iconst 2, 1) := by decide +kernel
theorem dX0_isSo_189 : decode cX0_isSo 189 = .ok (.invokevirtual 83, 3) := by decide +kernel
theorem dX0_isSo_192 : decode cX0_isSo 192 = .ok (.iconst 1, 1) := by decide +kernel
theorem dX0_isSo_193 : decode cX0_isSo 193 = .ok (.if_icmp .ne 7, 3) := by decide +kernel
theorem dX0_isSo_196 : decode cX0_isSo 196 = .ok (.iconst 1, 1) := by decide +kernel
theorem dX0_isSo_197 : decode cX0_isSo 197 = .ok (.goto 4, 3) := by decide +kernel
theorem dX0_isSo_200 : decode cX0_isSo 200 = .ok (.iconst 0, 1) := by decide +kernel
theorem dX0_isSo_201 : decode cX0_isSo 201 = .ok (.ireturn, 1) := by decide +kernel
theorem dX0_isSo_202 : decode cX0_isSo 202 = .ok (.iload_n 2, 1) := by decide +kernel
theorem dX0_isSo_203 : decode cX0_isSo 203 = .ok (.invokestatic 87, 3) := by decide +kernel
theorem dX0_isSo_206 : decode cX0_isSo 206 = .ok (.ireturn, 1) := by decide +kernel
theorem dX0_isSo_207 : decode cX0_isSo 207 = .ok (.iconst 0, 1) := by decide +kernel
theorem dX0_isSo_208 : decode cX0_isSo 208 = .ok (.ireturn, 1) := by decide +kernel
theorem dX1_init_0 : decode cX1_init 0 = .ok (.aload_n 0, 1) := by decide +kernel
theorem dX1_init_1 : decode cX1_init 1 = .ok (.invokespecial 3, 3) := by decide +kernel
theorem dX1_init_4 : decode cX1_init 4 = .ok (.aload_n 0, 1) := by decide +kernel
theorem dX1_init_5 : decode cX1_init 5 = .ok (.iconst 0, 1) := by decide +kernel
theorem dX1_init_6 : decode cX1_init 6 = .ok (.putfield 9, 3) := by decide +kernel
theorem dX1_init_9 : decode cX1_init 9 = .ok (.aload_n 0, 1) := by decide +kernel
theorem dX1_init_10 : decode cX1_init 10 = .ok (.iconst 1, 1) := by decide +kernel
theorem dX1_init_11 : decode cX1_init 11 = .ok (.putfield 15, 3) := by decide +kernel
theorem dX1_init_14 : decode cX1_init 14 = .ok (.aload_n 0, 1) := by decide +kernel
theorem dX1_init_15 : decode cX1_init 15 = .ok (.bipush 10, 2) := by decide +kernel
theorem dX1_init_17 : decode cX1_init 17 = .ok (.putfield 18, 3) := by decide +kernel
theorem dX1_init_20 : decode cX1_init 20 = .ok (.aload_n 0, 1) := by decide +kernel
theorem dX1_init_21 : decode cX1_init 21 = .ok (.iconst 0, 1) := by decide +kernel
theorem dX1_init_22 : decode cX1_init 22 = .ok (.putfield 21, 3) := by decide +kernel
theorem dX1_init_25 : decode cX1_init 25 = .ok (.aload_n 0, 1) := by decide +kernel
theorem dX1_init_26 : decode cX1_init 26 = .ok (.iconst 1, 1) := by decide +kernel
theorem dX1_init_27 : decode cX1_init 27 = .ok (.putfield 24, 3) := by decide +kernel
theorem dX1_init_30 : decode cX1_init 30 = .ok (.aload_n 0, 1) := by decide +kernel
theorem dX1_init_31 : decode cX1_init 31 = .ok (.iconst 0, 1) := by decide +kernel
theorem dX1_init_32 : decode cX1_init 32 = .ok (.putfield 27, 3) := by decide +kernel
theorem dX1_init_35 : decode cX1_init 35 = .ok (.aload_n 0, 1) := by decide +kernel
theorem dX1_init_36 : decode cX1_init 36 = .ok (.iconst 1, 1) := by decide +kernel
theorem dX1_init_37 : decode cX1_init 37 = .ok (.putfield 30, 3) := by decide +kernel
theorem dX1_init_40 : decode cX1_init 40 = .ok (.return_, 1) := by decide +kernel
theorem dX1_become_0 : decode cX1_become 0 = .ok (.aload_n 0, 1) := by decide +kernel
theorem dX1_become_1 : decode cX1_become 1 = .ok (.iload_n 1, 1) := by decide +kernel
theorem dX1_become_2 : decode cX1_become 2 = .ok (.putfield 9, 3) := by decide +kernel
theorem dX1_become_5 : decode cX1_become 5 = .ok (.aload_n 0, 1) := by decide +kernel
theorem dX1_become_6 : decode cX1_become 6 = .ok (.iload_n 2, 1) := by decide +kernel
theorem dX1_become_7 : decode cX1_become 7 = .ok (.putfield 15, 3) := by decide +kernel
theorem dX1_become_10 : decode cX1_become 10 = .ok (.aload_n 0, 1) := by decide +kernel
theorem dX1_become_11 : decode cX1_become 11 = .ok (.iload_n 3, 1) := by decide +kernel
theorem dX1_become_12 : decode cX1_become 12 = .ok (.putfield 18, 3) := by decide +kernel
theorem dX1_become_15 : decode cX1_become 15 = .ok (.aload_n 0, 1) := by decide +kernel
theorem dX1_become_16 : decode cX1_become 16 = .ok (.aload_n 0, 1) := by decide +kernel
theorem dX1_become_17 : decode cX1_become 17 = .ok (.getfield 15, 3) := by decide +kernel
theorem dX1_become_20 : decode cX1_become 20 = .ok (.i2l, 1) := by decide +kernel
theorem dX1_become_21 : decode cX1_become 21 = .ok (.aload_n 0, 1) := by decide +kernel
theorem dX1_become_22 : decode cX1_become 22 = .ok (.getfield 18, 3) := by decide +kernel
theorem dX1_become_25 : decode cX1_become 25 = .ok (.bipush 9, 2) := by decide +kernel
theorem dX1_become_27 : decode cX1_become 27 = .ok (.invokestatic 33, 3) := by decide +kernel
theorem dX1_become_30 : decode cX1_become 30 = .ok (.invokestatic 37, 3) := by decide +kernel
theorem dX1_become_33 : decode cX1_become 33 = .ok (.l2i, 1) := by decide +kernel
theorem dX1_become_34 : decode cX1_become 34 = .ok (.putfield 30, 3) := by decide +kernel
theorem dX1_become_37 : decode cX1_become 37 = .ok (.aload_n 0, 1) := by decide +kernel
theorem dX1_become_38 : decode cX1_become 38 = .ok (.iconst 0, 1) := by decide +kernel
theorem dX1_become_39 : decode cX1_become 39 = .ok (.putfield 21, 3) := by decide +kernel
theorem dX1_become_42 : decode cX1_become 42 = .ok (.aload_n 0, 1) := by decide +kernel
theorem dX1_become_43 : decode cX1_become 43 = .ok (.aload_n 0, 1) := by decide +kernel
theorem dX1_become_44 : decode cX1_become 44 = .ok (.getfield 9, 3) := by decide +kernel
theorem dX1_become_47 : decode cX1_become 47 = .ok (.aload_n 0, 1) := by decide +kernel
theorem dX1_become_48 : decode cX1_become 48 = .ok (.getfield 15, 3) := by decide +kernel
theorem dX1_become_51 : decode cX1_become 51 = .ok (.invokestatic 41, 3) := by decide +kernel
theorem dX1_become_54 : decode cX1_become 54 = .ok (.putfield 27, 3) := by decide +kernel
theorem dX1_become_57 : decode cX1_become 57 = .ok (.aload_n 0, 1) := by decide +kernel
theorem dX1_become_58 : decode cX1_become 58 = .ok (.getfield 21, 3) := by decide +kernel
theorem dX1_become_61 : decode cX1_become 61 = .ok (.aload_n 0, 1) := by decide +kernel
theorem dX1_become_62 : decode cX1_become 62 = .ok (.getfield 15, 3) := by decide +kernel
theorem dX1_become_65 : decode cX1_become 65 = .ok (.if_icmp .ge 39, 3) := by decide +kernel
theorem dX1_become_68 : decode cX1_become 68 = .ok (.aload_n 0, 1) := by decide +kernel
theorem dX1_become_69 : decode cX1_become 69 = .ok (.aload_n 0, 1) := by decide +kernel
theorem dX1_become_70 : decode cX1_become 70 = .ok (.getfield 27, 3) := by decide +kernel
theorem dX1_become_73 : decode cX1_become 73 = .ok (.invokevirtual 45, 3) := by decide +kernel
theorem dX1_become_76 : decode cX1_become 76 = .ok (.ifCond .ne 28, 3) := by decide +kernel
theorem dX1_become_79 : decode cX1_become 79 = .ok (.aload_n 0, 1) := by decide +kernel
theorem dX1_become_80 : decode cX1_become 80 = .ok (.aload_n 0, 1) := by decide +kernel
theorem dX1_become_81 : decode cX1_become 81 = .ok (.aload_n 0, 1) := by decide +kernel
theorem dX1_become_82 : decode cX1_become 82 = .ok (.getfield 27, 3) := by decide +kernel
theorem dX1_become_85 : decode cX1_become 85 = .ok (.invokevirtual 49, 3) := by decide +kernel
theorem dX1_become_88 : decode cX1_become 88 = .ok (.putfield 27, 3) := by decide +kernel
theorem dX1_become_91 : decode cX1_become 91 = .ok (.aload_n 0, 1) := by decide +kernel
theorem dX1_become_92 : decode cX1_become 92 = .ok (.dup, 1) := by decide +kernel
theorem dX1_become_93 : decode cX1_become 93 = .ok (.getfield 21, 3) := by decide +kernel
theorem dX1_become_96 : decode cX1_become 96 = .ok (.iconst 1, 1) := by decide +kernel
theorem dX1_become_97 : decode cX1_become 97 = .ok (.iadd, 1) := by decide +kernel
theorem dX1_become_98 : decode cX1_become 98 = .ok (.putfield 21, 3) := by decide +kernel
theorem dX1_become_101 : decode cX1_become 101 = .ok (.goto (-44), 3) := by decide +kernel
theorem dX1_become_104 : decode cX1_become 104 = .ok (.aload_n 0, 1) := by decide +kernel
theorem dX1_become_105 : decode cX1_become 105 = .ok (.iconst 1, 1) := by decide +kernel
theorem dX1_become_106 : decode cX1_become 106 = .ok (.putfield 24, 3) := by decide +kernel
theorem dX1_become_109 : decode cX1_become 109 = .ok (.aload_n 0, 1) := by decide +kernel
theorem dX1_become_110 : decode cX1_become 110 = .ok (.aload_n 0, 1) := by decide +kernel
theorem dX1_become_111 : decode cX1_become 111 = .ok (.getfield 27, 3) := by decide +kernel
theorem dX1_become_114 : decode cX1_become 114 = .ok (.invokevirtual 49, 3) := by decide +kernel
theorem dX1_become_117 : decode cX1_become 117 = .ok (.istore 4, 2) := by decide +kernel
theorem dX1_become_119 : decode cX1_become 119 = .ok (.aload_n 0, 1) := by decide +kernel
theorem dX1_become_120 : decode cX1_become 120 = .ok (.getfield 24, 3) := by decide +kernel
theorem dX1_become_123 : decode cX1_become 123 = .ok (.aload_n 0, 1) := by decide +kernel
theorem dX1_become_124 : decode cX1_become 124 = .ok (.getfield 15, 3) := by decide +kernel
theorem dX1_become_127 : decode cX1_become 127 = .ok (.if_icmp .ge 33, 3) := by decide +kernel
theorem dX1_become_130 : decode cX1_become 130 = .ok (.iload 4, 2) := by decide +kernel
theorem dX1_become_132 : decode cX1_become 132 = .ok (.aload_n 0, 1) := by decide +kernel
theorem dX1_become_133 : decode cX1_become 133 = .ok (.getfield 27, 3) := by decide +kernel
theorem dX1_become_136 : decode cX1_become 136 = .ok (.if_icmp .eq 24, 3) := by decide +kernel
theorem dX1_become_139 : decode cX1_become 139 = .ok (.aload_n 0, 1) := by decide +kernel
theorem dX1_become_140 : decode cX1_become 140 = .ok (.iload 4, 2) := by decide +kernel
theorem dX1_become_142 : decode cX1_become 142 = .ok (.invokevirtual 49, 3) := by decide +kernel
theorem dX1_become_145 : decode cX1_become 145 = .ok (.istore 4, 2) := by decide +kernel
theorem dX1_become_147 : decode cX1_become 147 = .ok (.aload_n 0, 1) := by decide +kernel
theorem dX1_become_148 : decode cX1_become 148 = .ok (.dup, 1) := by decide +kernel
theorem dX1_become_149 : decode cX1_become 149 = .ok (.getfield 24, 3) := by decide +kernel
theorem dX1_become_152 : decode cX1_become 152 = .ok (.iconst 1, 1) := by decide +kernel
theorem dX1_become_153 : decode cX1_become 153 = .ok (.iadd, 1) := by decide +kernel
theorem dX1_become_154 : decode cX1_become 154 = .ok (.putfield 24, 3) := by decide +kernel
theorem dX1_become_157 : decode cX1_become 157 = .ok (.goto (-38), 3) := by decide +kernel
theorem dX1_become_160 : decode cX1_become 160 = .ok (.return_, 1) := by decide +kernel
theorem dX1_becomeLike_0 : decode cX1_becomeLike 0 = .ok (.aload_n 0, 1) := by decide +kernel
theorem dX1_becomeLike_1 : decode cX1_becomeLike 1 = .ok (.aload_n 1, 1) := by decide +kernel
theorem dX1_becomeLike_2 : decode cX1_becomeLike 2 = .ok (.getfield 9, 3) := by decide +kernel
theorem dX1_becomeLike_5 : decode cX1_becomeLike 5 = .ok (.putfield 9, 3) := by decide +kernel
theorem dX1_becomeLike_8 : decode cX1_becomeLike 8 = .ok (.aload_n 0, 1) := by decide +kernel
theorem dX1_becomeLike_9 : decode cX1_becomeLike 9 = .ok (.aload_n 1, 1) := by decide +kernel
theorem dX1_becomeLike_10 : decode cX1_becomeLike 10 = .ok (.getfield 15, 3) := by decide +kernel
theorem dX1_becomeLike_13 : decode cX1_becomeLike 13 = .ok (.putfield 15, 3) := by decide +kernel
theorem dX1_becomeLike_16 : decode cX1_becomeLike 16 = .ok (.aload_n 0, 1) := by decide +kernel
theorem dX1_becomeLike_17 : decode cX1_becomeLike 17 = .ok (.aload_n 1, 1) := by decide +kernel
theorem dX1_becomeLike_18 : decode cX1_becomeLike 18 = .ok (.getfield 18, 3) := by decide +kernel
theorem dX1_becomeLike_21 : decode cX1_becomeLike 21 = .ok (.putfield 18, 3) := by decide +kernel
theorem dX1_becomeLike_24 : decode cX1_becomeLike 24 = .ok (.aload_n 0, 1) := by decide +kernel
theorem dX1_becomeLike_25 : decode cX1_becomeLike 25 = .ok (.aload_n 1, 1) := by decide +kernel
theorem dX1_becomeLike_26 : decode cX1_becomeLike 26 = .ok (.getfield 21, 3) := by decide +kernel
theorem dX1_becomeLike_29 : decode cX1_becomeLike 29 = .ok (.putfield 21, 3) := by decide +kernel
theorem dX1_becomeLike_32 : decode cX1_becomeLike 32 = .ok (.aload_n 0, 1) := by decide +kernel
theorem dX1_becomeLike_33 : decode cX1_becomeLike 33 = .ok (.aload_n 1, 1) := by decide +kernel
theorem dX1_becomeLike_34 : decode cX1_becomeLike 34 = .ok (.getfield 24, 3) := by decide +kernel
theorem dX1_becomeLike_37 : decode cX1_becomeLike 37 = .ok (.putfield 24, 3) := by decide +kernel
theorem dX1_becomeLike_40 : decode cX1_becomeLike 40 = .ok (.aload_n 0, 1) := by decide +kernel
theorem dX1_becomeLike_41 : decode cX1_becomeLike 41 = .ok (.aload_n 1, 1) := by decide +kernel
theorem dX1_becomeLike_42 : decode cX1_becomeLike 42 = .ok (.getfield 27, 3) := by decide +kernel
theorem dX1_becomeLike_45 : decode cX1_becomeLike 45 = .ok (.putfield 27, 3) := by decide +kernel
theorem dX1_becomeLike_48 : decode cX1_becomeLike 48 = .ok (.aload_n 0, 1) := by decide +kernel
theorem dX1_becomeLike_49 : decode cX1_becomeLike 49 = .ok (.aload_n 1, 1) := by decide +kernel
theorem dX1_becomeLike_50 : decode cX1_becomeLike 50 = .ok (.getfield 30, 3) := by decide +kernel
theorem dX1_becomeLike_53 : decode cX1_becomeLike 53 = .ok (.putfield 30, 3) := by decide +kernel
theorem dX1_becomeLike_56 : decode cX1_becomeLike 56 = .ok (.return_, 1) := by decide +kernel
theorem dX1_turns_0 : decode cX1_turns 0 = .ok (.aload_n 0, 1) := by decide +kernel
theorem dX1_turns_1 : decode cX1_turns 1 = .ok (.getfield 30, 3) := by decide +kernel
theorem dX1_turns_4 : decode cX1_turns 4 = .ok (.ifCond .eq 12, 3) := by decide +kernel
theorem dX1_turns_7 : decode cX1_turns 7 = .ok (.iload_n 1, 1) := by decide +kernel
theorem dX1_turns_8 : decode cX1_turns 8 = .ok (.aload_n 0, 1) := by decide +kernel
theorem dX1_turns_9 : decode cX1_turns 9 = .ok (.getfield 30, 3) := by decide +kernel
theorem dX1_turns_12 : decode cX1_turns 12 = .ok (.irem, 1) := by decide +kernel
theorem dX1_turns_13 : decode cX1_turns 13 = .ok (.ifCond .ne 7, 3) := by decide +kernel
theorem dX1_turns_16 : decode cX1_turns 16 = .ok (.iconst 1, 1) := by decide +kernel
theorem dX1_turns_17 : decode cX1_turns 17 = .ok (.goto 4, 3) := by decide +kernel
theorem dX1_turns_20 : decode cX1_turns 20 = .ok (.iconst 0, 1) := by decide +kernel
theorem dX1_turns_21 : decode cX1_turns 21 = .ok (.ireturn, 1) := by decide +kernel
theorem dX1_restAfter_0 : decode cX1_restAfter 0 = .ok (.aload_n 0, 1) := by decide +kernel
theorem dX1_restAfter_1 : decode cX1_restAfter 1 = .ok (.getfield 15, 3) := by decide +kernel
theorem dX1_restAfter_4 : decode cX1_restAfter 4 = .ok (.ifCond .ne 7, 3) := by decide +kernel
theorem dX1_restAfter_7 : decode cX1_restAfter 7 = .ok (.iconst 0, 1) := by decide +kernel
theorem dX1_restAfter_8 : decode cX1_restAfter 8 = .ok (.goto 14, 3) := by decide +kernel
theorem dX1_restAfter_11 : decode cX1_restAfter 11 = .ok (.iload_n 1, 1) := by decide +kernel
theorem dX1_restAfter_12 : decode cX1_restAfter 12 = .ok (.aload_n 0, 1) := by decide +kernel
theorem dX1_restAfter_13 : decode cX1_restAfter 13 = .ok (.getfield 18, 3) := by decide +kernel
theorem dX1_restAfter_16 : decode cX1_restAfter 16 = .ok (.imul, 1) := by decide +kernel
theorem dX1_restAfter_17 : decode cX1_restAfter 17 = .ok (.aload_n 0, 1) := by decide +kernel
theorem dX1_restAfter_18 : decode cX1_restAfter 18 = .ok (.getfield 15, 3) := by decide +kernel
theorem dX1_restAfter_21 : decode cX1_restAfter 21 = .ok (.irem, 1) := by decide +kernel
theorem dX1_restAfter_22 : decode cX1_restAfter 22 = .ok (.ireturn, 1) := by decide +kernel
theorem dX1_digitOf_0 : decode cX1_digitOf 0 = .ok (.iload_n 1, 1) := by decide +kernel
theorem dX1_digitOf_1 : decode cX1_digitOf 1 = .ok (.aload_n 0, 1) := by decide +kernel
theorem dX1_digitOf_2 : decode cX1_digitOf 2 = .ok (.getfield 18, 3) := by decide +kernel
theorem dX1_digitOf_5 : decode cX1_digitOf 5 = .ok (.imul, 1) := by decide +kernel
theorem dX1_digitOf_6 : decode cX1_digitOf 6 = .ok (.i2l, 1) := by decide +kernel
theorem dX1_digitOf_7 : decode cX1_digitOf 7 = .ok (.aload_n 0, 1) := by decide +kernel
theorem dX1_digitOf_8 : decode cX1_digitOf 8 = .ok (.getfield 15, 3) := by decide +kernel
theorem dX1_digitOf_11 : decode cX1_digitOf 11 = .ok (.i2l, 1) := by decide +kernel
theorem dX1_digitOf_12 : decode cX1_digitOf 12 = .ok (.invokestatic 53, 3) := by decide +kernel
theorem dX1_digitOf_15 : decode cX1_digitOf 15 = .ok (.l2i, 1) := by decide +kernel
theorem dX1_digitOf_16 : decode cX1_digitOf 16 = .ok (.ireturn, 1) := by decide +kernel
theorem dX1_restAt_0 : decode cX1_restAt 0 = .ok (.iload_n 1, 1) := by decide +kernel
theorem dX1_restAt_1 : decode cX1_restAt 1 = .ok (.aload_n 0, 1) := by decide +kernel
theorem dX1_restAt_2 : decode cX1_restAt 2 = .ok (.getfield 21, 3) := by decide +kernel
theorem dX1_restAt_5 : decode cX1_restAt 5 = .ok (.if_icmp .ge 7, 3) := by decide +kernel
theorem dX1_restAt_8 : decode cX1_restAt 8 = .ok (.iload_n 1, 1) := by decide +kernel
theorem dX1_restAt_9 : decode cX1_restAt 9 = .ok (.goto 21, 3) := by decide +kernel
theorem dX1_restAt_12 : decode cX1_restAt 12 = .ok (.aload_n 0, 1) := by decide +kernel
theorem dX1_restAt_13 : decode cX1_restAt 13 = .ok (.getfield 21, 3) := by decide +kernel
theorem dX1_restAt_16 : decode cX1_restAt 16 = .ok (.iload_n 1, 1) := by decide +kernel
theorem dX1_restAt_17 : decode cX1_restAt 17 = .ok (.aload_n 0, 1) := by decide +kernel
theorem dX1_restAt_18 : decode cX1_restAt 18 = .ok (.getfield 21, 3) := by decide +kernel
theorem dX1_restAt_21 : decode cX1_restAt 21 = .ok (.isub, 1) := by decide +kernel
theorem dX1_restAt_22 : decode cX1_restAt 22 = .ok (.aload_n 0, 1) := by decide +kernel
theorem dX1_restAt_23 : decode cX1_restAt 23 = .ok (.getfield 24, 3) := by decide +kernel
theorem dX1_restAt_26 : decode cX1_restAt 26 = .ok (.invokestatic 41, 3) := by decide +kernel
theorem dX1_restAt_29 : decode cX1_restAt 29 = .ok (.iadd, 1) := by decide +kernel
theorem dX1_restAt_30 : decode cX1_restAt 30 = .ok (.istore_n 2, 1) := by decide +kernel
theorem dX1_restAt_31 : decode cX1_restAt 31 = .ok (.aload_n 0, 1) := by decide +kernel
theorem dX1_restAt_32 : decode cX1_restAt 32 = .ok (.getfield 9, 3) := by decide +kernel
theorem dX1_restAt_35 : decode cX1_restAt 35 = .ok (.aload_n 0, 1) := by decide +kernel
theorem dX1_restAt_36 : decode cX1_restAt 36 = .ok (.getfield 15, 3) := by decide +kernel
theorem dX1_restAt_39 : decode cX1_restAt 39 = .ok (.invokestatic 41, 3) := by decide +kernel
theorem dX1_restAt_42 : decode cX1_restAt 42 = .ok (.istore_n 3, 1) := by decide +kernel
theorem dX1_restAt_43 : decode cX1_restAt 43 = .ok (.iconst 0, 1) := by decide +kernel
theorem dX1_restAt_44 : decode cX1_restAt 44 = .ok (.istore 4, 2) := by decide +kernel
theorem dX1_restAt_46 : decode cX1_restAt 46 = .ok (.iload 4, 2) := by decide +kernel
theorem dX1_restAt_48 : decode cX1_restAt 48 = .ok (.iload_n 2, 1) := by decide +kernel
theorem dX1_restAt_49 : decode cX1_restAt 49 = .ok (.if_icmp .ge 15, 3) := by decide +kernel
theorem dX1_restAt_52 : decode cX1_restAt 52 = .ok (.aload_n 0, 1) := by decide +kernel
theorem dX1_restAt_53 : decode cX1_restAt 53 = .ok (.iload_n 3, 1) := by decide +kernel
theorem dX1_restAt_54 : decode cX1_restAt 54 = .ok (.invokevirtual 49, 3) := by decide +kernel
theorem dX1_restAt_57 : decode cX1_restAt 57 = .ok (.istore_n 3, 1) := by decide +kernel
theorem dX1_restAt_58 : decode cX1_restAt 58 = .ok (.iinc 4 1, 3) := by decide +kernel
theorem dX1_restAt_61 : decode cX1_restAt 61 = .ok (.goto (-15), 3) := by decide +kernel
theorem dX1_restAt_64 : decode cX1_restAt 64 = .ok (.iload_n 3, 1) := by decide +kernel
theorem dX1_restAt_65 : decode cX1_restAt 65 = .ok (.ireturn, 1) := by decide +kernel
theorem dX1_whole_0 : decode cX1_whole 0 = .ok (.aload_n 0, 1) := by decide +kernel
theorem dX1_whole_1 : decode cX1_whole 1 = .ok (.getfield 9, 3) := by decide +kernel
theorem dX1_whole_4 : decode cX1_whole 4 = .ok (.i2l, 1) := by decide +kernel
theorem dX1_whole_5 : decode cX1_whole 5 = .ok (.aload_n 0, 1) := by decide +kernel
theorem dX1_whole_6 : decode cX1_whole 6 = .ok (.getfield 15, 3) := by decide +kernel
theorem dX1_whole_9 : decode cX1_whole 9 = .ok (.i2l, 1) := by decide +kernel
theorem dX1_whole_10 : decode cX1_whole 10 = .ok (.invokestatic 53, 3) := by decide +kernel
theorem dX1_whole_13 : decode cX1_whole 13 = .ok (.l2i, 1) := by decide +kernel
theorem dX1_whole_14 : decode cX1_whole 14 = .ok (.ireturn, 1) := by decide +kernel
theorem dX1_ends_0 : decode cX1_ends 0 = .ok (.aload_n 0, 1) := by decide +kernel
theorem dX1_ends_1 : decode cX1_ends 1 = .ok (.getfield 27, 3) := by decide +kernel
theorem dX1_ends_4 : decode cX1_ends 4 = .ok (.ifCond .ne 7, 3) := by decide +kernel
theorem dX1_ends_7 : decode cX1_ends 7 = .ok (.iconst 1, 1) := by decide +kernel
theorem dX1_ends_8 : decode cX1_ends 8 = .ok (.goto 4, 3) := by decide +kernel
theorem dX1_ends_11 : decode cX1_ends 11 = .ok (.iconst 0, 1) := by decide +kernel
theorem dX1_ends_12 : decode cX1_ends 12 = .ok (.ireturn, 1) := by decide +kernel
theorem dX1_kind_0 : decode cX1_kind 0 = .ok (.aload_n 0, 1) := by decide +kernel
theorem dX1_kind_1 : decode cX1_kind 1 = .ok (.invokevirtual 56, 3) := by decide +kernel
theorem dX1_kind_4 : decode cX1_kind 4 = .ok (.ifCond .eq 5, 3) := by decide +kernel
theorem dX1_kind_7 : decode cX1_kind 7 = .ok (.iconst 0, 1) := by decide +kernel
theorem dX1_kind_8 : decode cX1_kind 8 = .ok (.ireturn, 1) := by decide +kernel
theorem dX1_kind_9 : decode cX1_kind 9 = .ok (.aload_n 0, 1) := by decide +kernel
theorem dX1_kind_10 : decode cX1_kind 10 = .ok (.getfield 21, 3) := by decide +kernel
theorem dX1_kind_13 : decode cX1_kind 13 = .ok (.ifCond .ne 7, 3) := by decide +kernel
theorem dX1_kind_16 : decode cX1_kind 16 = .ok (.iconst 1, 1) := by decide +kernel
theorem dX1_kind_17 : decode cX1_kind 17 = .ok (.goto 4, 3) := by decide +kernel
theorem dX1_kind_20 : decode cX1_kind 20 = .ok (.iconst 2, 1) := by decide +kernel
theorem dX1_kind_21 : decode cX1_kind 21 = .ok (.ireturn, 1) := by decide +kernel
theorem dX1_isFullUnit_0 : decode cX1_isFullUnit 0 = .ok (.aload_n 0, 1) := by decide +kernel
theorem dX1_isFullUnit_1 : decode cX1_isFullUnit 1 = .ok (.invokevirtual 56, 3) := by decide +kernel
theorem dX1_isFullUnit_4 : decode cX1_isFullUnit 4 = .ok (.ifCond .ne 20, 3) := by decide +kernel
theorem dX1_isFullUnit_7 : decode cX1_isFullUnit 7 = .ok (.aload_n 0, 1) := by decide +kernel
theorem dX1_isFullUnit_8 : decode cX1_isFullUnit 8 = .ok (.getfield 24, 3) := by decide +kernel
theorem dX1_isFullUnit_11 : decode cX1_isFullUnit 11 = .ok (.aload_n 0, 1) := by decide +kernel
theorem dX1_isFullUnit_12 : decode cX1_isFullUnit 12 = .ok (.getfield 15, 3) := by decide +kernel
theorem dX1_isFullUnit_15 : decode cX1_isFullUnit 15 = .ok (.iconst 1, 1) := by decide +kernel
theorem dX1_isFullUnit_16 : decode cX1_isFullUnit 16 = .ok (.isub, 1) := by decide +kernel
theorem dX1_isFullUnit_17 : decode cX1_isFullUnit 17 = .ok (.if_icmp .ne 7, 3) := by decide +kernel
theorem dX1_isFullUnit_20 : decode cX1_isFullUnit 20 = .ok (.iconst 1, 1) := by decide +kernel
theorem dX1_isFullUnit_21 : decode cX1_isFullUnit 21 = .ok (.goto 4, 3) := by decide +kernel
theorem dX1_isFullUnit_24 : decode cX1_isFullUnit 24 = .ok (.iconst 0, 1) := by decide +kernel
theorem dX1_isFullUnit_25 : decode cX1_isFullUnit 25 = .ok (.ireturn, 1) := by decide +kernel
theorem dX1_placeOfDigit_0 : decode cX1_placeOfDigit 0 = .ok (.aload_n 0, 1) := by decide +kernel
theorem dX1_placeOfDigit_1 : decode cX1_placeOfDigit 1 = .ok (.getfield 9, 3) := by decide +kernel
theorem dX1_placeOfDigit_4 : decode cX1_placeOfDigit 4 = .ok (.aload_n 0, 1) := by decide +kernel
theorem dX1_placeOfDigit_5 : decode cX1_placeOfDigit 5 = .ok (.getfield 15, 3) := by decide +kernel
theorem dX1_placeOfDigit_8 : decode cX1_placeOfDigit 8 = .ok (.invokestatic 41, 3) := by decide +kernel
theorem dX1_placeOfDigit_11 : decode cX1_placeOfDigit 11 = .ok (.istore_n 2, 1) := by decide +kernel
theorem dX1_placeOfDigit_12 : decode cX1_placeOfDigit 12 = .ok (.iconst 0, 1) := by decide +kernel
theorem dX1_placeOfDigit_13 : decode cX1_placeOfDigit 13 = .ok (.istore_n 3, 1) := by decide +kernel
theorem dX1_placeOfDigit_14 : decode cX1_placeOfDigit 14 = .ok (.iload_n 3, 1) := by decide +kernel
theorem dX1_placeOfDigit_15 : decode cX1_placeOfDigit 15 = .ok (.aload_n 0, 1) := by decide +kernel
theorem dX1_placeOfDigit_16 : decode cX1_placeOfDigit 16 = .ok (.getfield 21, 3) := by decide +kernel
theorem dX1_placeOfDigit_19 : decode cX1_placeOfDigit 19 = .ok (.aload_n 0, 1) := by decide +kernel
theorem dX1_placeOfDigit_20 : decode cX1_placeOfDigit 20 = .ok (.getfield 24, 3) := by decide +kernel
theorem dX1_placeOfDigit_23 : decode cX1_placeOfDigit 23 = .ok (.iadd, 1) := by decide +kernel
theorem dX1_placeOfDigit_24 : decode cX1_placeOfDigit 24 = .ok (.if_icmp .ge 26, 3) := by decide +kernel
theorem dX1_placeOfDigit_27 : decode cX1_placeOfDigit 27 = .ok (.aload_n 0, 1) := by decide +kernel
theorem dX1_placeOfDigit_28 : decode cX1_placeOfDigit 28 = .ok (.iload_n 2, 1) := by decide +kernel
theorem dX1_placeOfDigit_29 : decode cX1_placeOfDigit 29 = .ok (.invokevirtual 60, 3) := by decide +kernel
theorem dX1_placeOfDigit_32 : decode cX1_placeOfDigit 32 = .ok (.iload_n 1, 1) := by decide +kernel
theorem dX1_placeOfDigit_33 : decode cX1_placeOfDigit 33 = .ok (.if_icmp .ne 5, 3) := by decide +kernel
theorem dX1_placeOfDigit_36 : decode cX1_placeOfDigit 36 = .ok (.iload_n 3, 1) := by decide +kernel
theorem dX1_placeOfDigit_37 : decode cX1_placeOfDigit 37 = .ok (.ireturn, 1) := by decide +kernel
theorem dX1_placeOfDigit_38 : decode cX1_placeOfDigit 38 = .ok (.aload_n 0, 1) := by decide +kernel
theorem dX1_placeOfDigit_39 : decode cX1_placeOfDigit 39 = .ok (.iload_n 2, 1) := by decide +kernel
theorem dX1_placeOfDigit_40 : decode cX1_placeOfDigit 40 = .ok (.invokevirtual 49, 3) := by decide +kernel
theorem dX1_placeOfDigit_43 : decode cX1_placeOfDigit 43 = .ok (.istore_n 2, 1) := by decide +kernel
theorem dX1_placeOfDigit_44 : decode cX1_placeOfDigit 44 = .ok (.iinc 3 1, 3) := by decide +kernel
theorem dX1_placeOfDigit_47 : decode cX1_placeOfDigit 47 = .ok (.goto (-33), 3) := by decide +kernel
theorem dX1_placeOfDigit_50 : decode cX1_placeOfDigit 50 = .ok (.bipush (-2), 2) := by decide +kernel
theorem dX1_placeOfDigit_52 : decode cX1_placeOfDigit 52 = .ok (.ireturn, 1) := by decide +kernel
theorem dX1_partsInto_0 : decode cX1_partsInto 0 = .ok (.iload_n 1, 1) := by decide +kernel
theorem dX1_partsInto_1 : decode cX1_partsInto 1 = .ok (.iconst 1, 1) := by decide +kernel
theorem dX1_partsInto_2 : decode cX1_partsInto 2 = .ok (.aload_n 0, 1) := by decide +kernel
theorem dX1_partsInto_3 : decode cX1_partsInto 3 = .ok (.getfield 24, 3) := by decide +kernel
theorem dX1_partsInto_6 : decode cX1_partsInto 6 = .ok (.invokestatic 63, 3) := by decide +kernel
theorem dX1_partsInto_9 : decode cX1_partsInto 9 = .ok (.ifCond .eq 18, 3) := by decide +kernel
theorem dX1_partsInto_12 : decode cX1_partsInto 12 = .ok (.aload_n 0, 1) := by decide +kernel
theorem dX1_partsInto_13 : decode cX1_partsInto 13 = .ok (.getfield 24, 3) := by decide +kernel
theorem dX1_partsInto_16 : decode cX1_partsInto 16 = .ok (.iload_n 1, 1) := by decide +kernel
theorem dX1_partsInto_17 : decode cX1_partsInto 17 = .ok (.invokestatic 41, 3) := by decide +kernel
theorem dX1_partsInto_20 : decode cX1_partsInto 20 = .ok (.ifCond .ne 7, 3) := by decide +kernel
theorem dX1_partsInto_23 : decode cX1_partsInto 23 = .ok (.iconst 1, 1) := by decide +kernel
theorem dX1_partsInto_24 : decode cX1_partsInto 24 = .ok (.goto 4, 3) := by decide +kernel
theorem dX1_partsInto_27 : decode cX1_partsInto 27 = .ok (.iconst 0, 1) := by decide +kernel
theorem dX1_partsInto_28 : decode cX1_partsInto 28 = .ok (.ireturn, 1) := by decide +kernel
theorem dX1_blockWidth_0 : decode cX1_blockWidth 0 = .ok (.aload_n 0, 1) := by decide +kernel
theorem dX1_blockWidth_1 : decode cX1_blockWidth 1 = .ok (.getfield 24, 3) := by decide +kernel
theorem dX1_blockWidth_4 : decode cX1_blockWidth 4 = .ok (.i2l, 1) := by decide +kernel
theorem dX1_blockWidth_5 : decode cX1_blockWidth 5 = .ok (.iload_n 1, 1) := by decide +kernel
theorem dX1_blockWidth_6 : decode cX1_blockWidth 6 = .ok (.i2l, 1) := by decide +kernel
theorem dX1_blockWidth_7 : decode cX1_blockWidth 7 = .ok (.invokestatic 53, 3) := by decide +kernel
theorem dX1_blockWidth_10 : decode cX1_blockWidth 10 = .ok (.l2i, 1) := by decide +kernel
theorem dX1_blockWidth_11 : decode cX1_blockWidth 11 = .ok (.ireturn, 1) := by decide +kernel
theorem dX1_ninesOfBlocks_0 : decode cX1_ninesOfBlocks 0 = .ok (.aload_n 0, 1) := by decide +kernel
theorem dX1_ninesOfBlocks_1 : decode cX1_ninesOfBlocks 1 = .ok (.iload_n 1, 1) := by decide +kernel
theorem dX1_ninesOfBlocks_2 : decode cX1_ninesOfBlocks 2 = .ok (.invokevirtual 67, 3) := by decide +kernel
theorem dX1_ninesOfBlocks_5 : decode cX1_ninesOfBlocks 5 = .ok (.istore_n 2, 1) := by decide +kernel
theorem dX1_ninesOfBlocks_6 : decode cX1_ninesOfBlocks 6 = .ok (.iconst 0, 1) := by decide +kernel
theorem dX1_ninesOfBlocks_7 : decode cX1_ninesOfBlocks 7 = .ok (.istore_n 3, 1) := by decide +kernel
theorem dX1_ninesOfBlocks_8 : decode cX1_ninesOfBlocks 8 = .ok (.aload_n 0, 1) := by decide +kernel
theorem dX1_ninesOfBlocks_9 : decode cX1_ninesOfBlocks 9 = .ok (.getfield 27, 3) := by decide +kernel
theorem dX1_ninesOfBlocks_12 : decode cX1_ninesOfBlocks 12 = .ok (.istore 4, 2) := by decide +kernel
theorem dX1_ninesOfBlocks_14 : decode cX1_ninesOfBlocks 14 = .ok (.iconst 0, 1) := by decide +kernel
theorem dX1_ninesOfBlocks_15 : decode cX1_ninesOfBlocks 15 = .ok (.istore 5, 2) := by decide +kernel
theorem dX1_ninesOfBlocks_17 : decode cX1_ninesOfBlocks 17 = .ok (.iload 5, 2) := by decide +kernel
theorem dX1_ninesOfBlocks_19 : decode cX1_ninesOfBlocks 19 = .ok (.aload_n 0, 1) := by decide +kernel
theorem dX1_ninesOfBlocks_20 : decode cX1_ninesOfBlocks 20 = .ok (.getfield 24, 3) := by decide +kernel
theorem dX1_ninesOfBlocks_23 : decode cX1_ninesOfBlocks 23 = .ok (.if_icmp .ge 35, 3) := by decide +kernel
theorem dX1_ninesOfBlocks_26 : decode cX1_ninesOfBlocks 26 = .ok (.iload_n 3, 1) := by decide +kernel
theorem dX1_ninesOfBlocks_27 : decode cX1_ninesOfBlocks 27 = .ok (.iload 5, 2) := by decide +kernel
theorem dX1_ninesOfBlocks_29 : decode cX1_ninesOfBlocks 29 = .ok (.iload_n 2, 1) := by decide +kernel
theorem dX1_ninesOfBlocks_30 : decode cX1_ninesOfBlocks 30 = .ok (.invokestatic 41, 3) := by decide +kernel
theorem dX1_ninesOfBlocks_33 : decode cX1_ninesOfBlocks 33 = .ok (.ifCond .ne 8, 3) := by decide +kernel
theorem dX1_ninesOfBlocks_36 : decode cX1_ninesOfBlocks 36 = .ok (.iload 4, 2) := by decide +kernel
theorem dX1_ninesOfBlocks_38 : decode cX1_ninesOfBlocks 38 = .ok (.goto 4, 3) := by decide +kernel
theorem dX1_ninesOfBlocks_41 : decode cX1_ninesOfBlocks 41 = .ok (.iconst 0, 1) := by decide +kernel
theorem dX1_ninesOfBlocks_42 : decode cX1_ninesOfBlocks 42 = .ok (.iadd, 1) := by decide +kernel
theorem dX1_ninesOfBlocks_43 : decode cX1_ninesOfBlocks 43 = .ok (.istore_n 3, 1) := by decide +kernel
theorem dX1_ninesOfBlocks_44 : decode cX1_ninesOfBlocks 44 = .ok (.aload_n 0, 1) := by decide +kernel
theorem dX1_ninesOfBlocks_45 : decode cX1_ninesOfBlocks 45 = .ok (.iload 4, 2) := by decide +kernel
theorem dX1_ninesOfBlocks_47 : decode cX1_ninesOfBlocks 47 = .ok (.invokevirtual 49, 3) := by decide +kernel
theorem dX1_ninesOfBlocks_50 : decode cX1_ninesOfBlocks 50 = .ok (.istore 4, 2) := by decide +kernel
theorem dX1_ninesOfBlocks_52 : decode cX1_ninesOfBlocks 52 = .ok (.iinc 5 1, 3) := by decide +kernel
theorem dX1_ninesOfBlocks_55 : decode cX1_ninesOfBlocks 55 = .ok (.goto (-38), 3) := by decide +kernel
theorem dX1_ninesOfBlocks_58 : decode cX1_ninesOfBlocks 58 = .ok (.iload_n 3, 1) := by decide +kernel
theorem dX1_ninesOfBlocks_59 : decode cX1_ninesOfBlocks 59 = .ok (.aload_n 0, 1) := by decide +kernel
theorem dX1_ninesOfBlocks_60 : decode cX1_ninesOfBlocks 60 = .ok (.getfield 15, 3) := by decide +kernel
theorem dX1_ninesOfBlocks_63 : decode cX1_ninesOfBlocks 63 = .ok (.invokestatic 41, 3) := by decide +kernel
theorem dX1_ninesOfBlocks_66 : decode cX1_ninesOfBlocks 66 = .ok (.ifCond .ne 17, 3) := by decide +kernel
theorem dX1_ninesOfBlocks_69 : decode cX1_ninesOfBlocks 69 = .ok (.iload_n 3, 1) := by decide +kernel
theorem dX1_ninesOfBlocks_70 : decode cX1_ninesOfBlocks 70 = .ok (.i2l, 1) := by decide +kernel
theorem dX1_ninesOfBlocks_71 : decode cX1_ninesOfBlocks 71 = .ok (.aload_n 0, 1) := by decide +kernel
theorem dX1_ninesOfBlocks_72 : decode cX1_ninesOfBlocks 72 = .ok (.getfield 15, 3) := by decide +kernel
theorem dX1_ninesOfBlocks_75 : decode cX1_ninesOfBlocks 75 = .ok (.i2l, 1) := by decide +kernel
theorem dX1_ninesOfBlocks_76 : decode cX1_ninesOfBlocks 76 = .ok (.invokestatic 53, 3) := by decide +kernel
theorem dX1_ninesOfBlocks_79 : decode cX1_ninesOfBlocks 79 = .ok (.l2i, 1) := by decide +kernel
theorem dX1_ninesOfBlocks_80 : decode cX1_ninesOfBlocks 80 = .ok (.goto 5, 3) := by decide +kernel
theorem dX1_ninesOfBlocks_83 : decode cX1_ninesOfBlocks 83 = .ok (.bipush (-2), 2) := by decide +kernel
theorem dX1_ninesOfBlocks_85 : decode cX1_ninesOfBlocks 85 = .ok (.ireturn, 1) := by decide +kernel
theorem dX1_turningRestTimes_0 : decode cX1_turningRestTimes 0 = .ok (.iload_n 1, 1) := by decide +kernel
theorem dX1_turningRestTimes_1 : decode cX1_turningRestTimes 1 = .ok (.aload_n 0, 1) := by decide +kernel
theorem dX1_turningRestTimes_2 : decode cX1_turningRestTimes 2 = .ok (.getfield 9, 3) := by decide +kernel
theorem dX1_turningRestTimes_5 : decode cX1_turningRestTimes 5 = .ok (.imul, 1) := by decide +kernel
theorem dX1_turningRestTimes_6 : decode cX1_turningRestTimes 6 = .ok (.aload_n 0, 1) := by decide +kernel
theorem dX1_turningRestTimes_7 : decode cX1_turningRestTimes 7 = .ok (.getfield 15, 3) := by decide +kernel
theorem dX1_turningRestTimes_10 : decode cX1_turningRestTimes 10 = .ok (.invokestatic 41, 3) := by decide +kernel
theorem dX1_turningRestTimes_13 : decode cX1_turningRestTimes 13 = .ok (.istore_n 2, 1) := by decide +kernel
theorem dX1_turningRestTimes_14 : decode cX1_turningRestTimes 14 = .ok (.iconst 0, 1) := by decide +kernel
theorem dX1_turningRestTimes_15 : decode cX1_turningRestTimes 15 = .ok (.istore_n 3, 1) := by decide +kernel
theorem dX1_turningRestTimes_16 : decode cX1_turningRestTimes 16 = .ok (.iload_n 3, 1) := by decide +kernel
theorem dX1_turningRestTimes_17 : decode cX1_turningRestTimes 17 = .ok (.aload_n 0, 1) := by decide +kernel
theorem dX1_turningRestTimes_18 : decode cX1_turningRestTimes 18 = .ok (.getfield 15, 3) := by decide +kernel
theorem dX1_turningRestTimes_21 : decode cX1_turningRestTimes 21 = .ok (.if_icmp .ge 23, 3) := by decide +kernel
theorem dX1_turningRestTimes_24 : decode cX1_turningRestTimes 24 = .ok (.aload_n 0, 1) := by decide +kernel
theorem dX1_turningRestTimes_25 : decode cX1_turningRestTimes 25 = .ok (.iload_n 2, 1) := by decide +kernel
theorem dX1_turningRestTimes_26 : decode cX1_turningRestTimes 26 = .ok (.invokevirtual 45, 3) := by decide +kernel
theorem dX1_turningRestTimes_29 : decode cX1_turningRestTimes 29 = .ok (.ifCond .ne 15, 3) := by decide +kernel
theorem dX1_turningRestTimes_32 : decode cX1_turningRestTimes 32 = .ok (.aload_n 0, 1) := by decide +kernel
theorem dX1_turningRestTimes_33 : decode cX1_turningRestTimes 33 = .ok (.iload_n 2, 1) := by decide +kernel
theorem dX1_turningRestTimes_34 : decode cX1_turningRestTimes 34 = .ok (.invokevirtual 49, 3) := by decide +kernel
theorem dX1_turningRestTimes_37 : decode cX1_turningRestTimes 37 = .ok (.istore_n 2, 1) := by decide +kernel
theorem dX1_turningRestTimes_38 : decode cX1_turningRestTimes 38 = .ok (.iinc 3 1, 3) := by decide +kernel
theorem dX1_turningRestTimes_41 : decode cX1_turningRestTimes 41 = .ok (.goto (-25), 3) := by decide +kernel
theorem dX1_turningRestTimes_44 : decode cX1_turningRestTimes 44 = .ok (.iload_n 2, 1) := by decide +kernel
theorem dX1_turningRestTimes_45 : decode cX1_turningRestTimes 45 = .ok (.ireturn, 1) := by decide +kernel
theorem dX1_placeInPeriod_0 : decode cX1_placeInPeriod 0 = .ok (.aload_n 0, 1) := by decide +kernel
theorem dX1_placeInPeriod_1 : decode cX1_placeInPeriod 1 = .ok (.getfield 27, 3) := by decide +kernel
theorem dX1_placeInPeriod_4 : decode cX1_placeInPeriod 4 = .ok (.istore_n 2, 1) := by decide +kernel
theorem dX1_placeInPeriod_5 : decode cX1_placeInPeriod 5 = .ok (.iconst 0, 1) := by decide +kernel
theorem dX1_placeInPeriod_6 : decode cX1_placeInPeriod 6 = .ok (.istore_n 3, 1) := by decide +kernel
theorem dX1_placeInPeriod_7 : decode cX1_placeInPeriod 7 = .ok (.iload_n 3, 1) := by decide +kernel
theorem dX1_placeInPeriod_8 : decode cX1_placeInPeriod 8 = .ok (.aload_n 0, 1) := by decide +kernel
theorem dX1_placeInPeriod_9 : decode cX1_placeInPeriod 9 = .ok (.getfield 24, 3) := by decide +kernel
theorem dX1_placeInPeriod_12 : decode cX1_placeInPeriod 12 = .ok (.if_icmp .ge 22, 3) := by decide +kernel
theorem dX1_placeInPeriod_15 : decode cX1_placeInPeriod 15 = .ok (.iload_n 2, 1) := by decide +kernel
theorem dX1_placeInPeriod_16 : decode cX1_placeInPeriod 16 = .ok (.iload_n 1, 1) := by decide +kernel
theorem dX1_placeInPeriod_17 : decode cX1_placeInPeriod 17 = .ok (.if_icmp .ne 5, 3) := by decide +kernel
theorem dX1_placeInPeriod_20 : decode cX1_placeInPeriod 20 = .ok (.iload_n 3, 1) := by decide +kernel
theorem dX1_placeInPeriod_21 : decode cX1_placeInPeriod 21 = .ok (.ireturn, 1) := by decide +kernel
theorem dX1_placeInPeriod_22 : decode cX1_placeInPeriod 22 = .ok (.aload_n 0, 1) := by decide +kernel
theorem dX1_placeInPeriod_23 : decode cX1_placeInPeriod 23 = .ok (.iload_n 2, 1) := by decide +kernel
theorem dX1_placeInPeriod_24 : decode cX1_placeInPeriod 24 = .ok (.invokevirtual 49, 3) := by decide +kernel
theorem dX1_placeInPeriod_27 : decode cX1_placeInPeriod 27 = .ok (.istore_n 2, 1) := by decide +kernel
theorem dX1_placeInPeriod_28 : decode cX1_placeInPeriod 28 = .ok (.iinc 3 1, 3) := by decide +kernel
theorem dX1_placeInPeriod_31 : decode cX1_placeInPeriod 31 = .ok (.goto (-24), 3) := by decide +kernel
theorem dX1_placeInPeriod_34 : decode cX1_placeInPeriod 34 = .ok (.bipush (-2), 2) := by decide +kernel
theorem dX1_placeInPeriod_36 : decode cX1_placeInPeriod 36 = .ok (.ireturn, 1) := by decide +kernel
theorem dX1_spelledLength_0 : decode cX1_spelledLength 0 = .ok (.aload_n 0, 1) := by decide +kernel
theorem dX1_spelledLength_1 : decode cX1_spelledLength 1 = .ok (.invokevirtual 70, 3) := by decide +kernel
theorem dX1_spelledLength_4 : decode cX1_spelledLength 4 = .ok (.istore_n 1, 1) := by decide +kernel
theorem dX1_spelledLength_5 : decode cX1_spelledLength 5 = .ok (.aload_n 0, 1) := by decide +kernel
theorem dX1_spelledLength_6 : decode cX1_spelledLength 6 = .ok (.getfield 9, 3) := by decide +kernel
theorem dX1_spelledLength_9 : decode cX1_spelledLength 9 = .ok (.aload_n 0, 1) := by decide +kernel
theorem dX1_spelledLength_10 : decode cX1_spelledLength 10 = .ok (.getfield 15, 3) := by decide +kernel
theorem dX1_spelledLength_13 : decode cX1_spelledLength 13 = .ok (.invokestatic 41, 3) := by decide +kernel
theorem dX1_spelledLength_16 : decode cX1_spelledLength 16 = .ok (.ifCond .eq 12, 3) := by decide +kernel
theorem dX1_spelledLength_19 : decode cX1_spelledLength 19 = .ok (.iload_n 1, 1) := by decide +kernel
theorem dX1_spelledLength_20 : decode cX1_spelledLength 20 = .ok (.iconst 1, 1) := by decide +kernel
theorem dX1_spelledLength_21 : decode cX1_spelledLength 21 = .ok (.aload_n 0, 1) := by decide +kernel
theorem dX1_spelledLength_22 : decode cX1_spelledLength 22 = .ok (.getfield 21, 3) := by decide +kernel
theorem dX1_spelledLength_25 : decode cX1_spelledLength 25 = .ok (.iadd, 1) := by decide +kernel
theorem dX1_spelledLength_26 : decode cX1_spelledLength 26 = .ok (.iadd, 1) := by decide +kernel
theorem dX1_spelledLength_27 : decode cX1_spelledLength 27 = .ok (.istore_n 1, 1) := by decide +kernel
theorem dX1_spelledLength_28 : decode cX1_spelledLength 28 = .ok (.aload_n 0, 1) := by decide +kernel
theorem dX1_spelledLength_29 : decode cX1_spelledLength 29 = .ok (.invokevirtual 56, 3) := by decide +kernel
theorem dX1_spelledLength_32 : decode cX1_spelledLength 32 = .ok (.ifCond .ne 12, 3) := by decide +kernel
theorem dX1_spelledLength_35 : decode cX1_spelledLength 35 = .ok (.iload_n 1, 1) := by decide +kernel
theorem dX1_spelledLength_36 : decode cX1_spelledLength 36 = .ok (.iconst 2, 1) := by decide +kernel
theorem dX1_spelledLength_37 : decode cX1_spelledLength 37 = .ok (.aload_n 0, 1) := by decide +kernel
theorem dX1_spelledLength_38 : decode cX1_spelledLength 38 = .ok (.getfield 24, 3) := by decide +kernel
theorem dX1_spelledLength_41 : decode cX1_spelledLength 41 = .ok (.iadd, 1) := by decide +kernel
theorem dX1_spelledLength_42 : decode cX1_spelledLength 42 = .ok (.iadd, 1) := by decide +kernel
theorem dX1_spelledLength_43 : decode cX1_spelledLength 43 = .ok (.istore_n 1, 1) := by decide +kernel
theorem dX1_spelledLength_44 : decode cX1_spelledLength 44 = .ok (.iload_n 1, 1) := by decide +kernel
theorem dX1_spelledLength_45 : decode cX1_spelledLength 45 = .ok (.ireturn, 1) := by decide +kernel
theorem dX1_spelledByte_0 : decode cX1_spelledByte 0 = .ok (.aload_n 0, 1) := by decide +kernel
theorem dX1_spelledByte_1 : decode cX1_spelledByte 1 = .ok (.invokevirtual 70, 3) := by decide +kernel
theorem dX1_spelledByte_4 : decode cX1_spelledByte 4 = .ok (.istore_n 2, 1) := by decide +kernel
theorem dX1_spelledByte_5 : decode cX1_spelledByte 5 = .ok (.iload_n 1, 1) := by decide +kernel
theorem dX1_spelledByte_6 : decode cX1_spelledByte 6 = .ok (.iload_n 2, 1) := by decide +kernel
theorem dX1_spelledByte_7 : decode cX1_spelledByte 7 = .ok (.if_icmp .ge 16, 3) := by decide +kernel
theorem dX1_spelledByte_10 : decode cX1_spelledByte 10 = .ok (.aload_n 0, 1) := by decide +kernel
theorem dX1_spelledByte_11 : decode cX1_spelledByte 11 = .ok (.iload_n 2, 1) := by decide +kernel
theorem dX1_spelledByte_12 : decode cX1_spelledByte 12 = .ok (.iconst 1, 1) := by decide +kernel
theorem dX1_spelledByte_13 : decode cX1_spelledByte 13 = .ok (.isub, 1) := by decide +kernel
theorem dX1_spelledByte_14 : decode cX1_spelledByte 14 = .ok (.iload_n 1, 1) := by decide +kernel
theorem dX1_spelledByte_15 : decode cX1_spelledByte 15 = .ok (.isub, 1) := by decide +kernel
theorem dX1_spelledByte_16 : decode cX1_spelledByte 16 = .ok (.invokevirtual 74, 3) := by decide +kernel
theorem dX1_spelledByte_19 : decode cX1_spelledByte 19 = .ok (.invokestatic 77, 3) := by decide +kernel
theorem dX1_spelledByte_22 : decode cX1_spelledByte 22 = .ok (.ireturn, 1) := by decide +kernel
theorem dX1_spelledByte_23 : decode cX1_spelledByte 23 = .ok (.iload_n 1, 1) := by decide +kernel
theorem dX1_spelledByte_24 : decode cX1_spelledByte 24 = .ok (.iload_n 2, 1) := by decide +kernel
theorem dX1_spelledByte_25 : decode cX1_spelledByte 25 = .ok (.if_icmp .ne 6, 3) := by decide +kernel
theorem dX1_spelledByte_28 : decode cX1_spelledByte 28 = .ok (.bipush 46, 2) := by decide +kernel
theorem dX1_spelledByte_30 : decode cX1_spelledByte 30 = .ok (.ireturn, 1) := by decide +kernel
theorem dX1_spelledByte_31 : decode cX1_spelledByte 31 = .ok (.iload_n 1, 1) := by decide +kernel
theorem dX1_spelledByte_32 : decode cX1_spelledByte 32 = .ok (.iload_n 2, 1) := by decide +kernel
theorem dX1_spelledByte_33 : decode cX1_spelledByte 33 = .ok (.isub, 1) := by decide +kernel
theorem dX1_spelledByte_34 : decode cX1_spelledByte 34 = .ok (.iconst 1, 1) := by decide +kernel
theorem dX1_spelledByte_35 : decode cX1_spelledByte 35 = .ok (.isub, 1) := by decide +kernel
theorem dX1_spelledByte_36 : decode cX1_spelledByte 36 = .ok (.istore_n 3, 1) := by decide +kernel
theorem dX1_spelledByte_37 : decode cX1_spelledByte 37 = .ok (.iload_n 3, 1) := by decide +kernel
theorem dX1_spelledByte_38 : decode cX1_spelledByte 38 = .ok (.aload_n 0, 1) := by decide +kernel
theorem dX1_spelledByte_39 : decode cX1_spelledByte 39 = .ok (.getfield 21, 3) := by decide +kernel
theorem dX1_spelledByte_42 : decode cX1_spelledByte 42 = .ok (.if_icmp .ge 16, 3) := by decide +kernel
theorem dX1_spelledByte_45 : decode cX1_spelledByte 45 = .ok (.aload_n 0, 1) := by decide +kernel
theorem dX1_spelledByte_46 : decode cX1_spelledByte 46 = .ok (.aload_n 0, 1) := by decide +kernel
theorem dX1_spelledByte_47 : decode cX1_spelledByte 47 = .ok (.iload_n 3, 1) := by decide +kernel
theorem dX1_spelledByte_48 : decode cX1_spelledByte 48 = .ok (.invokevirtual 80, 3) := by decide +kernel
theorem dX1_spelledByte_51 : decode cX1_spelledByte 51 = .ok (.invokevirtual 60, 3) := by decide +kernel
theorem dX1_spelledByte_54 : decode cX1_spelledByte 54 = .ok (.invokestatic 77, 3) := by decide +kernel
theorem dX1_spelledByte_57 : decode cX1_spelledByte 57 = .ok (.ireturn, 1) := by decide +kernel
theorem dX1_spelledByte_58 : decode cX1_spelledByte 58 = .ok (.iload_n 3, 1) := by decide +kernel
theorem dX1_spelledByte_59 : decode cX1_spelledByte 59 = .ok (.aload_n 0, 1) := by decide +kernel
theorem dX1_spelledByte_60 : decode cX1_spelledByte 60 = .ok (.getfield 21, 3) := by decide +kernel
theorem dX1_spelledByte_63 : decode cX1_spelledByte 63 = .ok (.if_icmp .ne 6, 3) := by decide +kernel
theorem dX1_spelledByte_66 : decode cX1_spelledByte 66 = .ok (.bipush 40, 2) := by decide +kernel
theorem dX1_spelledByte_68 : decode cX1_spelledByte 68 = .ok (.ireturn, 1) := by decide +kernel
theorem dX1_spelledByte_69 : decode cX1_spelledByte 69 = .ok (.iload_n 3, 1) := by decide +kernel
theorem dX1_spelledByte_70 : decode cX1_spelledByte 70 = .ok (.aload_n 0, 1) := by decide +kernel
theorem dX1_spelledByte_71 : decode cX1_spelledByte 71 = .ok (.getfield 21, 3) := by decide +kernel
theorem dX1_spelledByte_74 : decode cX1_spelledByte 74 = .ok (.aload_n 0, 1) := by decide +kernel
theorem dX1_spelledByte_75 : decode cX1_spelledByte 75 = .ok (.getfield 24, 3) := by decide +kernel
theorem dX1_spelledByte_78 : decode cX1_spelledByte 78 = .ok (.iadd, 1) := by decide +kernel
theorem dX1_spelledByte_79 : decode cX1_spelledByte 79 = .ok (.if_icmp .gt 20, 3) := by decide +kernel
theorem dX1_spelledByte_82 : decode cX1_spelledByte 82 = .ok (.aload_n 0, 1) := by decide +kernel
theorem dX1_spelledByte_83 : decode cX1_spelledByte 83 = .ok (.aload_n 0, 1) := by decide +kernel
theorem dX1_spelledByte_84 : decode cX1_spelledByte 84 = .ok (.iload_n 3, 1) := by decide +kernel
theorem dX1_spelledByte_85 : decode cX1_spelledByte 85 = .ok (.iconst 1, 1) := by decide +kernel
theorem dX1_spelledByte_86 : decode cX1_spelledByte 86 = .ok (.isub, 1) := by decide +kernel
theorem dX1_spelledByte_87 : decode cX1_spelledByte 87 = .ok (.invokevirtual 80, 3) := by decide +kernel
theorem dX1_spelledByte_90 : decode cX1_spelledByte 90 = .ok (.invokevirtual 60, 3) := by decide +kernel
theorem dX1_spelledByte_93 : decode cX1_spelledByte 93 = .ok (.invokestatic 77, 3) := by decide +kernel
theorem dX1_spelledByte_96 : decode cX1_spelledByte 96 = .ok (.goto 5, 3) := by decide +kernel
theorem dX1_spelledByte_99 : decode cX1_spelledByte 99 = .ok (.bipush 41, 2) := by decide +kernel
theorem dX1_spelledByte_101 : decode cX1_spelledByte 101 = .ok (.ireturn, 1) := by decide +kernel
theorem dX1_wholeDigits_0 : decode cX1_wholeDigits 0 = .ok (.aload_n 0, 1) := by decide +kernel
theorem dX1_wholeDigits_1 : decode cX1_wholeDigits 1 = .ok (.invokevirtual 83, 3) := by decide +kernel
theorem dX1_wholeDigits_4 : decode cX1_wholeDigits 4 = .ok (.i2l, 1) := by decide +kernel
theorem dX1_wholeDigits_5 : decode cX1_wholeDigits 5 = .ok (.aload_n 0, 1) := by decide +kernel
theorem dX1_wholeDigits_6 : decode cX1_wholeDigits 6 = .ok (.getfield 18, 3) := by decide +kernel
theorem dX1_wholeDigits_9 : decode cX1_wholeDigits 9 = .ok (.i2l, 1) := by decide +kernel
theorem dX1_wholeDigits_10 : decode cX1_wholeDigits 10 = .ok (.invokestatic 53, 3) := by decide +kernel
theorem dX1_wholeDigits_13 : decode cX1_wholeDigits 13 = .ok (.lstore_n 1, 1) := by decide +kernel
theorem dX1_wholeDigits_14 : decode cX1_wholeDigits 14 = .ok (.iconst 1, 1) := by decide +kernel
theorem dX1_wholeDigits_15 : decode cX1_wholeDigits 15 = .ok (.istore_n 3, 1) := by decide +kernel
theorem dX1_wholeDigits_16 : decode cX1_wholeDigits 16 = .ok (.lload_n 1, 1) := by decide +kernel
theorem dX1_wholeDigits_17 : decode cX1_wholeDigits 17 = .ok (.lconst 0, 1) := by decide +kernel
theorem dX1_wholeDigits_18 : decode cX1_wholeDigits 18 = .ok (.lcmp, 1) := by decide +kernel
theorem dX1_wholeDigits_19 : decode cX1_wholeDigits 19 = .ok (.ifCond .le 26, 3) := by decide +kernel
theorem dX1_wholeDigits_22 : decode cX1_wholeDigits 22 = .ok (.iload_n 3, 1) := by decide +kernel
theorem dX1_wholeDigits_23 : decode cX1_wholeDigits 23 = .ok (.sipush 1000, 3) := by decide +kernel
theorem dX1_wholeDigits_26 : decode cX1_wholeDigits 26 = .ok (.if_icmp .ge 19, 3) := by decide +kernel
theorem dX1_wholeDigits_29 : decode cX1_wholeDigits 29 = .ok (.lload_n 1, 1) := by decide +kernel
theorem dX1_wholeDigits_30 : decode cX1_wholeDigits 30 = .ok (.aload_n 0, 1) := by decide +kernel
theorem dX1_wholeDigits_31 : decode cX1_wholeDigits 31 = .ok (.getfield 18, 3) := by decide +kernel
theorem dX1_wholeDigits_34 : decode cX1_wholeDigits 34 = .ok (.i2l, 1) := by decide +kernel
theorem dX1_wholeDigits_35 : decode cX1_wholeDigits 35 = .ok (.invokestatic 53, 3) := by decide +kernel
theorem dX1_wholeDigits_38 : decode cX1_wholeDigits 38 = .ok (.lstore_n 1, 1) := by decide +kernel
theorem dX1_wholeDigits_39 : decode cX1_wholeDigits 39 = .ok (.iinc 3 1, 3) := by decide +kernel
theorem dX1_wholeDigits_42 : decode cX1_wholeDigits 42 = .ok (.goto (-26), 3) := by decide +kernel
theorem dX1_wholeDigits_45 : decode cX1_wholeDigits 45 = .ok (.iload_n 3, 1) := by decide +kernel
theorem dX1_wholeDigits_46 : decode cX1_wholeDigits 46 = .ok (.ireturn, 1) := by decide +kernel
theorem dX1_wholeDigit_0 : decode cX1_wholeDigit 0 = .ok (.aload_n 0, 1) := by decide +kernel
theorem dX1_wholeDigit_1 : decode cX1_wholeDigit 1 = .ok (.invokevirtual 83, 3) := by decide +kernel
theorem dX1_wholeDigit_4 : decode cX1_wholeDigit 4 = .ok (.i2l, 1) := by decide +kernel
theorem dX1_wholeDigit_5 : decode cX1_wholeDigit 5 = .ok (.lstore_n 2, 1) := by decide +kernel
theorem dX1_wholeDigit_6 : decode cX1_wholeDigit 6 = .ok (.iconst 0, 1) := by decide +kernel
theorem dX1_wholeDigit_7 : decode cX1_wholeDigit 7 = .ok (.istore 4, 2) := by decide +kernel
theorem dX1_wholeDigit_9 : decode cX1_wholeDigit 9 = .ok (.iload 4, 2) := by decide +kernel
theorem dX1_wholeDigit_11 : decode cX1_wholeDigit 11 = .ok (.iload_n 1, 1) := by decide +kernel
theorem dX1_wholeDigit_12 : decode cX1_wholeDigit 12 = .ok (.if_icmp .ge 19, 3) := by decide +kernel
theorem dX1_wholeDigit_15 : decode cX1_wholeDigit 15 = .ok (.lload_n 2, 1) := by decide +kernel
theorem dX1_wholeDigit_16 : decode cX1_wholeDigit 16 = .ok (.aload_n 0, 1) := by decide +kernel
theorem dX1_wholeDigit_17 : decode cX1_wholeDigit 17 = .ok (.getfield 18, 3) := by decide +kernel
theorem dX1_wholeDigit_20 : decode cX1_wholeDigit 20 = .ok (.i2l, 1) := by decide +kernel
theorem dX1_wholeDigit_21 : decode cX1_wholeDigit 21 = .ok (.invokestatic 53, 3) := by decide +kernel
theorem dX1_wholeDigit_24 : decode cX1_wholeDigit 24 = .ok (.lstore_n 2, 1) := by decide +kernel
theorem dX1_wholeDigit_25 : decode cX1_wholeDigit 25 = .ok (.iinc 4 1, 3) := by decide +kernel
theorem dX1_wholeDigit_28 : decode cX1_wholeDigit 28 = .ok (.goto (-19), 3) := by decide +kernel
theorem dX1_wholeDigit_31 : decode cX1_wholeDigit 31 = .ok (.lload_n 2, 1) := by decide +kernel
theorem dX1_wholeDigit_32 : decode cX1_wholeDigit 32 = .ok (.l2i, 1) := by decide +kernel
theorem dX1_wholeDigit_33 : decode cX1_wholeDigit 33 = .ok (.aload_n 0, 1) := by decide +kernel
theorem dX1_wholeDigit_34 : decode cX1_wholeDigit 34 = .ok (.getfield 18, 3) := by decide +kernel
theorem dX1_wholeDigit_37 : decode cX1_wholeDigit 37 = .ok (.invokestatic 41, 3) := by decide +kernel
theorem dX1_wholeDigit_40 : decode cX1_wholeDigit 40 = .ok (.ireturn, 1) := by decide +kernel
theorem dX1_signOf_0 : decode cX1_signOf 0 = .ok (.iload_n 0, 1) := by decide +kernel
theorem dX1_signOf_1 : decode cX1_signOf 1 = .ok (.bipush 10, 2) := by decide +kernel
theorem dX1_signOf_3 : decode cX1_signOf 3 = .ok (.if_icmp .ge 10, 3) := by decide +kernel
theorem dX1_signOf_6 : decode cX1_signOf 6 = .ok (.bipush 48, 2) := by decide +kernel
theorem dX1_signOf_8 : decode cX1_signOf 8 = .ok (.iload_n 0, 1) := by decide +kernel
theorem dX1_signOf_9 : decode cX1_signOf 9 = .ok (.iadd, 1) := by decide +kernel
theorem dX1_signOf_10 : decode cX1_signOf 10 = .ok (.goto 10, 3) := by decide +kernel
theorem dX1_signOf_13 : decode cX1_signOf 13 = .ok (.bipush 97, 2) := by decide +kernel
theorem dX1_signOf_15 : decode cX1_signOf 15 = .ok (.iload_n 0, 1) := by decide +kernel
theorem dX1_signOf_16 : decode cX1_signOf 16 = .ok (.iadd, 1) := by decide +kernel
theorem dX1_signOf_17 : decode cX1_signOf 17 = .ok (.bipush 10, 2) := by decide +kernel
theorem dX1_signOf_19 : decode cX1_signOf 19 = .ok (.isub, 1) := by decide +kernel
theorem dX1_signOf_20 : decode cX1_signOf 20 = .ok (.ireturn, 1) := by decide +kernel
theorem dX2_init_0 : decode cX2_init 0 = .ok (.aload_n 0, 1) := by decide +kernel
theorem dX2_init_1 : decode cX2_init 1 = .ok (.invokespecial 3, 3) := by decide +kernel
theorem dX2_init_4 : decode cX2_init 4 = .ok (.aload_n 0, 1) := by decide +kernel
theorem dX2_init_5 : decode cX2_init 5 = .ok (.iconst 0, 1) := by decide +kernel
theorem dX2_init_6 : decode cX2_init 6 = .ok (.putfield 9, 3) := by decide +kernel
theorem dX2_init_9 : decode cX2_init 9 = .ok (.aload_n 0, 1) := by decide +kernel
theorem dX2_init_10 : decode cX2_init 10 = .ok (.new 15, 3) := by decide +kernel
theorem dX2_init_13 : decode cX2_init 13 = .ok (.dup, 1) := by decide +kernel
theorem dX2_init_14 : decode cX2_init 14 = .ok (.invokespecial 17, 3) := by decide +kernel
theorem dX2_init_17 : decode cX2_init 17 = .ok (.putfield 18, 3) := by decide +kernel
theorem dX2_init_20 : decode cX2_init 20 = .ok (.aload_n 0, 1) := by decide +kernel
theorem dX2_init_21 : decode cX2_init 21 = .ok (.bipush 40, 2) := by decide +kernel
theorem dX2_init_23 : decode cX2_init 23 = .ok (.newarray .int, 2) := by decide +kernel
theorem dX2_init_25 : decode cX2_init 25 = .ok (.putfield 22, 3) := by decide +kernel
theorem dX2_init_28 : decode cX2_init 28 = .ok (.aload_n 0, 1) := by decide +kernel
theorem dX2_init_29 : decode cX2_init 29 = .ok (.iconst 0, 1) := by decide +kernel
theorem dX2_init_30 : decode cX2_init 30 = .ok (.putfield 26, 3) := by decide +kernel
theorem dX2_init_33 : decode cX2_init 33 = .ok (.return_, 1) := by decide +kernel
theorem dX2_holdFraction_0 : decode cX2_holdFraction 0 = .ok (.aload_n 0, 1) := by decide +kernel
theorem dX2_holdFraction_1 : decode cX2_holdFraction 1 = .ok (.iconst 1, 1) := by decide +kernel
theorem dX2_holdFraction_2 : decode cX2_holdFraction 2 = .ok (.putfield 9, 3) := by decide +kernel
theorem dX2_holdFraction_5 : decode cX2_holdFraction 5 = .ok (.aload_n 0, 1) := by decide +kernel
theorem dX2_holdFraction_6 : decode cX2_holdFraction 6 = .ok (.getfield 18, 3) := by decide +kernel
theorem dX2_holdFraction_9 : decode cX2_holdFraction 9 = .ok (.aload_n 1, 1) := by decide +kernel
theorem dX2_holdFraction_10 : decode cX2_holdFraction 10 = .ok (.invokevirtual 29, 3) := by decide +kernel
theorem dX2_holdFraction_13 : decode cX2_holdFraction 13 = .ok (.return_, 1) := by decide +kernel
theorem dX2_holdRow_0 : decode cX2_holdRow 0 = .ok (.aload_n 0, 1) := by decide +kernel
theorem dX2_holdRow_1 : decode cX2_holdRow 1 = .ok (.iconst 2, 1) := by decide +kernel
theorem dX2_holdRow_2 : decode cX2_holdRow 2 = .ok (.putfield 9, 3) := by decide +kernel
theorem dX2_holdRow_5 : decode cX2_holdRow 5 = .ok (.aload_n 0, 1) := by decide +kernel
theorem dX2_holdRow_6 : decode cX2_holdRow 6 = .ok (.iload_n 1, 1) := by decide +kernel
theorem dX2_holdRow_7 : decode cX2_holdRow 7 = .ok (.putfield 26, 3) := by decide +kernel
theorem dX2_holdRow_10 : decode cX2_holdRow 10 = .ok (.iconst 0, 1) := by decide +kernel
theorem dX2_holdRow_11 : decode cX2_holdRow 11 = .ok (.istore_n 2, 1) := by decide +kernel
theorem dX2_holdRow_12 : decode cX2_holdRow 12 = .ok (.iload_n 2, 1) := by decide +kernel
theorem dX2_holdRow_13 : decode cX2_holdRow 13 = .ok (.iload_n 1, 1) := by decide +kernel
theorem dX2_holdRow_14 : decode cX2_holdRow 14 = .ok (.if_icmp .ge 18, 3) := by decide +kernel
theorem dX2_holdRow_17 : decode cX2_holdRow 17 = .ok (.aload_n 0, 1) := by decide +kernel
theorem dX2_holdRow_18 : decode cX2_holdRow 18 = .ok (.getfield 22, 3) := by decide +kernel
theorem dX2_holdRow_21 : decode cX2_holdRow 21 = .ok (.iload_n 2, 1) := by decide +kernel
theorem dX2_holdRow_22 : decode cX2_holdRow 22 = .ok (.iconst 0, 1) := by decide +kernel
theorem dX2_holdRow_23 : decode cX2_holdRow 23 = .ok (.invokestatic 33, 3) := by decide +kernel
theorem dX2_holdRow_26 : decode cX2_holdRow 26 = .ok (.iinc 2 1, 3) := by decide +kernel
theorem dX2_holdRow_29 : decode cX2_holdRow 29 = .ok (.goto (-17), 3) := by decide +kernel
theorem dX2_holdRow_32 : decode cX2_holdRow 32 = .ok (.return_, 1) := by decide +kernel
theorem dX2_refusalAs_0 : decode cX2_refusalAs 0 = .ok (.aload_n 0, 1) := by decide +kernel
theorem dX2_refusalAs_1 : decode cX2_refusalAs 1 = .ok (.getfield 9, 3) := by decide +kernel
theorem dX2_refusalAs_4 : decode cX2_refusalAs 4 = .ok (.ifCond .ne 6, 3) := by decide +kernel
theorem dX2_refusalAs_7 : decode cX2_refusalAs 7 = .ok (.bipush (-11), 2) := by decide +kernel
theorem dX2_refusalAs_9 : decode cX2_refusalAs 9 = .ok (.ireturn, 1) := by decide +kernel
theorem dX2_refusalAs_10 : decode cX2_refusalAs 10 = .ok (.aload_n 0, 1) := by decide +kernel
theorem dX2_refusalAs_11 : decode cX2_refusalAs 11 = .ok (.getfield 9, 3) := by decide +kernel
theorem dX2_refusalAs_14 : decode cX2_refusalAs 14 = .ok (.iload_n 1, 1) := by decide +kernel
theorem dX2_refusalAs_15 : decode cX2_refusalAs 15 = .ok (.if_icmp .ne 7, 3) := by decide +kernel
theorem dX2_refusalAs_18 : decode cX2_refusalAs 18 = .ok (.iconst 0, 1) := by decide +kernel
theorem dX2_refusalAs_19 : decode cX2_refusalAs 19 = .ok (.goto 5, 3) := by decide +kernel
theorem dX2_refusalAs_22 : decode cX2_refusalAs 22 = .ok (.bipush (-12), 2) := by decide +kernel
theorem dX2_refusalAs_24 : decode cX2_refusalAs 24 = .ok (.ireturn, 1) := by decide +kernel
theorem dX2_hasPlace_0 : decode cX2_hasPlace 0 = .ok (.iload_n 1, 1) := by decide +kernel
theorem dX2_hasPlace_1 : decode cX2_hasPlace 1 = .ok (.iconst 0, 1) := by decide +kernel
theorem dX2_hasPlace_2 : decode cX2_hasPlace 2 = .ok (.aload_n 0, 1) := by decide +kernel
theorem dX2_hasPlace_3 : decode cX2_hasPlace 3 = .ok (.getfield 26, 3) := by decide +kernel
theorem dX2_hasPlace_6 : decode cX2_hasPlace 6 = .ok (.iconst 1, 1) := by decide +kernel
theorem dX2_hasPlace_7 : decode cX2_hasPlace 7 = .ok (.isub, 1) := by decide +kernel
theorem dX2_hasPlace_8 : decode cX2_hasPlace 8 = .ok (.invokestatic 37, 3) := by decide +kernel
theorem dX2_hasPlace_11 : decode cX2_hasPlace 11 = .ok (.ireturn, 1) := by decide +kernel
theorem dX2_firstUnlike_0 : decode cX2_firstUnlike 0 = .ok (.aload_n 1, 1) := by decide +kernel
theorem dX2_firstUnlike_1 : decode cX2_firstUnlike 1 = .ok (.iconst 0, 1) := by decide +kernel
theorem dX2_firstUnlike_2 : decode cX2_firstUnlike 2 = .ok (.invokevirtual 41, 3) := by decide +kernel
theorem dX2_firstUnlike_5 : decode cX2_firstUnlike 5 = .ok (.istore_n 2, 1) := by decide +kernel
theorem dX2_firstUnlike_6 : decode cX2_firstUnlike 6 = .ok (.iconst 0, 1) := by decide +kernel
theorem dX2_firstUnlike_7 : decode cX2_firstUnlike 7 = .ok (.istore_n 3, 1) := by decide +kernel
theorem dX2_firstUnlike_8 : decode cX2_firstUnlike 8 = .ok (.iload_n 3, 1) := by decide +kernel
theorem dX2_firstUnlike_9 : decode cX2_firstUnlike 9 = .ok (.aload_n 0, 1) := by decide +kernel
theorem dX2_firstUnlike_10 : decode cX2_firstUnlike 10 = .ok (.getfield 26, 3) := by decide +kernel
theorem dX2_firstUnlike_13 : decode cX2_firstUnlike 13 = .ok (.if_icmp .ge 33, 3) := by decide +kernel
theorem dX2_firstUnlike_16 : decode cX2_firstUnlike 16 = .ok (.aload_n 0, 1) := by decide +kernel
theorem dX2_firstUnlike_17 : decode cX2_firstUnlike 17 = .ok (.getfield 22, 3) := by decide +kernel
theorem dX2_firstUnlike_20 : decode cX2_firstUnlike 20 = .ok (.iload_n 3, 1) := by decide +kernel
theorem dX2_firstUnlike_21 : decode cX2_firstUnlike 21 = .ok (.invokestatic 45, 3) := by decide +kernel
theorem dX2_firstUnlike_24 : decode cX2_firstUnlike 24 = .ok (.aload_n 1, 1) := by decide +kernel
theorem dX2_firstUnlike_25 : decode cX2_firstUnlike 25 = .ok (.iload_n 2, 1) := by decide +kernel
theorem dX2_firstUnlike_26 : decode cX2_firstUnlike 26 = .ok (.invokevirtual 49, 3) := by decide +kernel
theorem dX2_firstUnlike_29 : decode cX2_firstUnlike 29 = .ok (.if_icmp .eq 5, 3) := by decide +kernel
theorem dX2_firstUnlike_32 : decode cX2_firstUnlike 32 = .ok (.iload_n 3, 1) := by decide +kernel
theorem dX2_firstUnlike_33 : decode cX2_firstUnlike 33 = .ok (.ireturn, 1) := by decide +kernel
theorem dX2_firstUnlike_34 : decode cX2_firstUnlike 34 = .ok (.aload_n 1, 1) := by decide +kernel
theorem dX2_firstUnlike_35 : decode cX2_firstUnlike 35 = .ok (.iload_n 2, 1) := by decide +kernel
theorem dX2_firstUnlike_36 : decode cX2_firstUnlike 36 = .ok (.invokevirtual 52, 3) := by decide +kernel
theorem dX2_firstUnlike_39 : decode cX2_firstUnlike 39 = .ok (.istore_n 2, 1) := by decide +kernel
theorem dX2_firstUnlike_40 : decode cX2_firstUnlike 40 = .ok (.iinc 3 1, 3) := by decide +kernel
theorem dX2_firstUnlike_43 : decode cX2_firstUnlike 43 = .ok (.goto (-35), 3) := by decide +kernel
theorem dX2_firstUnlike_46 : decode cX2_firstUnlike 46 = .ok (.bipush (-2), 2) := by decide +kernel
theorem dX2_firstUnlike_48 : decode cX2_firstUnlike 48 = .ok (.ireturn, 1) := by decide +kernel
theorem dX3_init_0 : decode cX3_init 0 = .ok (.aload_n 0, 1) := by decide +kernel
theorem dX3_init_1 : decode cX3_init 1 = .ok (.invokespecial 3, 3) := by decide +kernel
theorem dX3_init_4 : decode cX3_init 4 = .ok (.aload_n 0, 1) := by decide +kernel
theorem dX3_init_5 : decode cX3_init 5 = .ok (.lconst 0, 1) := by decide +kernel
theorem dX3_init_6 : decode cX3_init 6 = .ok (.putfield 9, 3) := by decide +kernel
theorem dX3_init_9 : decode cX3_init 9 = .ok (.aload_n 0, 1) := by decide +kernel
theorem dX3_init_10 : decode cX3_init 10 = .ok (.lconst 1, 1) := by decide +kernel
theorem dX3_init_11 : decode cX3_init 11 = .ok (.putfield 15, 3) := by decide +kernel
theorem dX3_init_14 : decode cX3_init 14 = .ok (.return_, 1) := by decide +kernel
theorem dX3_parse_0 : decode cX3_parse 0 = .ok (.aload_n 1, 1) := by decide +kernel
theorem dX3_parse_1 : decode cX3_parse 1 = .ok (.iconst 0, 1) := by decide +kernel
theorem dX3_parse_2 : decode cX3_parse 2 = .ok (.putfield 18, 3) := by decide +kernel
theorem dX3_parse_5 : decode cX3_parse 5 = .ok (.aload_n 1, 1) := by decide +kernel
theorem dX3_parse_6 : decode cX3_parse 6 = .ok (.lconst 0, 1) := by decide +kernel
theorem dX3_parse_7 : decode cX3_parse 7 = .ok (.putfield 24, 3) := by decide +kernel
theorem dX3_parse_10 : decode cX3_parse 10 = .ok (.aload_n 0, 1) := by decide +kernel
theorem dX3_parse_11 : decode cX3_parse 11 = .ok (.lconst 1, 1) := by decide +kernel
theorem dX3_parse_12 : decode cX3_parse 12 = .ok (.putfield 15, 3) := by decide +kernel
theorem dX3_parse_15 : decode cX3_parse 15 = .ok (.aload_n 1, 1) := by decide +kernel
theorem dX3_parse_16 : decode cX3_parse 16 = .ok (.iload_n 2, 1) := by decide +kernel
theorem dX3_parse_17 : decode cX3_parse 17 = .ok (.invokevirtual 27, 3) := by decide +kernel
theorem dX3_parse_20 : decode cX3_parse 20 = .ok (.ifCond .ne 8, 3) := by decide +kernel
theorem dX3_parse_23 : decode cX3_parse 23 = .ok (.aload_n 1, 1) := by decide +kernel
theorem dX3_parse_24 : decode cX3_parse 24 = .ok (.getfield 18, 3) := by decide +kernel
theorem dX3_parse_27 : decode cX3_parse 27 = .ok (.ireturn, 1) := by decide +kernel
theorem dX3_parse_28 : decode cX3_parse 28 = .ok (.iconst 0, 1) := by decide +kernel
theorem dX3_parse_29 : decode cX3_parse 29 = .ok (.istore_n 3, 1) := by decide +kernel
theorem dX3_parse_30 : decode cX3_parse 30 = .ok (.aload_n 1, 1) := by decide +kernel
theorem dX3_parse_31 : decode cX3_parse 31 = .ok (.bipush 46, 2) := by decide +kernel
theorem dX3_parse_33 : decode cX3_parse 33 = .ok (.invokevirtual 31, 3) := by decide +kernel
theorem dX3_parse_36 : decode cX3_parse 36 = .ok (.ifCond .eq 41, 3) := by decide +kernel
theorem dX3_parse_39 : decode cX3_parse 39 = .ok (.aload_n 1, 1) := by decide +kernel
theorem dX3_parse_40 : decode cX3_parse 40 = .ok (.iload_n 2, 1) := by decide +kernel
theorem dX3_parse_41 : decode cX3_parse 41 = .ok (.invokevirtual 27, 3) := by decide +kernel
theorem dX3_parse_44 : decode cX3_parse 44 = .ok (.istore 4, 2) := by decide +kernel
theorem dX3_parse_46 : decode cX3_parse 46 = .ok (.aload_n 0, 1) := by decide +kernel
theorem dX3_parse_47 : decode cX3_parse 47 = .ok (.iload_n 2, 1) := by decide +kernel
theorem dX3_parse_48 : decode cX3_parse 48 = .ok (.iload 4, 2) := by decide +kernel
theorem dX3_parse_50 : decode cX3_parse 50 = .ok (.invokestatic 35, 3) := by decide +kernel
theorem dX3_parse_53 : decode cX3_parse 53 = .ok (.putfield 15, 3) := by decide +kernel
theorem dX3_parse_56 : decode cX3_parse 56 = .ok (.aload_n 1, 1) := by decide +kernel
theorem dX3_parse_57 : decode cX3_parse 57 = .ok (.bipush 40, 2) := by decide +kernel
theorem dX3_parse_59 : decode cX3_parse 59 = .ok (.invokevirtual 31, 3) := by decide +kernel
theorem dX3_parse_62 : decode cX3_parse 62 = .ok (.istore_n 3, 1) := by decide +kernel
theorem dX3_parse_63 : decode cX3_parse 63 = .ok (.iload 4, 2) := by decide +kernel
theorem dX3_parse_65 : decode cX3_parse 65 = .ok (.ifCond .ne 12, 3) := by decide +kernel
theorem dX3_parse_68 : decode cX3_parse 68 = .ok (.iload_n 3, 1) := by decide +kernel
theorem dX3_parse_69 : decode cX3_parse 69 = .ok (.ifCond .ne 8, 3) := by decide +kernel
theorem dX3_parse_72 : decode cX3_parse 72 = .ok (.aload_n 1, 1) := by decide +kernel
theorem dX3_parse_73 : decode cX3_parse 73 = .ok (.getfield 18, 3) := by decide +kernel
theorem dX3_parse_76 : decode cX3_parse 76 = .ok (.ireturn, 1) := by decide +kernel
theorem dX3_parse_77 : decode cX3_parse 77 = .ok (.aload_n 0, 1) := by decide +kernel
theorem dX3_parse_78 : decode cX3_parse 78 = .ok (.aload_n 1, 1) := by decide +kernel
theorem dX3_parse_79 : decode cX3_parse 79 = .ok (.getfield 24, 3) := by decide +kernel
theorem dX3_parse_82 : decode cX3_parse 82 = .ok (.putfield 9, 3) := by decide +kernel
theorem dX3_parse_85 : decode cX3_parse 85 = .ok (.iload_n 3, 1) := by decide +kernel
theorem dX3_parse_86 : decode cX3_parse 86 = .ok (.ifCond .eq 17, 3) := by decide +kernel
theorem dX3_parse_89 : decode cX3_parse 89 = .ok (.aload_n 0, 1) := by decide +kernel
theorem dX3_parse_90 : decode cX3_parse 90 = .ok (.aload_n 1, 1) := by decide +kernel
theorem dX3_parse_91 : decode cX3_parse 91 = .ok (.iload_n 2, 1) := by decide +kernel
theorem dX3_parse_92 : decode cX3_parse 92 = .ok (.invokevirtual 39, 3) := by decide +kernel
theorem dX3_parse_95 : decode cX3_parse 95 = .ok (.ifCond .ne 8, 3) := by decide +kernel
theorem dX3_parse_98 : decode cX3_parse 98 = .ok (.aload_n 1, 1) := by decide +kernel
theorem dX3_parse_99 : decode cX3_parse 99 = .ok (.getfield 18, 3) := by decide +kernel
theorem dX3_parse_102 : decode cX3_parse 102 = .ok (.ireturn, 1) := by decide +kernel
theorem dX3_parse_103 : decode cX3_parse 103 = .ok (.aload_n 1, 1) := by decide +kernel
theorem dX3_parse_104 : decode cX3_parse 104 = .ok (.invokevirtual 43, 3) := by decide +kernel
theorem dX3_parse_107 : decode cX3_parse 107 = .ok (.ifCond .eq 7, 3) := by decide +kernel
theorem dX3_parse_110 : decode cX3_parse 110 = .ok (.iconst (-1), 1) := by decide +kernel
theorem dX3_parse_111 : decode cX3_parse 111 = .ok (.goto 7, 3) := by decide +kernel
theorem dX3_parse_114 : decode cX3_parse 114 = .ok (.aload_n 1, 1) := by decide +kernel
theorem dX3_parse_115 : decode cX3_parse 115 = .ok (.getfield 18, 3) := by decide +kernel
theorem dX3_parse_118 : decode cX3_parse 118 = .ok (.ireturn, 1) := by decide +kernel
theorem dX3_takesPeriod_0 : decode cX3_takesPeriod 0 = .ok (.aload_n 1, 1) := by decide +kernel
theorem dX3_takesPeriod_1 : decode cX3_takesPeriod 1 = .ok (.lconst 0, 1) := by decide +kernel
theorem dX3_takesPeriod_2 : decode cX3_takesPeriod 2 = .ok (.putfield 24, 3) := by decide +kernel
theorem dX3_takesPeriod_5 : decode cX3_takesPeriod 5 = .ok (.aload_n 1, 1) := by decide +kernel
theorem dX3_takesPeriod_6 : decode cX3_takesPeriod 6 = .ok (.iload_n 2, 1) := by decide +kernel
theorem dX3_takesPeriod_7 : decode cX3_takesPeriod 7 = .ok (.invokevirtual 27, 3) := by decide +kernel
theorem dX3_takesPeriod_10 : decode cX3_takesPeriod 10 = .ok (.istore_n 3, 1) := by decide +kernel
theorem dX3_takesPeriod_11 : decode cX3_takesPeriod 11 = .ok (.iload_n 3, 1) := by decide +kernel
theorem dX3_takesPeriod_12 : decode cX3_takesPeriod 12 = .ok (.ifCond .eq 12, 3) := by decide +kernel
theorem dX3_takesPeriod_15 : decode cX3_takesPeriod 15 = .ok (.aload_n 1, 1) := by decide +kernel
theorem dX3_takesPeriod_16 : decode cX3_takesPeriod 16 = .ok (.bipush 41, 2) := by decide +kernel
theorem dX3_takesPeriod_18 : decode cX3_takesPeriod 18 = .ok (.invokevirtual 31, 3) := by decide +kernel
theorem dX3_takesPeriod_21 : decode cX3_takesPeriod 21 = .ok (.ifCond .ne 5, 3) := by decide +kernel
theorem dX3_takesPeriod_24 : decode cX3_takesPeriod 24 = .ok (.iconst 0, 1) := by decide +kernel
theorem dX3_takesPeriod_25 : decode cX3_takesPeriod 25 = .ok (.ireturn, 1) := by decide +kernel
theorem dX3_takesPeriod_26 : decode cX3_takesPeriod 26 = .ok (.iload_n 2, 1) := by decide +kernel
theorem dX3_takesPeriod_27 : decode cX3_takesPeriod 27 = .ok (.iload_n 3, 1) := by decide +kernel
theorem dX3_takesPeriod_28 : decode cX3_takesPeriod 28 = .ok (.invokestatic 35, 3) := by decide +kernel
theorem dX3_takesPeriod_31 : decode cX3_takesPeriod 31 = .ok (.lconst 1, 1) := by decide +kernel
theorem dX3_takesPeriod_32 : decode cX3_takesPeriod 32 = .ok (.lsub, 1) := by decide +kernel
theorem dX3_takesPeriod_33 : decode cX3_takesPeriod 33 = .ok (.lstore 4, 2) := by decide +kernel
theorem dX3_takesPeriod_35 : decode cX3_takesPeriod 35 = .ok (.aload_n 0, 1) := by decide +kernel
theorem dX3_takesPeriod_36 : decode cX3_takesPeriod 36 = .ok (.aload_n 0, 1) := by decide +kernel
theorem dX3_takesPeriod_37 : decode cX3_takesPeriod 37 = .ok (.getfield 9, 3) := by decide +kernel
theorem dX3_takesPeriod_40 : decode cX3_takesPeriod 40 = .ok (.lload 4, 2) := by decide +kernel
theorem dX3_takesPeriod_42 : decode cX3_takesPeriod 42 = .ok (.lmul, 1) := by decide +kernel
theorem dX3_takesPeriod_43 : decode cX3_takesPeriod 43 = .ok (.aload_n 1, 1) := by decide +kernel
theorem dX3_takesPeriod_44 : decode cX3_takesPeriod 44 = .ok (.getfield 24, 3) := by decide +kernel
theorem dX3_takesPeriod_47 : decode cX3_takesPeriod 47 = .ok (.ladd, 1) := by decide +kernel
theorem dX3_takesPeriod_48 : decode cX3_takesPeriod 48 = .ok (.putfield 9, 3) := by decide +kernel
theorem dX3_takesPeriod_51 : decode cX3_takesPeriod 51 = .ok (.aload_n 0, 1) := by decide +kernel
theorem dX3_takesPeriod_52 : decode cX3_takesPeriod 52 = .ok (.aload_n 0, 1) := by decide +kernel
theorem dX3_takesPeriod_53 : decode cX3_takesPeriod 53 = .ok (.getfield 15, 3) := by decide +kernel
theorem dX3_takesPeriod_56 : decode cX3_takesPeriod 56 = .ok (.lload 4, 2) := by decide +kernel
theorem dX3_takesPeriod_58 : decode cX3_takesPeriod 58 = .ok (.lmul, 1) := by decide +kernel
theorem dX3_takesPeriod_59 : decode cX3_takesPeriod 59 = .ok (.putfield 15, 3) := by decide +kernel
theorem dX3_takesPeriod_62 : decode cX3_takesPeriod 62 = .ok (.iconst 1, 1) := by decide +kernel
theorem dX3_takesPeriod_63 : decode cX3_takesPeriod 63 = .ok (.ireturn, 1) := by decide +kernel
theorem dX4_init_0 : decode cX4_init 0 = .ok (.aload_n 0, 1) := by decide +kernel
theorem dX4_init_1 : decode cX4_init 1 = .ok (.invokespecial 3, 3) := by decide +kernel
theorem dX4_init_4 : decode cX4_init 4 = .ok (.aload_n 0, 1) := by decide +kernel
theorem dX4_init_5 : decode cX4_init 5 = .ok (.sipush 999, 3) := by decide +kernel
theorem dX4_init_8 : decode cX4_init 8 = .ok (.newarray .int, 2) := by decide +kernel
theorem dX4_init_10 : decode cX4_init 10 = .ok (.putfield 9, 3) := by decide +kernel
theorem dX4_init_13 : decode cX4_init 13 = .ok (.aload_n 0, 1) := by decide +kernel
theorem dX4_init_14 : decode cX4_init 14 = .ok (.iconst 0, 1) := by decide +kernel
theorem dX4_init_15 : decode cX4_init 15 = .ok (.putfield 15, 3) := by decide +kernel
theorem dX4_init_18 : decode cX4_init 18 = .ok (.return_, 1) := by decide +kernel
theorem dX4_load_0 : decode cX4_load 0 = .ok (.aload_n 0, 1) := by decide +kernel
theorem dX4_load_1 : decode cX4_load 1 = .ok (.aload_n 1, 1) := by decide +kernel
theorem dX4_load_2 : decode cX4_load 2 = .ok (.getfield 19, 3) := by decide +kernel
theorem dX4_load_5 : decode cX4_load 5 = .ok (.putfield 15, 3) := by decide +kernel
theorem dX4_load_8 : decode cX4_load 8 = .ok (.aload_n 1, 1) := by decide +kernel
theorem dX4_load_9 : decode cX4_load 9 = .ok (.getfield 22, 3) := by decide +kernel
theorem dX4_load_12 : decode cX4_load 12 = .ok (.istore_n 2, 1) := by decide +kernel
theorem dX4_load_13 : decode cX4_load 13 = .ok (.iconst 0, 1) := by decide +kernel
theorem dX4_load_14 : decode cX4_load 14 = .ok (.istore_n 3, 1) := by decide +kernel
theorem dX4_load_15 : decode cX4_load 15 = .ok (.iload_n 3, 1) := by decide +kernel
theorem dX4_load_16 : decode cX4_load 16 = .ok (.aload_n 0, 1) := by decide +kernel
theorem dX4_load_17 : decode cX4_load 17 = .ok (.getfield 15, 3) := by decide +kernel
theorem dX4_load_20 : decode cX4_load 20 = .ok (.if_icmp .ge 28, 3) := by decide +kernel
theorem dX4_load_23 : decode cX4_load 23 = .ok (.aload_n 0, 1) := by decide +kernel
theorem dX4_load_24 : decode cX4_load 24 = .ok (.getfield 9, 3) := by decide +kernel
theorem dX4_load_27 : decode cX4_load 27 = .ok (.iload_n 3, 1) := by decide +kernel
theorem dX4_load_28 : decode cX4_load 28 = .ok (.aload_n 1, 1) := by decide +kernel
theorem dX4_load_29 : decode cX4_load 29 = .ok (.iload_n 2, 1) := by decide +kernel
theorem dX4_load_30 : decode cX4_load 30 = .ok (.invokevirtual 25, 3) := by decide +kernel
theorem dX4_load_33 : decode cX4_load 33 = .ok (.invokestatic 29, 3) := by decide +kernel
theorem dX4_load_36 : decode cX4_load 36 = .ok (.aload_n 1, 1) := by decide +kernel
theorem dX4_load_37 : decode cX4_load 37 = .ok (.iload_n 2, 1) := by decide +kernel
theorem dX4_load_38 : decode cX4_load 38 = .ok (.invokevirtual 33, 3) := by decide +kernel
theorem dX4_load_41 : decode cX4_load 41 = .ok (.istore_n 2, 1) := by decide +kernel
theorem dX4_load_42 : decode cX4_load 42 = .ok (.iinc 3 1, 3) := by decide +kernel
theorem dX4_load_45 : decode cX4_load 45 = .ok (.goto (-30), 3) := by decide +kernel
theorem dX4_load_48 : decode cX4_load 48 = .ok (.return_, 1) := by decide +kernel
theorem dX4_placeOfBlocks_0 : decode cX4_placeOfBlocks 0 = .ok (.iconst 0, 1) := by decide +kernel
theorem dX4_placeOfBlocks_1 : decode cX4_placeOfBlocks 1 = .ok (.istore 5, 2) := by decide +kernel
theorem dX4_placeOfBlocks_3 : decode cX4_placeOfBlocks 3 = .ok (.iconst 0, 1) := by decide +kernel
theorem dX4_placeOfBlocks_4 : decode cX4_placeOfBlocks 4 = .ok (.istore 6, 2) := by decide +kernel
theorem dX4_placeOfBlocks_6 : decode cX4_placeOfBlocks 6 = .ok (.iload 6, 2) := by decide +kernel
theorem dX4_placeOfBlocks_8 : decode cX4_placeOfBlocks 8 = .ok (.iload_n 2, 1) := by decide +kernel
theorem dX4_placeOfBlocks_9 : decode cX4_placeOfBlocks 9 = .ok (.if_icmp .ge 75, 3) := by decide +kernel
theorem dX4_placeOfBlocks_12 : decode cX4_placeOfBlocks 12 = .ok (.iload 5, 2) := by decide +kernel
theorem dX4_placeOfBlocks_14 : decode cX4_placeOfBlocks 14 = .ok (.istore 7, 2) := by decide +kernel
theorem dX4_placeOfBlocks_16 : decode cX4_placeOfBlocks 16 = .ok (.iconst 1, 1) := by decide +kernel
theorem dX4_placeOfBlocks_17 : decode cX4_placeOfBlocks 17 = .ok (.istore 8, 2) := by decide +kernel
theorem dX4_placeOfBlocks_19 : decode cX4_placeOfBlocks 19 = .ok (.iload 8, 2) := by decide +kernel
theorem dX4_placeOfBlocks_21 : decode cX4_placeOfBlocks 21 = .ok (.iload_n 1, 1) := by decide +kernel
theorem dX4_placeOfBlocks_22 : decode cX4_placeOfBlocks 22 = .ok (.if_icmp .gt 30, 3) := by decide +kernel
theorem dX4_placeOfBlocks_25 : decode cX4_placeOfBlocks 25 = .ok (.iload 7, 2) := by decide +kernel
theorem dX4_placeOfBlocks_27 : decode cX4_placeOfBlocks 27 = .ok (.aload_n 0, 1) := by decide +kernel
theorem dX4_placeOfBlocks_28 : decode cX4_placeOfBlocks 28 = .ok (.getfield 9, 3) := by decide +kernel
theorem dX4_placeOfBlocks_31 : decode cX4_placeOfBlocks 31 = .ok (.iload 8, 2) := by decide +kernel
theorem dX4_placeOfBlocks_33 : decode cX4_placeOfBlocks 33 = .ok (.iload_n 2, 1) := by decide +kernel
theorem dX4_placeOfBlocks_34 : decode cX4_placeOfBlocks 34 = .ok (.imul, 1) := by decide +kernel
theorem dX4_placeOfBlocks_35 : decode cX4_placeOfBlocks 35 = .ok (.iconst 1, 1) := by decide +kernel
theorem dX4_placeOfBlocks_36 : decode cX4_placeOfBlocks 36 = .ok (.isub, 1) := by decide +kernel
theorem dX4_placeOfBlocks_37 : decode cX4_placeOfBlocks 37 = .ok (.iload 6, 2) := by decide +kernel
theorem dX4_placeOfBlocks_39 : decode cX4_placeOfBlocks 39 = .ok (.isub, 1) := by decide +kernel
theorem dX4_placeOfBlocks_40 : decode cX4_placeOfBlocks 40 = .ok (.invokestatic 36, 3) := by decide +kernel
theorem dX4_placeOfBlocks_43 : decode cX4_placeOfBlocks 43 = .ok (.iadd, 1) := by decide +kernel
theorem dX4_placeOfBlocks_44 : decode cX4_placeOfBlocks 44 = .ok (.istore 7, 2) := by decide +kernel
theorem dX4_placeOfBlocks_46 : decode cX4_placeOfBlocks 46 = .ok (.iinc 8 1, 3) := by decide +kernel
theorem dX4_placeOfBlocks_49 : decode cX4_placeOfBlocks 49 = .ok (.goto (-30), 3) := by decide +kernel
theorem dX4_placeOfBlocks_52 : decode cX4_placeOfBlocks 52 = .ok (.iload 6, 2) := by decide +kernel
theorem dX4_placeOfBlocks_54 : decode cX4_placeOfBlocks 54 = .ok (.iload_n 3, 1) := by decide +kernel
theorem dX4_placeOfBlocks_55 : decode cX4_placeOfBlocks 55 = .ok (.if_icmp .ne 11, 3) := by decide +kernel
theorem dX4_placeOfBlocks_58 : decode cX4_placeOfBlocks 58 = .ok (.iload 7, 2) := by decide +kernel
theorem dX4_placeOfBlocks_60 : decode cX4_placeOfBlocks 60 = .ok (.iload 4, 2) := by decide +kernel
theorem dX4_placeOfBlocks_62 : decode cX4_placeOfBlocks 62 = .ok (.invokestatic 40, 3) := by decide +kernel
theorem dX4_placeOfBlocks_65 : decode cX4_placeOfBlocks 65 = .ok (.ireturn, 1) := by decide +kernel
theorem dX4_placeOfBlocks_66 : decode cX4_placeOfBlocks 66 = .ok (.iload 7, 2) := by decide +kernel
theorem dX4_placeOfBlocks_68 : decode cX4_placeOfBlocks 68 = .ok (.i2l, 1) := by decide +kernel
theorem dX4_placeOfBlocks_69 : decode cX4_placeOfBlocks 69 = .ok (.iload 4, 2) := by decide +kernel
theorem dX4_placeOfBlocks_71 : decode cX4_placeOfBlocks 71 = .ok (.i2l, 1) := by decide +kernel
theorem dX4_placeOfBlocks_72 : decode cX4_placeOfBlocks 72 = .ok (.invokestatic 44, 3) := by decide +kernel
theorem dX4_placeOfBlocks_75 : decode cX4_placeOfBlocks 75 = .ok (.l2i, 1) := by decide +kernel
theorem dX4_placeOfBlocks_76 : decode cX4_placeOfBlocks 76 = .ok (.istore 5, 2) := by decide +kernel
theorem dX4_placeOfBlocks_78 : decode cX4_placeOfBlocks 78 = .ok (.iinc 6 1, 3) := by decide +kernel
theorem dX4_placeOfBlocks_81 : decode cX4_placeOfBlocks 81 = .ok (.goto (-75), 3) := by decide +kernel
theorem dX4_placeOfBlocks_84 : decode cX4_placeOfBlocks 84 = .ok (.iload 5, 2) := by decide +kernel
theorem dX4_placeOfBlocks_86 : decode cX4_placeOfBlocks 86 = .ok (.ireturn, 1) := by decide +kernel
theorem dX4_worthTogether_0 : decode cX4_worthTogether 0 = .ok (.lconst 0, 1) := by decide +kernel
theorem dX4_worthTogether_1 : decode cX4_worthTogether 1 = .ok (.lstore_n 3, 1) := by decide +kernel
theorem dX4_worthTogether_2 : decode cX4_worthTogether 2 = .ok (.iconst 0, 1) := by decide +kernel
theorem dX4_worthTogether_3 : decode cX4_worthTogether 3 = .ok (.istore 5, 2) := by decide +kernel
theorem dX4_worthTogether_5 : decode cX4_worthTogether 5 = .ok (.iload 5, 2) := by decide +kernel
theorem dX4_worthTogether_7 : decode cX4_worthTogether 7 = .ok (.aload_n 0, 1) := by decide +kernel
theorem dX4_worthTogether_8 : decode cX4_worthTogether 8 = .ok (.getfield 15, 3) := by decide +kernel
theorem dX4_worthTogether_11 : decode cX4_worthTogether 11 = .ok (.if_icmp .ge 29, 3) := by decide +kernel
theorem dX4_worthTogether_14 : decode cX4_worthTogether 14 = .ok (.lload_n 3, 1) := by decide +kernel
theorem dX4_worthTogether_15 : decode cX4_worthTogether 15 = .ok (.iload_n 1, 1) := by decide +kernel
theorem dX4_worthTogether_16 : decode cX4_worthTogether 16 = .ok (.iload 5, 2) := by decide +kernel
theorem dX4_worthTogether_18 : decode cX4_worthTogether 18 = .ok (.aload_n 0, 1) := by decide +kernel
theorem dX4_worthTogether_19 : decode cX4_worthTogether 19 = .ok (.getfield 9, 3) := by decide +kernel
theorem dX4_worthTogether_22 : decode cX4_worthTogether 22 = .ok (.iload 5, 2) := by decide +kernel
theorem dX4_worthTogether_24 : decode cX4_worthTogether 24 = .ok (.invokestatic 36, 3) := by decide +kernel
theorem dX4_worthTogether_27 : decode cX4_worthTogether 27 = .ok (.iload_n 2, 1) := by decide +kernel
theorem dX4_worthTogether_28 : decode cX4_worthTogether 28 = .ok (.invokestatic 48, 3) := by decide +kernel
theorem dX4_worthTogether_31 : decode cX4_worthTogether 31 = .ok (.i2l, 1) := by decide +kernel
theorem dX4_worthTogether_32 : decode cX4_worthTogether 32 = .ok (.ladd, 1) := by decide +kernel
theorem dX4_worthTogether_33 : decode cX4_worthTogether 33 = .ok (.lstore_n 3, 1) := by decide +kernel
theorem dX4_worthTogether_34 : decode cX4_worthTogether 34 = .ok (.iinc 5 1, 3) := by decide +kernel
theorem dX4_worthTogether_37 : decode cX4_worthTogether 37 = .ok (.goto (-32), 3) := by decide +kernel
theorem dX4_worthTogether_40 : decode cX4_worthTogether 40 = .ok (.lload_n 3, 1) := by decide +kernel
theorem dX4_worthTogether_41 : decode cX4_worthTogether 41 = .ok (.lreturn, 1) := by decide +kernel
theorem dX4_worth_0 : decode cX4_worth 0 = .ok (.iload_n 0, 1) := by decide +kernel
theorem dX4_worth_1 : decode cX4_worth 1 = .ok (.tableswitch 91 0 5 #[39, 41, 47, 68, 72, 80], 39) := by decide +kernel
theorem dX4_worth_40 : decode cX4_worth 40 = .ok (.iload_n 2, 1) := by decide +kernel
theorem dX4_worth_41 : decode cX4_worth 41 = .ok (.ireturn, 1) := by decide +kernel
theorem dX4_worth_42 : decode cX4_worth 42 = .ok (.iload_n 2, 1) := by decide +kernel
theorem dX4_worth_43 : decode cX4_worth 43 = .ok (.iload_n 1, 1) := by decide +kernel
theorem dX4_worth_44 : decode cX4_worth 44 = .ok (.iconst 1, 1) := by decide +kernel
theorem dX4_worth_45 : decode cX4_worth 45 = .ok (.iadd, 1) := by decide +kernel
theorem dX4_worth_46 : decode cX4_worth 46 = .ok (.imul, 1) := by decide +kernel
theorem dX4_worth_47 : decode cX4_worth 47 = .ok (.ireturn, 1) := by decide +kernel
theorem dX4_worth_48 : decode cX4_worth 48 = .ok (.iload_n 1, 1) := by decide +kernel
theorem dX4_worth_49 : decode cX4_worth 49 = .ok (.iconst 2, 1) := by decide +kernel
theorem dX4_worth_50 : decode cX4_worth 50 = .ok (.irem, 1) := by decide +kernel
theorem dX4_worth_51 : decode cX4_worth 51 = .ok (.ifCond .ne 11, 3) := by decide +kernel
theorem dX4_worth_54 : decode cX4_worth 54 = .ok (.iload_n 2, 1) := by decide +kernel
theorem dX4_worth_55 : decode cX4_worth 55 = .ok (.iload_n 1, 1) := by decide +kernel
theorem dX4_worth_56 : decode cX4_worth 56 = .ok (.iconst 1, 1) := by decide +kernel
theorem dX4_worth_57 : decode cX4_worth 57 = .ok (.iadd, 1) := by decide +kernel
theorem dX4_worth_58 : decode cX4_worth 58 = .ok (.imul, 1) := by decide +kernel
theorem dX4_worth_59 : decode cX4_worth 59 = .ok (.goto 9, 3) := by decide +kernel
theorem dX4_worth_62 : decode cX4_worth 62 = .ok (.iload_n 2, 1) := by decide +kernel
theorem dX4_worth_63 : decode cX4_worth 63 = .ok (.ineg, 1) := by decide +kernel
theorem dX4_worth_64 : decode cX4_worth 64 = .ok (.iload_n 1, 1) := by decide +kernel
theorem dX4_worth_65 : decode cX4_worth 65 = .ok (.iconst 1, 1) := by decide +kernel
theorem dX4_worth_66 : decode cX4_worth 66 = .ok (.iadd, 1) := by decide +kernel
theorem dX4_worth_67 : decode cX4_worth 67 = .ok (.imul, 1) := by decide +kernel
theorem dX4_worth_68 : decode cX4_worth 68 = .ok (.ireturn, 1) := by decide +kernel
theorem dX4_worth_69 : decode cX4_worth 69 = .ok (.iload_n 2, 1) := by decide +kernel
theorem dX4_worth_70 : decode cX4_worth 70 = .ok (.iload_n 2, 1) := by decide +kernel
theorem dX4_worth_71 : decode cX4_worth 71 = .ok (.imul, 1) := by decide +kernel
theorem dX4_worth_72 : decode cX4_worth 72 = .ok (.ireturn, 1) := by decide +kernel
theorem dX4_worth_73 : decode cX4_worth 73 = .ok (.iload_n 2, 1) := by decide +kernel
theorem dX4_worth_74 : decode cX4_worth 74 = .ok (.iload_n 2, 1) := by decide +kernel
theorem dX4_worth_75 : decode cX4_worth 75 = .ok (.imul, 1) := by decide +kernel
theorem dX4_worth_76 : decode cX4_worth 76 = .ok (.iload_n 3, 1) := by decide +kernel
theorem dX4_worth_77 : decode cX4_worth 77 = .ok (.invokestatic 52, 3) := by decide +kernel
theorem dX4_worth_80 : decode cX4_worth 80 = .ok (.ireturn, 1) := by decide +kernel
theorem dX4_worth_81 : decode cX4_worth 81 = .ok (.iload_n 2, 1) := by decide +kernel
theorem dX4_worth_82 : decode cX4_worth 82 = .ok (.iload_n 3, 1) := by decide +kernel
theorem dX4_worth_83 : decode cX4_worth 83 = .ok (.if_icmp .le 7, 3) := by decide +kernel
theorem dX4_worth_86 : decode cX4_worth 86 = .ok (.iconst 1, 1) := by decide +kernel
theorem dX4_worth_87 : decode cX4_worth 87 = .ok (.goto 4, 3) := by decide +kernel
theorem dX4_worth_90 : decode cX4_worth 90 = .ok (.iconst 0, 1) := by decide +kernel
theorem dX4_worth_91 : decode cX4_worth 91 = .ok (.ireturn, 1) := by decide +kernel
theorem dX4_worth_92 : decode cX4_worth 92 = .ok (.iconst 0, 1) := by decide +kernel
theorem dX4_worth_93 : decode cX4_worth 93 = .ok (.ireturn, 1) := by decide +kernel
theorem dX5_init_0 : decode cX5_init 0 = .ok (.aload_n 0, 1) := by decide +kernel
theorem dX5_init_1 : decode cX5_init 1 = .ok (.invokespecial 3, 3) := by decide +kernel
theorem dX5_init_4 : decode cX5_init 4 = .ok (.aload_n 0, 1) := by decide +kernel
theorem dX5_init_5 : decode cX5_init 5 = .ok (.bipush 14, 2) := by decide +kernel
theorem dX5_init_7 : decode cX5_init 7 = .ok (.newarray .int, 2) := by decide +kernel
theorem dX5_init_9 : decode cX5_init 9 = .ok (.putfield 11, 3) := by decide +kernel
theorem dX5_init_12 : decode cX5_init 12 = .ok (.aload_n 0, 1) := by decide +kernel
theorem dX5_init_13 : decode cX5_init 13 = .ok (.bipush 42, 2) := by decide +kernel
theorem dX5_init_15 : decode cX5_init 15 = .ok (.newarray .int, 2) := by decide +kernel
theorem dX5_init_17 : decode cX5_init 17 = .ok (.putfield 15, 3) := by decide +kernel
theorem dX5_init_20 : decode cX5_init 20 = .ok (.aload_n 0, 1) := by decide +kernel
theorem dX5_init_21 : decode cX5_init 21 = .ok (.iconst 0, 1) := by decide +kernel
theorem dX5_init_22 : decode cX5_init 22 = .ok (.putfield 18, 3) := by decide +kernel
theorem dX5_init_25 : decode cX5_init 25 = .ok (.return_, 1) := by decide +kernel
theorem dX5_word_0 : decode cX5_word 0 = .ok (.aload_n 0, 1) := by decide +kernel
theorem dX5_word_1 : decode cX5_word 1 = .ok (.getfield 11, 3) := by decide +kernel
theorem dX5_word_4 : decode cX5_word 4 = .ok (.iload_n 1, 1) := by decide +kernel
theorem dX5_word_5 : decode cX5_word 5 = .ok (.invokestatic 22, 3) := by decide +kernel
theorem dX5_word_8 : decode cX5_word 8 = .ok (.ireturn, 1) := by decide +kernel
theorem dX5_number_0 : decode cX5_number 0 = .ok (.aload_n 0, 1) := by decide +kernel
theorem dX5_number_1 : decode cX5_number 1 = .ok (.getfield 15, 3) := by decide +kernel
theorem dX5_number_4 : decode cX5_number 4 = .ok (.iload_n 1, 1) := by decide +kernel
theorem dX5_number_5 : decode cX5_number 5 = .ok (.iconst 3, 1) := by decide +kernel
theorem dX5_number_6 : decode cX5_number 6 = .ok (.imul, 1) := by decide +kernel
theorem dX5_number_7 : decode cX5_number 7 = .ok (.iload_n 2, 1) := by decide +kernel
theorem dX5_number_8 : decode cX5_number 8 = .ok (.iadd, 1) := by decide +kernel
theorem dX5_number_9 : decode cX5_number 9 = .ok (.invokestatic 22, 3) := by decide +kernel
theorem dX5_number_12 : decode cX5_number 12 = .ok (.ireturn, 1) := by decide +kernel
theorem dX5_parse_0 : decode cX5_parse 0 = .ok (.aload_n 1, 1) := by decide +kernel
theorem dX5_parse_1 : decode cX5_parse 1 = .ok (.iconst 0, 1) := by decide +kernel
theorem dX5_parse_2 : decode cX5_parse 2 = .ok (.putfield 26, 3) := by decide +kernel
theorem dX5_parse_5 : decode cX5_parse 5 = .ok (.aload_n 0, 1) := by decide +kernel
theorem dX5_parse_6 : decode cX5_parse 6 = .ok (.iconst 0, 1) := by decide +kernel
theorem dX5_parse_7 : decode cX5_parse 7 = .ok (.putfield 18, 3) := by decide +kernel
theorem dX5_parse_10 : decode cX5_parse 10 = .ok (.aload_n 0, 1) := by decide +kernel
theorem dX5_parse_11 : decode cX5_parse 11 = .ok (.getfield 18, 3) := by decide +kernel
theorem dX5_parse_14 : decode cX5_parse 14 = .ok (.bipush 14, 2) := by decide +kernel
theorem dX5_parse_16 : decode cX5_parse 16 = .ok (.if_icmp .ge 52, 3) := by decide +kernel
theorem dX5_parse_19 : decode cX5_parse 19 = .ok (.aload_n 0, 1) := by decide +kernel
theorem dX5_parse_20 : decode cX5_parse 20 = .ok (.aload_n 1, 1) := by decide +kernel
theorem dX5_parse_21 : decode cX5_parse 21 = .ok (.invokevirtual 31, 3) := by decide +kernel
theorem dX5_parse_24 : decode cX5_parse 24 = .ok (.istore_n 2, 1) := by decide +kernel
theorem dX5_parse_25 : decode cX5_parse 25 = .ok (.iload_n 2, 1) := by decide +kernel
theorem dX5_parse_26 : decode cX5_parse 26 = .ok (.iconst (-1), 1) := by decide +kernel
theorem dX5_parse_27 : decode cX5_parse 27 = .ok (.if_icmp .eq 5, 3) := by decide +kernel
theorem dX5_parse_30 : decode cX5_parse 30 = .ok (.iload_n 2, 1) := by decide +kernel
theorem dX5_parse_31 : decode cX5_parse 31 = .ok (.ireturn, 1) := by decide +kernel
theorem dX5_parse_32 : decode cX5_parse 32 = .ok (.aload_n 0, 1) := by decide +kernel
theorem dX5_parse_33 : decode cX5_parse 33 = .ok (.dup, 1) := by decide +kernel
theorem dX5_parse_34 : decode cX5_parse 34 = .ok (.getfield 18, 3) := by decide +kernel
theorem dX5_parse_37 : decode cX5_parse 37 = .ok (.iconst 1, 1) := by decide +kernel
theorem dX5_parse_38 : decode cX5_parse 38 = .ok (.iadd, 1) := by decide +kernel
theorem dX5_parse_39 : decode cX5_parse 39 = .ok (.putfield 18, 3) := by decide +kernel
theorem dX5_parse_42 : decode cX5_parse 42 = .ok (.aload_n 1, 1) := by decide +kernel
theorem dX5_parse_43 : decode cX5_parse 43 = .ok (.invokevirtual 35, 3) := by decide +kernel
theorem dX5_parse_46 : decode cX5_parse 46 = .ok (.ifCond .eq 5, 3) := by decide +kernel
theorem dX5_parse_49 : decode cX5_parse 49 = .ok (.iconst (-1), 1) := by decide +kernel
theorem dX5_parse_50 : decode cX5_parse 50 = .ok (.ireturn, 1) := by decide +kernel
theorem dX5_parse_51 : decode cX5_parse 51 = .ok (.aload_n 1, 1) := by decide +kernel
theorem dX5_parse_52 : decode cX5_parse 52 = .ok (.bipush 59, 2) := by decide +kernel
theorem dX5_parse_54 : decode cX5_parse 54 = .ok (.invokevirtual 39, 3) := by decide +kernel
theorem dX5_parse_57 : decode cX5_parse 57 = .ok (.ifCond .ne 8, 3) := by decide +kernel
theorem dX5_parse_60 : decode cX5_parse 60 = .ok (.aload_n 1, 1) := by decide +kernel
theorem dX5_parse_61 : decode cX5_parse 61 = .ok (.getfield 26, 3) := by decide +kernel
theorem dX5_parse_64 : decode cX5_parse 64 = .ok (.ireturn, 1) := by decide +kernel
theorem dX5_parse_65 : decode cX5_parse 65 = .ok (.goto (-55), 3) := by decide +kernel
theorem dX5_parse_68 : decode cX5_parse 68 = .ok (.aload_n 1, 1) := by decide +kernel
theorem dX5_parse_69 : decode cX5_parse 69 = .ok (.getfield 26, 3) := by decide +kernel
theorem dX5_parse_72 : decode cX5_parse 72 = .ok (.ireturn, 1) := by decide +kernel
theorem dX5_parseCommand_0 : decode cX5_parseCommand 0 = .ok (.aload_n 1, 1) := by decide +kernel
theorem dX5_parseCommand_1 : decode cX5_parseCommand 1 = .ok (.getfield 26, 3) := by decide +kernel
theorem dX5_parseCommand_4 : decode cX5_parseCommand 4 = .ok (.istore_n 2, 1) := by decide +kernel
theorem dX5_parseCommand_5 : decode cX5_parseCommand 5 = .ok (.aload_n 1, 1) := by decide +kernel
theorem dX5_parseCommand_6 : decode cX5_parseCommand 6 = .ok (.invokevirtual 43, 3) := by decide +kernel
theorem dX5_parseCommand_9 : decode cX5_parseCommand 9 = .ok (.aload_n 1, 1) := by decide +kernel
theorem dX5_parseCommand_10 : decode cX5_parseCommand 10 = .ok (.iload_n 2, 1) := by decide +kernel
theorem dX5_parseCommand_11 : decode cX5_parseCommand 11 = .ok (.invokestatic 46, 3) := by decide +kernel
theorem dX5_parseCommand_14 : decode cX5_parseCommand 14 = .ok (.istore_n 3, 1) := by decide +kernel
theorem dX5_parseCommand_15 : decode cX5_parseCommand 15 = .ok (.iload_n 3, 1) := by decide +kernel
theorem dX5_parseCommand_16 : decode cX5_parseCommand 16 = .ok (.iconst (-1), 1) := by decide +kernel
theorem dX5_parseCommand_17 : decode cX5_parseCommand 17 = .ok (.if_icmp .ne 5, 3) := by decide +kernel
theorem dX5_parseCommand_20 : decode cX5_parseCommand 20 = .ok (.iload_n 2, 1) := by decide +kernel
theorem dX5_parseCommand_21 : decode cX5_parseCommand 21 = .ok (.ireturn, 1) := by decide +kernel
theorem dX5_parseCommand_22 : decode cX5_parseCommand 22 = .ok (.aload_n 0, 1) := by decide +kernel
theorem dX5_parseCommand_23 : decode cX5_parseCommand 23 = .ok (.getfield 11, 3) := by decide +kernel
theorem dX5_parseCommand_26 : decode cX5_parseCommand 26 = .ok (.aload_n 0, 1) := by decide +kernel
theorem dX5_parseCommand_27 : decode cX5_parseCommand 27 = .ok (.getfield 18, 3) := by decide +kernel
theorem dX5_parseCommand_30 : decode cX5_parseCommand 30 = .ok (.iload_n 3, 1) := by decide +kernel
theorem dX5_parseCommand_31 : decode cX5_parseCommand 31 = .ok (.invokestatic 50, 3) := by decide +kernel
theorem dX5_parseCommand_34 : decode cX5_parseCommand 34 = .ok (.iconst 0, 1) := by decide +kernel
theorem dX5_parseCommand_35 : decode cX5_parseCommand 35 = .ok (.istore 4, 2) := by decide +kernel
theorem dX5_parseCommand_37 : decode cX5_parseCommand 37 = .ok (.iload 4, 2) := by decide +kernel
theorem dX5_parseCommand_39 : decode cX5_parseCommand 39 = .ok (.iload_n 3, 1) := by decide +kernel
theorem dX5_parseCommand_40 : decode cX5_parseCommand 40 = .ok (.invokestatic 54, 3) := by decide +kernel
theorem dX5_parseCommand_43 : decode cX5_parseCommand 43 = .ok (.if_icmp .ge 58, 3) := by decide +kernel
theorem dX5_parseCommand_46 : decode cX5_parseCommand 46 = .ok (.aload_n 1, 1) := by decide +kernel
theorem dX5_parseCommand_47 : decode cX5_parseCommand 47 = .ok (.lconst 0, 1) := by decide +kernel
theorem dX5_parseCommand_48 : decode cX5_parseCommand 48 = .ok (.putfield 58, 3) := by decide +kernel
theorem dX5_parseCommand_51 : decode cX5_parseCommand 51 = .ok (.aload_n 1, 1) := by decide +kernel
theorem dX5_parseCommand_52 : decode cX5_parseCommand 52 = .ok (.bipush 32, 2) := by decide +kernel
theorem dX5_parseCommand_54 : decode cX5_parseCommand 54 = .ok (.invokevirtual 39, 3) := by decide +kernel
theorem dX5_parseCommand_57 : decode cX5_parseCommand 57 = .ok (.ifCond .eq 12, 3) := by decide +kernel
theorem dX5_parseCommand_60 : decode cX5_parseCommand 60 = .ok (.aload_n 1, 1) := by decide +kernel
theorem dX5_parseCommand_61 : decode cX5_parseCommand 61 = .ok (.bipush 10, 2) := by decide +kernel
theorem dX5_parseCommand_63 : decode cX5_parseCommand 63 = .ok (.invokevirtual 62, 3) := by decide +kernel
theorem dX5_parseCommand_66 : decode cX5_parseCommand 66 = .ok (.ifCond .ne 8, 3) := by decide +kernel
theorem dX5_parseCommand_69 : decode cX5_parseCommand 69 = .ok (.aload_n 1, 1) := by decide +kernel
theorem dX5_parseCommand_70 : decode cX5_parseCommand 70 = .ok (.getfield 26, 3) := by decide +kernel
theorem dX5_parseCommand_73 : decode cX5_parseCommand 73 = .ok (.ireturn, 1) := by decide +kernel
theorem dX5_parseCommand_74 : decode cX5_parseCommand 74 = .ok (.aload_n 0, 1) := by decide +kernel
theorem dX5_parseCommand_75 : decode cX5_parseCommand 75 = .ok (.getfield 15, 3) := by decide +kernel
theorem dX5_parseCommand_78 : decode cX5_parseCommand 78 = .ok (.aload_n 0, 1) := by decide +kernel
theorem dX5_parseCommand_79 : decode cX5_parseCommand 79 = .ok (.getfield 18, 3) := by decide +kernel
theorem dX5_parseCommand_82 : decode cX5_parseCommand 82 = .ok (.iconst 3, 1) := by decide +kernel
theorem dX5_parseCommand_83 : decode cX5_parseCommand 83 = .ok (.imul, 1) := by decide +kernel
theorem dX5_parseCommand_84 : decode cX5_parseCommand 84 = .ok (.iload 4, 2) := by decide +kernel
theorem dX5_parseCommand_86 : decode cX5_parseCommand 86 = .ok (.iadd, 1) := by decide +kernel
theorem dX5_parseCommand_87 : decode cX5_parseCommand 87 = .ok (.aload_n 1, 1) := by decide +kernel
theorem dX5_parseCommand_88 : decode cX5_parseCommand 88 = .ok (.getfield 58, 3) := by decide +kernel
theorem dX5_parseCommand_91 : decode cX5_parseCommand 91 = .ok (.l2i, 1) := by decide +kernel
theorem dX5_parseCommand_92 : decode cX5_parseCommand 92 = .ok (.invokestatic 50, 3) := by decide +kernel
theorem dX5_parseCommand_95 : decode cX5_parseCommand 95 = .ok (.iinc 4 1, 3) := by decide +kernel
theorem dX5_parseCommand_98 : decode cX5_parseCommand 98 = .ok (.goto (-61), 3) := by decide +kernel
theorem dX5_parseCommand_101 : decode cX5_parseCommand 101 = .ok (.iconst (-1), 1) := by decide +kernel
theorem dX5_parseCommand_102 : decode cX5_parseCommand 102 = .ok (.ireturn, 1) := by decide +kernel
theorem dX5_wordBetween_0 : decode cX5_wordBetween 0 = .ok (.iconst 0, 1) := by decide +kernel
theorem dX5_wordBetween_1 : decode cX5_wordBetween 1 = .ok (.istore_n 2, 1) := by decide +kernel
theorem dX5_wordBetween_2 : decode cX5_wordBetween 2 = .ok (.iload_n 2, 1) := by decide +kernel
theorem dX5_wordBetween_3 : decode cX5_wordBetween 3 = .ok (.iconst 5, 1) := by decide +kernel
theorem dX5_wordBetween_4 : decode cX5_wordBetween 4 = .ok (.if_icmp .ge 27, 3) := by decide +kernel
theorem dX5_wordBetween_7 : decode cX5_wordBetween 7 = .ok (.aload_n 0, 1) := by decide +kernel
theorem dX5_wordBetween_8 : decode cX5_wordBetween 8 = .ok (.iload_n 1, 1) := by decide +kernel
theorem dX5_wordBetween_9 : decode cX5_wordBetween 9 = .ok (.aload_n 0, 1) := by decide +kernel
theorem dX5_wordBetween_10 : decode cX5_wordBetween 10 = .ok (.getfield 26, 3) := by decide +kernel
theorem dX5_wordBetween_13 : decode cX5_wordBetween 13 = .ok (.iload_n 2, 1) := by decide +kernel
theorem dX5_wordBetween_14 : decode cX5_wordBetween 14 = .ok (.invokestatic 65, 3) := by decide +kernel
theorem dX5_wordBetween_17 : decode cX5_wordBetween 17 = .ok (.invokevirtual 69, 3) := by decide +kernel
theorem dX5_wordBetween_20 : decode cX5_wordBetween 20 = .ok (.ifCond .eq 5, 3) := by decide +kernel
theorem dX5_wordBetween_23 : decode cX5_wordBetween 23 = .ok (.iload_n 2, 1) := by decide +kernel
theorem dX5_wordBetween_24 : decode cX5_wordBetween 24 = .ok (.ireturn, 1) := by decide +kernel
theorem dX5_wordBetween_25 : decode cX5_wordBetween 25 = .ok (.iinc 2 1, 3) := by decide +kernel
theorem dX5_wordBetween_28 : decode cX5_wordBetween 28 = .ok (.goto (-26), 3) := by decide +kernel
theorem dX5_wordBetween_31 : decode cX5_wordBetween 31 = .ok (.iconst (-1), 1) := by decide +kernel
theorem dX5_wordBetween_32 : decode cX5_wordBetween 32 = .ok (.ireturn, 1) := by decide +kernel
theorem dX5_wordText_0 : decode cX5_wordText 0 = .ok (.iload_n 0, 1) := by decide +kernel
theorem dX5_wordText_1 : decode cX5_wordText 1 = .ok (.tableswitch 43 0 3 #[31, 34, 37, 40], 31) := by decide +kernel
theorem dX5_wordText_32 : decode cX5_wordText 32 = .ok (.ldc 73, 2) := by decide +kernel
theorem dX5_wordText_34 : decode cX5_wordText 34 = .ok (.areturn, 1) := by decide +kernel
theorem dX5_wordText_35 : decode cX5_wordText 35 = .ok (.ldc 75, 2) := by decide +kernel
theorem dX5_wordText_37 : decode cX5_wordText 37 = .ok (.areturn, 1) := by decide +kernel
theorem dX5_wordText_38 : decode cX5_wordText 38 = .ok (.ldc 77, 2) := by decide +kernel
theorem dX5_wordText_40 : decode cX5_wordText 40 = .ok (.areturn, 1) := by decide +kernel
theorem dX5_wordText_41 : decode cX5_wordText 41 = .ok (.ldc 79, 2) := by decide +kernel
theorem dX5_wordText_43 : decode cX5_wordText 43 = .ok (.areturn, 1) := by decide +kernel
theorem dX5_wordText_44 : decode cX5_wordText 44 = .ok (.ldc 81, 2) := by decide +kernel
theorem dX5_wordText_46 : decode cX5_wordText 46 = .ok (.areturn, 1) := by decide +kernel
theorem dX5_numbersOf_0 : decode cX5_numbersOf 0 = .ok (.iload_n 0, 1) := by decide +kernel
theorem dX5_numbersOf_1 : decode cX5_numbersOf 1 = .ok (.tableswitch 35 0 3 #[31, 35, 33, 33], 31) := by decide +kernel
theorem dX5_numbersOf_32 : decode cX5_numbersOf 32 = .ok (.iconst 3, 1) := by decide +kernel
theorem dX5_numbersOf_33 : decode cX5_numbersOf 33 = .ok (.ireturn, 1) := by decide +kernel
theorem dX5_numbersOf_34 : decode cX5_numbersOf 34 = .ok (.iconst 2, 1) := by decide +kernel
theorem dX5_numbersOf_35 : decode cX5_numbersOf 35 = .ok (.ireturn, 1) := by decide +kernel
theorem dX5_numbersOf_36 : decode cX5_numbersOf 36 = .ok (.iconst 1, 1) := by decide +kernel
theorem dX5_numbersOf_37 : decode cX5_numbersOf 37 = .ok (.ireturn, 1) := by decide +kernel
theorem dX6_init_0 : decode cX6_init 0 = .ok (.aload_n 0, 1) := by decide +kernel
theorem dX6_init_1 : decode cX6_init 1 = .ok (.invokespecial 3, 3) := by decide +kernel
theorem dX6_init_4 : decode cX6_init 4 = .ok (.aload_n 0, 1) := by decide +kernel
theorem dX6_init_5 : decode cX6_init 5 = .ok (.bipush 8, 2) := by decide +kernel
theorem dX6_init_7 : decode cX6_init 7 = .ok (.anewarray 9, 3) := by decide +kernel
theorem dX6_init_10 : decode cX6_init 10 = .ok (.putfield 11, 3) := by decide +kernel
theorem dX6_init_13 : decode cX6_init 13 = .ok (.aload_n 0, 1) := by decide +kernel
theorem dX6_init_14 : decode cX6_init 14 = .ok (.iconst 0, 1) := by decide +kernel
theorem dX6_init_15 : decode cX6_init 15 = .ok (.putfield 17, 3) := by decide +kernel
theorem dX6_init_18 : decode cX6_init 18 = .ok (.iconst 0, 1) := by decide +kernel
theorem dX6_init_19 : decode cX6_init 19 = .ok (.istore_n 1, 1) := by decide +kernel
theorem dX6_init_20 : decode cX6_init 20 = .ok (.iload_n 1, 1) := by decide +kernel
theorem dX6_init_21 : decode cX6_init 21 = .ok (.aload_n 0, 1) := by decide +kernel
theorem dX6_init_22 : decode cX6_init 22 = .ok (.getfield 11, 3) := by decide +kernel
theorem dX6_init_25 : decode cX6_init 25 = .ok (.arraylength, 1) := by decide +kernel
theorem dX6_init_26 : decode cX6_init 26 = .ok (.if_icmp .ge 22, 3) := by decide +kernel
theorem dX6_init_29 : decode cX6_init 29 = .ok (.aload_n 0, 1) := by decide +kernel
theorem dX6_init_30 : decode cX6_init 30 = .ok (.getfield 11, 3) := by decide +kernel
theorem dX6_init_33 : decode cX6_init 33 = .ok (.iload_n 1, 1) := by decide +kernel
theorem dX6_init_34 : decode cX6_init 34 = .ok (.new 9, 3) := by decide +kernel
theorem dX6_init_37 : decode cX6_init 37 = .ok (.dup, 1) := by decide +kernel
theorem dX6_init_38 : decode cX6_init 38 = .ok (.invokespecial 21, 3) := by decide +kernel
theorem dX6_init_41 : decode cX6_init 41 = .ok (.aastore, 1) := by decide +kernel
theorem dX6_init_42 : decode cX6_init 42 = .ok (.iinc 1 1, 3) := by decide +kernel
theorem dX6_init_45 : decode cX6_init 45 = .ok (.goto (-25), 3) := by decide +kernel
theorem dX6_init_48 : decode cX6_init 48 = .ok (.return_, 1) := by decide +kernel
theorem dX6_at_0 : decode cX6_at 0 = .ok (.iload_n 1, 1) := by decide +kernel
theorem dX6_at_1 : decode cX6_at 1 = .ok (.ifCond .lt 29, 3) := by decide +kernel
theorem dX6_at_4 : decode cX6_at 4 = .ok (.iload_n 1, 1) := by decide +kernel
theorem dX6_at_5 : decode cX6_at 5 = .ok (.aload_n 0, 1) := by decide +kernel
theorem dX6_at_6 : decode cX6_at 6 = .ok (.getfield 17, 3) := by decide +kernel
theorem dX6_at_9 : decode cX6_at 9 = .ok (.if_icmp .ge 21, 3) := by decide +kernel
theorem dX6_at_12 : decode cX6_at 12 = .ok (.iload_n 1, 1) := by decide +kernel
theorem dX6_at_13 : decode cX6_at 13 = .ok (.aload_n 0, 1) := by decide +kernel
theorem dX6_at_14 : decode cX6_at 14 = .ok (.getfield 11, 3) := by decide +kernel
theorem dX6_at_17 : decode cX6_at 17 = .ok (.arraylength, 1) := by decide +kernel
theorem dX6_at_18 : decode cX6_at 18 = .ok (.if_icmp .ge 12, 3) := by decide +kernel
theorem dX6_at_21 : decode cX6_at 21 = .ok (.aload_n 0, 1) := by decide +kernel
theorem dX6_at_22 : decode cX6_at 22 = .ok (.getfield 11, 3) := by decide +kernel
theorem dX6_at_25 : decode cX6_at 25 = .ok (.iload_n 1, 1) := by decide +kernel
theorem dX6_at_26 : decode cX6_at 26 = .ok (.aaload, 1) := by decide +kernel
theorem dX6_at_27 : decode cX6_at 27 = .ok (.goto 4, 3) := by decide +kernel
theorem dX6_at_30 : decode cX6_at 30 = .ok (.aconst_null, 1) := by decide +kernel
theorem dX6_at_31 : decode cX6_at 31 = .ok (.areturn, 1) := by decide +kernel
theorem dX6_add_0 : decode cX6_add 0 = .ok (.aload_n 0, 1) := by decide +kernel
theorem dX6_add_1 : decode cX6_add 1 = .ok (.getfield 17, 3) := by decide +kernel
theorem dX6_add_4 : decode cX6_add 4 = .ok (.aload_n 0, 1) := by decide +kernel
theorem dX6_add_5 : decode cX6_add 5 = .ok (.getfield 11, 3) := by decide +kernel
theorem dX6_add_8 : decode cX6_add 8 = .ok (.arraylength, 1) := by decide +kernel
theorem dX6_add_9 : decode cX6_add 9 = .ok (.if_icmp .lt 6, 3) := by decide +kernel
theorem dX6_add_12 : decode cX6_add 12 = .ok (.bipush (-3), 2) := by decide +kernel
theorem dX6_add_14 : decode cX6_add 14 = .ok (.ireturn, 1) := by decide +kernel
theorem dX6_add_15 : decode cX6_add 15 = .ok (.aload_n 0, 1) := by decide +kernel
theorem dX6_add_16 : decode cX6_add 16 = .ok (.getfield 11, 3) := by decide +kernel
theorem dX6_add_19 : decode cX6_add 19 = .ok (.aload_n 0, 1) := by decide +kernel
theorem dX6_add_20 : decode cX6_add 20 = .ok (.getfield 17, 3) := by decide +kernel
theorem dX6_add_23 : decode cX6_add 23 = .ok (.aaload, 1) := by decide +kernel
theorem dX6_add_24 : decode cX6_add 24 = .ok (.iload_n 1, 1) := by decide +kernel
theorem dX6_add_25 : decode cX6_add 25 = .ok (.iload_n 2, 1) := by decide +kernel
theorem dX6_add_26 : decode cX6_add 26 = .ok (.iload_n 3, 1) := by decide +kernel
theorem dX6_add_27 : decode cX6_add 27 = .ok (.invokevirtual 22, 3) := by decide +kernel
theorem dX6_add_30 : decode cX6_add 30 = .ok (.aload_n 0, 1) := by decide +kernel
theorem dX6_add_31 : decode cX6_add 31 = .ok (.dup, 1) := by decide +kernel
theorem dX6_add_32 : decode cX6_add 32 = .ok (.getfield 17, 3) := by decide +kernel
theorem dX6_add_35 : decode cX6_add 35 = .ok (.iconst 1, 1) := by decide +kernel
theorem dX6_add_36 : decode cX6_add 36 = .ok (.iadd, 1) := by decide +kernel
theorem dX6_add_37 : decode cX6_add 37 = .ok (.putfield 17, 3) := by decide +kernel
theorem dX6_add_40 : decode cX6_add 40 = .ok (.aload_n 0, 1) := by decide +kernel
theorem dX6_add_41 : decode cX6_add 41 = .ok (.getfield 17, 3) := by decide +kernel
theorem dX6_add_44 : decode cX6_add 44 = .ok (.iconst 1, 1) := by decide +kernel
theorem dX6_add_45 : decode cX6_add 45 = .ok (.isub, 1) := by decide +kernel
theorem dX6_add_46 : decode cX6_add 46 = .ok (.ireturn, 1) := by decide +kernel
theorem dX6_takeAway_0 : decode cX6_takeAway 0 = .ok (.aload_n 0, 1) := by decide +kernel
theorem dX6_takeAway_1 : decode cX6_takeAway 1 = .ok (.iload_n 1, 1) := by decide +kernel
theorem dX6_takeAway_2 : decode cX6_takeAway 2 = .ok (.invokevirtual 26, 3) := by decide +kernel
theorem dX6_takeAway_5 : decode cX6_takeAway 5 = .ok (.ifnonnull 5, 3) := by decide +kernel
theorem dX6_takeAway_8 : decode cX6_takeAway 8 = .ok (.iconst (-1), 1) := by decide +kernel
theorem dX6_takeAway_9 : decode cX6_takeAway 9 = .ok (.ireturn, 1) := by decide +kernel
theorem dX6_takeAway_10 : decode cX6_takeAway 10 = .ok (.iload_n 1, 1) := by decide +kernel
theorem dX6_takeAway_11 : decode cX6_takeAway 11 = .ok (.istore_n 2, 1) := by decide +kernel
theorem dX6_takeAway_12 : decode cX6_takeAway 12 = .ok (.iload_n 2, 1) := by decide +kernel
theorem dX6_takeAway_13 : decode cX6_takeAway 13 = .ok (.iconst 1, 1) := by decide +kernel
theorem dX6_takeAway_14 : decode cX6_takeAway 14 = .ok (.iadd, 1) := by decide +kernel
theorem dX6_takeAway_15 : decode cX6_takeAway 15 = .ok (.aload_n 0, 1) := by decide +kernel
theorem dX6_takeAway_16 : decode cX6_takeAway 16 = .ok (.getfield 17, 3) := by decide +kernel
theorem dX6_takeAway_19 : decode cX6_takeAway 19 = .ok (.if_icmp .ge 37, 3) := by decide +kernel
theorem dX6_takeAway_22 : decode cX6_takeAway 22 = .ok (.iload_n 2, 1) := by decide +kernel
theorem dX6_takeAway_23 : decode cX6_takeAway 23 = .ok (.iconst 1, 1) := by decide +kernel
theorem dX6_takeAway_24 : decode cX6_takeAway 24 = .ok (.iadd, 1) := by decide +kernel
theorem dX6_takeAway_25 : decode cX6_takeAway 25 = .ok (.aload_n 0, 1) := by decide +kernel
theorem dX6_takeAway_26 : decode cX6_takeAway 26 = .ok (.getfield 11, 3) := by decide +kernel
theorem dX6_takeAway_29 : decode cX6_takeAway 29 = .ok (.arraylength, 1) := by decide +kernel
theorem dX6_takeAway_30 : decode cX6_takeAway 30 = .ok (.if_icmp .ge 26, 3) := by decide +kernel
theorem dX6_takeAway_33 : decode cX6_takeAway 33 = .ok (.aload_n 0, 1) := by decide +kernel
theorem dX6_takeAway_34 : decode cX6_takeAway 34 = .ok (.getfield 11, 3) := by decide +kernel
theorem dX6_takeAway_37 : decode cX6_takeAway 37 = .ok (.iload_n 2, 1) := by decide +kernel
theorem dX6_takeAway_38 : decode cX6_takeAway 38 = .ok (.aaload, 1) := by decide +kernel
theorem dX6_takeAway_39 : decode cX6_takeAway 39 = .ok (.aload_n 0, 1) := by decide +kernel
theorem dX6_takeAway_40 : decode cX6_takeAway 40 = .ok (.getfield 11, 3) := by decide +kernel
theorem dX6_takeAway_43 : decode cX6_takeAway 43 = .ok (.iload_n 2, 1) := by decide +kernel
theorem dX6_takeAway_44 : decode cX6_takeAway 44 = .ok (.iconst 1, 1) := by decide +kernel
theorem dX6_takeAway_45 : decode cX6_takeAway 45 = .ok (.iadd, 1) := by decide +kernel
theorem dX6_takeAway_46 : decode cX6_takeAway 46 = .ok (.aaload, 1) := by decide +kernel
theorem dX6_takeAway_47 : decode cX6_takeAway 47 = .ok (.invokevirtual 30, 3) := by decide +kernel
theorem dX6_takeAway_50 : decode cX6_takeAway 50 = .ok (.iinc 2 1, 3) := by decide +kernel
theorem dX6_takeAway_53 : decode cX6_takeAway 53 = .ok (.goto (-41), 3) := by decide +kernel
theorem dX6_takeAway_56 : decode cX6_takeAway 56 = .ok (.aload_n 0, 1) := by decide +kernel
theorem dX6_takeAway_57 : decode cX6_takeAway 57 = .ok (.dup, 1) := by decide +kernel
theorem dX6_takeAway_58 : decode cX6_takeAway 58 = .ok (.getfield 17, 3) := by decide +kernel
theorem dX6_takeAway_61 : decode cX6_takeAway 61 = .ok (.iconst 1, 1) := by decide +kernel
theorem dX6_takeAway_62 : decode cX6_takeAway 62 = .ok (.isub, 1) := by decide +kernel
theorem dX6_takeAway_63 : decode cX6_takeAway 63 = .ok (.putfield 17, 3) := by decide +kernel
theorem dX6_takeAway_66 : decode cX6_takeAway 66 = .ok (.aload_n 0, 1) := by decide +kernel
theorem dX6_takeAway_67 : decode cX6_takeAway 67 = .ok (.getfield 17, 3) := by decide +kernel
theorem dX6_takeAway_70 : decode cX6_takeAway 70 = .ok (.ireturn, 1) := by decide +kernel
theorem dX6_becomeLike_0 : decode cX6_becomeLike 0 = .ok (.iconst 0, 1) := by decide +kernel
theorem dX6_becomeLike_1 : decode cX6_becomeLike 1 = .ok (.istore_n 2, 1) := by decide +kernel
theorem dX6_becomeLike_2 : decode cX6_becomeLike 2 = .ok (.iload_n 2, 1) := by decide +kernel
theorem dX6_becomeLike_3 : decode cX6_becomeLike 3 = .ok (.aload_n 0, 1) := by decide +kernel
theorem dX6_becomeLike_4 : decode cX6_becomeLike 4 = .ok (.getfield 11, 3) := by decide +kernel
theorem dX6_becomeLike_7 : decode cX6_becomeLike 7 = .ok (.arraylength, 1) := by decide +kernel
theorem dX6_becomeLike_8 : decode cX6_becomeLike 8 = .ok (.if_icmp .ge 33, 3) := by decide +kernel
theorem dX6_becomeLike_11 : decode cX6_becomeLike 11 = .ok (.iload_n 2, 1) := by decide +kernel
theorem dX6_becomeLike_12 : decode cX6_becomeLike 12 = .ok (.aload_n 1, 1) := by decide +kernel
theorem dX6_becomeLike_13 : decode cX6_becomeLike 13 = .ok (.getfield 11, 3) := by decide +kernel
theorem dX6_becomeLike_16 : decode cX6_becomeLike 16 = .ok (.arraylength, 1) := by decide +kernel
theorem dX6_becomeLike_17 : decode cX6_becomeLike 17 = .ok (.if_icmp .ge 24, 3) := by decide +kernel
theorem dX6_becomeLike_20 : decode cX6_becomeLike 20 = .ok (.aload_n 0, 1) := by decide +kernel
theorem dX6_becomeLike_21 : decode cX6_becomeLike 21 = .ok (.getfield 11, 3) := by decide +kernel
theorem dX6_becomeLike_24 : decode cX6_becomeLike 24 = .ok (.iload_n 2, 1) := by decide +kernel
theorem dX6_becomeLike_25 : decode cX6_becomeLike 25 = .ok (.aaload, 1) := by decide +kernel
theorem dX6_becomeLike_26 : decode cX6_becomeLike 26 = .ok (.aload_n 1, 1) := by decide +kernel
theorem dX6_becomeLike_27 : decode cX6_becomeLike 27 = .ok (.getfield 11, 3) := by decide +kernel
theorem dX6_becomeLike_30 : decode cX6_becomeLike 30 = .ok (.iload_n 2, 1) := by decide +kernel
theorem dX6_becomeLike_31 : decode cX6_becomeLike 31 = .ok (.aaload, 1) := by decide +kernel
theorem dX6_becomeLike_32 : decode cX6_becomeLike 32 = .ok (.invokevirtual 30, 3) := by decide +kernel
theorem dX6_becomeLike_35 : decode cX6_becomeLike 35 = .ok (.iinc 2 1, 3) := by decide +kernel
theorem dX6_becomeLike_38 : decode cX6_becomeLike 38 = .ok (.goto (-36), 3) := by decide +kernel
theorem dX6_becomeLike_41 : decode cX6_becomeLike 41 = .ok (.aload_n 0, 1) := by decide +kernel
theorem dX6_becomeLike_42 : decode cX6_becomeLike 42 = .ok (.aload_n 1, 1) := by decide +kernel
theorem dX6_becomeLike_43 : decode cX6_becomeLike 43 = .ok (.getfield 17, 3) := by decide +kernel
theorem dX6_becomeLike_46 : decode cX6_becomeLike 46 = .ok (.putfield 17, 3) := by decide +kernel
theorem dX6_becomeLike_49 : decode cX6_becomeLike 49 = .ok (.return_, 1) := by decide +kernel
theorem dX7_init_0 : decode cX7_init 0 = .ok (.aload_n 0, 1) := by decide +kernel
theorem dX7_init_1 : decode cX7_init 1 = .ok (.invokespecial 3, 3) := by decide +kernel
theorem dX7_init_4 : decode cX7_init 4 = .ok (.aload_n 0, 1) := by decide +kernel
theorem dX7_init_5 : decode cX7_init 5 = .ok (.bipush 80, 2) := by decide +kernel
theorem dX7_init_7 : decode cX7_init 7 = .ok (.newarray .int, 2) := by decide +kernel
theorem dX7_init_9 : decode cX7_init 9 = .ok (.putfield 9, 3) := by decide +kernel
theorem dX7_init_12 : decode cX7_init 12 = .ok (.aload_n 0, 1) := by decide +kernel
theorem dX7_init_13 : decode cX7_init 13 = .ok (.iconst 0, 1) := by decide +kernel
theorem dX7_init_14 : decode cX7_init 14 = .ok (.putfield 15, 3) := by decide +kernel
theorem dX7_init_17 : decode cX7_init 17 = .ok (.aload_n 0, 1) := by decide +kernel
theorem dX7_init_18 : decode cX7_init 18 = .ok (.iconst 0, 1) := by decide +kernel
theorem dX7_init_19 : decode cX7_init 19 = .ok (.putfield 19, 3) := by decide +kernel
theorem dX7_init_22 : decode cX7_init 22 = .ok (.aload_n 0, 1) := by decide +kernel
theorem dX7_init_23 : decode cX7_init 23 = .ok (.lconst 0, 1) := by decide +kernel
theorem dX7_init_24 : decode cX7_init 24 = .ok (.putfield 22, 3) := by decide +kernel
theorem dX7_init_27 : decode cX7_init 27 = .ok (.return_, 1) := by decide +kernel
theorem dX7_add_0 : decode cX7_add 0 = .ok (.aload_n 0, 1) := by decide +kernel
theorem dX7_add_1 : decode cX7_add 1 = .ok (.getfield 15, 3) := by decide +kernel
theorem dX7_add_4 : decode cX7_add 4 = .ok (.aload_n 0, 1) := by decide +kernel
theorem dX7_add_5 : decode cX7_add 5 = .ok (.getfield 9, 3) := by decide +kernel
theorem dX7_add_8 : decode cX7_add 8 = .ok (.arraylength, 1) := by decide +kernel
theorem dX7_add_9 : decode cX7_add 9 = .ok (.if_icmp .ge 25, 3) := by decide +kernel
theorem dX7_add_12 : decode cX7_add 12 = .ok (.aload_n 0, 1) := by decide +kernel
theorem dX7_add_13 : decode cX7_add 13 = .ok (.getfield 9, 3) := by decide +kernel
theorem dX7_add_16 : decode cX7_add 16 = .ok (.aload_n 0, 1) := by decide +kernel
theorem dX7_add_17 : decode cX7_add 17 = .ok (.getfield 15, 3) := by decide +kernel
theorem dX7_add_20 : decode cX7_add 20 = .ok (.iload_n 1, 1) := by decide +kernel
theorem dX7_add_21 : decode cX7_add 21 = .ok (.invokestatic 26, 3) := by decide +kernel
theorem dX7_add_24 : decode cX7_add 24 = .ok (.aload_n 0, 1) := by decide +kernel
theorem dX7_add_25 : decode cX7_add 25 = .ok (.dup, 1) := by decide +kernel
theorem dX7_add_26 : decode cX7_add 26 = .ok (.getfield 15, 3) := by decide +kernel
theorem dX7_add_29 : decode cX7_add 29 = .ok (.iconst 1, 1) := by decide +kernel
theorem dX7_add_30 : decode cX7_add 30 = .ok (.iadd, 1) := by decide +kernel
theorem dX7_add_31 : decode cX7_add 31 = .ok (.putfield 15, 3) := by decide +kernel
theorem dX7_add_34 : decode cX7_add 34 = .ok (.return_, 1) := by decide +kernel
theorem dX7_clear_0 : decode cX7_clear 0 = .ok (.aload_n 0, 1) := by decide +kernel
theorem dX7_clear_1 : decode cX7_clear 1 = .ok (.iconst 0, 1) := by decide +kernel
theorem dX7_clear_2 : decode cX7_clear 2 = .ok (.putfield 15, 3) := by decide +kernel
theorem dX7_clear_5 : decode cX7_clear 5 = .ok (.return_, 1) := by decide +kernel
theorem dX7_byteAt_0 : decode cX7_byteAt 0 = .ok (.iload_n 1, 1) := by decide +kernel
theorem dX7_byteAt_1 : decode cX7_byteAt 1 = .ok (.ifCond .lt 22, 3) := by decide +kernel
theorem dX7_byteAt_4 : decode cX7_byteAt 4 = .ok (.iload_n 1, 1) := by decide +kernel
theorem dX7_byteAt_5 : decode cX7_byteAt 5 = .ok (.aload_n 0, 1) := by decide +kernel
theorem dX7_byteAt_6 : decode cX7_byteAt 6 = .ok (.getfield 15, 3) := by decide +kernel
theorem dX7_byteAt_9 : decode cX7_byteAt 9 = .ok (.if_icmp .ge 14, 3) := by decide +kernel
theorem dX7_byteAt_12 : decode cX7_byteAt 12 = .ok (.aload_n 0, 1) := by decide +kernel
theorem dX7_byteAt_13 : decode cX7_byteAt 13 = .ok (.getfield 9, 3) := by decide +kernel
theorem dX7_byteAt_16 : decode cX7_byteAt 16 = .ok (.iload_n 1, 1) := by decide +kernel
theorem dX7_byteAt_17 : decode cX7_byteAt 17 = .ok (.invokestatic 30, 3) := by decide +kernel
theorem dX7_byteAt_20 : decode cX7_byteAt 20 = .ok (.goto 4, 3) := by decide +kernel
theorem dX7_byteAt_23 : decode cX7_byteAt 23 = .ok (.iconst (-1), 1) := by decide +kernel
theorem dX7_byteAt_24 : decode cX7_byteAt 24 = .ok (.ireturn, 1) := by decide +kernel
theorem dX7_bears_0 : decode cX7_bears 0 = .ok (.iload_n 2, 1) := by decide +kernel
theorem dX7_bears_1 : decode cX7_bears 1 = .ok (.iload_n 1, 1) := by decide +kernel
theorem dX7_bears_2 : decode cX7_bears 2 = .ok (.isub, 1) := by decide +kernel
theorem dX7_bears_3 : decode cX7_bears 3 = .ok (.aload_n 3, 1) := by decide +kernel
theorem dX7_bears_4 : decode cX7_bears 4 = .ok (.invokevirtual 34, 3) := by decide +kernel
theorem dX7_bears_7 : decode cX7_bears 7 = .ok (.if_icmp .eq 5, 3) := by decide +kernel
theorem dX7_bears_10 : decode cX7_bears 10 = .ok (.iconst 0, 1) := by decide +kernel
theorem dX7_bears_11 : decode cX7_bears 11 = .ok (.ireturn, 1) := by decide +kernel
theorem dX7_bears_12 : decode cX7_bears 12 = .ok (.iconst 0, 1) := by decide +kernel
theorem dX7_bears_13 : decode cX7_bears 13 = .ok (.istore 4, 2) := by decide +kernel
theorem dX7_bears_15 : decode cX7_bears 15 = .ok (.iload 4, 2) := by decide +kernel
theorem dX7_bears_17 : decode cX7_bears 17 = .ok (.aload_n 3, 1) := by decide +kernel
theorem dX7_bears_18 : decode cX7_bears 18 = .ok (.invokevirtual 34, 3) := by decide +kernel
theorem dX7_bears_21 : decode cX7_bears 21 = .ok (.if_icmp .ge 28, 3) := by decide +kernel
theorem dX7_bears_24 : decode cX7_bears 24 = .ok (.aload_n 0, 1) := by decide +kernel
theorem dX7_bears_25 : decode cX7_bears 25 = .ok (.iload_n 1, 1) := by decide +kernel
theorem dX7_bears_26 : decode cX7_bears 26 = .ok (.iload 4, 2) := by decide +kernel
theorem dX7_bears_28 : decode cX7_bears 28 = .ok (.iadd, 1) := by decide +kernel
theorem dX7_bears_29 : decode cX7_bears 29 = .ok (.invokevirtual 39, 3) := by decide +kernel
theorem dX7_bears_32 : decode cX7_bears 32 = .ok (.aload_n 3, 1) := by decide +kernel
theorem dX7_bears_33 : decode cX7_bears 33 = .ok (.iload 4, 2) := by decide +kernel
theorem dX7_bears_35 : decode cX7_bears 35 = .ok (.invokevirtual 43, 3) := by decide +kernel
theorem dX7_bears_38 : decode cX7_bears 38 = .ok (.if_icmp .eq 5, 3) := by decide +kernel
theorem dX7_bears_41 : decode cX7_bears 41 = .ok (.iconst 0, 1) := by decide +kernel
theorem dX7_bears_42 : decode cX7_bears 42 = .ok (.ireturn, 1) := by decide +kernel
theorem dX7_bears_43 : decode cX7_bears 43 = .ok (.iinc 4 1, 3) := by decide +kernel
theorem dX7_bears_46 : decode cX7_bears 46 = .ok (.goto (-31), 3) := by decide +kernel
theorem dX7_bears_49 : decode cX7_bears 49 = .ok (.iconst 1, 1) := by decide +kernel
theorem dX7_bears_50 : decode cX7_bears 50 = .ok (.ireturn, 1) := by decide +kernel
theorem dX7_isAtEnd_0 : decode cX7_isAtEnd 0 = .ok (.aload_n 0, 1) := by decide +kernel
theorem dX7_isAtEnd_1 : decode cX7_isAtEnd 1 = .ok (.getfield 19, 3) := by decide +kernel
theorem dX7_isAtEnd_4 : decode cX7_isAtEnd 4 = .ok (.aload_n 0, 1) := by decide +kernel
theorem dX7_isAtEnd_5 : decode cX7_isAtEnd 5 = .ok (.getfield 15, 3) := by decide +kernel
theorem dX7_isAtEnd_8 : decode cX7_isAtEnd 8 = .ok (.if_icmp .lt 7, 3) := by decide +kernel
theorem dX7_isAtEnd_11 : decode cX7_isAtEnd 11 = .ok (.iconst 1, 1) := by decide +kernel
theorem dX7_isAtEnd_12 : decode cX7_isAtEnd 12 = .ok (.goto 4, 3) := by decide +kernel
theorem dX7_isAtEnd_15 : decode cX7_isAtEnd 15 = .ok (.iconst 0, 1) := by decide +kernel
theorem dX7_isAtEnd_16 : decode cX7_isAtEnd 16 = .ok (.ireturn, 1) := by decide +kernel
theorem dX7_takes_0 : decode cX7_takes 0 = .ok (.aload_n 0, 1) := by decide +kernel
theorem dX7_takes_1 : decode cX7_takes 1 = .ok (.aload_n 0, 1) := by decide +kernel
theorem dX7_takes_2 : decode cX7_takes 2 = .ok (.getfield 19, 3) := by decide +kernel
theorem dX7_takes_5 : decode cX7_takes 5 = .ok (.invokevirtual 39, 3) := by decide +kernel
theorem dX7_takes_8 : decode cX7_takes 8 = .ok (.iload_n 1, 1) := by decide +kernel
theorem dX7_takes_9 : decode cX7_takes 9 = .ok (.if_icmp .eq 5, 3) := by decide +kernel
theorem dX7_takes_12 : decode cX7_takes 12 = .ok (.iconst 0, 1) := by decide +kernel
theorem dX7_takes_13 : decode cX7_takes 13 = .ok (.ireturn, 1) := by decide +kernel
theorem dX7_takes_14 : decode cX7_takes 14 = .ok (.aload_n 0, 1) := by decide +kernel
theorem dX7_takes_15 : decode cX7_takes 15 = .ok (.dup, 1) := by decide +kernel
theorem dX7_takes_16 : decode cX7_takes 16 = .ok (.getfield 19, 3) := by decide +kernel
theorem dX7_takes_19 : decode cX7_takes 19 = .ok (.iconst 1, 1) := by decide +kernel
theorem dX7_takes_20 : decode cX7_takes 20 = .ok (.iadd, 1) := by decide +kernel
theorem dX7_takes_21 : decode cX7_takes 21 = .ok (.putfield 19, 3) := by decide +kernel
theorem dX7_takes_24 : decode cX7_takes 24 = .ok (.iconst 1, 1) := by decide +kernel
theorem dX7_takes_25 : decode cX7_takes 25 = .ok (.ireturn, 1) := by decide +kernel
theorem dX7_takeLetters_0 : decode cX7_takeLetters 0 = .ok (.aload_n 0, 1) := by decide +kernel
theorem dX7_takeLetters_1 : decode cX7_takeLetters 1 = .ok (.getfield 19, 3) := by decide +kernel
theorem dX7_takeLetters_4 : decode cX7_takeLetters 4 = .ok (.aload_n 0, 1) := by decide +kernel
theorem dX7_takeLetters_5 : decode cX7_takeLetters 5 = .ok (.getfield 15, 3) := by decide +kernel
theorem dX7_takeLetters_8 : decode cX7_takeLetters 8 = .ok (.if_icmp .ge 34, 3) := by decide +kernel
theorem dX7_takeLetters_11 : decode cX7_takeLetters 11 = .ok (.aload_n 0, 1) := by decide +kernel
theorem dX7_takeLetters_12 : decode cX7_takeLetters 12 = .ok (.aload_n 0, 1) := by decide +kernel
theorem dX7_takeLetters_13 : decode cX7_takeLetters 13 = .ok (.getfield 19, 3) := by decide +kernel
theorem dX7_takeLetters_16 : decode cX7_takeLetters 16 = .ok (.invokevirtual 39, 3) := by decide +kernel
theorem dX7_takeLetters_19 : decode cX7_takeLetters 19 = .ok (.bipush 97, 2) := by decide +kernel
theorem dX7_takeLetters_21 : decode cX7_takeLetters 21 = .ok (.bipush 122, 2) := by decide +kernel
theorem dX7_takeLetters_23 : decode cX7_takeLetters 23 = .ok (.invokestatic 47, 3) := by decide +kernel
theorem dX7_takeLetters_26 : decode cX7_takeLetters 26 = .ok (.ifCond .eq 16, 3) := by decide +kernel
theorem dX7_takeLetters_29 : decode cX7_takeLetters 29 = .ok (.aload_n 0, 1) := by decide +kernel
theorem dX7_takeLetters_30 : decode cX7_takeLetters 30 = .ok (.dup, 1) := by decide +kernel
theorem dX7_takeLetters_31 : decode cX7_takeLetters 31 = .ok (.getfield 19, 3) := by decide +kernel
theorem dX7_takeLetters_34 : decode cX7_takeLetters 34 = .ok (.iconst 1, 1) := by decide +kernel
theorem dX7_takeLetters_35 : decode cX7_takeLetters 35 = .ok (.iadd, 1) := by decide +kernel
theorem dX7_takeLetters_36 : decode cX7_takeLetters 36 = .ok (.putfield 19, 3) := by decide +kernel
theorem dX7_takeLetters_39 : decode cX7_takeLetters 39 = .ok (.goto (-39), 3) := by decide +kernel
theorem dX7_takeLetters_42 : decode cX7_takeLetters 42 = .ok (.return_, 1) := by decide +kernel
theorem dX7_takeDigits_0 : decode cX7_takeDigits 0 = .ok (.iconst 0, 1) := by decide +kernel
theorem dX7_takeDigits_1 : decode cX7_takeDigits 1 = .ok (.istore_n 2, 1) := by decide +kernel
theorem dX7_takeDigits_2 : decode cX7_takeDigits 2 = .ok (.iload_n 2, 1) := by decide +kernel
theorem dX7_takeDigits_3 : decode cX7_takeDigits 3 = .ok (.iconst 4, 1) := by decide +kernel
theorem dX7_takeDigits_4 : decode cX7_takeDigits 4 = .ok (.if_icmp .ge 58, 3) := by decide +kernel
theorem dX7_takeDigits_7 : decode cX7_takeDigits 7 = .ok (.aload_n 0, 1) := by decide +kernel
theorem dX7_takeDigits_8 : decode cX7_takeDigits 8 = .ok (.aload_n 0, 1) := by decide +kernel
theorem dX7_takeDigits_9 : decode cX7_takeDigits 9 = .ok (.getfield 19, 3) := by decide +kernel
theorem dX7_takeDigits_12 : decode cX7_takeDigits 12 = .ok (.invokevirtual 51, 3) := by decide +kernel
theorem dX7_takeDigits_15 : decode cX7_takeDigits 15 = .ok (.iconst 0, 1) := by decide +kernel
theorem dX7_takeDigits_16 : decode cX7_takeDigits 16 = .ok (.iload_n 1, 1) := by decide +kernel
theorem dX7_takeDigits_17 : decode cX7_takeDigits 17 = .ok (.iconst 1, 1) := by decide +kernel
theorem dX7_takeDigits_18 : decode cX7_takeDigits 18 = .ok (.isub, 1) := by decide +kernel
theorem dX7_takeDigits_19 : decode cX7_takeDigits 19 = .ok (.invokestatic 47, 3) := by decide +kernel
theorem dX7_takeDigits_22 : decode cX7_takeDigits 22 = .ok (.ifCond .eq 40, 3) := by decide +kernel
theorem dX7_takeDigits_25 : decode cX7_takeDigits 25 = .ok (.aload_n 0, 1) := by decide +kernel
theorem dX7_takeDigits_26 : decode cX7_takeDigits 26 = .ok (.aload_n 0, 1) := by decide +kernel
theorem dX7_takeDigits_27 : decode cX7_takeDigits 27 = .ok (.getfield 22, 3) := by decide +kernel
theorem dX7_takeDigits_30 : decode cX7_takeDigits 30 = .ok (.iload_n 1, 1) := by decide +kernel
theorem dX7_takeDigits_31 : decode cX7_takeDigits 31 = .ok (.i2l, 1) := by decide +kernel
theorem dX7_takeDigits_32 : decode cX7_takeDigits 32 = .ok (.lmul, 1) := by decide +kernel
theorem dX7_takeDigits_33 : decode cX7_takeDigits 33 = .ok (.aload_n 0, 1) := by decide +kernel
theorem dX7_takeDigits_34 : decode cX7_takeDigits 34 = .ok (.aload_n 0, 1) := by decide +kernel
theorem dX7_takeDigits_35 : decode cX7_takeDigits 35 = .ok (.getfield 19, 3) := by decide +kernel
theorem dX7_takeDigits_38 : decode cX7_takeDigits 38 = .ok (.invokevirtual 51, 3) := by decide +kernel
theorem dX7_takeDigits_41 : decode cX7_takeDigits 41 = .ok (.i2l, 1) := by decide +kernel
theorem dX7_takeDigits_42 : decode cX7_takeDigits 42 = .ok (.ladd, 1) := by decide +kernel
theorem dX7_takeDigits_43 : decode cX7_takeDigits 43 = .ok (.putfield 22, 3) := by decide +kernel
theorem dX7_takeDigits_46 : decode cX7_takeDigits 46 = .ok (.aload_n 0, 1) := by decide +kernel
theorem dX7_takeDigits_47 : decode cX7_takeDigits 47 = .ok (.dup, 1) := by decide +kernel
theorem dX7_takeDigits_48 : decode cX7_takeDigits 48 = .ok (.getfield 19, 3) := by decide +kernel
theorem dX7_takeDigits_51 : decode cX7_takeDigits 51 = .ok (.iconst 1, 1) := by decide +kernel
theorem dX7_takeDigits_52 : decode cX7_takeDigits 52 = .ok (.iadd, 1) := by decide +kernel
theorem dX7_takeDigits_53 : decode cX7_takeDigits 53 = .ok (.putfield 19, 3) := by decide +kernel
theorem dX7_takeDigits_56 : decode cX7_takeDigits 56 = .ok (.iinc 2 1, 3) := by decide +kernel
theorem dX7_takeDigits_59 : decode cX7_takeDigits 59 = .ok (.goto (-57), 3) := by decide +kernel
theorem dX7_takeDigits_62 : decode cX7_takeDigits 62 = .ok (.iload_n 2, 1) := by decide +kernel
theorem dX7_takeDigits_63 : decode cX7_takeDigits 63 = .ok (.ireturn, 1) := by decide +kernel
theorem dX7_digitOn_0 : decode cX7_digitOn 0 = .ok (.aload_n 0, 1) := by decide +kernel
theorem dX7_digitOn_1 : decode cX7_digitOn 1 = .ok (.iload_n 1, 1) := by decide +kernel
theorem dX7_digitOn_2 : decode cX7_digitOn 2 = .ok (.invokevirtual 39, 3) := by decide +kernel
theorem dX7_digitOn_5 : decode cX7_digitOn 5 = .ok (.istore_n 2, 1) := by decide +kernel
theorem dX7_digitOn_6 : decode cX7_digitOn 6 = .ok (.iload_n 2, 1) := by decide +kernel
theorem dX7_digitOn_7 : decode cX7_digitOn 7 = .ok (.bipush 48, 2) := by decide +kernel
theorem dX7_digitOn_9 : decode cX7_digitOn 9 = .ok (.bipush 57, 2) := by decide +kernel
theorem dX7_digitOn_11 : decode cX7_digitOn 11 = .ok (.invokestatic 47, 3) := by decide +kernel
theorem dX7_digitOn_14 : decode cX7_digitOn 14 = .ok (.ifCond .eq 8, 3) := by decide +kernel
theorem dX7_digitOn_17 : decode cX7_digitOn 17 = .ok (.iload_n 2, 1) := by decide +kernel
theorem dX7_digitOn_18 : decode cX7_digitOn 18 = .ok (.bipush 48, 2) := by decide +kernel
theorem dX7_digitOn_20 : decode cX7_digitOn 20 = .ok (.isub, 1) := by decide +kernel
theorem dX7_digitOn_21 : decode cX7_digitOn 21 = .ok (.ireturn, 1) := by decide +kernel
theorem dX7_digitOn_22 : decode cX7_digitOn 22 = .ok (.iload_n 2, 1) := by decide +kernel
theorem dX7_digitOn_23 : decode cX7_digitOn 23 = .ok (.bipush 97, 2) := by decide +kernel
theorem dX7_digitOn_25 : decode cX7_digitOn 25 = .ok (.bipush 102, 2) := by decide +kernel
theorem dX7_digitOn_27 : decode cX7_digitOn 27 = .ok (.invokestatic 47, 3) := by decide +kernel
theorem dX7_digitOn_30 : decode cX7_digitOn 30 = .ok (.ifCond .eq 13, 3) := by decide +kernel
theorem dX7_digitOn_33 : decode cX7_digitOn 33 = .ok (.iload_n 2, 1) := by decide +kernel
theorem dX7_digitOn_34 : decode cX7_digitOn 34 = .ok (.bipush 97, 2) := by decide +kernel
theorem dX7_digitOn_36 : decode cX7_digitOn 36 = .ok (.isub, 1) := by decide +kernel
theorem dX7_digitOn_37 : decode cX7_digitOn 37 = .ok (.bipush 10, 2) := by decide +kernel
theorem dX7_digitOn_39 : decode cX7_digitOn 39 = .ok (.iadd, 1) := by decide +kernel
theorem dX7_digitOn_40 : decode cX7_digitOn 40 = .ok (.goto 4, 3) := by decide +kernel
theorem dX7_digitOn_43 : decode cX7_digitOn 43 = .ok (.iconst (-1), 1) := by decide +kernel
theorem dX7_digitOn_44 : decode cX7_digitOn 44 = .ok (.ireturn, 1) := by decide +kernel
theorem dX8_init_0 : decode cX8_init 0 = .ok (.aload_n 0, 1) := by decide +kernel
theorem dX8_init_1 : decode cX8_init 1 = .ok (.invokespecial 3, 3) := by decide +kernel
theorem dX8_init_4 : decode cX8_init 4 = .ok (.aload_n 0, 1) := by decide +kernel
theorem dX8_init_5 : decode cX8_init 5 = .ok (.new 9, 3) := by decide +kernel
theorem dX8_init_8 : decode cX8_init 8 = .ok (.dup, 1) := by decide +kernel
theorem dX8_init_9 : decode cX8_init 9 = .ok (.invokespecial 11, 3) := by decide +kernel
theorem dX8_init_12 : decode cX8_init 12 = .ok (.putfield 12, 3) := by decide +kernel
theorem dX8_init_15 : decode cX8_init 15 = .ok (.aload_n 0, 1) := by decide +kernel
theorem dX8_init_16 : decode cX8_init 16 = .ok (.new 18, 3) := by decide +kernel
theorem dX8_init_19 : decode cX8_init 19 = .ok (.dup, 1) := by decide +kernel
theorem dX8_init_20 : decode cX8_init 20 = .ok (.invokespecial 20, 3) := by decide +kernel
theorem dX8_init_23 : decode cX8_init 23 = .ok (.putfield 21, 3) := by decide +kernel
theorem dX8_init_26 : decode cX8_init 26 = .ok (.aload_n 0, 1) := by decide +kernel
theorem dX8_init_27 : decode cX8_init 27 = .ok (.new 25, 3) := by decide +kernel
theorem dX8_init_30 : decode cX8_init 30 = .ok (.dup, 1) := by decide +kernel
theorem dX8_init_31 : decode cX8_init 31 = .ok (.invokespecial 27, 3) := by decide +kernel
theorem dX8_init_34 : decode cX8_init 34 = .ok (.putfield 28, 3) := by decide +kernel
theorem dX8_init_37 : decode cX8_init 37 = .ok (.aload_n 0, 1) := by decide +kernel
theorem dX8_init_38 : decode cX8_init 38 = .ok (.new 32, 3) := by decide +kernel
theorem dX8_init_41 : decode cX8_init 41 = .ok (.dup, 1) := by decide +kernel
theorem dX8_init_42 : decode cX8_init 42 = .ok (.invokespecial 34, 3) := by decide +kernel
theorem dX8_init_45 : decode cX8_init 45 = .ok (.putfield 35, 3) := by decide +kernel
theorem dX8_init_48 : decode cX8_init 48 = .ok (.aload_n 0, 1) := by decide +kernel
theorem dX8_init_49 : decode cX8_init 49 = .ok (.new 39, 3) := by decide +kernel
theorem dX8_init_52 : decode cX8_init 52 = .ok (.dup, 1) := by decide +kernel
theorem dX8_init_53 : decode cX8_init 53 = .ok (.invokespecial 41, 3) := by decide +kernel
theorem dX8_init_56 : decode cX8_init 56 = .ok (.putfield 42, 3) := by decide +kernel
theorem dX8_init_59 : decode cX8_init 59 = .ok (.aload_n 0, 1) := by decide +kernel
theorem dX8_init_60 : decode cX8_init 60 = .ok (.bipush 6, 2) := by decide +kernel
theorem dX8_init_62 : decode cX8_init 62 = .ok (.anewarray 46, 3) := by decide +kernel
theorem dX8_init_65 : decode cX8_init 65 = .ok (.putfield 48, 3) := by decide +kernel
theorem dX8_init_68 : decode cX8_init 68 = .ok (.aload_n 0, 1) := by decide +kernel
theorem dX8_init_69 : decode cX8_init 69 = .ok (.new 9, 3) := by decide +kernel
theorem dX8_init_72 : decode cX8_init 72 = .ok (.dup, 1) := by decide +kernel
theorem dX8_init_73 : decode cX8_init 73 = .ok (.invokespecial 11, 3) := by decide +kernel
theorem dX8_init_76 : decode cX8_init 76 = .ok (.putfield 52, 3) := by decide +kernel
theorem dX8_init_79 : decode cX8_init 79 = .ok (.aload_n 0, 1) := by decide +kernel
theorem dX8_init_80 : decode cX8_init 80 = .ok (.new 18, 3) := by decide +kernel
theorem dX8_init_83 : decode cX8_init 83 = .ok (.dup, 1) := by decide +kernel
theorem dX8_init_84 : decode cX8_init 84 = .ok (.invokespecial 20, 3) := by decide +kernel
theorem dX8_init_87 : decode cX8_init 87 = .ok (.putfield 55, 3) := by decide +kernel
theorem dX8_init_90 : decode cX8_init 90 = .ok (.aload_n 0, 1) := by decide +kernel
theorem dX8_init_91 : decode cX8_init 91 = .ok (.iconst 0, 1) := by decide +kernel
theorem dX8_init_92 : decode cX8_init 92 = .ok (.putfield 58, 3) := by decide +kernel
theorem dX8_init_95 : decode cX8_init 95 = .ok (.aload_n 0, 1) := by decide +kernel
theorem dX8_init_96 : decode cX8_init 96 = .ok (.new 62, 3) := by decide +kernel
theorem dX8_init_99 : decode cX8_init 99 = .ok (.dup, 1) := by decide +kernel
theorem dX8_init_100 : decode cX8_init 100 = .ok (.invokespecial 64, 3) := by decide +kernel
theorem dX8_init_103 : decode cX8_init 103 = .ok (.putfield 65, 3) := by decide +kernel
theorem dX8_init_106 : decode cX8_init 106 = .ok (.aload_n 0, 1) := by decide +kernel
theorem dX8_init_107 : decode cX8_init 107 = .ok (.new 69, 3) := by decide +kernel
theorem dX8_init_110 : decode cX8_init 110 = .ok (.dup, 1) := by decide +kernel
theorem dX8_init_111 : decode cX8_init 111 = .ok (.invokespecial 71, 3) := by decide +kernel
theorem dX8_init_114 : decode cX8_init 114 = .ok (.putfield 72, 3) := by decide +kernel
theorem dX8_init_117 : decode cX8_init 117 = .ok (.aload_n 0, 1) := by decide +kernel
theorem dX8_init_118 : decode cX8_init 118 = .ok (.sipush 1000, 3) := by decide +kernel
theorem dX8_init_121 : decode cX8_init 121 = .ok (.newarray .int, 2) := by decide +kernel
theorem dX8_init_123 : decode cX8_init 123 = .ok (.putfield 76, 3) := by decide +kernel
theorem dX8_init_126 : decode cX8_init 126 = .ok (.iconst 0, 1) := by decide +kernel
theorem dX8_init_127 : decode cX8_init 127 = .ok (.istore_n 1, 1) := by decide +kernel
theorem dX8_init_128 : decode cX8_init 128 = .ok (.iload_n 1, 1) := by decide +kernel
theorem dX8_init_129 : decode cX8_init 129 = .ok (.aload_n 0, 1) := by decide +kernel
theorem dX8_init_130 : decode cX8_init 130 = .ok (.getfield 48, 3) := by decide +kernel
theorem dX8_init_133 : decode cX8_init 133 = .ok (.arraylength, 1) := by decide +kernel
theorem dX8_init_134 : decode cX8_init 134 = .ok (.if_icmp .ge 22, 3) := by decide +kernel
theorem dX8_init_137 : decode cX8_init 137 = .ok (.aload_n 0, 1) := by decide +kernel
theorem dX8_init_138 : decode cX8_init 138 = .ok (.getfield 48, 3) := by decide +kernel
theorem dX8_init_141 : decode cX8_init 141 = .ok (.iload_n 1, 1) := by decide +kernel
theorem dX8_init_142 : decode cX8_init 142 = .ok (.new 46, 3) := by decide +kernel
theorem dX8_init_145 : decode cX8_init 145 = .ok (.dup, 1) := by decide +kernel
theorem dX8_init_146 : decode cX8_init 146 = .ok (.invokespecial 80, 3) := by decide +kernel
theorem dX8_init_149 : decode cX8_init 149 = .ok (.aastore, 1) := by decide +kernel
theorem dX8_init_150 : decode cX8_init 150 = .ok (.iinc 1 1, 3) := by decide +kernel
theorem dX8_init_153 : decode cX8_init 153 = .ok (.goto (-25), 3) := by decide +kernel
theorem dX8_init_156 : decode cX8_init 156 = .ok (.return_, 1) := by decide +kernel
theorem dX8_fraction_0 : decode cX8_fraction 0 = .ok (.iload_n 1, 1) := by decide +kernel
theorem dX8_fraction_1 : decode cX8_fraction 1 = .ok (.iconst 0, 1) := by decide +kernel
theorem dX8_fraction_2 : decode cX8_fraction 2 = .ok (.sipush 9999, 3) := by decide +kernel
theorem dX8_fraction_5 : decode cX8_fraction 5 = .ok (.invokestatic 81, 3) := by decide +kernel
theorem dX8_fraction_8 : decode cX8_fraction 8 = .ok (.ifCond .eq 21, 3) := by decide +kernel
theorem dX8_fraction_11 : decode cX8_fraction 11 = .ok (.iload_n 2, 1) := by decide +kernel
theorem dX8_fraction_12 : decode cX8_fraction 12 = .ok (.iconst 1, 1) := by decide +kernel
theorem dX8_fraction_13 : decode cX8_fraction 13 = .ok (.sipush 999, 3) := by decide +kernel
theorem dX8_fraction_16 : decode cX8_fraction 16 = .ok (.invokestatic 81, 3) := by decide +kernel
theorem dX8_fraction_19 : decode cX8_fraction 19 = .ok (.ifCond .eq 10, 3) := by decide +kernel
theorem dX8_fraction_22 : decode cX8_fraction 22 = .ok (.iload_n 3, 1) := by decide +kernel
theorem dX8_fraction_23 : decode cX8_fraction 23 = .ok (.invokestatic 85, 3) := by decide +kernel
theorem dX8_fraction_26 : decode cX8_fraction 26 = .ok (.ifCond .ne 5, 3) := by decide +kernel
theorem dX8_fraction_29 : decode cX8_fraction 29 = .ok (.iconst (-1), 1) := by decide +kernel
theorem dX8_fraction_30 : decode cX8_fraction 30 = .ok (.ireturn, 1) := by decide +kernel
theorem dX8_fraction_31 : decode cX8_fraction 31 = .ok (.aload_n 0, 1) := by decide +kernel
theorem dX8_fraction_32 : decode cX8_fraction 32 = .ok (.getfield 12, 3) := by decide +kernel
theorem dX8_fraction_35 : decode cX8_fraction 35 = .ok (.iload_n 1, 1) := by decide +kernel
theorem dX8_fraction_36 : decode cX8_fraction 36 = .ok (.iload_n 2, 1) := by decide +kernel
theorem dX8_fraction_37 : decode cX8_fraction 37 = .ok (.iload_n 3, 1) := by decide +kernel
theorem dX8_fraction_38 : decode cX8_fraction 38 = .ok (.invokevirtual 89, 3) := by decide +kernel
theorem dX8_fraction_41 : decode cX8_fraction 41 = .ok (.ireturn, 1) := by decide +kernel
theorem dX8_drop_0 : decode cX8_drop 0 = .ok (.aload_n 0, 1) := by decide +kernel
theorem dX8_drop_1 : decode cX8_drop 1 = .ok (.getfield 12, 3) := by decide +kernel
theorem dX8_drop_4 : decode cX8_drop 4 = .ok (.iload_n 1, 1) := by decide +kernel
theorem dX8_drop_5 : decode cX8_drop 5 = .ok (.invokevirtual 93, 3) := by decide +kernel
theorem dX8_drop_8 : decode cX8_drop 8 = .ok (.ireturn, 1) := by decide +kernel
theorem dX8_multiply_0 : decode cX8_multiply 0 = .ok (.aload_n 0, 1) := by decide +kernel
theorem dX8_multiply_1 : decode cX8_multiply 1 = .ok (.getfield 12, 3) := by decide +kernel
theorem dX8_multiply_4 : decode cX8_multiply 4 = .ok (.iload_n 1, 1) := by decide +kernel
theorem dX8_multiply_5 : decode cX8_multiply 5 = .ok (.invokevirtual 97, 3) := by decide +kernel
theorem dX8_multiply_8 : decode cX8_multiply 8 = .ok (.astore_n 3, 1) := by decide +kernel
theorem dX8_multiply_9 : decode cX8_multiply 9 = .ok (.aload_n 3, 1) := by decide +kernel
theorem dX8_multiply_10 : decode cX8_multiply 10 = .ok (.ifnull 14, 3) := by decide +kernel
theorem dX8_multiply_13 : decode cX8_multiply 13 = .ok (.iload_n 2, 1) := by decide +kernel
theorem dX8_multiply_14 : decode cX8_multiply 14 = .ok (.iconst 0, 1) := by decide +kernel
theorem dX8_multiply_15 : decode cX8_multiply 15 = .ok (.sipush 999, 3) := by decide +kernel
theorem dX8_multiply_18 : decode cX8_multiply 18 = .ok (.invokestatic 81, 3) := by decide +kernel
theorem dX8_multiply_21 : decode cX8_multiply 21 = .ok (.ifCond .ne 5, 3) := by decide +kernel
theorem dX8_multiply_24 : decode cX8_multiply 24 = .ok (.iconst (-1), 1) := by decide +kernel
theorem dX8_multiply_25 : decode cX8_multiply 25 = .ok (.ireturn, 1) := by decide +kernel
theorem dX8_multiply_26 : decode cX8_multiply 26 = .ok (.aload_n 3, 1) := by decide +kernel
theorem dX8_multiply_27 : decode cX8_multiply 27 = .ok (.getfield 101, 3) := by decide +kernel
theorem dX8_multiply_30 : decode cX8_multiply 30 = .ok (.iload_n 2, 1) := by decide +kernel
theorem dX8_multiply_31 : decode cX8_multiply 31 = .ok (.imul, 1) := by decide +kernel
theorem dX8_multiply_32 : decode cX8_multiply 32 = .ok (.istore 4, 2) := by decide +kernel
theorem dX8_multiply_34 : decode cX8_multiply 34 = .ok (.iload 4, 2) := by decide +kernel
theorem dX8_multiply_36 : decode cX8_multiply 36 = .ok (.sipush 9999, 3) := by decide +kernel
theorem dX8_multiply_39 : decode cX8_multiply 39 = .ok (.if_icmp .le 6, 3) := by decide +kernel
theorem dX8_multiply_42 : decode cX8_multiply 42 = .ok (.bipush (-6), 2) := by decide +kernel
theorem dX8_multiply_44 : decode cX8_multiply 44 = .ok (.ireturn, 1) := by decide +kernel
theorem dX8_multiply_45 : decode cX8_multiply 45 = .ok (.aload_n 3, 1) := by decide +kernel
theorem dX8_multiply_46 : decode cX8_multiply 46 = .ok (.iload 4, 2) := by decide +kernel
theorem dX8_multiply_48 : decode cX8_multiply 48 = .ok (.aload_n 3, 1) := by decide +kernel
theorem dX8_multiply_49 : decode cX8_multiply 49 = .ok (.getfield 105, 3) := by decide +kernel
theorem dX8_multiply_52 : decode cX8_multiply 52 = .ok (.aload_n 3, 1) := by decide +kernel
theorem dX8_multiply_53 : decode cX8_multiply 53 = .ok (.getfield 108, 3) := by decide +kernel
theorem dX8_multiply_56 : decode cX8_multiply 56 = .ok (.invokevirtual 111, 3) := by decide +kernel
theorem dX8_multiply_59 : decode cX8_multiply 59 = .ok (.iload 4, 2) := by decide +kernel
theorem dX8_multiply_61 : decode cX8_multiply 61 = .ok (.ireturn, 1) := by decide +kernel
theorem dX8_sum_0 : decode cX8_sum 0 = .ok (.aload_n 0, 1) := by decide +kernel
theorem dX8_sum_1 : decode cX8_sum 1 = .ok (.getfield 12, 3) := by decide +kernel
theorem dX8_sum_4 : decode cX8_sum 4 = .ok (.iload_n 1, 1) := by decide +kernel
theorem dX8_sum_5 : decode cX8_sum 5 = .ok (.invokevirtual 97, 3) := by decide +kernel
theorem dX8_sum_8 : decode cX8_sum 8 = .ok (.astore_n 3, 1) := by decide +kernel
theorem dX8_sum_9 : decode cX8_sum 9 = .ok (.aload_n 0, 1) := by decide +kernel
theorem dX8_sum_10 : decode cX8_sum 10 = .ok (.getfield 12, 3) := by decide +kernel
theorem dX8_sum_13 : decode cX8_sum 13 = .ok (.iload_n 2, 1) := by decide +kernel
theorem dX8_sum_14 : decode cX8_sum 14 = .ok (.invokevirtual 97, 3) := by decide +kernel
theorem dX8_sum_17 : decode cX8_sum 17 = .ok (.astore 4, 2) := by decide +kernel
theorem dX8_sum_19 : decode cX8_sum 19 = .ok (.aload_n 3, 1) := by decide +kernel
theorem dX8_sum_20 : decode cX8_sum 20 = .ok (.ifnull 8, 3) := by decide +kernel
theorem dX8_sum_23 : decode cX8_sum 23 = .ok (.aload 4, 2) := by decide +kernel
theorem dX8_sum_25 : decode cX8_sum 25 = .ok (.ifnonnull 5, 3) := by decide +kernel
theorem dX8_sum_28 : decode cX8_sum 28 = .ok (.iconst (-1), 1) := by decide +kernel
theorem dX8_sum_29 : decode cX8_sum 29 = .ok (.ireturn, 1) := by decide +kernel
theorem dX8_sum_30 : decode cX8_sum 30 = .ok (.aload_n 3, 1) := by decide +kernel
theorem dX8_sum_31 : decode cX8_sum 31 = .ok (.getfield 108, 3) := by decide +kernel
theorem dX8_sum_34 : decode cX8_sum 34 = .ok (.aload 4, 2) := by decide +kernel
theorem dX8_sum_36 : decode cX8_sum 36 = .ok (.getfield 108, 3) := by decide +kernel
theorem dX8_sum_39 : decode cX8_sum 39 = .ok (.if_icmp .eq 6, 3) := by decide +kernel
theorem dX8_sum_42 : decode cX8_sum 42 = .ok (.bipush (-5), 2) := by decide +kernel
theorem dX8_sum_44 : decode cX8_sum 44 = .ok (.ireturn, 1) := by decide +kernel
theorem dX8_sum_45 : decode cX8_sum 45 = .ok (.aload_n 3, 1) := by decide +kernel
theorem dX8_sum_46 : decode cX8_sum 46 = .ok (.getfield 101, 3) := by decide +kernel
theorem dX8_sum_49 : decode cX8_sum 49 = .ok (.aload 4, 2) := by decide +kernel
theorem dX8_sum_51 : decode cX8_sum 51 = .ok (.getfield 105, 3) := by decide +kernel
theorem dX8_sum_54 : decode cX8_sum 54 = .ok (.imul, 1) := by decide +kernel
theorem dX8_sum_55 : decode cX8_sum 55 = .ok (.aload 4, 2) := by decide +kernel
theorem dX8_sum_57 : decode cX8_sum 57 = .ok (.getfield 101, 3) := by decide +kernel
theorem dX8_sum_60 : decode cX8_sum 60 = .ok (.aload_n 3, 1) := by decide +kernel
theorem dX8_sum_61 : decode cX8_sum 61 = .ok (.getfield 105, 3) := by decide +kernel
theorem dX8_sum_64 : decode cX8_sum 64 = .ok (.imul, 1) := by decide +kernel
theorem dX8_sum_65 : decode cX8_sum 65 = .ok (.iadd, 1) := by decide +kernel
theorem dX8_sum_66 : decode cX8_sum 66 = .ok (.istore 5, 2) := by decide +kernel
theorem dX8_sum_68 : decode cX8_sum 68 = .ok (.aload_n 0, 1) := by decide +kernel
theorem dX8_sum_69 : decode cX8_sum 69 = .ok (.iload 5, 2) := by decide +kernel
theorem dX8_sum_71 : decode cX8_sum 71 = .ok (.i2l, 1) := by decide +kernel
theorem dX8_sum_72 : decode cX8_sum 72 = .ok (.aload_n 3, 1) := by decide +kernel
theorem dX8_sum_73 : decode cX8_sum 73 = .ok (.getfield 105, 3) := by decide +kernel
theorem dX8_sum_76 : decode cX8_sum 76 = .ok (.aload 4, 2) := by decide +kernel
theorem dX8_sum_78 : decode cX8_sum 78 = .ok (.getfield 105, 3) := by decide +kernel
theorem dX8_sum_81 : decode cX8_sum 81 = .ok (.imul, 1) := by decide +kernel
theorem dX8_sum_82 : decode cX8_sum 82 = .ok (.i2l, 1) := by decide +kernel
theorem dX8_sum_83 : decode cX8_sum 83 = .ok (.aload_n 3, 1) := by decide +kernel
theorem dX8_sum_84 : decode cX8_sum 84 = .ok (.getfield 108, 3) := by decide +kernel
theorem dX8_sum_87 : decode cX8_sum 87 = .ok (.invokevirtual 115, 3) := by decide +kernel
theorem dX8_sum_90 : decode cX8_sum 90 = .ok (.ireturn, 1) := by decide +kernel
theorem dX8_lowest_0 : decode cX8_lowest 0 = .ok (.aload_n 0, 1) := by decide +kernel
theorem dX8_lowest_1 : decode cX8_lowest 1 = .ok (.getfield 12, 3) := by decide +kernel
theorem dX8_lowest_4 : decode cX8_lowest 4 = .ok (.iload_n 1, 1) := by decide +kernel
theorem dX8_lowest_5 : decode cX8_lowest 5 = .ok (.invokevirtual 97, 3) := by decide +kernel
theorem dX8_lowest_8 : decode cX8_lowest 8 = .ok (.astore_n 2, 1) := by decide +kernel
theorem dX8_lowest_9 : decode cX8_lowest 9 = .ok (.aload_n 2, 1) := by decide +kernel
theorem dX8_lowest_10 : decode cX8_lowest 10 = .ok (.ifnonnull 5, 3) := by decide +kernel
theorem dX8_lowest_13 : decode cX8_lowest 13 = .ok (.iconst (-1), 1) := by decide +kernel
theorem dX8_lowest_14 : decode cX8_lowest 14 = .ok (.ireturn, 1) := by decide +kernel
theorem dX8_lowest_15 : decode cX8_lowest 15 = .ok (.aload_n 2, 1) := by decide +kernel
theorem dX8_lowest_16 : decode cX8_lowest 16 = .ok (.getfield 101, 3) := by decide +kernel
theorem dX8_lowest_19 : decode cX8_lowest 19 = .ok (.i2l, 1) := by decide +kernel
theorem dX8_lowest_20 : decode cX8_lowest 20 = .ok (.aload_n 2, 1) := by decide +kernel
theorem dX8_lowest_21 : decode cX8_lowest 21 = .ok (.getfield 105, 3) := by decide +kernel
theorem dX8_lowest_24 : decode cX8_lowest 24 = .ok (.i2l, 1) := by decide +kernel
theorem dX8_lowest_25 : decode cX8_lowest 25 = .ok (.invokestatic 119, 3) := by decide +kernel
theorem dX8_lowest_28 : decode cX8_lowest 28 = .ok (.lstore_n 3, 1) := by decide +kernel
theorem dX8_lowest_29 : decode cX8_lowest 29 = .ok (.aload_n 2, 1) := by decide +kernel
theorem dX8_lowest_30 : decode cX8_lowest 30 = .ok (.aload_n 2, 1) := by decide +kernel
theorem dX8_lowest_31 : decode cX8_lowest 31 = .ok (.getfield 101, 3) := by decide +kernel
theorem dX8_lowest_34 : decode cX8_lowest 34 = .ok (.i2l, 1) := by decide +kernel
theorem dX8_lowest_35 : decode cX8_lowest 35 = .ok (.lload_n 3, 1) := by decide +kernel
theorem dX8_lowest_36 : decode cX8_lowest 36 = .ok (.invokestatic 123, 3) := by decide +kernel
theorem dX8_lowest_39 : decode cX8_lowest 39 = .ok (.l2i, 1) := by decide +kernel
theorem dX8_lowest_40 : decode cX8_lowest 40 = .ok (.aload_n 2, 1) := by decide +kernel
theorem dX8_lowest_41 : decode cX8_lowest 41 = .ok (.getfield 105, 3) := by decide +kernel
theorem dX8_lowest_44 : decode cX8_lowest 44 = .ok (.i2l, 1) := by decide +kernel
theorem dX8_lowest_45 : decode cX8_lowest 45 = .ok (.lload_n 3, 1) := by decide +kernel
theorem dX8_lowest_46 : decode cX8_lowest 46 = .ok (.invokestatic 123, 3) := by decide +kernel
theorem dX8_lowest_49 : decode cX8_lowest 49 = .ok (.l2i, 1) := by decide +kernel
theorem dX8_lowest_50 : decode cX8_lowest 50 = .ok (.aload_n 2, 1) := by decide +kernel
theorem dX8_lowest_51 : decode cX8_lowest 51 = .ok (.getfield 108, 3) := by decide +kernel
theorem dX8_lowest_54 : decode cX8_lowest 54 = .ok (.invokevirtual 111, 3) := by decide +kernel
theorem dX8_lowest_57 : decode cX8_lowest 57 = .ok (.aload_n 2, 1) := by decide +kernel
theorem dX8_lowest_58 : decode cX8_lowest 58 = .ok (.getfield 105, 3) := by decide +kernel
theorem dX8_lowest_61 : decode cX8_lowest 61 = .ok (.ireturn, 1) := by decide +kernel
theorem dX8_of_0 : decode cX8_of 0 = .ok (.aload_n 0, 1) := by decide +kernel
theorem dX8_of_1 : decode cX8_of 1 = .ok (.getfield 12, 3) := by decide +kernel
theorem dX8_of_4 : decode cX8_of 4 = .ok (.iload_n 1, 1) := by decide +kernel
theorem dX8_of_5 : decode cX8_of 5 = .ok (.invokevirtual 97, 3) := by decide +kernel
theorem dX8_of_8 : decode cX8_of 8 = .ok (.astore_n 3, 1) := by decide +kernel
theorem dX8_of_9 : decode cX8_of 9 = .ok (.aload_n 3, 1) := by decide +kernel
theorem dX8_of_10 : decode cX8_of 10 = .ok (.ifnonnull 5, 3) := by decide +kernel
theorem dX8_of_13 : decode cX8_of 13 = .ok (.iconst (-1), 1) := by decide +kernel
theorem dX8_of_14 : decode cX8_of 14 = .ok (.ireturn, 1) := by decide +kernel
theorem dX8_of_15 : decode cX8_of 15 = .ok (.iload_n 2, 1) := by decide +kernel
theorem dX8_of_16 : decode cX8_of 16 = .ok (.tableswitch 79 0 6 #[44, 49, 54, 59, 64, 69, 74], 44) := by decide +kernel
theorem dX8_of_60 : decode cX8_of 60 = .ok (.aload_n 3, 1) := by decide +kernel
theorem dX8_of_61 : decode cX8_of 61 = .ok (.getfield 101, 3) := by decide +kernel
theorem dX8_of_64 : decode cX8_of 64 = .ok (.ireturn, 1) := by decide +kernel
theorem dX8_of_65 : decode cX8_of 65 = .ok (.aload_n 3, 1) := by decide +kernel
theorem dX8_of_66 : decode cX8_of 66 = .ok (.getfield 105, 3) := by decide +kernel
theorem dX8_of_69 : decode cX8_of 69 = .ok (.ireturn, 1) := by decide +kernel
theorem dX8_of_70 : decode cX8_of 70 = .ok (.aload_n 3, 1) := by decide +kernel
theorem dX8_of_71 : decode cX8_of 71 = .ok (.getfield 108, 3) := by decide +kernel
theorem dX8_of_74 : decode cX8_of 74 = .ok (.ireturn, 1) := by decide +kernel
theorem dX8_of_75 : decode cX8_of 75 = .ok (.aload_n 3, 1) := by decide +kernel
theorem dX8_of_76 : decode cX8_of 76 = .ok (.invokevirtual 126, 3) := by decide +kernel
theorem dX8_of_79 : decode cX8_of 79 = .ok (.ireturn, 1) := by decide +kernel
theorem dX8_of_80 : decode cX8_of 80 = .ok (.aload_n 3, 1) := by decide +kernel
theorem dX8_of_81 : decode cX8_of 81 = .ok (.getfield 130, 3) := by decide +kernel
theorem dX8_of_84 : decode cX8_of 84 = .ok (.ireturn, 1) := by decide +kernel
theorem dX8_of_85 : decode cX8_of 85 = .ok (.aload_n 3, 1) := by decide +kernel
theorem dX8_of_86 : decode cX8_of 86 = .ok (.getfield 133, 3) := by decide +kernel
theorem dX8_of_89 : decode cX8_of 89 = .ok (.ireturn, 1) := by decide +kernel
theorem dX8_of_90 : decode cX8_of 90 = .ok (.aload_n 3, 1) := by decide +kernel
theorem dX8_of_91 : decode cX8_of 91 = .ok (.invokevirtual 136, 3) := by decide +kernel
theorem dX8_of_94 : decode cX8_of 94 = .ok (.ireturn, 1) := by decide +kernel
theorem dX8_of_95 : decode cX8_of 95 = .ok (.iconst (-1), 1) := by decide +kernel
theorem dX8_of_96 : decode cX8_of 96 = .ok (.ireturn, 1) := by decide +kernel
theorem dX8_digit_0 : decode cX8_digit 0 = .ok (.aload_n 0, 1) := by decide +kernel
theorem dX8_digit_1 : decode cX8_digit 1 = .ok (.getfield 12, 3) := by decide +kernel
theorem dX8_digit_4 : decode cX8_digit 4 = .ok (.iload_n 1, 1) := by decide +kernel
theorem dX8_digit_5 : decode cX8_digit 5 = .ok (.invokevirtual 97, 3) := by decide +kernel
theorem dX8_digit_8 : decode cX8_digit 8 = .ok (.astore_n 3, 1) := by decide +kernel
theorem dX8_digit_9 : decode cX8_digit 9 = .ok (.aload_n 3, 1) := by decide +kernel
theorem dX8_digit_10 : decode cX8_digit 10 = .ok (.ifnull 14, 3) := by decide +kernel
theorem dX8_digit_13 : decode cX8_digit 13 = .ok (.iload_n 2, 1) := by decide +kernel
theorem dX8_digit_14 : decode cX8_digit 14 = .ok (.iconst 0, 1) := by decide +kernel
theorem dX8_digit_15 : decode cX8_digit 15 = .ok (.sipush 9999, 3) := by decide +kernel
theorem dX8_digit_18 : decode cX8_digit 18 = .ok (.invokestatic 81, 3) := by decide +kernel
theorem dX8_digit_21 : decode cX8_digit 21 = .ok (.ifCond .ne 5, 3) := by decide +kernel
theorem dX8_digit_24 : decode cX8_digit 24 = .ok (.iconst (-1), 1) := by decide +kernel
theorem dX8_digit_25 : decode cX8_digit 25 = .ok (.ireturn, 1) := by decide +kernel
theorem dX8_digit_26 : decode cX8_digit 26 = .ok (.aload_n 3, 1) := by decide +kernel
theorem dX8_digit_27 : decode cX8_digit 27 = .ok (.aload_n 3, 1) := by decide +kernel
theorem dX8_digit_28 : decode cX8_digit 28 = .ok (.iload_n 2, 1) := by decide +kernel
theorem dX8_digit_29 : decode cX8_digit 29 = .ok (.invokevirtual 139, 3) := by decide +kernel
theorem dX8_digit_32 : decode cX8_digit 32 = .ok (.invokevirtual 142, 3) := by decide +kernel
theorem dX8_digit_35 : decode cX8_digit 35 = .ok (.ireturn, 1) := by decide +kernel
theorem dX8_rest_0 : decode cX8_rest 0 = .ok (.aload_n 0, 1) := by decide +kernel
